/-! THE LAW: its cases 28 to 34 -/
theorem dL_law__2081 : decode code 2081 = .ok (.aload_n 1, 1) := by decide +kernel
theorem dL_law__2082 : decode code 2082 = .ok (.aload_n 0, 1) := by decide +kernel
theorem dL_law__2083 : decode code 2083 = .ok (.iload 4, 2) := by decide +kernel
theorem dL_law__2085 : decode code 2085 = .ok (.iconst 1, 1) := by decide +kernel
theorem dL_law__2086 : decode code 2086 = .ok (.iadd, 1) := by decide +kernel
theorem dL_law__2087 : decode code 2087 = .ok (.iaload, 1) := by decide +kernel
theorem dL_law__2088 : decode code 2088 = .ok (.aload_n 0, 1) := by decide +kernel
theorem dL_law__2089 : decode code 2089 = .ok (.iload 4, 2) := by decide +kernel
theorem dL_law__2091 : decode code 2091 = .ok (.iconst 2, 1) := by decide +kernel
theorem dL_law__2092 : decode code 2092 = .ok (.iadd, 1) := by decide +kernel
theorem dL_law__2093 : decode code 2093 = .ok (.iaload, 1) := by decide +kernel
theorem dL_law__2094 : decode code 2094 = .ok (.aload_n 3, 1) := by decide +kernel
set_option maxRecDepth 100000 in
theorem lwd_1303 : Cond.methodLink "SunnyPansLaw" 221 yL_dryland ∈ tbG := tw6 3 rfl rfl
set_option maxRecDepth 100000 in
theorem lwd_1304 : Cond.static yL_dryland ∈ tbG := tw6 4 rfl rfl
set_option maxRecDepth 100000 in
theorem lwd_1305 : Cond.codeWith yL_dryland cL_dryland 5 (some .int) [(0, 10, 13, 31)] ∈ tbG := tw6 5 rfl rfl
theorem dL_law__2095 : decode code 2095 = .ok (.invokestatic 221, 3) := by decide +kernel
theorem dL_law__2098 : decode code 2098 = .ok (.istore 5, 2) := by decide +kernel
theorem dL_law__2100 : decode code 2100 = .ok (.aload_n 2, 1) := by decide +kernel
theorem dL_law__2101 : decode code 2101 = .ok (.aload_n 0, 1) := by decide +kernel
theorem dL_law__2102 : decode code 2102 = .ok (.iload 4, 2) := by decide +kernel
theorem dL_law__2104 : decode code 2104 = .ok (.iconst 1, 1) := by decide +kernel
theorem dL_law__2105 : decode code 2105 = .ok (.iadd, 1) := by decide +kernel
theorem dL_law__2106 : decode code 2106 = .ok (.iaload, 1) := by decide +kernel
theorem dL_law__2107 : decode code 2107 = .ok (.aload_n 0, 1) := by decide +kernel
theorem dL_law__2108 : decode code 2108 = .ok (.iload 4, 2) := by decide +kernel
theorem dL_law__2110 : decode code 2110 = .ok (.iconst 2, 1) := by decide +kernel
theorem dL_law__2111 : decode code 2111 = .ok (.iadd, 1) := by decide +kernel
theorem dL_law__2112 : decode code 2112 = .ok (.iaload, 1) := by decide +kernel
set_option maxRecDepth 100000 in
theorem lwd_1844 : Cond.methodLink "SunnyPansLaw" 223 yX10_dryland ∈ tbG := tw8 64 rfl rfl
set_option maxRecDepth 100000 in
theorem lwd_1845 : Cond.instanceMethod yX10_dryland ∈ tbG := tw8 65 rfl rfl
set_option maxRecDepth 100000 in
theorem lwd_1846 : Cond.selects "SunnyPansModel" yX10_dryland yX10_dryland ∈ tbG := tw8 66 rfl rfl
set_option maxRecDepth 100000 in
theorem lwd_1847 : Cond.code yX10_dryland cX10_dryland 5 (some .int) ∈ tbG := tw8 67 rfl rfl
theorem lcvX10_dryland : zCV "SunnyPansLaw" 223 "SunnyPansModel" yX10_dryland cX10_dryland 5 (some .int) 2 := zCV_of lwd_1844 lwd_1845 lwd_1846 lwd_111 lwd_1847 (by decide +kernel)
theorem dL_law__2113 : decode code 2113 = .ok (.invokevirtual 223, 3) := by decide +kernel
theorem dL_law__2116 : decode code 2116 = .ok (.istore 6, 2) := by decide +kernel
theorem dL_law__2118 : decode code 2118 = .ok (.aload_n 2, 1) := by decide +kernel
theorem dL_law__2119 : decode code 2119 = .ok (.invokevirtual 133, 3) := by decide +kernel
theorem dL_law__2122 : decode code 2122 = .ok (.iload 5, 2) := by decide +kernel
theorem dL_law__2124 : decode code 2124 = .ok (.if_icmp .eq 5, 3) := by decide +kernel
theorem dL_law__2129 : decode code 2129 = .ok (.iload 5, 2) := by decide +kernel
theorem dL_law__2131 : decode code 2131 = .ok (.ifCond .ne 15, 3) := by decide +kernel
theorem dL_law__2146 : decode code 2146 = .ok (.goto 619, 3) := by decide +kernel
theorem dL_law__2134 : decode code 2134 = .ok (.aload_n 3, 1) := by decide +kernel
theorem dL_law__2135 : decode code 2135 = .ok (.iconst 0, 1) := by decide +kernel
theorem dL_law__2136 : decode code 2136 = .ok (.laload, 1) := by decide +kernel
theorem dL_law__2137 : decode code 2137 = .ok (.iload 6, 2) := by decide +kernel
theorem dL_law__2139 : decode code 2139 = .ok (.i2l, 1) := by decide +kernel
theorem dL_law__2140 : decode code 2140 = .ok (.lcmp, 1) := by decide +kernel
theorem dL_law__2141 : decode code 2141 = .ok (.ifCond .eq 5, 3) := by decide +kernel
set_option maxHeartbeats 4000000 in
theorem lc_dryland {p : Program} {l : Launch} {e : Env} {s : State} {m : MethodId} {below : List Frame} {meth : Method} {c : Code} {G : zG} {b L i cells slots : Nat} {xs : Nat → Int32} {Q : State → Prop} (C : LW9 p l s m meth c G b L xs) (hi : i + 9 ≤ L) (hcell : cells + 4 ≤ room_1.cells ∧ slots + 24 ≤ room_1.slots) (kk : LK9 p l e s m below meth c G b i Q cells slots) : LC9 p l e s m below meth c G b i Q cells slots 2081 := by
  intro Mx Mm v S hXo hMn ok
  obtain ⟨cx, hX, hbl, hL, hl, hN⟩ := C
  have hbA : ¬ (fun q => s.heap.size ≤ q) b := Nat.not_le.mpr hbl
  have hA : ∀ q, s.heap.size ≤ q → (fun q => s.heap.size ≤ q) q := fun _ h => h
  obtain ⟨k, vx, Mx', w, Mm', t, S', hF, hG, hth, hT, hv, hX', hM', ok'⟩ := q_dryland (xs (i + 1)) (xs (i + 2)) hXo hMn ok
  obtain ⟨v', hk, hv0⟩ := hkT2 (v := v) hT hv
  have hthr : F_X10_thrown Mm' = some (nI t, Mm') := by unfold F_X10_thrown; rw [hth]
  refine l_aload_n cx dL_law__2081 1 rfl ?_
  refine l_arg cx hX hbl hbA (j := 1) (by omega) hL 0 4 rfl rfl li_1 dL_law__2082 dL_law__2083 dL_law__2085 dL_law__2086 dL_law__2087 ?_
  refine l_arg cx hX hbl hbA (j := 2) (by omega) hL 0 4 rfl rfl li_2 dL_law__2088 dL_law__2089 dL_law__2091 dL_law__2092 dL_law__2093 ?_
  refine l_aload_n cx dL_law__2094 3 rfl ?_
  refine l_callWL (na := 4) (As := [.ref (adX s.heap.size 0), .int (xs (i + 1)), .int (xs (i + 2)), .ref (aoL s.heap.size)]) (rest := []) cx hA (cw_dryland l (adX_in _) Mx v (xs (i + 1)) (xs (i + 2)) hl hF hk) lwd_1303 lwd_1304 lwd_100 lwd_1305 (by decide +kernel) ⟨rfl, rfl, Nat.le_of_ble_eq_true rfl, Nat.le_of_ble_eq_true rfl⟩ rfl rfl ⟨by decide, by decide⟩ hcell (Nat.le_of_ble_eq_true rfl) dL_law__2095 hN ?_
  refine l_istore cx 5 ((5, .int (nI t)) :: lvL b s.heap.size i) dL_law__2098 (by decide) rfl ?_
  refine l_aload_n cx dL_law__2100 3 rfl ?_
  refine l_arg cx hX hbl hbA (j := 1) (by omega) hL 1 5 rfl rfl li_1 dL_law__2101 dL_law__2102 dL_law__2104 dL_law__2105 dL_law__2106 ?_
  refine l_arg cx hX hbl hbA (j := 2) (by omega) hL 1 5 rfl rfl li_2 dL_law__2107 dL_law__2108 dL_law__2110 dL_law__2111 dL_law__2112 ?_
  refine l_callML (As := [.int (xs (i + 1)), .int (xs (i + 2))]) (rest := []) cx hA (c_X10_dryland l (adM_in _) Mm (xs (i + 1)) (xs (i + 2)) lTM hG) lcvX10_dryland ⟨rfl, rfl, Nat.le_of_ble_eq_true rfl, Nat.le_of_ble_eq_true rfl⟩ rfl rfl hcell (Nat.le_of_ble_eq_true rfl) dL_law__2113 ?_
  refine l_istore cx 6 ((6, .int w) :: (5, .int (nI t)) :: lvL b s.heap.size i) dL_law__2116 (by decide) rfl ?_
  refine l_aload_n cx dL_law__2118 4 rfl ?_
  refine l_callML (As := []) (rest := []) cx hA (c_X10_thrown l (adM_in _) Mm' lTM hthr) lcvX10_thrown ⟨rfl, rfl, Nat.le_of_ble_eq_true rfl, Nat.le_of_ble_eq_true rfl⟩ rfl rfl hcell (Nat.le_of_ble_eq_true rfl) dL_law__2119 ?_
  refine l_iload cx dL_law__2122 1 rfl ?_
  refine l_icmp_eq cx 2129 dL_law__2124 (by decide) (fun _ => ?_) (fun h => absurd rfl h)
  refine l_iload cx dL_law__2129 1 rfl ?_
  refine l_if_ne cx 2146 dL_law__2131 (by decide) (fun _ => ?_) (fun h0 => ?_)
  · refine l_goto cx 2765 dL_law__2146 (by decide) ?_
    refine l_sub [2, 3, 4, 5, 6] rfl ?_
    exact kk _ _ _ _ hX' hM' ok'
  · refine l_aload_n cx dL_law__2134 5 rfl ?_
    refine l_iconst cx dL_law__2135 ki_0 ?_
    refine l_laldL cx dL_law__2136 ?_
    refine l_iload cx dL_law__2137 0 rfl ?_
    refine l_i2l cx dL_law__2139 ?_
    refine l_lcmp cx dL_law__2140 ?_
    rw [hv0 h0, lgc_self]
    refine l_if_eq cx 2146 dL_law__2141 (by decide) (fun _ => ?_) (fun h => absurd rfl h)
    refine l_goto cx 2765 dL_law__2146 (by decide) ?_
    refine l_sub [2, 3, 4, 5, 6] rfl ?_
    refine l_conv (P' := LPw G s.heap.size Mx' Mm' v') (fun _ h => by rw [hv0 h0]; exact h) ?_
    exact kk _ _ _ _ hX' hM' ok'
theorem dL_law__2149 : decode code 2149 = .ok (.aload_n 1, 1) := by decide +kernel
theorem dL_law__2150 : decode code 2150 = .ok (.aload_n 0, 1) := by decide +kernel
theorem dL_law__2151 : decode code 2151 = .ok (.iload 4, 2) := by decide +kernel
theorem dL_law__2153 : decode code 2153 = .ok (.iconst 1, 1) := by decide +kernel
theorem dL_law__2154 : decode code 2154 = .ok (.iadd, 1) := by decide +kernel
theorem dL_law__2155 : decode code 2155 = .ok (.iaload, 1) := by decide +kernel
theorem dL_law__2156 : decode code 2156 = .ok (.aload_n 3, 1) := by decide +kernel
set_option maxRecDepth 100000 in
theorem lwd_1310 : Cond.methodLink "SunnyPansLaw" 224 yL_mounds ∈ tbG := tw6 10 rfl rfl
set_option maxRecDepth 100000 in
theorem lwd_1311 : Cond.static yL_mounds ∈ tbG := tw6 11 rfl rfl
set_option maxRecDepth 100000 in
theorem lwd_1312 : Cond.codeWith yL_mounds cL_mounds 4 (some .int) [(0, 9, 12, 31)] ∈ tbG := tw6 12 rfl rfl
theorem dL_law__2157 : decode code 2157 = .ok (.invokestatic 224, 3) := by decide +kernel
theorem dL_law__2160 : decode code 2160 = .ok (.istore 5, 2) := by decide +kernel
theorem dL_law__2162 : decode code 2162 = .ok (.aload_n 2, 1) := by decide +kernel
theorem dL_law__2163 : decode code 2163 = .ok (.aload_n 0, 1) := by decide +kernel
theorem dL_law__2164 : decode code 2164 = .ok (.iload 4, 2) := by decide +kernel
theorem dL_law__2166 : decode code 2166 = .ok (.iconst 1, 1) := by decide +kernel
theorem dL_law__2167 : decode code 2167 = .ok (.iadd, 1) := by decide +kernel
theorem dL_law__2168 : decode code 2168 = .ok (.iaload, 1) := by decide +kernel
set_option maxRecDepth 100000 in
theorem lwd_1900 : Cond.methodLink "SunnyPansLaw" 226 yX10_mounds ∈ tbG := tw8 120 rfl rfl
set_option maxRecDepth 100000 in
theorem lwd_1901 : Cond.instanceMethod yX10_mounds ∈ tbG := tw8 121 rfl rfl
set_option maxRecDepth 100000 in
theorem lwd_1902 : Cond.selects "SunnyPansModel" yX10_mounds yX10_mounds ∈ tbG := tw8 122 rfl rfl
set_option maxRecDepth 100000 in
theorem lwd_1903 : Cond.code yX10_mounds cX10_mounds 4 (some .int) ∈ tbG := tw8 123 rfl rfl
theorem lcvX10_mounds : zCV "SunnyPansLaw" 226 "SunnyPansModel" yX10_mounds cX10_mounds 4 (some .int) 1 := zCV_of lwd_1900 lwd_1901 lwd_1902 lwd_111 lwd_1903 (by decide +kernel)
theorem dL_law__2169 : decode code 2169 = .ok (.invokevirtual 226, 3) := by decide +kernel
theorem dL_law__2172 : decode code 2172 = .ok (.istore 6, 2) := by decide +kernel
theorem dL_law__2174 : decode code 2174 = .ok (.aload_n 2, 1) := by decide +kernel
theorem dL_law__2175 : decode code 2175 = .ok (.invokevirtual 133, 3) := by decide +kernel
theorem dL_law__2178 : decode code 2178 = .ok (.iload 5, 2) := by decide +kernel
theorem dL_law__2180 : decode code 2180 = .ok (.if_icmp .eq 5, 3) := by decide +kernel
theorem dL_law__2185 : decode code 2185 = .ok (.iload 5, 2) := by decide +kernel
theorem dL_law__2187 : decode code 2187 = .ok (.ifCond .ne 15, 3) := by decide +kernel
theorem dL_law__2202 : decode code 2202 = .ok (.goto 563, 3) := by decide +kernel
theorem dL_law__2190 : decode code 2190 = .ok (.aload_n 3, 1) := by decide +kernel
theorem dL_law__2191 : decode code 2191 = .ok (.iconst 0, 1) := by decide +kernel
theorem dL_law__2192 : decode code 2192 = .ok (.laload, 1) := by decide +kernel
theorem dL_law__2193 : decode code 2193 = .ok (.iload 6, 2) := by decide +kernel
theorem dL_law__2195 : decode code 2195 = .ok (.i2l, 1) := by decide +kernel
theorem dL_law__2196 : decode code 2196 = .ok (.lcmp, 1) := by decide +kernel
theorem dL_law__2197 : decode code 2197 = .ok (.ifCond .eq 5, 3) := by decide +kernel
set_option maxHeartbeats 4000000 in
theorem lc_mounds {p : Program} {l : Launch} {e : Env} {s : State} {m : MethodId} {below : List Frame} {meth : Method} {c : Code} {G : zG} {b L i cells slots : Nat} {xs : Nat → Int32} {Q : State → Prop} (C : LW9 p l s m meth c G b L xs) (hi : i + 9 ≤ L) (hcell : cells + 4 ≤ room_1.cells ∧ slots + 24 ≤ room_1.slots) (kk : LK9 p l e s m below meth c G b i Q cells slots) : LC9 p l e s m below meth c G b i Q cells slots 2149 := by
  intro Mx Mm v S hXo hMn ok
  obtain ⟨cx, hX, hbl, hL, hl, hN⟩ := C
  have hbA : ¬ (fun q => s.heap.size ≤ q) b := Nat.not_le.mpr hbl
  have hA : ∀ q, s.heap.size ≤ q → (fun q => s.heap.size ≤ q) q := fun _ h => h
  obtain ⟨k, vx, Mx', w, Mm', t, S', hF, hG, hth, hT, hv, hX', hM', ok'⟩ := q_mounds (xs (i + 1)) hXo hMn ok
  obtain ⟨v', hk, hv0⟩ := hkT2 (v := v) hT hv
  have hthr : F_X10_thrown Mm' = some (nI t, Mm') := by unfold F_X10_thrown; rw [hth]
  refine l_aload_n cx dL_law__2149 1 rfl ?_
  refine l_arg cx hX hbl hbA (j := 1) (by omega) hL 0 4 rfl rfl li_1 dL_law__2150 dL_law__2151 dL_law__2153 dL_law__2154 dL_law__2155 ?_
  refine l_aload_n cx dL_law__2156 3 rfl ?_
  refine l_callWL (na := 3) (As := [.ref (adX s.heap.size 0), .int (xs (i + 1)), .ref (aoL s.heap.size)]) (rest := []) cx hA (cw_mounds l (adX_in _) Mx v (xs (i + 1)) hl hF hk) lwd_1310 lwd_1311 lwd_100 lwd_1312 (by decide +kernel) ⟨rfl, rfl, Nat.le_of_ble_eq_true rfl, Nat.le_of_ble_eq_true rfl⟩ rfl rfl ⟨by decide, by decide⟩ hcell (Nat.le_of_ble_eq_true rfl) dL_law__2157 hN ?_
  refine l_istore cx 5 ((5, .int (nI t)) :: lvL b s.heap.size i) dL_law__2160 (by decide) rfl ?_
  refine l_aload_n cx dL_law__2162 3 rfl ?_
  refine l_arg cx hX hbl hbA (j := 1) (by omega) hL 1 5 rfl rfl li_1 dL_law__2163 dL_law__2164 dL_law__2166 dL_law__2167 dL_law__2168 ?_
  refine l_callML (As := [.int (xs (i + 1))]) (rest := []) cx hA (c_X10_mounds l (adM_in _) Mm (xs (i + 1)) lTM hG) lcvX10_mounds ⟨rfl, rfl, Nat.le_of_ble_eq_true rfl, Nat.le_of_ble_eq_true rfl⟩ rfl rfl hcell (Nat.le_of_ble_eq_true rfl) dL_law__2169 ?_
  refine l_istore cx 6 ((6, .int w) :: (5, .int (nI t)) :: lvL b s.heap.size i) dL_law__2172 (by decide) rfl ?_
  refine l_aload_n cx dL_law__2174 4 rfl ?_
  refine l_callML (As := []) (rest := []) cx hA (c_X10_thrown l (adM_in _) Mm' lTM hthr) lcvX10_thrown ⟨rfl, rfl, Nat.le_of_ble_eq_true rfl, Nat.le_of_ble_eq_true rfl⟩ rfl rfl hcell (Nat.le_of_ble_eq_true rfl) dL_law__2175 ?_
  refine l_iload cx dL_law__2178 1 rfl ?_
  refine l_icmp_eq cx 2185 dL_law__2180 (by decide) (fun _ => ?_) (fun h => absurd rfl h)
  refine l_iload cx dL_law__2185 1 rfl ?_
  refine l_if_ne cx 2202 dL_law__2187 (by decide) (fun _ => ?_) (fun h0 => ?_)
  · refine l_goto cx 2765 dL_law__2202 (by decide) ?_
    refine l_sub [2, 3, 4, 5, 6] rfl ?_
    exact kk _ _ _ _ hX' hM' ok'
  · refine l_aload_n cx dL_law__2190 5 rfl ?_
    refine l_iconst cx dL_law__2191 ki_0 ?_
    refine l_laldL cx dL_law__2192 ?_
    refine l_iload cx dL_law__2193 0 rfl ?_
    refine l_i2l cx dL_law__2195 ?_
    refine l_lcmp cx dL_law__2196 ?_
    rw [hv0 h0, lgc_self]
    refine l_if_eq cx 2202 dL_law__2197 (by decide) (fun _ => ?_) (fun h => absurd rfl h)
    refine l_goto cx 2765 dL_law__2202 (by decide) ?_
    refine l_sub [2, 3, 4, 5, 6] rfl ?_
    refine l_conv (P' := LPw G s.heap.size Mx' Mm' v') (fun _ h => by rw [hv0 h0]; exact h) ?_
    exact kk _ _ _ _ hX' hM' ok'
theorem dL_law__2205 : decode code 2205 = .ok (.aload_n 1, 1) := by decide +kernel
theorem dL_law__2206 : decode code 2206 = .ok (.aload_n 0, 1) := by decide +kernel
theorem dL_law__2207 : decode code 2207 = .ok (.iload 4, 2) := by decide +kernel
theorem dL_law__2209 : decode code 2209 = .ok (.iconst 1, 1) := by decide +kernel
theorem dL_law__2210 : decode code 2210 = .ok (.iadd, 1) := by decide +kernel
theorem dL_law__2211 : decode code 2211 = .ok (.iaload, 1) := by decide +kernel
theorem dL_law__2212 : decode code 2212 = .ok (.aload_n 3, 1) := by decide +kernel
set_option maxRecDepth 100000 in
theorem lwd_1317 : Cond.methodLink "SunnyPansLaw" 227 yL_loss ∈ tbG := tw6 17 rfl rfl
set_option maxRecDepth 100000 in
theorem lwd_1318 : Cond.static yL_loss ∈ tbG := tw6 18 rfl rfl
set_option maxRecDepth 100000 in
theorem lwd_1319 : Cond.codeWith yL_loss cL_loss 4 (some .int) [(0, 9, 12, 31)] ∈ tbG := tw6 19 rfl rfl
theorem dL_law__2213 : decode code 2213 = .ok (.invokestatic 227, 3) := by decide +kernel
theorem dL_law__2216 : decode code 2216 = .ok (.istore 5, 2) := by decide +kernel
theorem dL_law__2218 : decode code 2218 = .ok (.aload_n 2, 1) := by decide +kernel
theorem dL_law__2219 : decode code 2219 = .ok (.aload_n 0, 1) := by decide +kernel
theorem dL_law__2220 : decode code 2220 = .ok (.iload 4, 2) := by decide +kernel
theorem dL_law__2222 : decode code 2222 = .ok (.iconst 1, 1) := by decide +kernel
theorem dL_law__2223 : decode code 2223 = .ok (.iadd, 1) := by decide +kernel
theorem dL_law__2224 : decode code 2224 = .ok (.iaload, 1) := by decide +kernel
set_option maxRecDepth 100000 in
theorem lwd_1904 : Cond.methodLink "SunnyPansLaw" 229 yX10_loss ∈ tbG := tw8 124 rfl rfl
set_option maxRecDepth 100000 in
theorem lwd_1905 : Cond.instanceMethod yX10_loss ∈ tbG := tw8 125 rfl rfl
set_option maxRecDepth 100000 in
theorem lwd_1906 : Cond.selects "SunnyPansModel" yX10_loss yX10_loss ∈ tbG := tw8 126 rfl rfl
set_option maxRecDepth 100000 in
theorem lwd_1907 : Cond.code yX10_loss cX10_loss 2 (some .int) ∈ tbG := tw8 127 rfl rfl
theorem lcvX10_loss : zCV "SunnyPansLaw" 229 "SunnyPansModel" yX10_loss cX10_loss 2 (some .int) 1 := zCV_of lwd_1904 lwd_1905 lwd_1906 lwd_111 lwd_1907 (by decide +kernel)
theorem dL_law__2225 : decode code 2225 = .ok (.invokevirtual 229, 3) := by decide +kernel
theorem dL_law__2228 : decode code 2228 = .ok (.istore 6, 2) := by decide +kernel
theorem dL_law__2230 : decode code 2230 = .ok (.aload_n 2, 1) := by decide +kernel
theorem dL_law__2231 : decode code 2231 = .ok (.invokevirtual 133, 3) := by decide +kernel
theorem dL_law__2234 : decode code 2234 = .ok (.iload 5, 2) := by decide +kernel
theorem dL_law__2236 : decode code 2236 = .ok (.if_icmp .eq 5, 3) := by decide +kernel
theorem dL_law__2241 : decode code 2241 = .ok (.iload 5, 2) := by decide +kernel
theorem dL_law__2243 : decode code 2243 = .ok (.ifCond .ne 15, 3) := by decide +kernel
theorem dL_law__2258 : decode code 2258 = .ok (.goto 507, 3) := by decide +kernel
theorem dL_law__2246 : decode code 2246 = .ok (.aload_n 3, 1) := by decide +kernel
theorem dL_law__2247 : decode code 2247 = .ok (.iconst 0, 1) := by decide +kernel
theorem dL_law__2248 : decode code 2248 = .ok (.laload, 1) := by decide +kernel
theorem dL_law__2249 : decode code 2249 = .ok (.iload 6, 2) := by decide +kernel
theorem dL_law__2251 : decode code 2251 = .ok (.i2l, 1) := by decide +kernel
theorem dL_law__2252 : decode code 2252 = .ok (.lcmp, 1) := by decide +kernel
theorem dL_law__2253 : decode code 2253 = .ok (.ifCond .eq 5, 3) := by decide +kernel
set_option maxHeartbeats 4000000 in
theorem lc_loss {p : Program} {l : Launch} {e : Env} {s : State} {m : MethodId} {below : List Frame} {meth : Method} {c : Code} {G : zG} {b L i cells slots : Nat} {xs : Nat → Int32} {Q : State → Prop} (C : LW9 p l s m meth c G b L xs) (hi : i + 9 ≤ L) (hcell : cells + 4 ≤ room_1.cells ∧ slots + 24 ≤ room_1.slots) (kk : LK9 p l e s m below meth c G b i Q cells slots) : LC9 p l e s m below meth c G b i Q cells slots 2205 := by
  intro Mx Mm v S hXo hMn ok
  obtain ⟨cx, hX, hbl, hL, hl, hN⟩ := C
  have hbA : ¬ (fun q => s.heap.size ≤ q) b := Nat.not_le.mpr hbl
  have hA : ∀ q, s.heap.size ≤ q → (fun q => s.heap.size ≤ q) q := fun _ h => h
  obtain ⟨k, vx, Mx', w, Mm', t, S', hF, hG, hth, hT, hv, hX', hM', ok'⟩ := q_loss (xs (i + 1)) hXo hMn ok
  obtain ⟨v', hk, hv0⟩ := hkT2 (v := v) hT hv
  have hthr : F_X10_thrown Mm' = some (nI t, Mm') := by unfold F_X10_thrown; rw [hth]
  refine l_aload_n cx dL_law__2205 1 rfl ?_
  refine l_arg cx hX hbl hbA (j := 1) (by omega) hL 0 4 rfl rfl li_1 dL_law__2206 dL_law__2207 dL_law__2209 dL_law__2210 dL_law__2211 ?_
  refine l_aload_n cx dL_law__2212 3 rfl ?_
  refine l_callWL (na := 3) (As := [.ref (adX s.heap.size 0), .int (xs (i + 1)), .ref (aoL s.heap.size)]) (rest := []) cx hA (cw_loss l (adX_in _) Mx v (xs (i + 1)) hl hF hk) lwd_1317 lwd_1318 lwd_100 lwd_1319 (by decide +kernel) ⟨rfl, rfl, Nat.le_of_ble_eq_true rfl, Nat.le_of_ble_eq_true rfl⟩ rfl rfl ⟨by decide, by decide⟩ hcell (Nat.le_of_ble_eq_true rfl) dL_law__2213 hN ?_
  refine l_istore cx 5 ((5, .int (nI t)) :: lvL b s.heap.size i) dL_law__2216 (by decide) rfl ?_
  refine l_aload_n cx dL_law__2218 3 rfl ?_
  refine l_arg cx hX hbl hbA (j := 1) (by omega) hL 1 5 rfl rfl li_1 dL_law__2219 dL_law__2220 dL_law__2222 dL_law__2223 dL_law__2224 ?_
  refine l_callML (As := [.int (xs (i + 1))]) (rest := []) cx hA (c_X10_loss l (adM_in _) Mm (xs (i + 1)) lTM hG) lcvX10_loss ⟨rfl, rfl, Nat.le_of_ble_eq_true rfl, Nat.le_of_ble_eq_true rfl⟩ rfl rfl hcell (Nat.le_of_ble_eq_true rfl) dL_law__2225 ?_
  refine l_istore cx 6 ((6, .int w) :: (5, .int (nI t)) :: lvL b s.heap.size i) dL_law__2228 (by decide) rfl ?_
  refine l_aload_n cx dL_law__2230 4 rfl ?_
  refine l_callML (As := []) (rest := []) cx hA (c_X10_thrown l (adM_in _) Mm' lTM hthr) lcvX10_thrown ⟨rfl, rfl, Nat.le_of_ble_eq_true rfl, Nat.le_of_ble_eq_true rfl⟩ rfl rfl hcell (Nat.le_of_ble_eq_true rfl) dL_law__2231 ?_
  refine l_iload cx dL_law__2234 1 rfl ?_
  refine l_icmp_eq cx 2241 dL_law__2236 (by decide) (fun _ => ?_) (fun h => absurd rfl h)
  refine l_iload cx dL_law__2241 1 rfl ?_
  refine l_if_ne cx 2258 dL_law__2243 (by decide) (fun _ => ?_) (fun h0 => ?_)
  · refine l_goto cx 2765 dL_law__2258 (by decide) ?_
    refine l_sub [2, 3, 4, 5, 6] rfl ?_
    exact kk _ _ _ _ hX' hM' ok'
  · refine l_aload_n cx dL_law__2246 5 rfl ?_
    refine l_iconst cx dL_law__2247 ki_0 ?_
    refine l_laldL cx dL_law__2248 ?_
    refine l_iload cx dL_law__2249 0 rfl ?_
    refine l_i2l cx dL_law__2251 ?_
    refine l_lcmp cx dL_law__2252 ?_
    rw [hv0 h0, lgc_self]
    refine l_if_eq cx 2258 dL_law__2253 (by decide) (fun _ => ?_) (fun h => absurd rfl h)
    refine l_goto cx 2765 dL_law__2258 (by decide) ?_
    refine l_sub [2, 3, 4, 5, 6] rfl ?_
    refine l_conv (P' := LPw G s.heap.size Mx' Mm' v') (fun _ h => by rw [hv0 h0]; exact h) ?_
    exact kk _ _ _ _ hX' hM' ok'
theorem dL_law__2261 : decode code 2261 = .ok (.aload_n 1, 1) := by decide +kernel
theorem dL_law__2262 : decode code 2262 = .ok (.aload_n 0, 1) := by decide +kernel
theorem dL_law__2263 : decode code 2263 = .ok (.iload 4, 2) := by decide +kernel
theorem dL_law__2265 : decode code 2265 = .ok (.iconst 1, 1) := by decide +kernel
theorem dL_law__2266 : decode code 2266 = .ok (.iadd, 1) := by decide +kernel
theorem dL_law__2267 : decode code 2267 = .ok (.iaload, 1) := by decide +kernel
theorem dL_law__2268 : decode code 2268 = .ok (.aload_n 0, 1) := by decide +kernel
theorem dL_law__2269 : decode code 2269 = .ok (.iload 4, 2) := by decide +kernel
theorem dL_law__2271 : decode code 2271 = .ok (.iconst 2, 1) := by decide +kernel
theorem dL_law__2272 : decode code 2272 = .ok (.iadd, 1) := by decide +kernel
theorem dL_law__2273 : decode code 2273 = .ok (.iaload, 1) := by decide +kernel
theorem dL_law__2274 : decode code 2274 = .ok (.aload_n 3, 1) := by decide +kernel
set_option maxRecDepth 100000 in
theorem lwd_1328 : Cond.methodLink "SunnyPansLaw" 230 yL_nearest ∈ tbG := tw6 28 rfl rfl
set_option maxRecDepth 100000 in
theorem lwd_1329 : Cond.static yL_nearest ∈ tbG := tw6 29 rfl rfl
set_option maxRecDepth 100000 in
theorem lwd_1330 : Cond.codeWith yL_nearest cL_nearest 5 (some .int) [(0, 10, 13, 31)] ∈ tbG := tw6 30 rfl rfl
theorem dL_law__2275 : decode code 2275 = .ok (.invokestatic 230, 3) := by decide +kernel
theorem dL_law__2278 : decode code 2278 = .ok (.istore 5, 2) := by decide +kernel
theorem dL_law__2280 : decode code 2280 = .ok (.aload_n 2, 1) := by decide +kernel
theorem dL_law__2281 : decode code 2281 = .ok (.aload_n 0, 1) := by decide +kernel
theorem dL_law__2282 : decode code 2282 = .ok (.iload 4, 2) := by decide +kernel
theorem dL_law__2284 : decode code 2284 = .ok (.iconst 1, 1) := by decide +kernel
theorem dL_law__2285 : decode code 2285 = .ok (.iadd, 1) := by decide +kernel
theorem dL_law__2286 : decode code 2286 = .ok (.iaload, 1) := by decide +kernel
theorem dL_law__2287 : decode code 2287 = .ok (.aload_n 0, 1) := by decide +kernel
theorem dL_law__2288 : decode code 2288 = .ok (.iload 4, 2) := by decide +kernel
theorem dL_law__2290 : decode code 2290 = .ok (.iconst 2, 1) := by decide +kernel
theorem dL_law__2291 : decode code 2291 = .ok (.iadd, 1) := by decide +kernel
theorem dL_law__2292 : decode code 2292 = .ok (.iaload, 1) := by decide +kernel
set_option maxRecDepth 100000 in
theorem lwd_1916 : Cond.methodLink "SunnyPansLaw" 232 yX10_nearest ∈ tbG := tw8 136 rfl rfl
set_option maxRecDepth 100000 in
theorem lwd_1917 : Cond.instanceMethod yX10_nearest ∈ tbG := tw8 137 rfl rfl
set_option maxRecDepth 100000 in
theorem lwd_1918 : Cond.selects "SunnyPansModel" yX10_nearest yX10_nearest ∈ tbG := tw8 138 rfl rfl
set_option maxRecDepth 100000 in
theorem lwd_1919 : Cond.code yX10_nearest cX10_nearest 9 (some .int) ∈ tbG := tw8 139 rfl rfl
theorem lcvX10_nearest : zCV "SunnyPansLaw" 232 "SunnyPansModel" yX10_nearest cX10_nearest 9 (some .int) 2 := zCV_of lwd_1916 lwd_1917 lwd_1918 lwd_111 lwd_1919 (by decide +kernel)
theorem dL_law__2293 : decode code 2293 = .ok (.invokevirtual 232, 3) := by decide +kernel
theorem dL_law__2296 : decode code 2296 = .ok (.istore 6, 2) := by decide +kernel
theorem dL_law__2298 : decode code 2298 = .ok (.aload_n 2, 1) := by decide +kernel
theorem dL_law__2299 : decode code 2299 = .ok (.invokevirtual 133, 3) := by decide +kernel
theorem dL_law__2302 : decode code 2302 = .ok (.iload 5, 2) := by decide +kernel
theorem dL_law__2304 : decode code 2304 = .ok (.if_icmp .eq 5, 3) := by decide +kernel
theorem dL_law__2309 : decode code 2309 = .ok (.iload 5, 2) := by decide +kernel
theorem dL_law__2311 : decode code 2311 = .ok (.ifCond .ne 15, 3) := by decide +kernel
theorem dL_law__2326 : decode code 2326 = .ok (.goto 439, 3) := by decide +kernel
theorem dL_law__2314 : decode code 2314 = .ok (.aload_n 3, 1) := by decide +kernel
theorem dL_law__2315 : decode code 2315 = .ok (.iconst 0, 1) := by decide +kernel
theorem dL_law__2316 : decode code 2316 = .ok (.laload, 1) := by decide +kernel
theorem dL_law__2317 : decode code 2317 = .ok (.iload 6, 2) := by decide +kernel
theorem dL_law__2319 : decode code 2319 = .ok (.i2l, 1) := by decide +kernel
theorem dL_law__2320 : decode code 2320 = .ok (.lcmp, 1) := by decide +kernel
theorem dL_law__2321 : decode code 2321 = .ok (.ifCond .eq 5, 3) := by decide +kernel
set_option maxHeartbeats 4000000 in
theorem lc_nearest {p : Program} {l : Launch} {e : Env} {s : State} {m : MethodId} {below : List Frame} {meth : Method} {c : Code} {G : zG} {b L i cells slots : Nat} {xs : Nat → Int32} {Q : State → Prop} (C : LW9 p l s m meth c G b L xs) (hi : i + 9 ≤ L) (hcell : cells + 4 ≤ room_1.cells ∧ slots + 24 ≤ room_1.slots) (kk : LK9 p l e s m below meth c G b i Q cells slots) : LC9 p l e s m below meth c G b i Q cells slots 2261 := by
  intro Mx Mm v S hXo hMn ok
  obtain ⟨cx, hX, hbl, hL, hl, hN⟩ := C
  have hbA : ¬ (fun q => s.heap.size ≤ q) b := Nat.not_le.mpr hbl
  have hA : ∀ q, s.heap.size ≤ q → (fun q => s.heap.size ≤ q) q := fun _ h => h
  obtain ⟨k, vx, Mx', w, Mm', t, S', hF, hG, hth, hT, hv, hX', hM', ok'⟩ := q_nearest (xs (i + 1)) (xs (i + 2)) hXo hMn ok
  obtain ⟨v', hk, hv0⟩ := hkT2 (v := v) hT hv
  have hthr : F_X10_thrown Mm' = some (nI t, Mm') := by unfold F_X10_thrown; rw [hth]
  refine l_aload_n cx dL_law__2261 1 rfl ?_
  refine l_arg cx hX hbl hbA (j := 1) (by omega) hL 0 4 rfl rfl li_1 dL_law__2262 dL_law__2263 dL_law__2265 dL_law__2266 dL_law__2267 ?_
  refine l_arg cx hX hbl hbA (j := 2) (by omega) hL 0 4 rfl rfl li_2 dL_law__2268 dL_law__2269 dL_law__2271 dL_law__2272 dL_law__2273 ?_
  refine l_aload_n cx dL_law__2274 3 rfl ?_
  refine l_callWL (na := 4) (As := [.ref (adX s.heap.size 0), .int (xs (i + 1)), .int (xs (i + 2)), .ref (aoL s.heap.size)]) (rest := []) cx hA (cw_nearest l (adX_in _) Mx v (xs (i + 1)) (xs (i + 2)) hl hF hk) lwd_1328 lwd_1329 lwd_100 lwd_1330 (by decide +kernel) ⟨rfl, rfl, Nat.le_of_ble_eq_true rfl, Nat.le_of_ble_eq_true rfl⟩ rfl rfl ⟨by decide, by decide⟩ hcell (Nat.le_of_ble_eq_true rfl) dL_law__2275 hN ?_
  refine l_istore cx 5 ((5, .int (nI t)) :: lvL b s.heap.size i) dL_law__2278 (by decide) rfl ?_
  refine l_aload_n cx dL_law__2280 3 rfl ?_
  refine l_arg cx hX hbl hbA (j := 1) (by omega) hL 1 5 rfl rfl li_1 dL_law__2281 dL_law__2282 dL_law__2284 dL_law__2285 dL_law__2286 ?_
  refine l_arg cx hX hbl hbA (j := 2) (by omega) hL 1 5 rfl rfl li_2 dL_law__2287 dL_law__2288 dL_law__2290 dL_law__2291 dL_law__2292 ?_
  refine l_callML (As := [.int (xs (i + 1)), .int (xs (i + 2))]) (rest := []) cx hA (c_X10_nearest l (adM_in _) Mm (xs (i + 1)) (xs (i + 2)) lTM hG) lcvX10_nearest ⟨rfl, rfl, Nat.le_of_ble_eq_true rfl, Nat.le_of_ble_eq_true rfl⟩ rfl rfl hcell (Nat.le_of_ble_eq_true rfl) dL_law__2293 ?_
  refine l_istore cx 6 ((6, .int w) :: (5, .int (nI t)) :: lvL b s.heap.size i) dL_law__2296 (by decide) rfl ?_
  refine l_aload_n cx dL_law__2298 4 rfl ?_
  refine l_callML (As := []) (rest := []) cx hA (c_X10_thrown l (adM_in _) Mm' lTM hthr) lcvX10_thrown ⟨rfl, rfl, Nat.le_of_ble_eq_true rfl, Nat.le_of_ble_eq_true rfl⟩ rfl rfl hcell (Nat.le_of_ble_eq_true rfl) dL_law__2299 ?_
  refine l_iload cx dL_law__2302 1 rfl ?_
  refine l_icmp_eq cx 2309 dL_law__2304 (by decide) (fun _ => ?_) (fun h => absurd rfl h)
  refine l_iload cx dL_law__2309 1 rfl ?_
  refine l_if_ne cx 2326 dL_law__2311 (by decide) (fun _ => ?_) (fun h0 => ?_)
  · refine l_goto cx 2765 dL_law__2326 (by decide) ?_
    refine l_sub [2, 3, 4, 5, 6] rfl ?_
    exact kk _ _ _ _ hX' hM' ok'
  · refine l_aload_n cx dL_law__2314 5 rfl ?_
    refine l_iconst cx dL_law__2315 ki_0 ?_
    refine l_laldL cx dL_law__2316 ?_
    refine l_iload cx dL_law__2317 0 rfl ?_
    refine l_i2l cx dL_law__2319 ?_
    refine l_lcmp cx dL_law__2320 ?_
    rw [hv0 h0, lgc_self]
    refine l_if_eq cx 2326 dL_law__2321 (by decide) (fun _ => ?_) (fun h => absurd rfl h)
    refine l_goto cx 2765 dL_law__2326 (by decide) ?_
    refine l_sub [2, 3, 4, 5, 6] rfl ?_
    refine l_conv (P' := LPw G s.heap.size Mx' Mm' v') (fun _ h => by rw [hv0 h0]; exact h) ?_
    exact kk _ _ _ _ hX' hM' ok'
theorem dL_law__2329 : decode code 2329 = .ok (.aload_n 1, 1) := by decide +kernel
theorem dL_law__2330 : decode code 2330 = .ok (.aload_n 0, 1) := by decide +kernel
theorem dL_law__2331 : decode code 2331 = .ok (.iload 4, 2) := by decide +kernel
theorem dL_law__2333 : decode code 2333 = .ok (.iconst 1, 1) := by decide +kernel
theorem dL_law__2334 : decode code 2334 = .ok (.iadd, 1) := by decide +kernel
theorem dL_law__2335 : decode code 2335 = .ok (.iaload, 1) := by decide +kernel
theorem dL_law__2336 : decode code 2336 = .ok (.aload_n 0, 1) := by decide +kernel
theorem dL_law__2337 : decode code 2337 = .ok (.iload 4, 2) := by decide +kernel
theorem dL_law__2339 : decode code 2339 = .ok (.iconst 2, 1) := by decide +kernel
theorem dL_law__2340 : decode code 2340 = .ok (.iadd, 1) := by decide +kernel
theorem dL_law__2341 : decode code 2341 = .ok (.iaload, 1) := by decide +kernel
theorem dL_law__2342 : decode code 2342 = .ok (.aload_n 0, 1) := by decide +kernel
theorem dL_law__2343 : decode code 2343 = .ok (.iload 4, 2) := by decide +kernel
theorem dL_law__2345 : decode code 2345 = .ok (.iconst 3, 1) := by decide +kernel
theorem dL_law__2346 : decode code 2346 = .ok (.iadd, 1) := by decide +kernel
theorem dL_law__2347 : decode code 2347 = .ok (.iaload, 1) := by decide +kernel
theorem dL_law__2348 : decode code 2348 = .ok (.aload_n 3, 1) := by decide +kernel
set_option maxRecDepth 100000 in
theorem lwd_1338 : Cond.methodLink "SunnyPansLaw" 233 yL_poured ∈ tbG := tw6 38 rfl rfl
set_option maxRecDepth 100000 in
theorem lwd_1339 : Cond.static yL_poured ∈ tbG := tw6 39 rfl rfl
set_option maxRecDepth 100000 in
theorem lwd_1340 : Cond.codeWith yL_poured cL_poured 6 (some .int) [(0, 12, 15, 31), (0, 12, 19, 13)] ∈ tbG := tw6 40 rfl rfl
theorem dL_law__2349 : decode code 2349 = .ok (.invokestatic 233, 3) := by decide +kernel
theorem dL_law__2352 : decode code 2352 = .ok (.istore 5, 2) := by decide +kernel
theorem dL_law__2354 : decode code 2354 = .ok (.aload_n 2, 1) := by decide +kernel
theorem dL_law__2355 : decode code 2355 = .ok (.aload_n 0, 1) := by decide +kernel
theorem dL_law__2356 : decode code 2356 = .ok (.iload 4, 2) := by decide +kernel
theorem dL_law__2358 : decode code 2358 = .ok (.iconst 1, 1) := by decide +kernel
theorem dL_law__2359 : decode code 2359 = .ok (.iadd, 1) := by decide +kernel
theorem dL_law__2360 : decode code 2360 = .ok (.iaload, 1) := by decide +kernel
theorem dL_law__2361 : decode code 2361 = .ok (.aload_n 0, 1) := by decide +kernel
theorem dL_law__2362 : decode code 2362 = .ok (.iload 4, 2) := by decide +kernel
theorem dL_law__2364 : decode code 2364 = .ok (.iconst 2, 1) := by decide +kernel
theorem dL_law__2365 : decode code 2365 = .ok (.iadd, 1) := by decide +kernel
theorem dL_law__2366 : decode code 2366 = .ok (.iaload, 1) := by decide +kernel
theorem dL_law__2367 : decode code 2367 = .ok (.aload_n 0, 1) := by decide +kernel
theorem dL_law__2368 : decode code 2368 = .ok (.iload 4, 2) := by decide +kernel
theorem dL_law__2370 : decode code 2370 = .ok (.iconst 3, 1) := by decide +kernel
theorem dL_law__2371 : decode code 2371 = .ok (.iadd, 1) := by decide +kernel
theorem dL_law__2372 : decode code 2372 = .ok (.iaload, 1) := by decide +kernel
set_option maxRecDepth 100000 in
theorem lwd_1920 : Cond.methodLink "SunnyPansLaw" 235 yX10_poured ∈ tbG := tw8 140 rfl rfl
set_option maxRecDepth 100000 in
theorem lwd_1921 : Cond.instanceMethod yX10_poured ∈ tbG := tw8 141 rfl rfl
set_option maxRecDepth 100000 in
theorem lwd_1922 : Cond.selects "SunnyPansModel" yX10_poured yX10_poured ∈ tbG := tw8 142 rfl rfl
set_option maxRecDepth 100000 in
theorem lwd_1923 : Cond.code yX10_poured cX10_poured 4 (some .int) ∈ tbG := tw8 143 rfl rfl
theorem lcvX10_poured : zCV "SunnyPansLaw" 235 "SunnyPansModel" yX10_poured cX10_poured 4 (some .int) 3 := zCV_of lwd_1920 lwd_1921 lwd_1922 lwd_111 lwd_1923 (by decide +kernel)
theorem dL_law__2373 : decode code 2373 = .ok (.invokevirtual 235, 3) := by decide +kernel
theorem dL_law__2376 : decode code 2376 = .ok (.istore 6, 2) := by decide +kernel
theorem dL_law__2378 : decode code 2378 = .ok (.aload_n 2, 1) := by decide +kernel
theorem dL_law__2379 : decode code 2379 = .ok (.invokevirtual 133, 3) := by decide +kernel
theorem dL_law__2382 : decode code 2382 = .ok (.iload 5, 2) := by decide +kernel
theorem dL_law__2384 : decode code 2384 = .ok (.if_icmp .eq 5, 3) := by decide +kernel
theorem dL_law__2389 : decode code 2389 = .ok (.iload 5, 2) := by decide +kernel
theorem dL_law__2391 : decode code 2391 = .ok (.ifCond .ne 15, 3) := by decide +kernel
theorem dL_law__2406 : decode code 2406 = .ok (.goto 359, 3) := by decide +kernel
theorem dL_law__2394 : decode code 2394 = .ok (.aload_n 3, 1) := by decide +kernel
theorem dL_law__2395 : decode code 2395 = .ok (.iconst 0, 1) := by decide +kernel
theorem dL_law__2396 : decode code 2396 = .ok (.laload, 1) := by decide +kernel
theorem dL_law__2397 : decode code 2397 = .ok (.iload 6, 2) := by decide +kernel
theorem dL_law__2399 : decode code 2399 = .ok (.i2l, 1) := by decide +kernel
theorem dL_law__2400 : decode code 2400 = .ok (.lcmp, 1) := by decide +kernel
theorem dL_law__2401 : decode code 2401 = .ok (.ifCond .eq 5, 3) := by decide +kernel
set_option maxHeartbeats 4000000 in
theorem lc_poured {p : Program} {l : Launch} {e : Env} {s : State} {m : MethodId} {below : List Frame} {meth : Method} {c : Code} {G : zG} {b L i cells slots : Nat} {xs : Nat → Int32} {Q : State → Prop} (C : LW9 p l s m meth c G b L xs) (hi : i + 9 ≤ L) (hcell : cells + 4 ≤ room_1.cells ∧ slots + 24 ≤ room_1.slots) (kk : LK9 p l e s m below meth c G b i Q cells slots) : LC9 p l e s m below meth c G b i Q cells slots 2329 := by
  intro Mx Mm v S hXo hMn ok
  obtain ⟨cx, hX, hbl, hL, hl, hN⟩ := C
  have hbA : ¬ (fun q => s.heap.size ≤ q) b := Nat.not_le.mpr hbl
  have hA : ∀ q, s.heap.size ≤ q → (fun q => s.heap.size ≤ q) q := fun _ h => h
  obtain ⟨k, vx, Mx', w, Mm', t, S', hF, hG, hth, hT, hv, hX', hM', ok'⟩ := q_poured (xs (i + 1)) (xs (i + 2)) (xs (i + 3)) hXo hMn ok
  obtain ⟨v', hk, hv0⟩ := hkT3 (v := v) hT hv
  have hthr : F_X10_thrown Mm' = some (nI t, Mm') := by unfold F_X10_thrown; rw [hth]
  refine l_aload_n cx dL_law__2329 1 rfl ?_
  refine l_arg cx hX hbl hbA (j := 1) (by omega) hL 0 4 rfl rfl li_1 dL_law__2330 dL_law__2331 dL_law__2333 dL_law__2334 dL_law__2335 ?_
  refine l_arg cx hX hbl hbA (j := 2) (by omega) hL 0 4 rfl rfl li_2 dL_law__2336 dL_law__2337 dL_law__2339 dL_law__2340 dL_law__2341 ?_
  refine l_arg cx hX hbl hbA (j := 3) (by omega) hL 0 4 rfl rfl li_3 dL_law__2342 dL_law__2343 dL_law__2345 dL_law__2346 dL_law__2347 ?_
  refine l_aload_n cx dL_law__2348 3 rfl ?_
  refine l_callWL (na := 5) (As := [.ref (adX s.heap.size 0), .int (xs (i + 1)), .int (xs (i + 2)), .int (xs (i + 3)), .ref (aoL s.heap.size)]) (rest := []) cx hA (cw_poured l (adX_in _) Mx v (xs (i + 1)) (xs (i + 2)) (xs (i + 3)) hl hF hk) lwd_1338 lwd_1339 lwd_100 lwd_1340 (by decide +kernel) ⟨rfl, rfl, Nat.le_of_ble_eq_true rfl, Nat.le_of_ble_eq_true rfl⟩ rfl rfl ⟨by decide, by decide⟩ hcell (Nat.le_of_ble_eq_true rfl) dL_law__2349 hN ?_
  refine l_istore cx 5 ((5, .int (nI t)) :: lvL b s.heap.size i) dL_law__2352 (by decide) rfl ?_
  refine l_aload_n cx dL_law__2354 3 rfl ?_
  refine l_arg cx hX hbl hbA (j := 1) (by omega) hL 1 5 rfl rfl li_1 dL_law__2355 dL_law__2356 dL_law__2358 dL_law__2359 dL_law__2360 ?_
  refine l_arg cx hX hbl hbA (j := 2) (by omega) hL 1 5 rfl rfl li_2 dL_law__2361 dL_law__2362 dL_law__2364 dL_law__2365 dL_law__2366 ?_
  refine l_arg cx hX hbl hbA (j := 3) (by omega) hL 1 5 rfl rfl li_3 dL_law__2367 dL_law__2368 dL_law__2370 dL_law__2371 dL_law__2372 ?_
  refine l_callML (As := [.int (xs (i + 1)), .int (xs (i + 2)), .int (xs (i + 3))]) (rest := []) cx hA (c_X10_poured l (adM_in _) Mm (xs (i + 1)) (xs (i + 2)) (xs (i + 3)) lTM hG) lcvX10_poured ⟨rfl, rfl, Nat.le_of_ble_eq_true rfl, Nat.le_of_ble_eq_true rfl⟩ rfl rfl hcell (Nat.le_of_ble_eq_true rfl) dL_law__2373 ?_
  refine l_istore cx 6 ((6, .int w) :: (5, .int (nI t)) :: lvL b s.heap.size i) dL_law__2376 (by decide) rfl ?_
  refine l_aload_n cx dL_law__2378 4 rfl ?_
  refine l_callML (As := []) (rest := []) cx hA (c_X10_thrown l (adM_in _) Mm' lTM hthr) lcvX10_thrown ⟨rfl, rfl, Nat.le_of_ble_eq_true rfl, Nat.le_of_ble_eq_true rfl⟩ rfl rfl hcell (Nat.le_of_ble_eq_true rfl) dL_law__2379 ?_
  refine l_iload cx dL_law__2382 1 rfl ?_
  refine l_icmp_eq cx 2389 dL_law__2384 (by decide) (fun _ => ?_) (fun h => absurd rfl h)
  refine l_iload cx dL_law__2389 1 rfl ?_
  refine l_if_ne cx 2406 dL_law__2391 (by decide) (fun _ => ?_) (fun h0 => ?_)
  · refine l_goto cx 2765 dL_law__2406 (by decide) ?_
    refine l_sub [2, 3, 4, 5, 6] rfl ?_
    exact kk _ _ _ _ hX' hM' ok'
  · refine l_aload_n cx dL_law__2394 5 rfl ?_
    refine l_iconst cx dL_law__2395 ki_0 ?_
    refine l_laldL cx dL_law__2396 ?_
    refine l_iload cx dL_law__2397 0 rfl ?_
    refine l_i2l cx dL_law__2399 ?_
    refine l_lcmp cx dL_law__2400 ?_
    rw [hv0 h0, lgc_self]
    refine l_if_eq cx 2406 dL_law__2401 (by decide) (fun _ => ?_) (fun h => absurd rfl h)
    refine l_goto cx 2765 dL_law__2406 (by decide) ?_
    refine l_sub [2, 3, 4, 5, 6] rfl ?_
    refine l_conv (P' := LPw G s.heap.size Mx' Mm' v') (fun _ h => by rw [hv0 h0]; exact h) ?_
    exact kk _ _ _ _ hX' hM' ok'
theorem dL_law__2409 : decode code 2409 = .ok (.aload_n 1, 1) := by decide +kernel
theorem dL_law__2410 : decode code 2410 = .ok (.aload_n 0, 1) := by decide +kernel
theorem dL_law__2411 : decode code 2411 = .ok (.iload 4, 2) := by decide +kernel
theorem dL_law__2413 : decode code 2413 = .ok (.iconst 1, 1) := by decide +kernel
theorem dL_law__2414 : decode code 2414 = .ok (.iadd, 1) := by decide +kernel
theorem dL_law__2415 : decode code 2415 = .ok (.iaload, 1) := by decide +kernel
theorem dL_law__2416 : decode code 2416 = .ok (.aload_n 3, 1) := by decide +kernel
set_option maxRecDepth 100000 in
theorem lwd_1346 : Cond.methodLink "SunnyPansLaw" 236 yL_noon ∈ tbG := tw6 46 rfl rfl
set_option maxRecDepth 100000 in
theorem lwd_1347 : Cond.static yL_noon ∈ tbG := tw6 47 rfl rfl
set_option maxRecDepth 100000 in
theorem lwd_1348 : Cond.codeWith yL_noon cL_noon 4 (some .int) [(0, 9, 12, 13)] ∈ tbG := tw6 48 rfl rfl
theorem dL_law__2417 : decode code 2417 = .ok (.invokestatic 236, 3) := by decide +kernel
theorem dL_law__2420 : decode code 2420 = .ok (.istore 5, 2) := by decide +kernel
theorem dL_law__2422 : decode code 2422 = .ok (.aload_n 2, 1) := by decide +kernel
theorem dL_law__2423 : decode code 2423 = .ok (.aload_n 0, 1) := by decide +kernel
theorem dL_law__2424 : decode code 2424 = .ok (.iload 4, 2) := by decide +kernel
theorem dL_law__2426 : decode code 2426 = .ok (.iconst 1, 1) := by decide +kernel
theorem dL_law__2427 : decode code 2427 = .ok (.iadd, 1) := by decide +kernel
theorem dL_law__2428 : decode code 2428 = .ok (.iaload, 1) := by decide +kernel
set_option maxRecDepth 100000 in
theorem lwd_1912 : Cond.methodLink "SunnyPansLaw" 238 yX10_noon ∈ tbG := tw8 132 rfl rfl
set_option maxRecDepth 100000 in
theorem lwd_1913 : Cond.instanceMethod yX10_noon ∈ tbG := tw8 133 rfl rfl
set_option maxRecDepth 100000 in
theorem lwd_1914 : Cond.selects "SunnyPansModel" yX10_noon yX10_noon ∈ tbG := tw8 134 rfl rfl
set_option maxRecDepth 100000 in
theorem lwd_1915 : Cond.code yX10_noon cX10_noon 6 (some .int) ∈ tbG := tw8 135 rfl rfl
theorem lcvX10_noon : zCV "SunnyPansLaw" 238 "SunnyPansModel" yX10_noon cX10_noon 6 (some .int) 1 := zCV_of lwd_1912 lwd_1913 lwd_1914 lwd_111 lwd_1915 (by decide +kernel)
theorem dL_law__2429 : decode code 2429 = .ok (.invokevirtual 238, 3) := by decide +kernel
theorem dL_law__2432 : decode code 2432 = .ok (.istore 6, 2) := by decide +kernel
theorem dL_law__2434 : decode code 2434 = .ok (.aload_n 2, 1) := by decide +kernel
theorem dL_law__2435 : decode code 2435 = .ok (.invokevirtual 133, 3) := by decide +kernel
theorem dL_law__2438 : decode code 2438 = .ok (.iload 5, 2) := by decide +kernel
theorem dL_law__2440 : decode code 2440 = .ok (.if_icmp .eq 5, 3) := by decide +kernel
theorem dL_law__2445 : decode code 2445 = .ok (.iload 5, 2) := by decide +kernel
theorem dL_law__2447 : decode code 2447 = .ok (.ifCond .ne 15, 3) := by decide +kernel
theorem dL_law__2462 : decode code 2462 = .ok (.goto 303, 3) := by decide +kernel
theorem dL_law__2450 : decode code 2450 = .ok (.aload_n 3, 1) := by decide +kernel
theorem dL_law__2451 : decode code 2451 = .ok (.iconst 0, 1) := by decide +kernel
theorem dL_law__2452 : decode code 2452 = .ok (.laload, 1) := by decide +kernel
theorem dL_law__2453 : decode code 2453 = .ok (.iload 6, 2) := by decide +kernel
theorem dL_law__2455 : decode code 2455 = .ok (.i2l, 1) := by decide +kernel
theorem dL_law__2456 : decode code 2456 = .ok (.lcmp, 1) := by decide +kernel
theorem dL_law__2457 : decode code 2457 = .ok (.ifCond .eq 5, 3) := by decide +kernel
set_option maxHeartbeats 4000000 in
theorem lc_noon {p : Program} {l : Launch} {e : Env} {s : State} {m : MethodId} {below : List Frame} {meth : Method} {c : Code} {G : zG} {b L i cells slots : Nat} {xs : Nat → Int32} {Q : State → Prop} (C : LW9 p l s m meth c G b L xs) (hi : i + 9 ≤ L) (hcell : cells + 4 ≤ room_1.cells ∧ slots + 24 ≤ room_1.slots) (kk : LK9 p l e s m below meth c G b i Q cells slots) : LC9 p l e s m below meth c G b i Q cells slots 2409 := by
  intro Mx Mm v S hXo hMn ok
  obtain ⟨cx, hX, hbl, hL, hl, hN⟩ := C
  have hbA : ¬ (fun q => s.heap.size ≤ q) b := Nat.not_le.mpr hbl
  have hA : ∀ q, s.heap.size ≤ q → (fun q => s.heap.size ≤ q) q := fun _ h => h
  obtain ⟨k, vx, Mx', w, Mm', t, S', hF, hG, hth, hT, hv, hX', hM', ok'⟩ := q_noon (xs (i + 1)) hXo hMn ok
  obtain ⟨v', hk, hv0⟩ := hkT1 (v := v) hT hv
  have hthr : F_X10_thrown Mm' = some (nI t, Mm') := by unfold F_X10_thrown; rw [hth]
  refine l_aload_n cx dL_law__2409 1 rfl ?_
  refine l_arg cx hX hbl hbA (j := 1) (by omega) hL 0 4 rfl rfl li_1 dL_law__2410 dL_law__2411 dL_law__2413 dL_law__2414 dL_law__2415 ?_
  refine l_aload_n cx dL_law__2416 3 rfl ?_
  refine l_callWL (na := 3) (As := [.ref (adX s.heap.size 0), .int (xs (i + 1)), .ref (aoL s.heap.size)]) (rest := []) cx hA (cw_noon l (adX_in _) Mx v (xs (i + 1)) hl hF hk) lwd_1346 lwd_1347 lwd_100 lwd_1348 (by decide +kernel) ⟨rfl, rfl, Nat.le_of_ble_eq_true rfl, Nat.le_of_ble_eq_true rfl⟩ rfl rfl ⟨by decide, by decide⟩ hcell (Nat.le_of_ble_eq_true rfl) dL_law__2417 hN ?_
  refine l_istore cx 5 ((5, .int (nI t)) :: lvL b s.heap.size i) dL_law__2420 (by decide) rfl ?_
  refine l_aload_n cx dL_law__2422 3 rfl ?_
  refine l_arg cx hX hbl hbA (j := 1) (by omega) hL 1 5 rfl rfl li_1 dL_law__2423 dL_law__2424 dL_law__2426 dL_law__2427 dL_law__2428 ?_
  refine l_callML (As := [.int (xs (i + 1))]) (rest := []) cx hA (c_X10_noon l (adM_in _) Mm (xs (i + 1)) lTM hG) lcvX10_noon ⟨rfl, rfl, Nat.le_of_ble_eq_true rfl, Nat.le_of_ble_eq_true rfl⟩ rfl rfl hcell (Nat.le_of_ble_eq_true rfl) dL_law__2429 ?_
  refine l_istore cx 6 ((6, .int w) :: (5, .int (nI t)) :: lvL b s.heap.size i) dL_law__2432 (by decide) rfl ?_
  refine l_aload_n cx dL_law__2434 4 rfl ?_
  refine l_callML (As := []) (rest := []) cx hA (c_X10_thrown l (adM_in _) Mm' lTM hthr) lcvX10_thrown ⟨rfl, rfl, Nat.le_of_ble_eq_true rfl, Nat.le_of_ble_eq_true rfl⟩ rfl rfl hcell (Nat.le_of_ble_eq_true rfl) dL_law__2435 ?_
  refine l_iload cx dL_law__2438 1 rfl ?_
  refine l_icmp_eq cx 2445 dL_law__2440 (by decide) (fun _ => ?_) (fun h => absurd rfl h)
  refine l_iload cx dL_law__2445 1 rfl ?_
  refine l_if_ne cx 2462 dL_law__2447 (by decide) (fun _ => ?_) (fun h0 => ?_)
  · refine l_goto cx 2765 dL_law__2462 (by decide) ?_
    refine l_sub [2, 3, 4, 5, 6] rfl ?_
    exact kk _ _ _ _ hX' hM' ok'
  · refine l_aload_n cx dL_law__2450 5 rfl ?_
    refine l_iconst cx dL_law__2451 ki_0 ?_
    refine l_laldL cx dL_law__2452 ?_
    refine l_iload cx dL_law__2453 0 rfl ?_
    refine l_i2l cx dL_law__2455 ?_
    refine l_lcmp cx dL_law__2456 ?_
    rw [hv0 h0, lgc_self]
    refine l_if_eq cx 2462 dL_law__2457 (by decide) (fun _ => ?_) (fun h => absurd rfl h)
    refine l_goto cx 2765 dL_law__2462 (by decide) ?_
    refine l_sub [2, 3, 4, 5, 6] rfl ?_
    refine l_conv (P' := LPw G s.heap.size Mx' Mm' v') (fun _ h => by rw [hv0 h0]; exact h) ?_
    exact kk _ _ _ _ hX' hM' ok'
theorem dL_law__2465 : decode code 2465 = .ok (.aload_n 1, 1) := by decide +kernel
theorem dL_law__2466 : decode code 2466 = .ok (.aload_n 0, 1) := by decide +kernel
theorem dL_law__2467 : decode code 2467 = .ok (.iload 4, 2) := by decide +kernel
theorem dL_law__2469 : decode code 2469 = .ok (.iconst 1, 1) := by decide +kernel
theorem dL_law__2470 : decode code 2470 = .ok (.iadd, 1) := by decide +kernel
theorem dL_law__2471 : decode code 2471 = .ok (.iaload, 1) := by decide +kernel
theorem dL_law__2472 : decode code 2472 = .ok (.aload_n 0, 1) := by decide +kernel
theorem dL_law__2473 : decode code 2473 = .ok (.iload 4, 2) := by decide +kernel
theorem dL_law__2475 : decode code 2475 = .ok (.iconst 2, 1) := by decide +kernel
theorem dL_law__2476 : decode code 2476 = .ok (.iadd, 1) := by decide +kernel
theorem dL_law__2477 : decode code 2477 = .ok (.iaload, 1) := by decide +kernel
theorem dL_law__2478 : decode code 2478 = .ok (.aload_n 0, 1) := by decide +kernel
theorem dL_law__2479 : decode code 2479 = .ok (.iload 4, 2) := by decide +kernel
theorem dL_law__2481 : decode code 2481 = .ok (.iconst 3, 1) := by decide +kernel
theorem dL_law__2482 : decode code 2482 = .ok (.iadd, 1) := by decide +kernel
theorem dL_law__2483 : decode code 2483 = .ok (.iaload, 1) := by decide +kernel
theorem dL_law__2484 : decode code 2484 = .ok (.aload_n 0, 1) := by decide +kernel
theorem dL_law__2485 : decode code 2485 = .ok (.iload 4, 2) := by decide +kernel
theorem dL_law__2487 : decode code 2487 = .ok (.iconst 4, 1) := by decide +kernel
theorem dL_law__2488 : decode code 2488 = .ok (.iadd, 1) := by decide +kernel
theorem dL_law__2489 : decode code 2489 = .ok (.iaload, 1) := by decide +kernel
theorem dL_law__2490 : decode code 2490 = .ok (.aload_n 3, 1) := by decide +kernel
set_option maxRecDepth 100000 in
theorem lwd_1353 : Cond.methodLink "SunnyPansLaw" 239 yL_summer ∈ tbG := tw6 53 rfl rfl
set_option maxRecDepth 100000 in
theorem lwd_1354 : Cond.static yL_summer ∈ tbG := tw6 54 rfl rfl
set_option maxRecDepth 100000 in
theorem lwd_1355 : Cond.codeWith yL_summer cL_summer 7 (some .int) [(0, 14, 17, 13)] ∈ tbG := tw6 55 rfl rfl
theorem dL_law__2491 : decode code 2491 = .ok (.invokestatic 239, 3) := by decide +kernel
theorem dL_law__2494 : decode code 2494 = .ok (.istore 5, 2) := by decide +kernel
theorem dL_law__2496 : decode code 2496 = .ok (.aload_n 2, 1) := by decide +kernel
theorem dL_law__2497 : decode code 2497 = .ok (.aload_n 0, 1) := by decide +kernel
theorem dL_law__2498 : decode code 2498 = .ok (.iload 4, 2) := by decide +kernel
theorem dL_law__2500 : decode code 2500 = .ok (.iconst 1, 1) := by decide +kernel
theorem dL_law__2501 : decode code 2501 = .ok (.iadd, 1) := by decide +kernel
theorem dL_law__2502 : decode code 2502 = .ok (.iaload, 1) := by decide +kernel
theorem dL_law__2503 : decode code 2503 = .ok (.aload_n 0, 1) := by decide +kernel
theorem dL_law__2504 : decode code 2504 = .ok (.iload 4, 2) := by decide +kernel
theorem dL_law__2506 : decode code 2506 = .ok (.iconst 2, 1) := by decide +kernel
theorem dL_law__2507 : decode code 2507 = .ok (.iadd, 1) := by decide +kernel
theorem dL_law__2508 : decode code 2508 = .ok (.iaload, 1) := by decide +kernel
theorem dL_law__2509 : decode code 2509 = .ok (.aload_n 0, 1) := by decide +kernel
theorem dL_law__2510 : decode code 2510 = .ok (.iload 4, 2) := by decide +kernel
theorem dL_law__2512 : decode code 2512 = .ok (.iconst 3, 1) := by decide +kernel
theorem dL_law__2513 : decode code 2513 = .ok (.iadd, 1) := by decide +kernel
theorem dL_law__2514 : decode code 2514 = .ok (.iaload, 1) := by decide +kernel
theorem dL_law__2515 : decode code 2515 = .ok (.aload_n 0, 1) := by decide +kernel
theorem dL_law__2516 : decode code 2516 = .ok (.iload 4, 2) := by decide +kernel
theorem dL_law__2518 : decode code 2518 = .ok (.iconst 4, 1) := by decide +kernel
theorem dL_law__2519 : decode code 2519 = .ok (.iadd, 1) := by decide +kernel
theorem dL_law__2520 : decode code 2520 = .ok (.iaload, 1) := by decide +kernel
set_option maxRecDepth 100000 in
theorem lwd_1924 : Cond.methodLink "SunnyPansLaw" 241 yX10_summer ∈ tbG := tw8 144 rfl rfl
set_option maxRecDepth 100000 in
theorem lwd_1925 : Cond.instanceMethod yX10_summer ∈ tbG := tw8 145 rfl rfl
set_option maxRecDepth 100000 in
theorem lwd_1926 : Cond.selects "SunnyPansModel" yX10_summer yX10_summer ∈ tbG := tw8 146 rfl rfl
set_option maxRecDepth 100000 in
theorem lwd_1927 : Cond.code yX10_summer cX10_summer 5 (some .int) ∈ tbG := tw8 147 rfl rfl
theorem lcvX10_summer : zCV "SunnyPansLaw" 241 "SunnyPansModel" yX10_summer cX10_summer 5 (some .int) 4 := zCV_of lwd_1924 lwd_1925 lwd_1926 lwd_111 lwd_1927 (by decide +kernel)
theorem dL_law__2521 : decode code 2521 = .ok (.invokevirtual 241, 3) := by decide +kernel
theorem dL_law__2524 : decode code 2524 = .ok (.istore 6, 2) := by decide +kernel
theorem dL_law__2526 : decode code 2526 = .ok (.aload_n 2, 1) := by decide +kernel
theorem dL_law__2527 : decode code 2527 = .ok (.invokevirtual 133, 3) := by decide +kernel
theorem dL_law__2530 : decode code 2530 = .ok (.iload 5, 2) := by decide +kernel
theorem dL_law__2532 : decode code 2532 = .ok (.if_icmp .eq 5, 3) := by decide +kernel
theorem dL_law__2537 : decode code 2537 = .ok (.iload 5, 2) := by decide +kernel
theorem dL_law__2539 : decode code 2539 = .ok (.ifCond .ne 15, 3) := by decide +kernel
theorem dL_law__2554 : decode code 2554 = .ok (.goto 211, 3) := by decide +kernel
theorem dL_law__2542 : decode code 2542 = .ok (.aload_n 3, 1) := by decide +kernel
theorem dL_law__2543 : decode code 2543 = .ok (.iconst 0, 1) := by decide +kernel
theorem dL_law__2544 : decode code 2544 = .ok (.laload, 1) := by decide +kernel
theorem dL_law__2545 : decode code 2545 = .ok (.iload 6, 2) := by decide +kernel
theorem dL_law__2547 : decode code 2547 = .ok (.i2l, 1) := by decide +kernel
theorem dL_law__2548 : decode code 2548 = .ok (.lcmp, 1) := by decide +kernel
theorem dL_law__2549 : decode code 2549 = .ok (.ifCond .eq 5, 3) := by decide +kernel
set_option maxHeartbeats 4000000 in
theorem lc_summer {p : Program} {l : Launch} {e : Env} {s : State} {m : MethodId} {below : List Frame} {meth : Method} {c : Code} {G : zG} {b L i cells slots : Nat} {xs : Nat → Int32} {Q : State → Prop} (C : LW9 p l s m meth c G b L xs) (hi : i + 9 ≤ L) (hcell : cells + 4 ≤ room_1.cells ∧ slots + 24 ≤ room_1.slots) (kk : LK9 p l e s m below meth c G b i Q cells slots) : LC9 p l e s m below meth c G b i Q cells slots 2465 := by
  intro Mx Mm v S hXo hMn ok
  obtain ⟨cx, hX, hbl, hL, hl, hN⟩ := C
  have hbA : ¬ (fun q => s.heap.size ≤ q) b := Nat.not_le.mpr hbl
  have hA : ∀ q, s.heap.size ≤ q → (fun q => s.heap.size ≤ q) q := fun _ h => h
  obtain ⟨k, vx, Mx', w, Mm', t, S', hF, hG, hth, hT, hv, hX', hM', ok'⟩ := q_summer (xs (i + 1)) (xs (i + 2)) (xs (i + 3)) (xs (i + 4)) hXo hMn ok
  obtain ⟨v', hk, hv0⟩ := hkT1 (v := v) hT hv
  have hthr : F_X10_thrown Mm' = some (nI t, Mm') := by unfold F_X10_thrown; rw [hth]
  refine l_aload_n cx dL_law__2465 1 rfl ?_
  refine l_arg cx hX hbl hbA (j := 1) (by omega) hL 0 4 rfl rfl li_1 dL_law__2466 dL_law__2467 dL_law__2469 dL_law__2470 dL_law__2471 ?_
  refine l_arg cx hX hbl hbA (j := 2) (by omega) hL 0 4 rfl rfl li_2 dL_law__2472 dL_law__2473 dL_law__2475 dL_law__2476 dL_law__2477 ?_
  refine l_arg cx hX hbl hbA (j := 3) (by omega) hL 0 4 rfl rfl li_3 dL_law__2478 dL_law__2479 dL_law__2481 dL_law__2482 dL_law__2483 ?_
  refine l_arg cx hX hbl hbA (j := 4) (by omega) hL 0 4 rfl rfl li_4 dL_law__2484 dL_law__2485 dL_law__2487 dL_law__2488 dL_law__2489 ?_
  refine l_aload_n cx dL_law__2490 3 rfl ?_
  refine l_callWL (na := 6) (As := [.ref (adX s.heap.size 0), .int (xs (i + 1)), .int (xs (i + 2)), .int (xs (i + 3)), .int (xs (i + 4)), .ref (aoL s.heap.size)]) (rest := []) cx hA (cw_summer l (adX_in _) Mx v (xs (i + 1)) (xs (i + 2)) (xs (i + 3)) (xs (i + 4)) hl hF hk) lwd_1353 lwd_1354 lwd_100 lwd_1355 (by decide +kernel) ⟨rfl, rfl, Nat.le_of_ble_eq_true rfl, Nat.le_of_ble_eq_true rfl⟩ rfl rfl ⟨by decide, by decide⟩ hcell (Nat.le_of_ble_eq_true rfl) dL_law__2491 hN ?_
  refine l_istore cx 5 ((5, .int (nI t)) :: lvL b s.heap.size i) dL_law__2494 (by decide) rfl ?_
  refine l_aload_n cx dL_law__2496 3 rfl ?_
  refine l_arg cx hX hbl hbA (j := 1) (by omega) hL 1 5 rfl rfl li_1 dL_law__2497 dL_law__2498 dL_law__2500 dL_law__2501 dL_law__2502 ?_
  refine l_arg cx hX hbl hbA (j := 2) (by omega) hL 1 5 rfl rfl li_2 dL_law__2503 dL_law__2504 dL_law__2506 dL_law__2507 dL_law__2508 ?_
  refine l_arg cx hX hbl hbA (j := 3) (by omega) hL 1 5 rfl rfl li_3 dL_law__2509 dL_law__2510 dL_law__2512 dL_law__2513 dL_law__2514 ?_
  refine l_arg cx hX hbl hbA (j := 4) (by omega) hL 1 5 rfl rfl li_4 dL_law__2515 dL_law__2516 dL_law__2518 dL_law__2519 dL_law__2520 ?_
  refine l_callML (As := [.int (xs (i + 1)), .int (xs (i + 2)), .int (xs (i + 3)), .int (xs (i + 4))]) (rest := []) cx hA (c_X10_summer l (adM_in _) Mm (xs (i + 1)) (xs (i + 2)) (xs (i + 3)) (xs (i + 4)) lTM hG) lcvX10_summer ⟨rfl, rfl, Nat.le_of_ble_eq_true rfl, Nat.le_of_ble_eq_true rfl⟩ rfl rfl hcell (Nat.le_of_ble_eq_true rfl) dL_law__2521 ?_
  refine l_istore cx 6 ((6, .int w) :: (5, .int (nI t)) :: lvL b s.heap.size i) dL_law__2524 (by decide) rfl ?_
  refine l_aload_n cx dL_law__2526 4 rfl ?_
  refine l_callML (As := []) (rest := []) cx hA (c_X10_thrown l (adM_in _) Mm' lTM hthr) lcvX10_thrown ⟨rfl, rfl, Nat.le_of_ble_eq_true rfl, Nat.le_of_ble_eq_true rfl⟩ rfl rfl hcell (Nat.le_of_ble_eq_true rfl) dL_law__2527 ?_
  refine l_iload cx dL_law__2530 1 rfl ?_
  refine l_icmp_eq cx 2537 dL_law__2532 (by decide) (fun _ => ?_) (fun h => absurd rfl h)
  refine l_iload cx dL_law__2537 1 rfl ?_
  refine l_if_ne cx 2554 dL_law__2539 (by decide) (fun _ => ?_) (fun h0 => ?_)
  · refine l_goto cx 2765 dL_law__2554 (by decide) ?_
    refine l_sub [2, 3, 4, 5, 6] rfl ?_
    exact kk _ _ _ _ hX' hM' ok'
  · refine l_aload_n cx dL_law__2542 5 rfl ?_
    refine l_iconst cx dL_law__2543 ki_0 ?_
    refine l_laldL cx dL_law__2544 ?_
    refine l_iload cx dL_law__2545 0 rfl ?_
    refine l_i2l cx dL_law__2547 ?_
    refine l_lcmp cx dL_law__2548 ?_
    rw [hv0 h0, lgc_self]
    refine l_if_eq cx 2554 dL_law__2549 (by decide) (fun _ => ?_) (fun h => absurd rfl h)
    refine l_goto cx 2765 dL_law__2554 (by decide) ?_
    refine l_sub [2, 3, 4, 5, 6] rfl ?_
    refine l_conv (P' := LPw G s.heap.size Mx' Mm' v') (fun _ h => by rw [hv0 h0]; exact h) ?_
    exact kk _ _ _ _ hX' hM' ok'
