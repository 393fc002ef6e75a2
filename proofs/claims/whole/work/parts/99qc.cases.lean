/-! THE LAW: its cases 14 to 20 -/
theorem dL_law__1105 : decode code 1105 = .ok (.aload_n 1, 1) := by decide +kernel
theorem dL_law__1106 : decode code 1106 = .ok (.aload_n 0, 1) := by decide +kernel
theorem dL_law__1107 : decode code 1107 = .ok (.iload 4, 2) := by decide +kernel
theorem dL_law__1109 : decode code 1109 = .ok (.iconst 1, 1) := by decide +kernel
theorem dL_law__1110 : decode code 1110 = .ok (.iadd, 1) := by decide +kernel
theorem dL_law__1111 : decode code 1111 = .ok (.iaload, 1) := by decide +kernel
theorem dL_law__1112 : decode code 1112 = .ok (.aload_n 0, 1) := by decide +kernel
theorem dL_law__1113 : decode code 1113 = .ok (.iload 4, 2) := by decide +kernel
theorem dL_law__1115 : decode code 1115 = .ok (.iconst 2, 1) := by decide +kernel
theorem dL_law__1116 : decode code 1116 = .ok (.iadd, 1) := by decide +kernel
theorem dL_law__1117 : decode code 1117 = .ok (.iaload, 1) := by decide +kernel
theorem dL_law__1118 : decode code 1118 = .ok (.aload_n 3, 1) := by decide +kernel
set_option maxRecDepth 100000 in
theorem lwd_1107 : Cond.methodLink "SunnyPansLaw" 178 yL_drying ∈ tbG := tw5 47 rfl rfl
set_option maxRecDepth 100000 in
theorem lwd_1108 : Cond.static yL_drying ∈ tbG := tw5 48 rfl rfl
set_option maxRecDepth 100000 in
theorem lwd_1109 : Cond.codeWith yL_drying cL_drying 5 (some .int) [(0, 10, 13, 31)] ∈ tbG := tw5 49 rfl rfl
theorem dL_law__1119 : decode code 1119 = .ok (.invokestatic 178, 3) := by decide +kernel
theorem dL_law__1122 : decode code 1122 = .ok (.istore 5, 2) := by decide +kernel
theorem dL_law__1124 : decode code 1124 = .ok (.aload_n 2, 1) := by decide +kernel
theorem dL_law__1125 : decode code 1125 = .ok (.aload_n 0, 1) := by decide +kernel
theorem dL_law__1126 : decode code 1126 = .ok (.iload 4, 2) := by decide +kernel
theorem dL_law__1128 : decode code 1128 = .ok (.iconst 1, 1) := by decide +kernel
theorem dL_law__1129 : decode code 1129 = .ok (.iadd, 1) := by decide +kernel
theorem dL_law__1130 : decode code 1130 = .ok (.iaload, 1) := by decide +kernel
theorem dL_law__1131 : decode code 1131 = .ok (.aload_n 0, 1) := by decide +kernel
theorem dL_law__1132 : decode code 1132 = .ok (.iload 4, 2) := by decide +kernel
theorem dL_law__1134 : decode code 1134 = .ok (.iconst 2, 1) := by decide +kernel
theorem dL_law__1135 : decode code 1135 = .ok (.iadd, 1) := by decide +kernel
theorem dL_law__1136 : decode code 1136 = .ok (.iaload, 1) := by decide +kernel
set_option maxRecDepth 100000 in
theorem lwd_1801 : Cond.methodLink "SunnyPansLaw" 180 yX10_drying ∈ tbG := tw8 21 rfl rfl
set_option maxRecDepth 100000 in
theorem lwd_1802 : Cond.instanceMethod yX10_drying ∈ tbG := tw8 22 rfl rfl
set_option maxRecDepth 100000 in
theorem lwd_1803 : Cond.selects "SunnyPansModel" yX10_drying yX10_drying ∈ tbG := tw8 23 rfl rfl
set_option maxRecDepth 100000 in
theorem lwd_1804 : Cond.code yX10_drying cX10_drying 3 (some .int) ∈ tbG := tw8 24 rfl rfl
theorem lcvX10_drying : zCV "SunnyPansLaw" 180 "SunnyPansModel" yX10_drying cX10_drying 3 (some .int) 2 := zCV_of lwd_1801 lwd_1802 lwd_1803 lwd_111 lwd_1804 (by decide +kernel)
theorem dL_law__1137 : decode code 1137 = .ok (.invokevirtual 180, 3) := by decide +kernel
theorem dL_law__1140 : decode code 1140 = .ok (.istore 6, 2) := by decide +kernel
theorem dL_law__1142 : decode code 1142 = .ok (.aload_n 2, 1) := by decide +kernel
theorem dL_law__1143 : decode code 1143 = .ok (.invokevirtual 133, 3) := by decide +kernel
theorem dL_law__1146 : decode code 1146 = .ok (.iload 5, 2) := by decide +kernel
theorem dL_law__1148 : decode code 1148 = .ok (.if_icmp .eq 5, 3) := by decide +kernel
theorem dL_law__1153 : decode code 1153 = .ok (.iload 5, 2) := by decide +kernel
theorem dL_law__1155 : decode code 1155 = .ok (.ifCond .ne 15, 3) := by decide +kernel
theorem dL_law__1170 : decode code 1170 = .ok (.goto 1595, 3) := by decide +kernel
theorem dL_law__1158 : decode code 1158 = .ok (.aload_n 3, 1) := by decide +kernel
theorem dL_law__1159 : decode code 1159 = .ok (.iconst 0, 1) := by decide +kernel
theorem dL_law__1160 : decode code 1160 = .ok (.laload, 1) := by decide +kernel
theorem dL_law__1161 : decode code 1161 = .ok (.iload 6, 2) := by decide +kernel
theorem dL_law__1163 : decode code 1163 = .ok (.i2l, 1) := by decide +kernel
theorem dL_law__1164 : decode code 1164 = .ok (.lcmp, 1) := by decide +kernel
theorem dL_law__1165 : decode code 1165 = .ok (.ifCond .eq 5, 3) := by decide +kernel
set_option maxHeartbeats 4000000 in
theorem lc_drying {p : Program} {l : Launch} {e : Env} {s : State} {m : MethodId} {below : List Frame} {meth : Method} {c : Code} {G : zG} {b L i cells slots : Nat} {xs : Nat → Int32} {Q : State → Prop} (C : LW9 p l s m meth c G b L xs) (hi : i + 9 ≤ L) (hcell : cells + 4 ≤ room_1.cells ∧ slots + 24 ≤ room_1.slots) (kk : LK9 p l e s m below meth c G b i Q cells slots) : LC9 p l e s m below meth c G b i Q cells slots 1105 := by
  intro Mx Mm v S hXo hMn ok
  obtain ⟨cx, hX, hbl, hL, hl, hN⟩ := C
  have hbA : ¬ (fun q => s.heap.size ≤ q) b := Nat.not_le.mpr hbl
  have hA : ∀ q, s.heap.size ≤ q → (fun q => s.heap.size ≤ q) q := fun _ h => h
  obtain ⟨k, vx, Mx', w, Mm', t, S', hF, hG, hth, hT, hv, hX', hM', ok'⟩ := q_drying (xs (i + 1)) (xs (i + 2)) hXo hMn ok
  obtain ⟨v', hk, hv0⟩ := hkT2 (v := v) hT hv
  have hthr : F_X10_thrown Mm' = some (nI t, Mm') := by unfold F_X10_thrown; rw [hth]
  refine l_aload_n cx dL_law__1105 1 rfl ?_
  refine l_arg cx hX hbl hbA (j := 1) (by omega) hL 0 4 rfl rfl li_1 dL_law__1106 dL_law__1107 dL_law__1109 dL_law__1110 dL_law__1111 ?_
  refine l_arg cx hX hbl hbA (j := 2) (by omega) hL 0 4 rfl rfl li_2 dL_law__1112 dL_law__1113 dL_law__1115 dL_law__1116 dL_law__1117 ?_
  refine l_aload_n cx dL_law__1118 3 rfl ?_
  refine l_callWL (na := 4) (As := [.ref (adX s.heap.size 0), .int (xs (i + 1)), .int (xs (i + 2)), .ref (aoL s.heap.size)]) (rest := []) cx hA (cw_drying l (adX_in _) Mx v (xs (i + 1)) (xs (i + 2)) hl hF hk) lwd_1107 lwd_1108 lwd_100 lwd_1109 (by decide +kernel) ⟨rfl, rfl, Nat.le_of_ble_eq_true rfl, Nat.le_of_ble_eq_true rfl⟩ rfl rfl ⟨by decide, by decide⟩ hcell (Nat.le_of_ble_eq_true rfl) dL_law__1119 hN ?_
  refine l_istore cx 5 ((5, .int (nI t)) :: lvL b s.heap.size i) dL_law__1122 (by decide) rfl ?_
  refine l_aload_n cx dL_law__1124 3 rfl ?_
  refine l_arg cx hX hbl hbA (j := 1) (by omega) hL 1 5 rfl rfl li_1 dL_law__1125 dL_law__1126 dL_law__1128 dL_law__1129 dL_law__1130 ?_
  refine l_arg cx hX hbl hbA (j := 2) (by omega) hL 1 5 rfl rfl li_2 dL_law__1131 dL_law__1132 dL_law__1134 dL_law__1135 dL_law__1136 ?_
  refine l_callML (As := [.int (xs (i + 1)), .int (xs (i + 2))]) (rest := []) cx hA (c_X10_drying l (adM_in _) Mm (xs (i + 1)) (xs (i + 2)) lTM hG) lcvX10_drying ⟨rfl, rfl, Nat.le_of_ble_eq_true rfl, Nat.le_of_ble_eq_true rfl⟩ rfl rfl hcell (Nat.le_of_ble_eq_true rfl) dL_law__1137 ?_
  refine l_istore cx 6 ((6, .int w) :: (5, .int (nI t)) :: lvL b s.heap.size i) dL_law__1140 (by decide) rfl ?_
  refine l_aload_n cx dL_law__1142 4 rfl ?_
  refine l_callML (As := []) (rest := []) cx hA (c_X10_thrown l (adM_in _) Mm' lTM hthr) lcvX10_thrown ⟨rfl, rfl, Nat.le_of_ble_eq_true rfl, Nat.le_of_ble_eq_true rfl⟩ rfl rfl hcell (Nat.le_of_ble_eq_true rfl) dL_law__1143 ?_
  refine l_iload cx dL_law__1146 1 rfl ?_
  refine l_icmp_eq cx 1153 dL_law__1148 (by decide) (fun _ => ?_) (fun h => absurd rfl h)
  refine l_iload cx dL_law__1153 1 rfl ?_
  refine l_if_ne cx 1170 dL_law__1155 (by decide) (fun _ => ?_) (fun h0 => ?_)
  · refine l_goto cx 2765 dL_law__1170 (by decide) ?_
    refine l_sub [2, 3, 4, 5, 6] rfl ?_
    exact kk _ _ _ _ hX' hM' ok'
  · refine l_aload_n cx dL_law__1158 5 rfl ?_
    refine l_iconst cx dL_law__1159 ki_0 ?_
    refine l_laldL cx dL_law__1160 ?_
    refine l_iload cx dL_law__1161 0 rfl ?_
    refine l_i2l cx dL_law__1163 ?_
    refine l_lcmp cx dL_law__1164 ?_
    rw [hv0 h0, lgc_self]
    refine l_if_eq cx 1170 dL_law__1165 (by decide) (fun _ => ?_) (fun h => absurd rfl h)
    refine l_goto cx 2765 dL_law__1170 (by decide) ?_
    refine l_sub [2, 3, 4, 5, 6] rfl ?_
    refine l_conv (P' := LPw G s.heap.size Mx' Mm' v') (fun _ h => by rw [hv0 h0]; exact h) ?_
    exact kk _ _ _ _ hX' hM' ok'
theorem dL_law__1173 : decode code 1173 = .ok (.aload_n 1, 1) := by decide +kernel
theorem dL_law__1174 : decode code 1174 = .ok (.aload_n 0, 1) := by decide +kernel
theorem dL_law__1175 : decode code 1175 = .ok (.iload 4, 2) := by decide +kernel
theorem dL_law__1177 : decode code 1177 = .ok (.iconst 1, 1) := by decide +kernel
theorem dL_law__1178 : decode code 1178 = .ok (.iadd, 1) := by decide +kernel
theorem dL_law__1179 : decode code 1179 = .ok (.iaload, 1) := by decide +kernel
theorem dL_law__1180 : decode code 1180 = .ok (.aload_n 3, 1) := by decide +kernel
set_option maxRecDepth 100000 in
theorem lwd_1118 : Cond.methodLink "SunnyPansLaw" 181 yL_first ∈ tbG := tw5 58 rfl rfl
set_option maxRecDepth 100000 in
theorem lwd_1119 : Cond.static yL_first ∈ tbG := tw5 59 rfl rfl
set_option maxRecDepth 100000 in
theorem lwd_1120 : Cond.codeWith yL_first cL_first 4 (some .int) [(0, 9, 12, 13)] ∈ tbG := tw5 60 rfl rfl
theorem dL_law__1181 : decode code 1181 = .ok (.invokestatic 181, 3) := by decide +kernel
theorem dL_law__1184 : decode code 1184 = .ok (.istore 5, 2) := by decide +kernel
theorem dL_law__1186 : decode code 1186 = .ok (.aload_n 2, 1) := by decide +kernel
theorem dL_law__1187 : decode code 1187 = .ok (.aload_n 0, 1) := by decide +kernel
theorem dL_law__1188 : decode code 1188 = .ok (.iload 4, 2) := by decide +kernel
theorem dL_law__1190 : decode code 1190 = .ok (.iconst 1, 1) := by decide +kernel
theorem dL_law__1191 : decode code 1191 = .ok (.iadd, 1) := by decide +kernel
theorem dL_law__1192 : decode code 1192 = .ok (.iaload, 1) := by decide +kernel
set_option maxRecDepth 100000 in
theorem lwd_1809 : Cond.methodLink "SunnyPansLaw" 183 yX10_first ∈ tbG := tw8 29 rfl rfl
set_option maxRecDepth 100000 in
theorem lwd_1810 : Cond.instanceMethod yX10_first ∈ tbG := tw8 30 rfl rfl
set_option maxRecDepth 100000 in
theorem lwd_1811 : Cond.selects "SunnyPansModel" yX10_first yX10_first ∈ tbG := tw8 31 rfl rfl
set_option maxRecDepth 100000 in
theorem lwd_1812 : Cond.code yX10_first cX10_first 6 (some .int) ∈ tbG := tw8 32 rfl rfl
theorem lcvX10_first : zCV "SunnyPansLaw" 183 "SunnyPansModel" yX10_first cX10_first 6 (some .int) 1 := zCV_of lwd_1809 lwd_1810 lwd_1811 lwd_111 lwd_1812 (by decide +kernel)
theorem dL_law__1193 : decode code 1193 = .ok (.invokevirtual 183, 3) := by decide +kernel
theorem dL_law__1196 : decode code 1196 = .ok (.istore 6, 2) := by decide +kernel
theorem dL_law__1198 : decode code 1198 = .ok (.aload_n 2, 1) := by decide +kernel
theorem dL_law__1199 : decode code 1199 = .ok (.invokevirtual 133, 3) := by decide +kernel
theorem dL_law__1202 : decode code 1202 = .ok (.iload 5, 2) := by decide +kernel
theorem dL_law__1204 : decode code 1204 = .ok (.if_icmp .eq 5, 3) := by decide +kernel
theorem dL_law__1209 : decode code 1209 = .ok (.iload 5, 2) := by decide +kernel
theorem dL_law__1211 : decode code 1211 = .ok (.ifCond .ne 15, 3) := by decide +kernel
theorem dL_law__1226 : decode code 1226 = .ok (.goto 1539, 3) := by decide +kernel
theorem dL_law__1214 : decode code 1214 = .ok (.aload_n 3, 1) := by decide +kernel
theorem dL_law__1215 : decode code 1215 = .ok (.iconst 0, 1) := by decide +kernel
theorem dL_law__1216 : decode code 1216 = .ok (.laload, 1) := by decide +kernel
theorem dL_law__1217 : decode code 1217 = .ok (.iload 6, 2) := by decide +kernel
theorem dL_law__1219 : decode code 1219 = .ok (.i2l, 1) := by decide +kernel
theorem dL_law__1220 : decode code 1220 = .ok (.lcmp, 1) := by decide +kernel
theorem dL_law__1221 : decode code 1221 = .ok (.ifCond .eq 5, 3) := by decide +kernel
set_option maxHeartbeats 4000000 in
theorem lc_first {p : Program} {l : Launch} {e : Env} {s : State} {m : MethodId} {below : List Frame} {meth : Method} {c : Code} {G : zG} {b L i cells slots : Nat} {xs : Nat → Int32} {Q : State → Prop} (C : LW9 p l s m meth c G b L xs) (hi : i + 9 ≤ L) (hcell : cells + 4 ≤ room_1.cells ∧ slots + 24 ≤ room_1.slots) (kk : LK9 p l e s m below meth c G b i Q cells slots) : LC9 p l e s m below meth c G b i Q cells slots 1173 := by
  intro Mx Mm v S hXo hMn ok
  obtain ⟨cx, hX, hbl, hL, hl, hN⟩ := C
  have hbA : ¬ (fun q => s.heap.size ≤ q) b := Nat.not_le.mpr hbl
  have hA : ∀ q, s.heap.size ≤ q → (fun q => s.heap.size ≤ q) q := fun _ h => h
  obtain ⟨k, vx, Mx', w, Mm', t, S', hF, hG, hth, hT, hv, hX', hM', ok'⟩ := q_first (xs (i + 1)) hXo hMn ok
  obtain ⟨v', hk, hv0⟩ := hkT1 (v := v) hT hv
  have hthr : F_X10_thrown Mm' = some (nI t, Mm') := by unfold F_X10_thrown; rw [hth]
  refine l_aload_n cx dL_law__1173 1 rfl ?_
  refine l_arg cx hX hbl hbA (j := 1) (by omega) hL 0 4 rfl rfl li_1 dL_law__1174 dL_law__1175 dL_law__1177 dL_law__1178 dL_law__1179 ?_
  refine l_aload_n cx dL_law__1180 3 rfl ?_
  refine l_callWL (na := 3) (As := [.ref (adX s.heap.size 0), .int (xs (i + 1)), .ref (aoL s.heap.size)]) (rest := []) cx hA (cw_first l (adX_in _) Mx v (xs (i + 1)) hl hF hk) lwd_1118 lwd_1119 lwd_100 lwd_1120 (by decide +kernel) ⟨rfl, rfl, Nat.le_of_ble_eq_true rfl, Nat.le_of_ble_eq_true rfl⟩ rfl rfl ⟨by decide, by decide⟩ hcell (Nat.le_of_ble_eq_true rfl) dL_law__1181 hN ?_
  refine l_istore cx 5 ((5, .int (nI t)) :: lvL b s.heap.size i) dL_law__1184 (by decide) rfl ?_
  refine l_aload_n cx dL_law__1186 3 rfl ?_
  refine l_arg cx hX hbl hbA (j := 1) (by omega) hL 1 5 rfl rfl li_1 dL_law__1187 dL_law__1188 dL_law__1190 dL_law__1191 dL_law__1192 ?_
  refine l_callML (As := [.int (xs (i + 1))]) (rest := []) cx hA (c_X10_first l (adM_in _) Mm (xs (i + 1)) lTM hG) lcvX10_first ⟨rfl, rfl, Nat.le_of_ble_eq_true rfl, Nat.le_of_ble_eq_true rfl⟩ rfl rfl hcell (Nat.le_of_ble_eq_true rfl) dL_law__1193 ?_
  refine l_istore cx 6 ((6, .int w) :: (5, .int (nI t)) :: lvL b s.heap.size i) dL_law__1196 (by decide) rfl ?_
  refine l_aload_n cx dL_law__1198 4 rfl ?_
  refine l_callML (As := []) (rest := []) cx hA (c_X10_thrown l (adM_in _) Mm' lTM hthr) lcvX10_thrown ⟨rfl, rfl, Nat.le_of_ble_eq_true rfl, Nat.le_of_ble_eq_true rfl⟩ rfl rfl hcell (Nat.le_of_ble_eq_true rfl) dL_law__1199 ?_
  refine l_iload cx dL_law__1202 1 rfl ?_
  refine l_icmp_eq cx 1209 dL_law__1204 (by decide) (fun _ => ?_) (fun h => absurd rfl h)
  refine l_iload cx dL_law__1209 1 rfl ?_
  refine l_if_ne cx 1226 dL_law__1211 (by decide) (fun _ => ?_) (fun h0 => ?_)
  · refine l_goto cx 2765 dL_law__1226 (by decide) ?_
    refine l_sub [2, 3, 4, 5, 6] rfl ?_
    exact kk _ _ _ _ hX' hM' ok'
  · refine l_aload_n cx dL_law__1214 5 rfl ?_
    refine l_iconst cx dL_law__1215 ki_0 ?_
    refine l_laldL cx dL_law__1216 ?_
    refine l_iload cx dL_law__1217 0 rfl ?_
    refine l_i2l cx dL_law__1219 ?_
    refine l_lcmp cx dL_law__1220 ?_
    rw [hv0 h0, lgc_self]
    refine l_if_eq cx 1226 dL_law__1221 (by decide) (fun _ => ?_) (fun h => absurd rfl h)
    refine l_goto cx 2765 dL_law__1226 (by decide) ?_
    refine l_sub [2, 3, 4, 5, 6] rfl ?_
    refine l_conv (P' := LPw G s.heap.size Mx' Mm' v') (fun _ h => by rw [hv0 h0]; exact h) ?_
    exact kk _ _ _ _ hX' hM' ok'
theorem dL_law__1229 : decode code 1229 = .ok (.aload_n 1, 1) := by decide +kernel
theorem dL_law__1230 : decode code 1230 = .ok (.aload_n 0, 1) := by decide +kernel
theorem dL_law__1231 : decode code 1231 = .ok (.iload 4, 2) := by decide +kernel
theorem dL_law__1233 : decode code 1233 = .ok (.iconst 1, 1) := by decide +kernel
theorem dL_law__1234 : decode code 1234 = .ok (.iadd, 1) := by decide +kernel
theorem dL_law__1235 : decode code 1235 = .ok (.iaload, 1) := by decide +kernel
theorem dL_law__1236 : decode code 1236 = .ok (.aload_n 0, 1) := by decide +kernel
theorem dL_law__1237 : decode code 1237 = .ok (.iload 4, 2) := by decide +kernel
theorem dL_law__1239 : decode code 1239 = .ok (.iconst 2, 1) := by decide +kernel
theorem dL_law__1240 : decode code 1240 = .ok (.iadd, 1) := by decide +kernel
theorem dL_law__1241 : decode code 1241 = .ok (.iaload, 1) := by decide +kernel
theorem dL_law__1242 : decode code 1242 = .ok (.aload_n 3, 1) := by decide +kernel
set_option maxRecDepth 100000 in
theorem lwd_1140 : Cond.methodLink "SunnyPansLaw" 184 yL_site ∈ tbG := tw5 80 rfl rfl
set_option maxRecDepth 100000 in
theorem lwd_1141 : Cond.static yL_site ∈ tbG := tw5 81 rfl rfl
set_option maxRecDepth 100000 in
theorem lwd_1142 : Cond.codeWith yL_site cL_site 5 (some .int) [(0, 10, 13, 13)] ∈ tbG := tw5 82 rfl rfl
theorem dL_law__1243 : decode code 1243 = .ok (.invokestatic 184, 3) := by decide +kernel
theorem dL_law__1246 : decode code 1246 = .ok (.istore 5, 2) := by decide +kernel
theorem dL_law__1248 : decode code 1248 = .ok (.aload_n 2, 1) := by decide +kernel
theorem dL_law__1249 : decode code 1249 = .ok (.aload_n 0, 1) := by decide +kernel
theorem dL_law__1250 : decode code 1250 = .ok (.iload 4, 2) := by decide +kernel
theorem dL_law__1252 : decode code 1252 = .ok (.iconst 1, 1) := by decide +kernel
theorem dL_law__1253 : decode code 1253 = .ok (.iadd, 1) := by decide +kernel
theorem dL_law__1254 : decode code 1254 = .ok (.iaload, 1) := by decide +kernel
theorem dL_law__1255 : decode code 1255 = .ok (.aload_n 0, 1) := by decide +kernel
theorem dL_law__1256 : decode code 1256 = .ok (.iload 4, 2) := by decide +kernel
theorem dL_law__1258 : decode code 1258 = .ok (.iconst 2, 1) := by decide +kernel
theorem dL_law__1259 : decode code 1259 = .ok (.iadd, 1) := by decide +kernel
theorem dL_law__1260 : decode code 1260 = .ok (.iaload, 1) := by decide +kernel
set_option maxRecDepth 100000 in
theorem lwd_1816 : Cond.methodLink "SunnyPansLaw" 186 yX10_site ∈ tbG := tw8 36 rfl rfl
set_option maxRecDepth 100000 in
theorem lwd_1817 : Cond.instanceMethod yX10_site ∈ tbG := tw8 37 rfl rfl
set_option maxRecDepth 100000 in
theorem lwd_1818 : Cond.selects "SunnyPansModel" yX10_site yX10_site ∈ tbG := tw8 38 rfl rfl
set_option maxRecDepth 100000 in
theorem lwd_1819 : Cond.code yX10_site cX10_site 7 (some .int) ∈ tbG := tw8 39 rfl rfl
theorem lcvX10_site : zCV "SunnyPansLaw" 186 "SunnyPansModel" yX10_site cX10_site 7 (some .int) 2 := zCV_of lwd_1816 lwd_1817 lwd_1818 lwd_111 lwd_1819 (by decide +kernel)
theorem dL_law__1261 : decode code 1261 = .ok (.invokevirtual 186, 3) := by decide +kernel
theorem dL_law__1264 : decode code 1264 = .ok (.istore 6, 2) := by decide +kernel
theorem dL_law__1266 : decode code 1266 = .ok (.aload_n 2, 1) := by decide +kernel
theorem dL_law__1267 : decode code 1267 = .ok (.invokevirtual 133, 3) := by decide +kernel
theorem dL_law__1270 : decode code 1270 = .ok (.iload 5, 2) := by decide +kernel
theorem dL_law__1272 : decode code 1272 = .ok (.if_icmp .eq 5, 3) := by decide +kernel
theorem dL_law__1277 : decode code 1277 = .ok (.iload 5, 2) := by decide +kernel
theorem dL_law__1279 : decode code 1279 = .ok (.ifCond .ne 15, 3) := by decide +kernel
theorem dL_law__1294 : decode code 1294 = .ok (.goto 1471, 3) := by decide +kernel
theorem dL_law__1282 : decode code 1282 = .ok (.aload_n 3, 1) := by decide +kernel
theorem dL_law__1283 : decode code 1283 = .ok (.iconst 0, 1) := by decide +kernel
theorem dL_law__1284 : decode code 1284 = .ok (.laload, 1) := by decide +kernel
theorem dL_law__1285 : decode code 1285 = .ok (.iload 6, 2) := by decide +kernel
theorem dL_law__1287 : decode code 1287 = .ok (.i2l, 1) := by decide +kernel
theorem dL_law__1288 : decode code 1288 = .ok (.lcmp, 1) := by decide +kernel
theorem dL_law__1289 : decode code 1289 = .ok (.ifCond .eq 5, 3) := by decide +kernel
set_option maxHeartbeats 4000000 in
theorem lc_site {p : Program} {l : Launch} {e : Env} {s : State} {m : MethodId} {below : List Frame} {meth : Method} {c : Code} {G : zG} {b L i cells slots : Nat} {xs : Nat → Int32} {Q : State → Prop} (C : LW9 p l s m meth c G b L xs) (hi : i + 9 ≤ L) (hcell : cells + 4 ≤ room_1.cells ∧ slots + 24 ≤ room_1.slots) (kk : LK9 p l e s m below meth c G b i Q cells slots) : LC9 p l e s m below meth c G b i Q cells slots 1229 := by
  intro Mx Mm v S hXo hMn ok
  obtain ⟨cx, hX, hbl, hL, hl, hN⟩ := C
  have hbA : ¬ (fun q => s.heap.size ≤ q) b := Nat.not_le.mpr hbl
  have hA : ∀ q, s.heap.size ≤ q → (fun q => s.heap.size ≤ q) q := fun _ h => h
  obtain ⟨k, vx, Mx', w, Mm', t, S', hF, hG, hth, hT, hv, hX', hM', ok'⟩ := q_site (xs (i + 1)) (xs (i + 2)) hXo hMn ok
  obtain ⟨v', hk, hv0⟩ := hkT1 (v := v) hT hv
  have hthr : F_X10_thrown Mm' = some (nI t, Mm') := by unfold F_X10_thrown; rw [hth]
  refine l_aload_n cx dL_law__1229 1 rfl ?_
  refine l_arg cx hX hbl hbA (j := 1) (by omega) hL 0 4 rfl rfl li_1 dL_law__1230 dL_law__1231 dL_law__1233 dL_law__1234 dL_law__1235 ?_
  refine l_arg cx hX hbl hbA (j := 2) (by omega) hL 0 4 rfl rfl li_2 dL_law__1236 dL_law__1237 dL_law__1239 dL_law__1240 dL_law__1241 ?_
  refine l_aload_n cx dL_law__1242 3 rfl ?_
  refine l_callWL (na := 4) (As := [.ref (adX s.heap.size 0), .int (xs (i + 1)), .int (xs (i + 2)), .ref (aoL s.heap.size)]) (rest := []) cx hA (cw_site l (adX_in _) Mx v (xs (i + 1)) (xs (i + 2)) hl hF hk) lwd_1140 lwd_1141 lwd_100 lwd_1142 (by decide +kernel) ⟨rfl, rfl, Nat.le_of_ble_eq_true rfl, Nat.le_of_ble_eq_true rfl⟩ rfl rfl ⟨by decide, by decide⟩ hcell (Nat.le_of_ble_eq_true rfl) dL_law__1243 hN ?_
  refine l_istore cx 5 ((5, .int (nI t)) :: lvL b s.heap.size i) dL_law__1246 (by decide) rfl ?_
  refine l_aload_n cx dL_law__1248 3 rfl ?_
  refine l_arg cx hX hbl hbA (j := 1) (by omega) hL 1 5 rfl rfl li_1 dL_law__1249 dL_law__1250 dL_law__1252 dL_law__1253 dL_law__1254 ?_
  refine l_arg cx hX hbl hbA (j := 2) (by omega) hL 1 5 rfl rfl li_2 dL_law__1255 dL_law__1256 dL_law__1258 dL_law__1259 dL_law__1260 ?_
  refine l_callML (As := [.int (xs (i + 1)), .int (xs (i + 2))]) (rest := []) cx hA (c_X10_site l (adM_in _) Mm (xs (i + 1)) (xs (i + 2)) lTM hG) lcvX10_site ⟨rfl, rfl, Nat.le_of_ble_eq_true rfl, Nat.le_of_ble_eq_true rfl⟩ rfl rfl hcell (Nat.le_of_ble_eq_true rfl) dL_law__1261 ?_
  refine l_istore cx 6 ((6, .int w) :: (5, .int (nI t)) :: lvL b s.heap.size i) dL_law__1264 (by decide) rfl ?_
  refine l_aload_n cx dL_law__1266 4 rfl ?_
  refine l_callML (As := []) (rest := []) cx hA (c_X10_thrown l (adM_in _) Mm' lTM hthr) lcvX10_thrown ⟨rfl, rfl, Nat.le_of_ble_eq_true rfl, Nat.le_of_ble_eq_true rfl⟩ rfl rfl hcell (Nat.le_of_ble_eq_true rfl) dL_law__1267 ?_
  refine l_iload cx dL_law__1270 1 rfl ?_
  refine l_icmp_eq cx 1277 dL_law__1272 (by decide) (fun _ => ?_) (fun h => absurd rfl h)
  refine l_iload cx dL_law__1277 1 rfl ?_
  refine l_if_ne cx 1294 dL_law__1279 (by decide) (fun _ => ?_) (fun h0 => ?_)
  · refine l_goto cx 2765 dL_law__1294 (by decide) ?_
    refine l_sub [2, 3, 4, 5, 6] rfl ?_
    exact kk _ _ _ _ hX' hM' ok'
  · refine l_aload_n cx dL_law__1282 5 rfl ?_
    refine l_iconst cx dL_law__1283 ki_0 ?_
    refine l_laldL cx dL_law__1284 ?_
    refine l_iload cx dL_law__1285 0 rfl ?_
    refine l_i2l cx dL_law__1287 ?_
    refine l_lcmp cx dL_law__1288 ?_
    rw [hv0 h0, lgc_self]
    refine l_if_eq cx 1294 dL_law__1289 (by decide) (fun _ => ?_) (fun h => absurd rfl h)
    refine l_goto cx 2765 dL_law__1294 (by decide) ?_
    refine l_sub [2, 3, 4, 5, 6] rfl ?_
    refine l_conv (P' := LPw G s.heap.size Mx' Mm' v') (fun _ h => by rw [hv0 h0]; exact h) ?_
    exact kk _ _ _ _ hX' hM' ok'
theorem dL_law__1297 : decode code 1297 = .ok (.aload_n 1, 1) := by decide +kernel
theorem dL_law__1298 : decode code 1298 = .ok (.aload_n 0, 1) := by decide +kernel
theorem dL_law__1299 : decode code 1299 = .ok (.iload 4, 2) := by decide +kernel
theorem dL_law__1301 : decode code 1301 = .ok (.iconst 1, 1) := by decide +kernel
theorem dL_law__1302 : decode code 1302 = .ok (.iadd, 1) := by decide +kernel
theorem dL_law__1303 : decode code 1303 = .ok (.iaload, 1) := by decide +kernel
theorem dL_law__1304 : decode code 1304 = .ok (.aload_n 0, 1) := by decide +kernel
theorem dL_law__1305 : decode code 1305 = .ok (.iload 4, 2) := by decide +kernel
theorem dL_law__1307 : decode code 1307 = .ok (.iconst 2, 1) := by decide +kernel
theorem dL_law__1308 : decode code 1308 = .ok (.iadd, 1) := by decide +kernel
theorem dL_law__1309 : decode code 1309 = .ok (.iaload, 1) := by decide +kernel
theorem dL_law__1310 : decode code 1310 = .ok (.aload_n 3, 1) := by decide +kernel
set_option maxRecDepth 100000 in
theorem lwd_1174 : Cond.methodLink "SunnyPansLaw" 187 yL_pair ∈ tbG := tw5 114 rfl rfl
set_option maxRecDepth 100000 in
theorem lwd_1175 : Cond.static yL_pair ∈ tbG := tw5 115 rfl rfl
set_option maxRecDepth 100000 in
theorem lwd_1176 : Cond.codeWith yL_pair cL_pair 5 (some .int) [(0, 10, 13, 13)] ∈ tbG := tw5 116 rfl rfl
theorem dL_law__1311 : decode code 1311 = .ok (.invokestatic 187, 3) := by decide +kernel
theorem dL_law__1314 : decode code 1314 = .ok (.istore 5, 2) := by decide +kernel
theorem dL_law__1316 : decode code 1316 = .ok (.aload_n 2, 1) := by decide +kernel
theorem dL_law__1317 : decode code 1317 = .ok (.aload_n 0, 1) := by decide +kernel
theorem dL_law__1318 : decode code 1318 = .ok (.iload 4, 2) := by decide +kernel
theorem dL_law__1320 : decode code 1320 = .ok (.iconst 1, 1) := by decide +kernel
theorem dL_law__1321 : decode code 1321 = .ok (.iadd, 1) := by decide +kernel
theorem dL_law__1322 : decode code 1322 = .ok (.iaload, 1) := by decide +kernel
theorem dL_law__1323 : decode code 1323 = .ok (.aload_n 0, 1) := by decide +kernel
theorem dL_law__1324 : decode code 1324 = .ok (.iload 4, 2) := by decide +kernel
theorem dL_law__1326 : decode code 1326 = .ok (.iconst 2, 1) := by decide +kernel
theorem dL_law__1327 : decode code 1327 = .ok (.iadd, 1) := by decide +kernel
theorem dL_law__1328 : decode code 1328 = .ok (.iaload, 1) := by decide +kernel
set_option maxRecDepth 100000 in
theorem lwd_1828 : Cond.methodLink "SunnyPansLaw" 189 yX10_pair ∈ tbG := tw8 48 rfl rfl
set_option maxRecDepth 100000 in
theorem lwd_1829 : Cond.instanceMethod yX10_pair ∈ tbG := tw8 49 rfl rfl
set_option maxRecDepth 100000 in
theorem lwd_1830 : Cond.selects "SunnyPansModel" yX10_pair yX10_pair ∈ tbG := tw8 50 rfl rfl
set_option maxRecDepth 100000 in
theorem lwd_1831 : Cond.code yX10_pair cX10_pair 9 (some .int) ∈ tbG := tw8 51 rfl rfl
theorem lcvX10_pair : zCV "SunnyPansLaw" 189 "SunnyPansModel" yX10_pair cX10_pair 9 (some .int) 2 := zCV_of lwd_1828 lwd_1829 lwd_1830 lwd_111 lwd_1831 (by decide +kernel)
theorem dL_law__1329 : decode code 1329 = .ok (.invokevirtual 189, 3) := by decide +kernel
theorem dL_law__1332 : decode code 1332 = .ok (.istore 6, 2) := by decide +kernel
theorem dL_law__1334 : decode code 1334 = .ok (.aload_n 2, 1) := by decide +kernel
theorem dL_law__1335 : decode code 1335 = .ok (.invokevirtual 133, 3) := by decide +kernel
theorem dL_law__1338 : decode code 1338 = .ok (.iload 5, 2) := by decide +kernel
theorem dL_law__1340 : decode code 1340 = .ok (.if_icmp .eq 5, 3) := by decide +kernel
theorem dL_law__1345 : decode code 1345 = .ok (.iload 5, 2) := by decide +kernel
theorem dL_law__1347 : decode code 1347 = .ok (.ifCond .ne 15, 3) := by decide +kernel
theorem dL_law__1362 : decode code 1362 = .ok (.goto 1403, 3) := by decide +kernel
theorem dL_law__1350 : decode code 1350 = .ok (.aload_n 3, 1) := by decide +kernel
theorem dL_law__1351 : decode code 1351 = .ok (.iconst 0, 1) := by decide +kernel
theorem dL_law__1352 : decode code 1352 = .ok (.laload, 1) := by decide +kernel
theorem dL_law__1353 : decode code 1353 = .ok (.iload 6, 2) := by decide +kernel
theorem dL_law__1355 : decode code 1355 = .ok (.i2l, 1) := by decide +kernel
theorem dL_law__1356 : decode code 1356 = .ok (.lcmp, 1) := by decide +kernel
theorem dL_law__1357 : decode code 1357 = .ok (.ifCond .eq 5, 3) := by decide +kernel
set_option maxHeartbeats 4000000 in
theorem lc_pair {p : Program} {l : Launch} {e : Env} {s : State} {m : MethodId} {below : List Frame} {meth : Method} {c : Code} {G : zG} {b L i cells slots : Nat} {xs : Nat → Int32} {Q : State → Prop} (C : LW9 p l s m meth c G b L xs) (hi : i + 9 ≤ L) (hcell : cells + 4 ≤ room_1.cells ∧ slots + 24 ≤ room_1.slots) (kk : LK9 p l e s m below meth c G b i Q cells slots) : LC9 p l e s m below meth c G b i Q cells slots 1297 := by
  intro Mx Mm v S hXo hMn ok
  obtain ⟨cx, hX, hbl, hL, hl, hN⟩ := C
  have hbA : ¬ (fun q => s.heap.size ≤ q) b := Nat.not_le.mpr hbl
  have hA : ∀ q, s.heap.size ≤ q → (fun q => s.heap.size ≤ q) q := fun _ h => h
  obtain ⟨k, vx, Mx', w, Mm', t, S', hF, hG, hth, hT, hv, hX', hM', ok'⟩ := q_pair (xs (i + 1)) (xs (i + 2)) hXo hMn ok
  obtain ⟨v', hk, hv0⟩ := hkT1 (v := v) hT hv
  have hthr : F_X10_thrown Mm' = some (nI t, Mm') := by unfold F_X10_thrown; rw [hth]
  refine l_aload_n cx dL_law__1297 1 rfl ?_
  refine l_arg cx hX hbl hbA (j := 1) (by omega) hL 0 4 rfl rfl li_1 dL_law__1298 dL_law__1299 dL_law__1301 dL_law__1302 dL_law__1303 ?_
  refine l_arg cx hX hbl hbA (j := 2) (by omega) hL 0 4 rfl rfl li_2 dL_law__1304 dL_law__1305 dL_law__1307 dL_law__1308 dL_law__1309 ?_
  refine l_aload_n cx dL_law__1310 3 rfl ?_
  refine l_callWL (na := 4) (As := [.ref (adX s.heap.size 0), .int (xs (i + 1)), .int (xs (i + 2)), .ref (aoL s.heap.size)]) (rest := []) cx hA (cw_pair l (adX_in _) Mx v (xs (i + 1)) (xs (i + 2)) hl hF hk) lwd_1174 lwd_1175 lwd_100 lwd_1176 (by decide +kernel) ⟨rfl, rfl, Nat.le_of_ble_eq_true rfl, Nat.le_of_ble_eq_true rfl⟩ rfl rfl ⟨by decide, by decide⟩ hcell (Nat.le_of_ble_eq_true rfl) dL_law__1311 hN ?_
  refine l_istore cx 5 ((5, .int (nI t)) :: lvL b s.heap.size i) dL_law__1314 (by decide) rfl ?_
  refine l_aload_n cx dL_law__1316 3 rfl ?_
  refine l_arg cx hX hbl hbA (j := 1) (by omega) hL 1 5 rfl rfl li_1 dL_law__1317 dL_law__1318 dL_law__1320 dL_law__1321 dL_law__1322 ?_
  refine l_arg cx hX hbl hbA (j := 2) (by omega) hL 1 5 rfl rfl li_2 dL_law__1323 dL_law__1324 dL_law__1326 dL_law__1327 dL_law__1328 ?_
  refine l_callML (As := [.int (xs (i + 1)), .int (xs (i + 2))]) (rest := []) cx hA (c_X10_pair l (adM_in _) Mm (xs (i + 1)) (xs (i + 2)) lTM hG) lcvX10_pair ⟨rfl, rfl, Nat.le_of_ble_eq_true rfl, Nat.le_of_ble_eq_true rfl⟩ rfl rfl hcell (Nat.le_of_ble_eq_true rfl) dL_law__1329 ?_
  refine l_istore cx 6 ((6, .int w) :: (5, .int (nI t)) :: lvL b s.heap.size i) dL_law__1332 (by decide) rfl ?_
  refine l_aload_n cx dL_law__1334 4 rfl ?_
  refine l_callML (As := []) (rest := []) cx hA (c_X10_thrown l (adM_in _) Mm' lTM hthr) lcvX10_thrown ⟨rfl, rfl, Nat.le_of_ble_eq_true rfl, Nat.le_of_ble_eq_true rfl⟩ rfl rfl hcell (Nat.le_of_ble_eq_true rfl) dL_law__1335 ?_
  refine l_iload cx dL_law__1338 1 rfl ?_
  refine l_icmp_eq cx 1345 dL_law__1340 (by decide) (fun _ => ?_) (fun h => absurd rfl h)
  refine l_iload cx dL_law__1345 1 rfl ?_
  refine l_if_ne cx 1362 dL_law__1347 (by decide) (fun _ => ?_) (fun h0 => ?_)
  · refine l_goto cx 2765 dL_law__1362 (by decide) ?_
    refine l_sub [2, 3, 4, 5, 6] rfl ?_
    exact kk _ _ _ _ hX' hM' ok'
  · refine l_aload_n cx dL_law__1350 5 rfl ?_
    refine l_iconst cx dL_law__1351 ki_0 ?_
    refine l_laldL cx dL_law__1352 ?_
    refine l_iload cx dL_law__1353 0 rfl ?_
    refine l_i2l cx dL_law__1355 ?_
    refine l_lcmp cx dL_law__1356 ?_
    rw [hv0 h0, lgc_self]
    refine l_if_eq cx 1362 dL_law__1357 (by decide) (fun _ => ?_) (fun h => absurd rfl h)
    refine l_goto cx 2765 dL_law__1362 (by decide) ?_
    refine l_sub [2, 3, 4, 5, 6] rfl ?_
    refine l_conv (P' := LPw G s.heap.size Mx' Mm' v') (fun _ h => by rw [hv0 h0]; exact h) ?_
    exact kk _ _ _ _ hX' hM' ok'
theorem dL_law__1365 : decode code 1365 = .ok (.aload_n 1, 1) := by decide +kernel
theorem dL_law__1366 : decode code 1366 = .ok (.aload_n 0, 1) := by decide +kernel
theorem dL_law__1367 : decode code 1367 = .ok (.iload 4, 2) := by decide +kernel
theorem dL_law__1369 : decode code 1369 = .ok (.iconst 1, 1) := by decide +kernel
theorem dL_law__1370 : decode code 1370 = .ok (.iadd, 1) := by decide +kernel
theorem dL_law__1371 : decode code 1371 = .ok (.iaload, 1) := by decide +kernel
theorem dL_law__1372 : decode code 1372 = .ok (.aload_n 3, 1) := by decide +kernel
set_option maxRecDepth 100000 in
theorem lwd_1182 : Cond.methodLink "SunnyPansLaw" 190 yL_relief ∈ tbG := tw5 122 rfl rfl
set_option maxRecDepth 100000 in
theorem lwd_1183 : Cond.static yL_relief ∈ tbG := tw5 123 rfl rfl
set_option maxRecDepth 100000 in
theorem lwd_1184 : Cond.codeWith yL_relief cL_relief 4 (some .int) [(0, 9, 12, 13)] ∈ tbG := tw5 124 rfl rfl
theorem dL_law__1373 : decode code 1373 = .ok (.invokestatic 190, 3) := by decide +kernel
theorem dL_law__1376 : decode code 1376 = .ok (.istore 5, 2) := by decide +kernel
theorem dL_law__1378 : decode code 1378 = .ok (.aload_n 2, 1) := by decide +kernel
theorem dL_law__1379 : decode code 1379 = .ok (.aload_n 0, 1) := by decide +kernel
theorem dL_law__1380 : decode code 1380 = .ok (.iload 4, 2) := by decide +kernel
theorem dL_law__1382 : decode code 1382 = .ok (.iconst 1, 1) := by decide +kernel
theorem dL_law__1383 : decode code 1383 = .ok (.iadd, 1) := by decide +kernel
theorem dL_law__1384 : decode code 1384 = .ok (.iaload, 1) := by decide +kernel
set_option maxRecDepth 100000 in
theorem lwd_1832 : Cond.methodLink "SunnyPansLaw" 192 yX10_relief ∈ tbG := tw8 52 rfl rfl
set_option maxRecDepth 100000 in
theorem lwd_1833 : Cond.instanceMethod yX10_relief ∈ tbG := tw8 53 rfl rfl
set_option maxRecDepth 100000 in
theorem lwd_1834 : Cond.selects "SunnyPansModel" yX10_relief yX10_relief ∈ tbG := tw8 54 rfl rfl
set_option maxRecDepth 100000 in
theorem lwd_1835 : Cond.code yX10_relief cX10_relief 8 (some .int) ∈ tbG := tw8 55 rfl rfl
theorem lcvX10_relief : zCV "SunnyPansLaw" 192 "SunnyPansModel" yX10_relief cX10_relief 8 (some .int) 1 := zCV_of lwd_1832 lwd_1833 lwd_1834 lwd_111 lwd_1835 (by decide +kernel)
theorem dL_law__1385 : decode code 1385 = .ok (.invokevirtual 192, 3) := by decide +kernel
theorem dL_law__1388 : decode code 1388 = .ok (.istore 6, 2) := by decide +kernel
theorem dL_law__1390 : decode code 1390 = .ok (.aload_n 2, 1) := by decide +kernel
theorem dL_law__1391 : decode code 1391 = .ok (.invokevirtual 133, 3) := by decide +kernel
theorem dL_law__1394 : decode code 1394 = .ok (.iload 5, 2) := by decide +kernel
theorem dL_law__1396 : decode code 1396 = .ok (.if_icmp .eq 5, 3) := by decide +kernel
theorem dL_law__1401 : decode code 1401 = .ok (.iload 5, 2) := by decide +kernel
theorem dL_law__1403 : decode code 1403 = .ok (.ifCond .ne 15, 3) := by decide +kernel
theorem dL_law__1418 : decode code 1418 = .ok (.goto 1347, 3) := by decide +kernel
theorem dL_law__1406 : decode code 1406 = .ok (.aload_n 3, 1) := by decide +kernel
theorem dL_law__1407 : decode code 1407 = .ok (.iconst 0, 1) := by decide +kernel
theorem dL_law__1408 : decode code 1408 = .ok (.laload, 1) := by decide +kernel
theorem dL_law__1409 : decode code 1409 = .ok (.iload 6, 2) := by decide +kernel
theorem dL_law__1411 : decode code 1411 = .ok (.i2l, 1) := by decide +kernel
theorem dL_law__1412 : decode code 1412 = .ok (.lcmp, 1) := by decide +kernel
theorem dL_law__1413 : decode code 1413 = .ok (.ifCond .eq 5, 3) := by decide +kernel
set_option maxHeartbeats 4000000 in
theorem lc_relief {p : Program} {l : Launch} {e : Env} {s : State} {m : MethodId} {below : List Frame} {meth : Method} {c : Code} {G : zG} {b L i cells slots : Nat} {xs : Nat → Int32} {Q : State → Prop} (C : LW9 p l s m meth c G b L xs) (hi : i + 9 ≤ L) (hcell : cells + 4 ≤ room_1.cells ∧ slots + 24 ≤ room_1.slots) (kk : LK9 p l e s m below meth c G b i Q cells slots) : LC9 p l e s m below meth c G b i Q cells slots 1365 := by
  intro Mx Mm v S hXo hMn ok
  obtain ⟨cx, hX, hbl, hL, hl, hN⟩ := C
  have hbA : ¬ (fun q => s.heap.size ≤ q) b := Nat.not_le.mpr hbl
  have hA : ∀ q, s.heap.size ≤ q → (fun q => s.heap.size ≤ q) q := fun _ h => h
  obtain ⟨k, vx, Mx', w, Mm', t, S', hF, hG, hth, hT, hv, hX', hM', ok'⟩ := q_relief (xs (i + 1)) hXo hMn ok
  obtain ⟨v', hk, hv0⟩ := hkT1 (v := v) hT hv
  have hthr : F_X10_thrown Mm' = some (nI t, Mm') := by unfold F_X10_thrown; rw [hth]
  refine l_aload_n cx dL_law__1365 1 rfl ?_
  refine l_arg cx hX hbl hbA (j := 1) (by omega) hL 0 4 rfl rfl li_1 dL_law__1366 dL_law__1367 dL_law__1369 dL_law__1370 dL_law__1371 ?_
  refine l_aload_n cx dL_law__1372 3 rfl ?_
  refine l_callWL (na := 3) (As := [.ref (adX s.heap.size 0), .int (xs (i + 1)), .ref (aoL s.heap.size)]) (rest := []) cx hA (cw_relief l (adX_in _) Mx v (xs (i + 1)) hl hF hk) lwd_1182 lwd_1183 lwd_100 lwd_1184 (by decide +kernel) ⟨rfl, rfl, Nat.le_of_ble_eq_true rfl, Nat.le_of_ble_eq_true rfl⟩ rfl rfl ⟨by decide, by decide⟩ hcell (Nat.le_of_ble_eq_true rfl) dL_law__1373 hN ?_
  refine l_istore cx 5 ((5, .int (nI t)) :: lvL b s.heap.size i) dL_law__1376 (by decide) rfl ?_
  refine l_aload_n cx dL_law__1378 3 rfl ?_
  refine l_arg cx hX hbl hbA (j := 1) (by omega) hL 1 5 rfl rfl li_1 dL_law__1379 dL_law__1380 dL_law__1382 dL_law__1383 dL_law__1384 ?_
  refine l_callML (As := [.int (xs (i + 1))]) (rest := []) cx hA (c_X10_relief l (adM_in _) Mm (xs (i + 1)) lTM hG) lcvX10_relief ⟨rfl, rfl, Nat.le_of_ble_eq_true rfl, Nat.le_of_ble_eq_true rfl⟩ rfl rfl hcell (Nat.le_of_ble_eq_true rfl) dL_law__1385 ?_
  refine l_istore cx 6 ((6, .int w) :: (5, .int (nI t)) :: lvL b s.heap.size i) dL_law__1388 (by decide) rfl ?_
  refine l_aload_n cx dL_law__1390 4 rfl ?_
  refine l_callML (As := []) (rest := []) cx hA (c_X10_thrown l (adM_in _) Mm' lTM hthr) lcvX10_thrown ⟨rfl, rfl, Nat.le_of_ble_eq_true rfl, Nat.le_of_ble_eq_true rfl⟩ rfl rfl hcell (Nat.le_of_ble_eq_true rfl) dL_law__1391 ?_
  refine l_iload cx dL_law__1394 1 rfl ?_
  refine l_icmp_eq cx 1401 dL_law__1396 (by decide) (fun _ => ?_) (fun h => absurd rfl h)
  refine l_iload cx dL_law__1401 1 rfl ?_
  refine l_if_ne cx 1418 dL_law__1403 (by decide) (fun _ => ?_) (fun h0 => ?_)
  · refine l_goto cx 2765 dL_law__1418 (by decide) ?_
    refine l_sub [2, 3, 4, 5, 6] rfl ?_
    exact kk _ _ _ _ hX' hM' ok'
  · refine l_aload_n cx dL_law__1406 5 rfl ?_
    refine l_iconst cx dL_law__1407 ki_0 ?_
    refine l_laldL cx dL_law__1408 ?_
    refine l_iload cx dL_law__1409 0 rfl ?_
    refine l_i2l cx dL_law__1411 ?_
    refine l_lcmp cx dL_law__1412 ?_
    rw [hv0 h0, lgc_self]
    refine l_if_eq cx 1418 dL_law__1413 (by decide) (fun _ => ?_) (fun h => absurd rfl h)
    refine l_goto cx 2765 dL_law__1418 (by decide) ?_
    refine l_sub [2, 3, 4, 5, 6] rfl ?_
    refine l_conv (P' := LPw G s.heap.size Mx' Mm' v') (fun _ h => by rw [hv0 h0]; exact h) ?_
    exact kk _ _ _ _ hX' hM' ok'
theorem dL_law__1421 : decode code 1421 = .ok (.aload_n 1, 1) := by decide +kernel
theorem dL_law__1422 : decode code 1422 = .ok (.aload_n 0, 1) := by decide +kernel
theorem dL_law__1423 : decode code 1423 = .ok (.iload 4, 2) := by decide +kernel
theorem dL_law__1425 : decode code 1425 = .ok (.iconst 1, 1) := by decide +kernel
theorem dL_law__1426 : decode code 1426 = .ok (.iadd, 1) := by decide +kernel
theorem dL_law__1427 : decode code 1427 = .ok (.iaload, 1) := by decide +kernel
theorem dL_law__1428 : decode code 1428 = .ok (.aload_n 0, 1) := by decide +kernel
theorem dL_law__1429 : decode code 1429 = .ok (.iload 4, 2) := by decide +kernel
theorem dL_law__1431 : decode code 1431 = .ok (.iconst 2, 1) := by decide +kernel
theorem dL_law__1432 : decode code 1432 = .ok (.iadd, 1) := by decide +kernel
theorem dL_law__1433 : decode code 1433 = .ok (.iaload, 1) := by decide +kernel
theorem dL_law__1434 : decode code 1434 = .ok (.aload_n 0, 1) := by decide +kernel
theorem dL_law__1435 : decode code 1435 = .ok (.iload 4, 2) := by decide +kernel
theorem dL_law__1437 : decode code 1437 = .ok (.iconst 3, 1) := by decide +kernel
theorem dL_law__1438 : decode code 1438 = .ok (.iadd, 1) := by decide +kernel
theorem dL_law__1439 : decode code 1439 = .ok (.iaload, 1) := by decide +kernel
theorem dL_law__1440 : decode code 1440 = .ok (.aload_n 0, 1) := by decide +kernel
theorem dL_law__1441 : decode code 1441 = .ok (.iload 4, 2) := by decide +kernel
theorem dL_law__1443 : decode code 1443 = .ok (.iconst 4, 1) := by decide +kernel
theorem dL_law__1444 : decode code 1444 = .ok (.iadd, 1) := by decide +kernel
theorem dL_law__1445 : decode code 1445 = .ok (.iaload, 1) := by decide +kernel
theorem dL_law__1446 : decode code 1446 = .ok (.aload_n 3, 1) := by decide +kernel
set_option maxRecDepth 100000 in
theorem lwd_1201 : Cond.methodLink "SunnyPansLaw" 193 yL_way ∈ tbG := tw5 141 rfl rfl
set_option maxRecDepth 100000 in
theorem lwd_1202 : Cond.static yL_way ∈ tbG := tw5 142 rfl rfl
set_option maxRecDepth 100000 in
theorem lwd_1203 : Cond.codeWith yL_way cL_way 7 (some .int) [(0, 14, 17, 31)] ∈ tbG := tw5 143 rfl rfl
theorem dL_law__1447 : decode code 1447 = .ok (.invokestatic 193, 3) := by decide +kernel
theorem dL_law__1450 : decode code 1450 = .ok (.istore 5, 2) := by decide +kernel
theorem dL_law__1452 : decode code 1452 = .ok (.aload_n 2, 1) := by decide +kernel
theorem dL_law__1453 : decode code 1453 = .ok (.aload_n 0, 1) := by decide +kernel
theorem dL_law__1454 : decode code 1454 = .ok (.iload 4, 2) := by decide +kernel
theorem dL_law__1456 : decode code 1456 = .ok (.iconst 1, 1) := by decide +kernel
theorem dL_law__1457 : decode code 1457 = .ok (.iadd, 1) := by decide +kernel
theorem dL_law__1458 : decode code 1458 = .ok (.iaload, 1) := by decide +kernel
theorem dL_law__1459 : decode code 1459 = .ok (.aload_n 0, 1) := by decide +kernel
theorem dL_law__1460 : decode code 1460 = .ok (.iload 4, 2) := by decide +kernel
theorem dL_law__1462 : decode code 1462 = .ok (.iconst 2, 1) := by decide +kernel
theorem dL_law__1463 : decode code 1463 = .ok (.iadd, 1) := by decide +kernel
theorem dL_law__1464 : decode code 1464 = .ok (.iaload, 1) := by decide +kernel
theorem dL_law__1465 : decode code 1465 = .ok (.aload_n 0, 1) := by decide +kernel
theorem dL_law__1466 : decode code 1466 = .ok (.iload 4, 2) := by decide +kernel
theorem dL_law__1468 : decode code 1468 = .ok (.iconst 3, 1) := by decide +kernel
theorem dL_law__1469 : decode code 1469 = .ok (.iadd, 1) := by decide +kernel
theorem dL_law__1470 : decode code 1470 = .ok (.iaload, 1) := by decide +kernel
theorem dL_law__1471 : decode code 1471 = .ok (.aload_n 0, 1) := by decide +kernel
theorem dL_law__1472 : decode code 1472 = .ok (.iload 4, 2) := by decide +kernel
theorem dL_law__1474 : decode code 1474 = .ok (.iconst 4, 1) := by decide +kernel
theorem dL_law__1475 : decode code 1475 = .ok (.iadd, 1) := by decide +kernel
theorem dL_law__1476 : decode code 1476 = .ok (.iaload, 1) := by decide +kernel
set_option maxRecDepth 100000 in
theorem lwd_1836 : Cond.methodLink "SunnyPansLaw" 196 yX10_way ∈ tbG := tw8 56 rfl rfl
set_option maxRecDepth 100000 in
theorem lwd_1837 : Cond.instanceMethod yX10_way ∈ tbG := tw8 57 rfl rfl
set_option maxRecDepth 100000 in
theorem lwd_1838 : Cond.selects "SunnyPansModel" yX10_way yX10_way ∈ tbG := tw8 58 rfl rfl
set_option maxRecDepth 100000 in
theorem lwd_1839 : Cond.code yX10_way cX10_way 5 (some .int) ∈ tbG := tw8 59 rfl rfl
theorem lcvX10_way : zCV "SunnyPansLaw" 196 "SunnyPansModel" yX10_way cX10_way 5 (some .int) 4 := zCV_of lwd_1836 lwd_1837 lwd_1838 lwd_111 lwd_1839 (by decide +kernel)
theorem dL_law__1477 : decode code 1477 = .ok (.invokevirtual 196, 3) := by decide +kernel
theorem dL_law__1480 : decode code 1480 = .ok (.istore 6, 2) := by decide +kernel
theorem dL_law__1482 : decode code 1482 = .ok (.aload_n 2, 1) := by decide +kernel
theorem dL_law__1483 : decode code 1483 = .ok (.invokevirtual 133, 3) := by decide +kernel
theorem dL_law__1486 : decode code 1486 = .ok (.iload 5, 2) := by decide +kernel
theorem dL_law__1488 : decode code 1488 = .ok (.if_icmp .eq 5, 3) := by decide +kernel
theorem dL_law__1493 : decode code 1493 = .ok (.iload 5, 2) := by decide +kernel
theorem dL_law__1495 : decode code 1495 = .ok (.ifCond .ne 15, 3) := by decide +kernel
theorem dL_law__1510 : decode code 1510 = .ok (.goto 1255, 3) := by decide +kernel
theorem dL_law__1498 : decode code 1498 = .ok (.aload_n 3, 1) := by decide +kernel
theorem dL_law__1499 : decode code 1499 = .ok (.iconst 0, 1) := by decide +kernel
theorem dL_law__1500 : decode code 1500 = .ok (.laload, 1) := by decide +kernel
theorem dL_law__1501 : decode code 1501 = .ok (.iload 6, 2) := by decide +kernel
theorem dL_law__1503 : decode code 1503 = .ok (.i2l, 1) := by decide +kernel
theorem dL_law__1504 : decode code 1504 = .ok (.lcmp, 1) := by decide +kernel
theorem dL_law__1505 : decode code 1505 = .ok (.ifCond .eq 5, 3) := by decide +kernel
set_option maxHeartbeats 4000000 in
theorem lc_way {p : Program} {l : Launch} {e : Env} {s : State} {m : MethodId} {below : List Frame} {meth : Method} {c : Code} {G : zG} {b L i cells slots : Nat} {xs : Nat → Int32} {Q : State → Prop} (C : LW9 p l s m meth c G b L xs) (hi : i + 9 ≤ L) (hcell : cells + 4 ≤ room_1.cells ∧ slots + 24 ≤ room_1.slots) (kk : LK9 p l e s m below meth c G b i Q cells slots) : LC9 p l e s m below meth c G b i Q cells slots 1421 := by
  intro Mx Mm v S hXo hMn ok
  obtain ⟨cx, hX, hbl, hL, hl, hN⟩ := C
  have hbA : ¬ (fun q => s.heap.size ≤ q) b := Nat.not_le.mpr hbl
  have hA : ∀ q, s.heap.size ≤ q → (fun q => s.heap.size ≤ q) q := fun _ h => h
  obtain ⟨k, vx, Mx', w, Mm', t, S', hF, hG, hth, hT, hv, hX', hM', ok'⟩ := q_way (xs (i + 1)) (xs (i + 2)) (xs (i + 3)) (xs (i + 4)) hXo hMn ok
  obtain ⟨v', hk, hv0⟩ := hkT2 (v := v) hT hv
  have hthr : F_X10_thrown Mm' = some (nI t, Mm') := by unfold F_X10_thrown; rw [hth]
  refine l_aload_n cx dL_law__1421 1 rfl ?_
  refine l_arg cx hX hbl hbA (j := 1) (by omega) hL 0 4 rfl rfl li_1 dL_law__1422 dL_law__1423 dL_law__1425 dL_law__1426 dL_law__1427 ?_
  refine l_arg cx hX hbl hbA (j := 2) (by omega) hL 0 4 rfl rfl li_2 dL_law__1428 dL_law__1429 dL_law__1431 dL_law__1432 dL_law__1433 ?_
  refine l_arg cx hX hbl hbA (j := 3) (by omega) hL 0 4 rfl rfl li_3 dL_law__1434 dL_law__1435 dL_law__1437 dL_law__1438 dL_law__1439 ?_
  refine l_arg cx hX hbl hbA (j := 4) (by omega) hL 0 4 rfl rfl li_4 dL_law__1440 dL_law__1441 dL_law__1443 dL_law__1444 dL_law__1445 ?_
  refine l_aload_n cx dL_law__1446 3 rfl ?_
  refine l_callWL (na := 6) (As := [.ref (adX s.heap.size 0), .int (xs (i + 1)), .int (xs (i + 2)), .int (xs (i + 3)), .int (xs (i + 4)), .ref (aoL s.heap.size)]) (rest := []) cx hA (cw_way l (adX_in _) Mx v (xs (i + 1)) (xs (i + 2)) (xs (i + 3)) (xs (i + 4)) hl hF hk) lwd_1201 lwd_1202 lwd_100 lwd_1203 (by decide +kernel) ⟨rfl, rfl, Nat.le_of_ble_eq_true rfl, Nat.le_of_ble_eq_true rfl⟩ rfl rfl ⟨by decide, by decide⟩ hcell (Nat.le_of_ble_eq_true rfl) dL_law__1447 hN ?_
  refine l_istore cx 5 ((5, .int (nI t)) :: lvL b s.heap.size i) dL_law__1450 (by decide) rfl ?_
  refine l_aload_n cx dL_law__1452 3 rfl ?_
  refine l_arg cx hX hbl hbA (j := 1) (by omega) hL 1 5 rfl rfl li_1 dL_law__1453 dL_law__1454 dL_law__1456 dL_law__1457 dL_law__1458 ?_
  refine l_arg cx hX hbl hbA (j := 2) (by omega) hL 1 5 rfl rfl li_2 dL_law__1459 dL_law__1460 dL_law__1462 dL_law__1463 dL_law__1464 ?_
  refine l_arg cx hX hbl hbA (j := 3) (by omega) hL 1 5 rfl rfl li_3 dL_law__1465 dL_law__1466 dL_law__1468 dL_law__1469 dL_law__1470 ?_
  refine l_arg cx hX hbl hbA (j := 4) (by omega) hL 1 5 rfl rfl li_4 dL_law__1471 dL_law__1472 dL_law__1474 dL_law__1475 dL_law__1476 ?_
  refine l_callML (As := [.int (xs (i + 1)), .int (xs (i + 2)), .int (xs (i + 3)), .int (xs (i + 4))]) (rest := []) cx hA (c_X10_way l (adM_in _) Mm (xs (i + 1)) (xs (i + 2)) (xs (i + 3)) (xs (i + 4)) lTM hG) lcvX10_way ⟨rfl, rfl, Nat.le_of_ble_eq_true rfl, Nat.le_of_ble_eq_true rfl⟩ rfl rfl hcell (Nat.le_of_ble_eq_true rfl) dL_law__1477 ?_
  refine l_istore cx 6 ((6, .int w) :: (5, .int (nI t)) :: lvL b s.heap.size i) dL_law__1480 (by decide) rfl ?_
  refine l_aload_n cx dL_law__1482 4 rfl ?_
  refine l_callML (As := []) (rest := []) cx hA (c_X10_thrown l (adM_in _) Mm' lTM hthr) lcvX10_thrown ⟨rfl, rfl, Nat.le_of_ble_eq_true rfl, Nat.le_of_ble_eq_true rfl⟩ rfl rfl hcell (Nat.le_of_ble_eq_true rfl) dL_law__1483 ?_
  refine l_iload cx dL_law__1486 1 rfl ?_
  refine l_icmp_eq cx 1493 dL_law__1488 (by decide) (fun _ => ?_) (fun h => absurd rfl h)
  refine l_iload cx dL_law__1493 1 rfl ?_
  refine l_if_ne cx 1510 dL_law__1495 (by decide) (fun _ => ?_) (fun h0 => ?_)
  · refine l_goto cx 2765 dL_law__1510 (by decide) ?_
    refine l_sub [2, 3, 4, 5, 6] rfl ?_
    exact kk _ _ _ _ hX' hM' ok'
  · refine l_aload_n cx dL_law__1498 5 rfl ?_
    refine l_iconst cx dL_law__1499 ki_0 ?_
    refine l_laldL cx dL_law__1500 ?_
    refine l_iload cx dL_law__1501 0 rfl ?_
    refine l_i2l cx dL_law__1503 ?_
    refine l_lcmp cx dL_law__1504 ?_
    rw [hv0 h0, lgc_self]
    refine l_if_eq cx 1510 dL_law__1505 (by decide) (fun _ => ?_) (fun h => absurd rfl h)
    refine l_goto cx 2765 dL_law__1510 (by decide) ?_
    refine l_sub [2, 3, 4, 5, 6] rfl ?_
    refine l_conv (P' := LPw G s.heap.size Mx' Mm' v') (fun _ h => by rw [hv0 h0]; exact h) ?_
    exact kk _ _ _ _ hX' hM' ok'
theorem dL_law__1513 : decode code 1513 = .ok (.aload_n 1, 1) := by decide +kernel
theorem dL_law__1514 : decode code 1514 = .ok (.aload_n 0, 1) := by decide +kernel
theorem dL_law__1515 : decode code 1515 = .ok (.iload 4, 2) := by decide +kernel
theorem dL_law__1517 : decode code 1517 = .ok (.iconst 1, 1) := by decide +kernel
theorem dL_law__1518 : decode code 1518 = .ok (.iadd, 1) := by decide +kernel
theorem dL_law__1519 : decode code 1519 = .ok (.iaload, 1) := by decide +kernel
theorem dL_law__1520 : decode code 1520 = .ok (.aload_n 0, 1) := by decide +kernel
theorem dL_law__1521 : decode code 1521 = .ok (.iload 4, 2) := by decide +kernel
theorem dL_law__1523 : decode code 1523 = .ok (.iconst 2, 1) := by decide +kernel
theorem dL_law__1524 : decode code 1524 = .ok (.iadd, 1) := by decide +kernel
theorem dL_law__1525 : decode code 1525 = .ok (.iaload, 1) := by decide +kernel
theorem dL_law__1526 : decode code 1526 = .ok (.aload_n 3, 1) := by decide +kernel
set_option maxRecDepth 100000 in
theorem lwd_1214 : Cond.methodLink "SunnyPansLaw" 197 yL_fits ∈ tbG := tw5 154 rfl rfl
set_option maxRecDepth 100000 in
theorem lwd_1215 : Cond.static yL_fits ∈ tbG := tw5 155 rfl rfl
set_option maxRecDepth 100000 in
theorem lwd_1216 : Cond.codeWith yL_fits cL_fits 5 (some .int) [(0, 10, 13, 13)] ∈ tbG := tw5 156 rfl rfl
theorem dL_law__1527 : decode code 1527 = .ok (.invokestatic 197, 3) := by decide +kernel
theorem dL_law__1530 : decode code 1530 = .ok (.istore 5, 2) := by decide +kernel
theorem dL_law__1532 : decode code 1532 = .ok (.aload_n 2, 1) := by decide +kernel
theorem dL_law__1533 : decode code 1533 = .ok (.aload_n 0, 1) := by decide +kernel
theorem dL_law__1534 : decode code 1534 = .ok (.iload 4, 2) := by decide +kernel
theorem dL_law__1536 : decode code 1536 = .ok (.iconst 1, 1) := by decide +kernel
theorem dL_law__1537 : decode code 1537 = .ok (.iadd, 1) := by decide +kernel
theorem dL_law__1538 : decode code 1538 = .ok (.iaload, 1) := by decide +kernel
theorem dL_law__1539 : decode code 1539 = .ok (.aload_n 0, 1) := by decide +kernel
theorem dL_law__1540 : decode code 1540 = .ok (.iload 4, 2) := by decide +kernel
theorem dL_law__1542 : decode code 1542 = .ok (.iconst 2, 1) := by decide +kernel
theorem dL_law__1543 : decode code 1543 = .ok (.iadd, 1) := by decide +kernel
theorem dL_law__1544 : decode code 1544 = .ok (.iaload, 1) := by decide +kernel
set_option maxRecDepth 100000 in
theorem lwd_1848 : Cond.methodLink "SunnyPansLaw" 199 yX10_fits ∈ tbG := tw8 68 rfl rfl
set_option maxRecDepth 100000 in
theorem lwd_1849 : Cond.instanceMethod yX10_fits ∈ tbG := tw8 69 rfl rfl
set_option maxRecDepth 100000 in
theorem lwd_1850 : Cond.selects "SunnyPansModel" yX10_fits yX10_fits ∈ tbG := tw8 70 rfl rfl
set_option maxRecDepth 100000 in
theorem lwd_1851 : Cond.code yX10_fits cX10_fits 6 (some .int) ∈ tbG := tw8 71 rfl rfl
theorem lcvX10_fits : zCV "SunnyPansLaw" 199 "SunnyPansModel" yX10_fits cX10_fits 6 (some .int) 2 := zCV_of lwd_1848 lwd_1849 lwd_1850 lwd_111 lwd_1851 (by decide +kernel)
theorem dL_law__1545 : decode code 1545 = .ok (.invokevirtual 199, 3) := by decide +kernel
theorem dL_law__1548 : decode code 1548 = .ok (.istore 6, 2) := by decide +kernel
theorem dL_law__1550 : decode code 1550 = .ok (.aload_n 2, 1) := by decide +kernel
theorem dL_law__1551 : decode code 1551 = .ok (.invokevirtual 133, 3) := by decide +kernel
theorem dL_law__1554 : decode code 1554 = .ok (.iload 5, 2) := by decide +kernel
theorem dL_law__1556 : decode code 1556 = .ok (.if_icmp .eq 5, 3) := by decide +kernel
theorem dL_law__1561 : decode code 1561 = .ok (.iload 5, 2) := by decide +kernel
theorem dL_law__1563 : decode code 1563 = .ok (.ifCond .ne 15, 3) := by decide +kernel
theorem dL_law__1578 : decode code 1578 = .ok (.goto 1187, 3) := by decide +kernel
theorem dL_law__1566 : decode code 1566 = .ok (.aload_n 3, 1) := by decide +kernel
theorem dL_law__1567 : decode code 1567 = .ok (.iconst 0, 1) := by decide +kernel
theorem dL_law__1568 : decode code 1568 = .ok (.laload, 1) := by decide +kernel
theorem dL_law__1569 : decode code 1569 = .ok (.iload 6, 2) := by decide +kernel
theorem dL_law__1571 : decode code 1571 = .ok (.i2l, 1) := by decide +kernel
theorem dL_law__1572 : decode code 1572 = .ok (.lcmp, 1) := by decide +kernel
theorem dL_law__1573 : decode code 1573 = .ok (.ifCond .eq 5, 3) := by decide +kernel
set_option maxHeartbeats 4000000 in
theorem lc_fits {p : Program} {l : Launch} {e : Env} {s : State} {m : MethodId} {below : List Frame} {meth : Method} {c : Code} {G : zG} {b L i cells slots : Nat} {xs : Nat → Int32} {Q : State → Prop} (C : LW9 p l s m meth c G b L xs) (hi : i + 9 ≤ L) (hcell : cells + 4 ≤ room_1.cells ∧ slots + 24 ≤ room_1.slots) (kk : LK9 p l e s m below meth c G b i Q cells slots) : LC9 p l e s m below meth c G b i Q cells slots 1513 := by
  intro Mx Mm v S hXo hMn ok
  obtain ⟨cx, hX, hbl, hL, hl, hN⟩ := C
  have hbA : ¬ (fun q => s.heap.size ≤ q) b := Nat.not_le.mpr hbl
  have hA : ∀ q, s.heap.size ≤ q → (fun q => s.heap.size ≤ q) q := fun _ h => h
  obtain ⟨k, vx, Mx', w, Mm', t, S', hF, hG, hth, hT, hv, hX', hM', ok'⟩ := q_fits (xs (i + 1)) (xs (i + 2)) hXo hMn ok
  obtain ⟨v', hk, hv0⟩ := hkT1 (v := v) hT hv
  have hthr : F_X10_thrown Mm' = some (nI t, Mm') := by unfold F_X10_thrown; rw [hth]
  refine l_aload_n cx dL_law__1513 1 rfl ?_
  refine l_arg cx hX hbl hbA (j := 1) (by omega) hL 0 4 rfl rfl li_1 dL_law__1514 dL_law__1515 dL_law__1517 dL_law__1518 dL_law__1519 ?_
  refine l_arg cx hX hbl hbA (j := 2) (by omega) hL 0 4 rfl rfl li_2 dL_law__1520 dL_law__1521 dL_law__1523 dL_law__1524 dL_law__1525 ?_
  refine l_aload_n cx dL_law__1526 3 rfl ?_
  refine l_callWL (na := 4) (As := [.ref (adX s.heap.size 0), .int (xs (i + 1)), .int (xs (i + 2)), .ref (aoL s.heap.size)]) (rest := []) cx hA (cw_fits l (adX_in _) Mx v (xs (i + 1)) (xs (i + 2)) hl hF hk) lwd_1214 lwd_1215 lwd_100 lwd_1216 (by decide +kernel) ⟨rfl, rfl, Nat.le_of_ble_eq_true rfl, Nat.le_of_ble_eq_true rfl⟩ rfl rfl ⟨by decide, by decide⟩ hcell (Nat.le_of_ble_eq_true rfl) dL_law__1527 hN ?_
  refine l_istore cx 5 ((5, .int (nI t)) :: lvL b s.heap.size i) dL_law__1530 (by decide) rfl ?_
  refine l_aload_n cx dL_law__1532 3 rfl ?_
  refine l_arg cx hX hbl hbA (j := 1) (by omega) hL 1 5 rfl rfl li_1 dL_law__1533 dL_law__1534 dL_law__1536 dL_law__1537 dL_law__1538 ?_
  refine l_arg cx hX hbl hbA (j := 2) (by omega) hL 1 5 rfl rfl li_2 dL_law__1539 dL_law__1540 dL_law__1542 dL_law__1543 dL_law__1544 ?_
  refine l_callML (As := [.int (xs (i + 1)), .int (xs (i + 2))]) (rest := []) cx hA (c_X10_fits l (adM_in _) Mm (xs (i + 1)) (xs (i + 2)) lTM hG) lcvX10_fits ⟨rfl, rfl, Nat.le_of_ble_eq_true rfl, Nat.le_of_ble_eq_true rfl⟩ rfl rfl hcell (Nat.le_of_ble_eq_true rfl) dL_law__1545 ?_
  refine l_istore cx 6 ((6, .int w) :: (5, .int (nI t)) :: lvL b s.heap.size i) dL_law__1548 (by decide) rfl ?_
  refine l_aload_n cx dL_law__1550 4 rfl ?_
  refine l_callML (As := []) (rest := []) cx hA (c_X10_thrown l (adM_in _) Mm' lTM hthr) lcvX10_thrown ⟨rfl, rfl, Nat.le_of_ble_eq_true rfl, Nat.le_of_ble_eq_true rfl⟩ rfl rfl hcell (Nat.le_of_ble_eq_true rfl) dL_law__1551 ?_
  refine l_iload cx dL_law__1554 1 rfl ?_
  refine l_icmp_eq cx 1561 dL_law__1556 (by decide) (fun _ => ?_) (fun h => absurd rfl h)
  refine l_iload cx dL_law__1561 1 rfl ?_
  refine l_if_ne cx 1578 dL_law__1563 (by decide) (fun _ => ?_) (fun h0 => ?_)
  · refine l_goto cx 2765 dL_law__1578 (by decide) ?_
    refine l_sub [2, 3, 4, 5, 6] rfl ?_
    exact kk _ _ _ _ hX' hM' ok'
  · refine l_aload_n cx dL_law__1566 5 rfl ?_
    refine l_iconst cx dL_law__1567 ki_0 ?_
    refine l_laldL cx dL_law__1568 ?_
    refine l_iload cx dL_law__1569 0 rfl ?_
    refine l_i2l cx dL_law__1571 ?_
    refine l_lcmp cx dL_law__1572 ?_
    rw [hv0 h0, lgc_self]
    refine l_if_eq cx 1578 dL_law__1573 (by decide) (fun _ => ?_) (fun h => absurd rfl h)
    refine l_goto cx 2765 dL_law__1578 (by decide) ?_
    refine l_sub [2, 3, 4, 5, 6] rfl ?_
    refine l_conv (P' := LPw G s.heap.size Mx' Mm' v') (fun _ h => by rw [hv0 h0]; exact h) ?_
    exact kk _ _ _ _ hX' hM' ok'
