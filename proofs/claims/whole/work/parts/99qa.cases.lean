/-! THE LAW: its cases 0 to 6 -/
theorem dL_law__216 : decode code 216 = .ok (.aload_n 1, 1) := by decide +kernel
theorem dL_law__217 : decode code 217 = .ok (.aload_n 0, 1) := by decide +kernel
theorem dL_law__218 : decode code 218 = .ok (.iload 4, 2) := by decide +kernel
theorem dL_law__220 : decode code 220 = .ok (.iconst 1, 1) := by decide +kernel
theorem dL_law__221 : decode code 221 = .ok (.iadd, 1) := by decide +kernel
theorem dL_law__222 : decode code 222 = .ok (.iaload, 1) := by decide +kernel
theorem dL_law__223 : decode code 223 = .ok (.aload_n 0, 1) := by decide +kernel
theorem dL_law__224 : decode code 224 = .ok (.iload 4, 2) := by decide +kernel
theorem dL_law__226 : decode code 226 = .ok (.iconst 2, 1) := by decide +kernel
theorem dL_law__227 : decode code 227 = .ok (.iadd, 1) := by decide +kernel
theorem dL_law__228 : decode code 228 = .ok (.iaload, 1) := by decide +kernel
theorem dL_law__229 : decode code 229 = .ok (.aload_n 0, 1) := by decide +kernel
theorem dL_law__230 : decode code 230 = .ok (.iload 4, 2) := by decide +kernel
theorem dL_law__232 : decode code 232 = .ok (.iconst 3, 1) := by decide +kernel
theorem dL_law__233 : decode code 233 = .ok (.iadd, 1) := by decide +kernel
theorem dL_law__234 : decode code 234 = .ok (.iaload, 1) := by decide +kernel
theorem dL_law__235 : decode code 235 = .ok (.aload_n 0, 1) := by decide +kernel
theorem dL_law__236 : decode code 236 = .ok (.iload 4, 2) := by decide +kernel
theorem dL_law__238 : decode code 238 = .ok (.iconst 4, 1) := by decide +kernel
theorem dL_law__239 : decode code 239 = .ok (.iadd, 1) := by decide +kernel
theorem dL_law__240 : decode code 240 = .ok (.iaload, 1) := by decide +kernel
theorem dL_law__241 : decode code 241 = .ok (.aload_n 0, 1) := by decide +kernel
theorem dL_law__242 : decode code 242 = .ok (.iload 4, 2) := by decide +kernel
theorem dL_law__244 : decode code 244 = .ok (.iconst 5, 1) := by decide +kernel
theorem dL_law__245 : decode code 245 = .ok (.iadd, 1) := by decide +kernel
theorem dL_law__246 : decode code 246 = .ok (.iaload, 1) := by decide +kernel
set_option maxRecDepth 100000 in
theorem lwd_467 : Cond.methodLink "SunnyPansLaw" 122 yX9_feed ∈ tbG := tw2 127 rfl rfl
set_option maxRecDepth 100000 in
theorem lwd_468 : Cond.instanceMethod yX9_feed ∈ tbG := tw2 128 rfl rfl
set_option maxRecDepth 100000 in
theorem lwd_469 : Cond.selects "SunnyPans" yX9_feed yX9_feed ∈ tbG := tw2 129 rfl rfl
set_option maxRecDepth 100000 in
theorem lwd_470 : Cond.code yX9_feed cX9_feed 6 (some .int) ∈ tbG := tw2 130 rfl rfl
theorem lcvX9_feed : zCV "SunnyPansLaw" 122 "SunnyPans" yX9_feed cX9_feed 6 (some .int) 5 := zCV_of lwd_467 lwd_468 lwd_469 lwd_101 lwd_470 (by decide +kernel)
theorem dL_law__247 : decode code 247 = .ok (.invokevirtual 122, 3) := by decide +kernel
theorem dL_law__250 : decode code 250 = .ok (.aload_n 2, 1) := by decide +kernel
theorem dL_law__251 : decode code 251 = .ok (.aload_n 0, 1) := by decide +kernel
theorem dL_law__252 : decode code 252 = .ok (.iload 4, 2) := by decide +kernel
theorem dL_law__254 : decode code 254 = .ok (.iconst 1, 1) := by decide +kernel
theorem dL_law__255 : decode code 255 = .ok (.iadd, 1) := by decide +kernel
theorem dL_law__256 : decode code 256 = .ok (.iaload, 1) := by decide +kernel
theorem dL_law__257 : decode code 257 = .ok (.aload_n 0, 1) := by decide +kernel
theorem dL_law__258 : decode code 258 = .ok (.iload 4, 2) := by decide +kernel
theorem dL_law__260 : decode code 260 = .ok (.iconst 2, 1) := by decide +kernel
theorem dL_law__261 : decode code 261 = .ok (.iadd, 1) := by decide +kernel
theorem dL_law__262 : decode code 262 = .ok (.iaload, 1) := by decide +kernel
theorem dL_law__263 : decode code 263 = .ok (.aload_n 0, 1) := by decide +kernel
theorem dL_law__264 : decode code 264 = .ok (.iload 4, 2) := by decide +kernel
theorem dL_law__266 : decode code 266 = .ok (.iconst 3, 1) := by decide +kernel
theorem dL_law__267 : decode code 267 = .ok (.iadd, 1) := by decide +kernel
theorem dL_law__268 : decode code 268 = .ok (.iaload, 1) := by decide +kernel
theorem dL_law__269 : decode code 269 = .ok (.aload_n 0, 1) := by decide +kernel
theorem dL_law__270 : decode code 270 = .ok (.iload 4, 2) := by decide +kernel
theorem dL_law__272 : decode code 272 = .ok (.iconst 4, 1) := by decide +kernel
theorem dL_law__273 : decode code 273 = .ok (.iadd, 1) := by decide +kernel
theorem dL_law__274 : decode code 274 = .ok (.iaload, 1) := by decide +kernel
theorem dL_law__275 : decode code 275 = .ok (.aload_n 0, 1) := by decide +kernel
theorem dL_law__276 : decode code 276 = .ok (.iload 4, 2) := by decide +kernel
theorem dL_law__278 : decode code 278 = .ok (.iconst 5, 1) := by decide +kernel
theorem dL_law__279 : decode code 279 = .ok (.iadd, 1) := by decide +kernel
theorem dL_law__280 : decode code 280 = .ok (.iaload, 1) := by decide +kernel
set_option maxRecDepth 100000 in
theorem lwd_1520 : Cond.methodLink "SunnyPansLaw" 126 yX10_feed ∈ tbG := tw6 220 rfl rfl
set_option maxRecDepth 100000 in
theorem lwd_1521 : Cond.instanceMethod yX10_feed ∈ tbG := tw6 221 rfl rfl
set_option maxRecDepth 100000 in
theorem lwd_1522 : Cond.selects "SunnyPansModel" yX10_feed yX10_feed ∈ tbG := tw6 222 rfl rfl
set_option maxRecDepth 100000 in
theorem lwd_111 : Cond.initialized "SunnyPansModel" ∈ tbG := tw1 11 rfl rfl
set_option maxRecDepth 100000 in
theorem lwd_1523 : Cond.code yX10_feed cX10_feed 8 (some .int) ∈ tbG := tw6 223 rfl rfl
theorem lcvX10_feed : zCV "SunnyPansLaw" 126 "SunnyPansModel" yX10_feed cX10_feed 8 (some .int) 5 := zCV_of lwd_1520 lwd_1521 lwd_1522 lwd_111 lwd_1523 (by decide +kernel)
theorem dL_law__281 : decode code 281 = .ok (.invokevirtual 126, 3) := by decide +kernel
theorem dL_law__284 : decode code 284 = .ok (.if_icmp .eq 2481, 3) := by decide +kernel
set_option maxHeartbeats 4000000 in
theorem lc_feed {p : Program} {l : Launch} {e : Env} {s : State} {m : MethodId} {below : List Frame} {meth : Method} {c : Code} {G : zG} {b L i cells slots : Nat} {xs : Nat → Int32} {Q : State → Prop} (C : LW9 p l s m meth c G b L xs) (hi : i + 9 ≤ L) (hcell : cells + 4 ≤ room_1.cells ∧ slots + 24 ≤ room_1.slots) (kk : LK9 p l e s m below meth c G b i Q cells slots) : LC9 p l e s m below meth c G b i Q cells slots 216 := by
  intro Mx Mm v S hXo hMn ok
  obtain ⟨cx, hX, hbl, hL, hl, hN⟩ := C
  have hbA : ¬ (fun q => s.heap.size ≤ q) b := Nat.not_le.mpr hbl
  have hA : ∀ q, s.heap.size ≤ q → (fun q => s.heap.size ≤ q) q := fun _ h => h
  obtain ⟨w, Mx', Mm', S', hF, hG, hX', hM', ok'⟩ := q_feed (xs (i + 1)) (xs (i + 2)) (xs (i + 3)) (xs (i + 4)) (xs (i + 5)) hXo hMn ok
  refine l_aload_n cx dL_law__216 1 rfl ?_
  refine l_arg cx hX hbl hbA (j := 1) (by omega) hL 0 4 rfl rfl li_1 dL_law__217 dL_law__218 dL_law__220 dL_law__221 dL_law__222 ?_
  refine l_arg cx hX hbl hbA (j := 2) (by omega) hL 0 4 rfl rfl li_2 dL_law__223 dL_law__224 dL_law__226 dL_law__227 dL_law__228 ?_
  refine l_arg cx hX hbl hbA (j := 3) (by omega) hL 0 4 rfl rfl li_3 dL_law__229 dL_law__230 dL_law__232 dL_law__233 dL_law__234 ?_
  refine l_arg cx hX hbl hbA (j := 4) (by omega) hL 0 4 rfl rfl li_4 dL_law__235 dL_law__236 dL_law__238 dL_law__239 dL_law__240 ?_
  refine l_arg cx hX hbl hbA (j := 5) (by omega) hL 0 4 rfl rfl li_5 dL_law__241 dL_law__242 dL_law__244 dL_law__245 dL_law__246 ?_
  refine l_callXL (As := [.int (xs (i + 1)), .int (xs (i + 2)), .int (xs (i + 3)), .int (xs (i + 4)), .int (xs (i + 5))]) (rest := []) cx hA (c_X9_feed l (adX_in _).1 Mx (xs (i + 1)) (xs (i + 2)) (xs (i + 3)) (xs (i + 4)) (xs (i + 5)) lT0 hF) lcvX9_feed ⟨rfl, rfl, Nat.le_of_ble_eq_true rfl, Nat.le_of_ble_eq_true rfl⟩ rfl rfl ⟨Nat.le_trans (Nat.le_add_right _ 4) hcell.1, Nat.le_trans (Nat.le_add_right _ 24) hcell.2⟩ (Nat.le_of_ble_eq_true rfl) dL_law__247 ?_
  refine l_aload_n cx dL_law__250 2 rfl ?_
  refine l_arg cx hX hbl hbA (j := 1) (by omega) hL 0 4 rfl rfl li_1 dL_law__251 dL_law__252 dL_law__254 dL_law__255 dL_law__256 ?_
  refine l_arg cx hX hbl hbA (j := 2) (by omega) hL 0 4 rfl rfl li_2 dL_law__257 dL_law__258 dL_law__260 dL_law__261 dL_law__262 ?_
  refine l_arg cx hX hbl hbA (j := 3) (by omega) hL 0 4 rfl rfl li_3 dL_law__263 dL_law__264 dL_law__266 dL_law__267 dL_law__268 ?_
  refine l_arg cx hX hbl hbA (j := 4) (by omega) hL 0 4 rfl rfl li_4 dL_law__269 dL_law__270 dL_law__272 dL_law__273 dL_law__274 ?_
  refine l_arg cx hX hbl hbA (j := 5) (by omega) hL 0 4 rfl rfl li_5 dL_law__275 dL_law__276 dL_law__278 dL_law__279 dL_law__280 ?_
  refine l_callML (As := [.int (xs (i + 1)), .int (xs (i + 2)), .int (xs (i + 3)), .int (xs (i + 4)), .int (xs (i + 5))]) (rest := [.int w]) cx hA (c_X10_feed l (adM_in _) Mm (xs (i + 1)) (xs (i + 2)) (xs (i + 3)) (xs (i + 4)) (xs (i + 5)) lTM hG) lcvX10_feed ⟨rfl, rfl, Nat.le_of_ble_eq_true rfl, Nat.le_of_ble_eq_true rfl⟩ rfl rfl ⟨Nat.le_trans (Nat.le_add_right _ 4) hcell.1, Nat.le_trans (Nat.le_add_right _ 24) hcell.2⟩ (Nat.le_of_ble_eq_true rfl) dL_law__281 ?_
  refine l_icmp_eq cx 2765 dL_law__284 (by decide) (fun _ => ?_) (fun h => absurd rfl h)
  exact l_widen (Nat.le_add_right _ 4) (Nat.le_add_right _ 24) (kk _ _ _ _ hX' hM' ok')
theorem dL_law__289 : decode code 289 = .ok (.aload_n 1, 1) := by decide +kernel
theorem dL_law__290 : decode code 290 = .ok (.aload_n 0, 1) := by decide +kernel
theorem dL_law__291 : decode code 291 = .ok (.iload 4, 2) := by decide +kernel
theorem dL_law__293 : decode code 293 = .ok (.iconst 1, 1) := by decide +kernel
theorem dL_law__294 : decode code 294 = .ok (.iadd, 1) := by decide +kernel
theorem dL_law__295 : decode code 295 = .ok (.iaload, 1) := by decide +kernel
theorem dL_law__296 : decode code 296 = .ok (.aload_n 3, 1) := by decide +kernel
set_option maxRecDepth 100000 in
theorem lwd_514 : Cond.methodLink "SunnyPansLaw" 127 yL_works ∈ tbG := tw2 174 rfl rfl
set_option maxRecDepth 100000 in
theorem lwd_515 : Cond.static yL_works ∈ tbG := tw2 175 rfl rfl
set_option maxRecDepth 100000 in
theorem lwd_100 : Cond.initialized "SunnyPansLaw" ∈ tbG := tw1 0 rfl rfl
set_option maxRecDepth 100000 in
theorem lwd_516 : Cond.codeWith yL_works cL_works 4 (some .int) [(0, 9, 12, 13)] ∈ tbG := tw2 176 rfl rfl
theorem dL_law__297 : decode code 297 = .ok (.invokestatic 127, 3) := by decide +kernel
theorem dL_law__300 : decode code 300 = .ok (.istore 5, 2) := by decide +kernel
theorem dL_law__302 : decode code 302 = .ok (.aload_n 2, 1) := by decide +kernel
theorem dL_law__303 : decode code 303 = .ok (.aload_n 0, 1) := by decide +kernel
theorem dL_law__304 : decode code 304 = .ok (.iload 4, 2) := by decide +kernel
theorem dL_law__306 : decode code 306 = .ok (.iconst 1, 1) := by decide +kernel
theorem dL_law__307 : decode code 307 = .ok (.iadd, 1) := by decide +kernel
theorem dL_law__308 : decode code 308 = .ok (.iaload, 1) := by decide +kernel
set_option maxRecDepth 100000 in
theorem lwd_1524 : Cond.methodLink "SunnyPansLaw" 132 yX10_works ∈ tbG := tw6 224 rfl rfl
set_option maxRecDepth 100000 in
theorem lwd_1525 : Cond.instanceMethod yX10_works ∈ tbG := tw6 225 rfl rfl
set_option maxRecDepth 100000 in
theorem lwd_1526 : Cond.selects "SunnyPansModel" yX10_works yX10_works ∈ tbG := tw6 226 rfl rfl
set_option maxRecDepth 100000 in
theorem lwd_1527 : Cond.code yX10_works cX10_works 2 (some .int) ∈ tbG := tw6 227 rfl rfl
theorem lcvX10_works : zCV "SunnyPansLaw" 132 "SunnyPansModel" yX10_works cX10_works 2 (some .int) 1 := zCV_of lwd_1524 lwd_1525 lwd_1526 lwd_111 lwd_1527 (by decide +kernel)
theorem dL_law__309 : decode code 309 = .ok (.invokevirtual 132, 3) := by decide +kernel
theorem dL_law__312 : decode code 312 = .ok (.istore 6, 2) := by decide +kernel
theorem dL_law__314 : decode code 314 = .ok (.aload_n 2, 1) := by decide +kernel
set_option maxRecDepth 100000 in
theorem lwd_1516 : Cond.methodLink "SunnyPansLaw" 133 yX10_thrown ∈ tbG := tw6 216 rfl rfl
set_option maxRecDepth 100000 in
theorem lwd_1517 : Cond.instanceMethod yX10_thrown ∈ tbG := tw6 217 rfl rfl
set_option maxRecDepth 100000 in
theorem lwd_1518 : Cond.selects "SunnyPansModel" yX10_thrown yX10_thrown ∈ tbG := tw6 218 rfl rfl
set_option maxRecDepth 100000 in
theorem lwd_1519 : Cond.code yX10_thrown cX10_thrown 1 (some .int) ∈ tbG := tw6 219 rfl rfl
theorem lcvX10_thrown : zCV "SunnyPansLaw" 133 "SunnyPansModel" yX10_thrown cX10_thrown 1 (some .int) 0 := zCV_of lwd_1516 lwd_1517 lwd_1518 lwd_111 lwd_1519 (by decide +kernel)
theorem dL_law__315 : decode code 315 = .ok (.invokevirtual 133, 3) := by decide +kernel
theorem dL_law__318 : decode code 318 = .ok (.iload 5, 2) := by decide +kernel
theorem dL_law__320 : decode code 320 = .ok (.if_icmp .eq 5, 3) := by decide +kernel
theorem dL_law__325 : decode code 325 = .ok (.iload 5, 2) := by decide +kernel
theorem dL_law__327 : decode code 327 = .ok (.ifCond .ne 15, 3) := by decide +kernel
theorem dL_law__342 : decode code 342 = .ok (.goto 2423, 3) := by decide +kernel
theorem dL_law__330 : decode code 330 = .ok (.aload_n 3, 1) := by decide +kernel
theorem dL_law__331 : decode code 331 = .ok (.iconst 0, 1) := by decide +kernel
theorem dL_law__332 : decode code 332 = .ok (.laload, 1) := by decide +kernel
theorem dL_law__333 : decode code 333 = .ok (.iload 6, 2) := by decide +kernel
theorem dL_law__335 : decode code 335 = .ok (.i2l, 1) := by decide +kernel
theorem dL_law__336 : decode code 336 = .ok (.lcmp, 1) := by decide +kernel
theorem dL_law__337 : decode code 337 = .ok (.ifCond .eq 5, 3) := by decide +kernel
set_option maxHeartbeats 4000000 in
theorem lc_works {p : Program} {l : Launch} {e : Env} {s : State} {m : MethodId} {below : List Frame} {meth : Method} {c : Code} {G : zG} {b L i cells slots : Nat} {xs : Nat → Int32} {Q : State → Prop} (C : LW9 p l s m meth c G b L xs) (hi : i + 9 ≤ L) (hcell : cells + 4 ≤ room_1.cells ∧ slots + 24 ≤ room_1.slots) (kk : LK9 p l e s m below meth c G b i Q cells slots) : LC9 p l e s m below meth c G b i Q cells slots 289 := by
  intro Mx Mm v S hXo hMn ok
  obtain ⟨cx, hX, hbl, hL, hl, hN⟩ := C
  have hbA : ¬ (fun q => s.heap.size ≤ q) b := Nat.not_le.mpr hbl
  have hA : ∀ q, s.heap.size ≤ q → (fun q => s.heap.size ≤ q) q := fun _ h => h
  obtain ⟨k, vx, Mx', w, Mm', t, S', hF, hG, hth, hT, hv, hX', hM', ok'⟩ := q_works (xs (i + 1)) hXo hMn ok
  obtain ⟨v', hk, hv0⟩ := hkT1 (v := v) hT hv
  have hthr : F_X10_thrown Mm' = some (nI t, Mm') := by unfold F_X10_thrown; rw [hth]
  refine l_aload_n cx dL_law__289 1 rfl ?_
  refine l_arg cx hX hbl hbA (j := 1) (by omega) hL 0 4 rfl rfl li_1 dL_law__290 dL_law__291 dL_law__293 dL_law__294 dL_law__295 ?_
  refine l_aload_n cx dL_law__296 3 rfl ?_
  refine l_callWL (na := 3) (As := [.ref (adX s.heap.size 0), .int (xs (i + 1)), .ref (aoL s.heap.size)]) (rest := []) cx hA (cw_works l (adX_in _) Mx v (xs (i + 1)) hl hF hk) lwd_514 lwd_515 lwd_100 lwd_516 (by decide +kernel) ⟨rfl, rfl, Nat.le_of_ble_eq_true rfl, Nat.le_of_ble_eq_true rfl⟩ rfl rfl ⟨by decide, by decide⟩ hcell (Nat.le_of_ble_eq_true rfl) dL_law__297 hN ?_
  refine l_istore cx 5 ((5, .int (nI t)) :: lvL b s.heap.size i) dL_law__300 (by decide) rfl ?_
  refine l_aload_n cx dL_law__302 3 rfl ?_
  refine l_arg cx hX hbl hbA (j := 1) (by omega) hL 1 5 rfl rfl li_1 dL_law__303 dL_law__304 dL_law__306 dL_law__307 dL_law__308 ?_
  refine l_callML (As := [.int (xs (i + 1))]) (rest := []) cx hA (c_X10_works l (adM_in _) Mm (xs (i + 1)) lTM hG) lcvX10_works ⟨rfl, rfl, Nat.le_of_ble_eq_true rfl, Nat.le_of_ble_eq_true rfl⟩ rfl rfl hcell (Nat.le_of_ble_eq_true rfl) dL_law__309 ?_
  refine l_istore cx 6 ((6, .int w) :: (5, .int (nI t)) :: lvL b s.heap.size i) dL_law__312 (by decide) rfl ?_
  refine l_aload_n cx dL_law__314 4 rfl ?_
  refine l_callML (As := []) (rest := []) cx hA (c_X10_thrown l (adM_in _) Mm' lTM hthr) lcvX10_thrown ⟨rfl, rfl, Nat.le_of_ble_eq_true rfl, Nat.le_of_ble_eq_true rfl⟩ rfl rfl hcell (Nat.le_of_ble_eq_true rfl) dL_law__315 ?_
  refine l_iload cx dL_law__318 1 rfl ?_
  refine l_icmp_eq cx 325 dL_law__320 (by decide) (fun _ => ?_) (fun h => absurd rfl h)
  refine l_iload cx dL_law__325 1 rfl ?_
  refine l_if_ne cx 342 dL_law__327 (by decide) (fun _ => ?_) (fun h0 => ?_)
  · refine l_goto cx 2765 dL_law__342 (by decide) ?_
    refine l_sub [2, 3, 4, 5, 6] rfl ?_
    exact kk _ _ _ _ hX' hM' ok'
  · refine l_aload_n cx dL_law__330 5 rfl ?_
    refine l_iconst cx dL_law__331 ki_0 ?_
    refine l_laldL cx dL_law__332 ?_
    refine l_iload cx dL_law__333 0 rfl ?_
    refine l_i2l cx dL_law__335 ?_
    refine l_lcmp cx dL_law__336 ?_
    rw [hv0 h0, lgc_self]
    refine l_if_eq cx 342 dL_law__337 (by decide) (fun _ => ?_) (fun h => absurd rfl h)
    refine l_goto cx 2765 dL_law__342 (by decide) ?_
    refine l_sub [2, 3, 4, 5, 6] rfl ?_
    refine l_conv (P' := LPw G s.heap.size Mx' Mm' v') (fun _ h => by rw [hv0 h0]; exact h) ?_
    exact kk _ _ _ _ hX' hM' ok'
theorem dL_law__345 : decode code 345 = .ok (.aload_n 1, 1) := by decide +kernel
theorem dL_law__346 : decode code 346 = .ok (.aload_n 0, 1) := by decide +kernel
theorem dL_law__347 : decode code 347 = .ok (.iload 4, 2) := by decide +kernel
theorem dL_law__349 : decode code 349 = .ok (.iconst 1, 1) := by decide +kernel
theorem dL_law__350 : decode code 350 = .ok (.iadd, 1) := by decide +kernel
theorem dL_law__351 : decode code 351 = .ok (.iaload, 1) := by decide +kernel
theorem dL_law__352 : decode code 352 = .ok (.aload_n 3, 1) := by decide +kernel
set_option maxRecDepth 100000 in
theorem lwd_770 : Cond.methodLink "SunnyPansLaw" 137 yL_law ∈ tbG := tw3 190 rfl rfl
set_option maxRecDepth 100000 in
theorem lwd_771 : Cond.static yL_law ∈ tbG := tw3 191 rfl rfl
set_option maxRecDepth 100000 in
theorem lwd_772 : Cond.codeWith yL_law cL_law 4 (some .int) [(0, 9, 12, 13)] ∈ tbG := tw3 192 rfl rfl
theorem dL_law__353 : decode code 353 = .ok (.invokestatic 137, 3) := by decide +kernel
theorem dL_law__356 : decode code 356 = .ok (.istore 5, 2) := by decide +kernel
theorem dL_law__358 : decode code 358 = .ok (.aload_n 2, 1) := by decide +kernel
theorem dL_law__359 : decode code 359 = .ok (.aload_n 0, 1) := by decide +kernel
theorem dL_law__360 : decode code 360 = .ok (.iload 4, 2) := by decide +kernel
theorem dL_law__362 : decode code 362 = .ok (.iconst 1, 1) := by decide +kernel
theorem dL_law__363 : decode code 363 = .ok (.iadd, 1) := by decide +kernel
theorem dL_law__364 : decode code 364 = .ok (.iaload, 1) := by decide +kernel
set_option maxRecDepth 100000 in
theorem lwd_1593 : Cond.methodLink "SunnyPansLaw" 139 yX10_law ∈ tbG := tw7 53 rfl rfl
set_option maxRecDepth 100000 in
theorem lwd_1594 : Cond.instanceMethod yX10_law ∈ tbG := tw7 54 rfl rfl
set_option maxRecDepth 100000 in
theorem lwd_1595 : Cond.selects "SunnyPansModel" yX10_law yX10_law ∈ tbG := tw7 55 rfl rfl
set_option maxRecDepth 100000 in
theorem lwd_1596 : Cond.code yX10_law cX10_law 2 (some .int) ∈ tbG := tw7 56 rfl rfl
theorem lcvX10_law : zCV "SunnyPansLaw" 139 "SunnyPansModel" yX10_law cX10_law 2 (some .int) 1 := zCV_of lwd_1593 lwd_1594 lwd_1595 lwd_111 lwd_1596 (by decide +kernel)
theorem dL_law__365 : decode code 365 = .ok (.invokevirtual 139, 3) := by decide +kernel
theorem dL_law__368 : decode code 368 = .ok (.istore 6, 2) := by decide +kernel
theorem dL_law__370 : decode code 370 = .ok (.aload_n 2, 1) := by decide +kernel
theorem dL_law__371 : decode code 371 = .ok (.invokevirtual 133, 3) := by decide +kernel
theorem dL_law__374 : decode code 374 = .ok (.iload 5, 2) := by decide +kernel
theorem dL_law__376 : decode code 376 = .ok (.if_icmp .eq 5, 3) := by decide +kernel
theorem dL_law__381 : decode code 381 = .ok (.iload 5, 2) := by decide +kernel
theorem dL_law__383 : decode code 383 = .ok (.ifCond .ne 15, 3) := by decide +kernel
theorem dL_law__398 : decode code 398 = .ok (.goto 2367, 3) := by decide +kernel
theorem dL_law__386 : decode code 386 = .ok (.aload_n 3, 1) := by decide +kernel
theorem dL_law__387 : decode code 387 = .ok (.iconst 0, 1) := by decide +kernel
theorem dL_law__388 : decode code 388 = .ok (.laload, 1) := by decide +kernel
theorem dL_law__389 : decode code 389 = .ok (.iload 6, 2) := by decide +kernel
theorem dL_law__391 : decode code 391 = .ok (.i2l, 1) := by decide +kernel
theorem dL_law__392 : decode code 392 = .ok (.lcmp, 1) := by decide +kernel
theorem dL_law__393 : decode code 393 = .ok (.ifCond .eq 5, 3) := by decide +kernel
set_option maxHeartbeats 4000000 in
theorem lc_law {p : Program} {l : Launch} {e : Env} {s : State} {m : MethodId} {below : List Frame} {meth : Method} {c : Code} {G : zG} {b L i cells slots : Nat} {xs : Nat → Int32} {Q : State → Prop} (C : LW9 p l s m meth c G b L xs) (hi : i + 9 ≤ L) (hcell : cells + 4 ≤ room_1.cells ∧ slots + 24 ≤ room_1.slots) (kk : LK9 p l e s m below meth c G b i Q cells slots) : LC9 p l e s m below meth c G b i Q cells slots 345 := by
  intro Mx Mm v S hXo hMn ok
  obtain ⟨cx, hX, hbl, hL, hl, hN⟩ := C
  have hbA : ¬ (fun q => s.heap.size ≤ q) b := Nat.not_le.mpr hbl
  have hA : ∀ q, s.heap.size ≤ q → (fun q => s.heap.size ≤ q) q := fun _ h => h
  obtain ⟨k, vx, Mx', w, Mm', t, S', hF, hG, hth, hT, hv, hX', hM', ok'⟩ := q_law (xs (i + 1)) hXo hMn ok
  obtain ⟨v', hk, hv0⟩ := hkT1 (v := v) hT hv
  have hthr : F_X10_thrown Mm' = some (nI t, Mm') := by unfold F_X10_thrown; rw [hth]
  refine l_aload_n cx dL_law__345 1 rfl ?_
  refine l_arg cx hX hbl hbA (j := 1) (by omega) hL 0 4 rfl rfl li_1 dL_law__346 dL_law__347 dL_law__349 dL_law__350 dL_law__351 ?_
  refine l_aload_n cx dL_law__352 3 rfl ?_
  refine l_callWL (na := 3) (As := [.ref (adX s.heap.size 0), .int (xs (i + 1)), .ref (aoL s.heap.size)]) (rest := []) cx hA (cw_law l (adX_in _) Mx v (xs (i + 1)) hl hF hk) lwd_770 lwd_771 lwd_100 lwd_772 (by decide +kernel) ⟨rfl, rfl, Nat.le_of_ble_eq_true rfl, Nat.le_of_ble_eq_true rfl⟩ rfl rfl ⟨by decide, by decide⟩ hcell (Nat.le_of_ble_eq_true rfl) dL_law__353 hN ?_
  refine l_istore cx 5 ((5, .int (nI t)) :: lvL b s.heap.size i) dL_law__356 (by decide) rfl ?_
  refine l_aload_n cx dL_law__358 3 rfl ?_
  refine l_arg cx hX hbl hbA (j := 1) (by omega) hL 1 5 rfl rfl li_1 dL_law__359 dL_law__360 dL_law__362 dL_law__363 dL_law__364 ?_
  refine l_callML (As := [.int (xs (i + 1))]) (rest := []) cx hA (c_X10_law l (adM_in _) Mm (xs (i + 1)) lTM hG) lcvX10_law ⟨rfl, rfl, Nat.le_of_ble_eq_true rfl, Nat.le_of_ble_eq_true rfl⟩ rfl rfl hcell (Nat.le_of_ble_eq_true rfl) dL_law__365 ?_
  refine l_istore cx 6 ((6, .int w) :: (5, .int (nI t)) :: lvL b s.heap.size i) dL_law__368 (by decide) rfl ?_
  refine l_aload_n cx dL_law__370 4 rfl ?_
  refine l_callML (As := []) (rest := []) cx hA (c_X10_thrown l (adM_in _) Mm' lTM hthr) lcvX10_thrown ⟨rfl, rfl, Nat.le_of_ble_eq_true rfl, Nat.le_of_ble_eq_true rfl⟩ rfl rfl hcell (Nat.le_of_ble_eq_true rfl) dL_law__371 ?_
  refine l_iload cx dL_law__374 1 rfl ?_
  refine l_icmp_eq cx 381 dL_law__376 (by decide) (fun _ => ?_) (fun h => absurd rfl h)
  refine l_iload cx dL_law__381 1 rfl ?_
  refine l_if_ne cx 398 dL_law__383 (by decide) (fun _ => ?_) (fun h0 => ?_)
  · refine l_goto cx 2765 dL_law__398 (by decide) ?_
    refine l_sub [2, 3, 4, 5, 6] rfl ?_
    exact kk _ _ _ _ hX' hM' ok'
  · refine l_aload_n cx dL_law__386 5 rfl ?_
    refine l_iconst cx dL_law__387 ki_0 ?_
    refine l_laldL cx dL_law__388 ?_
    refine l_iload cx dL_law__389 0 rfl ?_
    refine l_i2l cx dL_law__391 ?_
    refine l_lcmp cx dL_law__392 ?_
    rw [hv0 h0, lgc_self]
    refine l_if_eq cx 398 dL_law__393 (by decide) (fun _ => ?_) (fun h => absurd rfl h)
    refine l_goto cx 2765 dL_law__398 (by decide) ?_
    refine l_sub [2, 3, 4, 5, 6] rfl ?_
    refine l_conv (P' := LPw G s.heap.size Mx' Mm' v') (fun _ h => by rw [hv0 h0]; exact h) ?_
    exact kk _ _ _ _ hX' hM' ok'
theorem dL_law__401 : decode code 401 = .ok (.aload_n 1, 1) := by decide +kernel
theorem dL_law__402 : decode code 402 = .ok (.aload_n 0, 1) := by decide +kernel
theorem dL_law__403 : decode code 403 = .ok (.iload 4, 2) := by decide +kernel
theorem dL_law__405 : decode code 405 = .ok (.iconst 1, 1) := by decide +kernel
theorem dL_law__406 : decode code 406 = .ok (.iadd, 1) := by decide +kernel
theorem dL_law__407 : decode code 407 = .ok (.iaload, 1) := by decide +kernel
theorem dL_law__408 : decode code 408 = .ok (.aload_n 3, 1) := by decide +kernel
set_option maxRecDepth 100000 in
theorem lwd_830 : Cond.methodLink "SunnyPansLaw" 140 yL_work ∈ tbG := tw4 10 rfl rfl
set_option maxRecDepth 100000 in
theorem lwd_831 : Cond.static yL_work ∈ tbG := tw4 11 rfl rfl
set_option maxRecDepth 100000 in
theorem lwd_832 : Cond.codeWith yL_work cL_work 4 (some .int) [(0, 9, 12, 13)] ∈ tbG := tw4 12 rfl rfl
theorem dL_law__409 : decode code 409 = .ok (.invokestatic 140, 3) := by decide +kernel
theorem dL_law__412 : decode code 412 = .ok (.istore 5, 2) := by decide +kernel
theorem dL_law__414 : decode code 414 = .ok (.aload_n 2, 1) := by decide +kernel
theorem dL_law__415 : decode code 415 = .ok (.aload_n 0, 1) := by decide +kernel
theorem dL_law__416 : decode code 416 = .ok (.iload 4, 2) := by decide +kernel
theorem dL_law__418 : decode code 418 = .ok (.iconst 1, 1) := by decide +kernel
theorem dL_law__419 : decode code 419 = .ok (.iadd, 1) := by decide +kernel
theorem dL_law__420 : decode code 420 = .ok (.iaload, 1) := by decide +kernel
set_option maxRecDepth 100000 in
theorem lwd_1637 : Cond.methodLink "SunnyPansLaw" 142 yX10_work ∈ tbG := tw7 97 rfl rfl
set_option maxRecDepth 100000 in
theorem lwd_1638 : Cond.instanceMethod yX10_work ∈ tbG := tw7 98 rfl rfl
set_option maxRecDepth 100000 in
theorem lwd_1639 : Cond.selects "SunnyPansModel" yX10_work yX10_work ∈ tbG := tw7 99 rfl rfl
set_option maxRecDepth 100000 in
theorem lwd_1640 : Cond.code yX10_work cX10_work 2 (some .int) ∈ tbG := tw7 100 rfl rfl
theorem lcvX10_work : zCV "SunnyPansLaw" 142 "SunnyPansModel" yX10_work cX10_work 2 (some .int) 1 := zCV_of lwd_1637 lwd_1638 lwd_1639 lwd_111 lwd_1640 (by decide +kernel)
theorem dL_law__421 : decode code 421 = .ok (.invokevirtual 142, 3) := by decide +kernel
theorem dL_law__424 : decode code 424 = .ok (.istore 6, 2) := by decide +kernel
theorem dL_law__426 : decode code 426 = .ok (.aload_n 2, 1) := by decide +kernel
theorem dL_law__427 : decode code 427 = .ok (.invokevirtual 133, 3) := by decide +kernel
theorem dL_law__430 : decode code 430 = .ok (.iload 5, 2) := by decide +kernel
theorem dL_law__432 : decode code 432 = .ok (.if_icmp .eq 5, 3) := by decide +kernel
theorem dL_law__437 : decode code 437 = .ok (.iload 5, 2) := by decide +kernel
theorem dL_law__439 : decode code 439 = .ok (.ifCond .ne 15, 3) := by decide +kernel
theorem dL_law__454 : decode code 454 = .ok (.goto 2311, 3) := by decide +kernel
theorem dL_law__442 : decode code 442 = .ok (.aload_n 3, 1) := by decide +kernel
theorem dL_law__443 : decode code 443 = .ok (.iconst 0, 1) := by decide +kernel
theorem dL_law__444 : decode code 444 = .ok (.laload, 1) := by decide +kernel
theorem dL_law__445 : decode code 445 = .ok (.iload 6, 2) := by decide +kernel
theorem dL_law__447 : decode code 447 = .ok (.i2l, 1) := by decide +kernel
theorem dL_law__448 : decode code 448 = .ok (.lcmp, 1) := by decide +kernel
theorem dL_law__449 : decode code 449 = .ok (.ifCond .eq 5, 3) := by decide +kernel
set_option maxHeartbeats 4000000 in
theorem lc_work {p : Program} {l : Launch} {e : Env} {s : State} {m : MethodId} {below : List Frame} {meth : Method} {c : Code} {G : zG} {b L i cells slots : Nat} {xs : Nat → Int32} {Q : State → Prop} (C : LW9 p l s m meth c G b L xs) (hi : i + 9 ≤ L) (hcell : cells + 4 ≤ room_1.cells ∧ slots + 24 ≤ room_1.slots) (kk : LK9 p l e s m below meth c G b i Q cells slots) : LC9 p l e s m below meth c G b i Q cells slots 401 := by
  intro Mx Mm v S hXo hMn ok
  obtain ⟨cx, hX, hbl, hL, hl, hN⟩ := C
  have hbA : ¬ (fun q => s.heap.size ≤ q) b := Nat.not_le.mpr hbl
  have hA : ∀ q, s.heap.size ≤ q → (fun q => s.heap.size ≤ q) q := fun _ h => h
  obtain ⟨k, vx, Mx', w, Mm', t, S', hF, hG, hth, hT, hv, hX', hM', ok'⟩ := q_work (xs (i + 1)) hXo hMn ok
  obtain ⟨v', hk, hv0⟩ := hkT1 (v := v) hT hv
  have hthr : F_X10_thrown Mm' = some (nI t, Mm') := by unfold F_X10_thrown; rw [hth]
  refine l_aload_n cx dL_law__401 1 rfl ?_
  refine l_arg cx hX hbl hbA (j := 1) (by omega) hL 0 4 rfl rfl li_1 dL_law__402 dL_law__403 dL_law__405 dL_law__406 dL_law__407 ?_
  refine l_aload_n cx dL_law__408 3 rfl ?_
  refine l_callWL (na := 3) (As := [.ref (adX s.heap.size 0), .int (xs (i + 1)), .ref (aoL s.heap.size)]) (rest := []) cx hA (cw_work l (adX_in _) Mx v (xs (i + 1)) hl hF hk) lwd_830 lwd_831 lwd_100 lwd_832 (by decide +kernel) ⟨rfl, rfl, Nat.le_of_ble_eq_true rfl, Nat.le_of_ble_eq_true rfl⟩ rfl rfl ⟨by decide, by decide⟩ hcell (Nat.le_of_ble_eq_true rfl) dL_law__409 hN ?_
  refine l_istore cx 5 ((5, .int (nI t)) :: lvL b s.heap.size i) dL_law__412 (by decide) rfl ?_
  refine l_aload_n cx dL_law__414 3 rfl ?_
  refine l_arg cx hX hbl hbA (j := 1) (by omega) hL 1 5 rfl rfl li_1 dL_law__415 dL_law__416 dL_law__418 dL_law__419 dL_law__420 ?_
  refine l_callML (As := [.int (xs (i + 1))]) (rest := []) cx hA (c_X10_work l (adM_in _) Mm (xs (i + 1)) lTM hG) lcvX10_work ⟨rfl, rfl, Nat.le_of_ble_eq_true rfl, Nat.le_of_ble_eq_true rfl⟩ rfl rfl hcell (Nat.le_of_ble_eq_true rfl) dL_law__421 ?_
  refine l_istore cx 6 ((6, .int w) :: (5, .int (nI t)) :: lvL b s.heap.size i) dL_law__424 (by decide) rfl ?_
  refine l_aload_n cx dL_law__426 4 rfl ?_
  refine l_callML (As := []) (rest := []) cx hA (c_X10_thrown l (adM_in _) Mm' lTM hthr) lcvX10_thrown ⟨rfl, rfl, Nat.le_of_ble_eq_true rfl, Nat.le_of_ble_eq_true rfl⟩ rfl rfl hcell (Nat.le_of_ble_eq_true rfl) dL_law__427 ?_
  refine l_iload cx dL_law__430 1 rfl ?_
  refine l_icmp_eq cx 437 dL_law__432 (by decide) (fun _ => ?_) (fun h => absurd rfl h)
  refine l_iload cx dL_law__437 1 rfl ?_
  refine l_if_ne cx 454 dL_law__439 (by decide) (fun _ => ?_) (fun h0 => ?_)
  · refine l_goto cx 2765 dL_law__454 (by decide) ?_
    refine l_sub [2, 3, 4, 5, 6] rfl ?_
    exact kk _ _ _ _ hX' hM' ok'
  · refine l_aload_n cx dL_law__442 5 rfl ?_
    refine l_iconst cx dL_law__443 ki_0 ?_
    refine l_laldL cx dL_law__444 ?_
    refine l_iload cx dL_law__445 0 rfl ?_
    refine l_i2l cx dL_law__447 ?_
    refine l_lcmp cx dL_law__448 ?_
    rw [hv0 h0, lgc_self]
    refine l_if_eq cx 454 dL_law__449 (by decide) (fun _ => ?_) (fun h => absurd rfl h)
    refine l_goto cx 2765 dL_law__454 (by decide) ?_
    refine l_sub [2, 3, 4, 5, 6] rfl ?_
    refine l_conv (P' := LPw G s.heap.size Mx' Mm' v') (fun _ h => by rw [hv0 h0]; exact h) ?_
    exact kk _ _ _ _ hX' hM' ok'
theorem dL_law__457 : decode code 457 = .ok (.aload_n 1, 1) := by decide +kernel
theorem dL_law__458 : decode code 458 = .ok (.aload_n 0, 1) := by decide +kernel
theorem dL_law__459 : decode code 459 = .ok (.iload 4, 2) := by decide +kernel
theorem dL_law__461 : decode code 461 = .ok (.iconst 1, 1) := by decide +kernel
theorem dL_law__462 : decode code 462 = .ok (.iadd, 1) := by decide +kernel
theorem dL_law__463 : decode code 463 = .ok (.iaload, 1) := by decide +kernel
theorem dL_law__464 : decode code 464 = .ok (.aload_n 3, 1) := by decide +kernel
set_option maxRecDepth 100000 in
theorem lwd_951 : Cond.methodLink "SunnyPansLaw" 143 yL_book ∈ tbG := tw4 131 rfl rfl
set_option maxRecDepth 100000 in
theorem lwd_952 : Cond.static yL_book ∈ tbG := tw4 132 rfl rfl
set_option maxRecDepth 100000 in
theorem lwd_953 : Cond.codeWith yL_book cL_book 4 (some .int) [(0, 9, 12, 13)] ∈ tbG := tw4 133 rfl rfl
theorem dL_law__465 : decode code 465 = .ok (.invokestatic 143, 3) := by decide +kernel
theorem dL_law__468 : decode code 468 = .ok (.istore 5, 2) := by decide +kernel
theorem dL_law__470 : decode code 470 = .ok (.aload_n 2, 1) := by decide +kernel
theorem dL_law__471 : decode code 471 = .ok (.aload_n 0, 1) := by decide +kernel
theorem dL_law__472 : decode code 472 = .ok (.iload 4, 2) := by decide +kernel
theorem dL_law__474 : decode code 474 = .ok (.iconst 1, 1) := by decide +kernel
theorem dL_law__475 : decode code 475 = .ok (.iadd, 1) := by decide +kernel
theorem dL_law__476 : decode code 476 = .ok (.iaload, 1) := by decide +kernel
set_option maxRecDepth 100000 in
theorem lwd_1629 : Cond.methodLink "SunnyPansLaw" 145 yX10_book ∈ tbG := tw7 89 rfl rfl
set_option maxRecDepth 100000 in
theorem lwd_1630 : Cond.instanceMethod yX10_book ∈ tbG := tw7 90 rfl rfl
set_option maxRecDepth 100000 in
theorem lwd_1631 : Cond.selects "SunnyPansModel" yX10_book yX10_book ∈ tbG := tw7 91 rfl rfl
set_option maxRecDepth 100000 in
theorem lwd_1632 : Cond.code yX10_book cX10_book 8 (some .int) ∈ tbG := tw7 92 rfl rfl
theorem lcvX10_book : zCV "SunnyPansLaw" 145 "SunnyPansModel" yX10_book cX10_book 8 (some .int) 1 := zCV_of lwd_1629 lwd_1630 lwd_1631 lwd_111 lwd_1632 (by decide +kernel)
theorem dL_law__477 : decode code 477 = .ok (.invokevirtual 145, 3) := by decide +kernel
theorem dL_law__480 : decode code 480 = .ok (.istore 6, 2) := by decide +kernel
theorem dL_law__482 : decode code 482 = .ok (.aload_n 2, 1) := by decide +kernel
theorem dL_law__483 : decode code 483 = .ok (.invokevirtual 133, 3) := by decide +kernel
theorem dL_law__486 : decode code 486 = .ok (.iload 5, 2) := by decide +kernel
theorem dL_law__488 : decode code 488 = .ok (.if_icmp .eq 5, 3) := by decide +kernel
theorem dL_law__493 : decode code 493 = .ok (.iload 5, 2) := by decide +kernel
theorem dL_law__495 : decode code 495 = .ok (.ifCond .ne 15, 3) := by decide +kernel
theorem dL_law__510 : decode code 510 = .ok (.goto 2255, 3) := by decide +kernel
theorem dL_law__498 : decode code 498 = .ok (.aload_n 3, 1) := by decide +kernel
theorem dL_law__499 : decode code 499 = .ok (.iconst 0, 1) := by decide +kernel
theorem dL_law__500 : decode code 500 = .ok (.laload, 1) := by decide +kernel
theorem dL_law__501 : decode code 501 = .ok (.iload 6, 2) := by decide +kernel
theorem dL_law__503 : decode code 503 = .ok (.i2l, 1) := by decide +kernel
theorem dL_law__504 : decode code 504 = .ok (.lcmp, 1) := by decide +kernel
theorem dL_law__505 : decode code 505 = .ok (.ifCond .eq 5, 3) := by decide +kernel
set_option maxHeartbeats 4000000 in
theorem lc_book {p : Program} {l : Launch} {e : Env} {s : State} {m : MethodId} {below : List Frame} {meth : Method} {c : Code} {G : zG} {b L i cells slots : Nat} {xs : Nat → Int32} {Q : State → Prop} (C : LW9 p l s m meth c G b L xs) (hi : i + 9 ≤ L) (hcell : cells + 4 ≤ room_1.cells ∧ slots + 24 ≤ room_1.slots) (kk : LK9 p l e s m below meth c G b i Q cells slots) : LC9 p l e s m below meth c G b i Q cells slots 457 := by
  intro Mx Mm v S hXo hMn ok
  obtain ⟨cx, hX, hbl, hL, hl, hN⟩ := C
  have hbA : ¬ (fun q => s.heap.size ≤ q) b := Nat.not_le.mpr hbl
  have hA : ∀ q, s.heap.size ≤ q → (fun q => s.heap.size ≤ q) q := fun _ h => h
  obtain ⟨k, vx, Mx', w, Mm', t, S', hF, hG, hth, hT, hv, hX', hM', ok'⟩ := q_book (xs (i + 1)) hXo hMn ok
  obtain ⟨v', hk, hv0⟩ := hkT1 (v := v) hT hv
  have hthr : F_X10_thrown Mm' = some (nI t, Mm') := by unfold F_X10_thrown; rw [hth]
  refine l_aload_n cx dL_law__457 1 rfl ?_
  refine l_arg cx hX hbl hbA (j := 1) (by omega) hL 0 4 rfl rfl li_1 dL_law__458 dL_law__459 dL_law__461 dL_law__462 dL_law__463 ?_
  refine l_aload_n cx dL_law__464 3 rfl ?_
  refine l_callWL (na := 3) (As := [.ref (adX s.heap.size 0), .int (xs (i + 1)), .ref (aoL s.heap.size)]) (rest := []) cx hA (cw_book l (adX_in _) Mx v (xs (i + 1)) hl hF hk) lwd_951 lwd_952 lwd_100 lwd_953 (by decide +kernel) ⟨rfl, rfl, Nat.le_of_ble_eq_true rfl, Nat.le_of_ble_eq_true rfl⟩ rfl rfl ⟨by decide, by decide⟩ hcell (Nat.le_of_ble_eq_true rfl) dL_law__465 hN ?_
  refine l_istore cx 5 ((5, .int (nI t)) :: lvL b s.heap.size i) dL_law__468 (by decide) rfl ?_
  refine l_aload_n cx dL_law__470 3 rfl ?_
  refine l_arg cx hX hbl hbA (j := 1) (by omega) hL 1 5 rfl rfl li_1 dL_law__471 dL_law__472 dL_law__474 dL_law__475 dL_law__476 ?_
  refine l_callML (As := [.int (xs (i + 1))]) (rest := []) cx hA (c_X10_book l (adM_in _) Mm (xs (i + 1)) lTM hG) lcvX10_book ⟨rfl, rfl, Nat.le_of_ble_eq_true rfl, Nat.le_of_ble_eq_true rfl⟩ rfl rfl hcell (Nat.le_of_ble_eq_true rfl) dL_law__477 ?_
  refine l_istore cx 6 ((6, .int w) :: (5, .int (nI t)) :: lvL b s.heap.size i) dL_law__480 (by decide) rfl ?_
  refine l_aload_n cx dL_law__482 4 rfl ?_
  refine l_callML (As := []) (rest := []) cx hA (c_X10_thrown l (adM_in _) Mm' lTM hthr) lcvX10_thrown ⟨rfl, rfl, Nat.le_of_ble_eq_true rfl, Nat.le_of_ble_eq_true rfl⟩ rfl rfl hcell (Nat.le_of_ble_eq_true rfl) dL_law__483 ?_
  refine l_iload cx dL_law__486 1 rfl ?_
  refine l_icmp_eq cx 493 dL_law__488 (by decide) (fun _ => ?_) (fun h => absurd rfl h)
  refine l_iload cx dL_law__493 1 rfl ?_
  refine l_if_ne cx 510 dL_law__495 (by decide) (fun _ => ?_) (fun h0 => ?_)
  · refine l_goto cx 2765 dL_law__510 (by decide) ?_
    refine l_sub [2, 3, 4, 5, 6] rfl ?_
    exact kk _ _ _ _ hX' hM' ok'
  · refine l_aload_n cx dL_law__498 5 rfl ?_
    refine l_iconst cx dL_law__499 ki_0 ?_
    refine l_laldL cx dL_law__500 ?_
    refine l_iload cx dL_law__501 0 rfl ?_
    refine l_i2l cx dL_law__503 ?_
    refine l_lcmp cx dL_law__504 ?_
    rw [hv0 h0, lgc_self]
    refine l_if_eq cx 510 dL_law__505 (by decide) (fun _ => ?_) (fun h => absurd rfl h)
    refine l_goto cx 2765 dL_law__510 (by decide) ?_
    refine l_sub [2, 3, 4, 5, 6] rfl ?_
    refine l_conv (P' := LPw G s.heap.size Mx' Mm' v') (fun _ h => by rw [hv0 h0]; exact h) ?_
    exact kk _ _ _ _ hX' hM' ok'
theorem dL_law__513 : decode code 513 = .ok (.aload_n 1, 1) := by decide +kernel
set_option maxRecDepth 100000 in
theorem lwd_475 : Cond.methodLink "SunnyPansLaw" 146 yX9_fault ∈ tbG := tw2 135 rfl rfl
set_option maxRecDepth 100000 in
theorem lwd_476 : Cond.instanceMethod yX9_fault ∈ tbG := tw2 136 rfl rfl
set_option maxRecDepth 100000 in
theorem lwd_477 : Cond.selects "SunnyPans" yX9_fault yX9_fault ∈ tbG := tw2 137 rfl rfl
set_option maxRecDepth 100000 in
theorem lwd_478 : Cond.code yX9_fault cX9_fault 1 (some .int) ∈ tbG := tw2 138 rfl rfl
theorem lcvX9_fault : zCV "SunnyPansLaw" 146 "SunnyPans" yX9_fault cX9_fault 1 (some .int) 0 := zCV_of lwd_475 lwd_476 lwd_477 lwd_101 lwd_478 (by decide +kernel)
theorem dL_law__514 : decode code 514 = .ok (.invokevirtual 146, 3) := by decide +kernel
theorem dL_law__517 : decode code 517 = .ok (.aload_n 2, 1) := by decide +kernel
set_option maxRecDepth 100000 in
theorem lwd_1633 : Cond.methodLink "SunnyPansLaw" 149 yX10_fault ∈ tbG := tw7 93 rfl rfl
set_option maxRecDepth 100000 in
theorem lwd_1634 : Cond.instanceMethod yX10_fault ∈ tbG := tw7 94 rfl rfl
set_option maxRecDepth 100000 in
theorem lwd_1635 : Cond.selects "SunnyPansModel" yX10_fault yX10_fault ∈ tbG := tw7 95 rfl rfl
set_option maxRecDepth 100000 in
theorem lwd_1636 : Cond.code yX10_fault cX10_fault 1 (some .int) ∈ tbG := tw7 96 rfl rfl
theorem lcvX10_fault : zCV "SunnyPansLaw" 149 "SunnyPansModel" yX10_fault cX10_fault 1 (some .int) 0 := zCV_of lwd_1633 lwd_1634 lwd_1635 lwd_111 lwd_1636 (by decide +kernel)
theorem dL_law__518 : decode code 518 = .ok (.invokevirtual 149, 3) := by decide +kernel
theorem dL_law__521 : decode code 521 = .ok (.if_icmp .eq 2244, 3) := by decide +kernel
set_option maxHeartbeats 4000000 in
theorem lc_fault {p : Program} {l : Launch} {e : Env} {s : State} {m : MethodId} {below : List Frame} {meth : Method} {c : Code} {G : zG} {b L i cells slots : Nat} {xs : Nat → Int32} {Q : State → Prop} (C : LW9 p l s m meth c G b L xs) (hi : i + 9 ≤ L) (hcell : cells + 4 ≤ room_1.cells ∧ slots + 24 ≤ room_1.slots) (kk : LK9 p l e s m below meth c G b i Q cells slots) : LC9 p l e s m below meth c G b i Q cells slots 513 := by
  intro Mx Mm v S hXo hMn ok
  obtain ⟨cx, hX, hbl, hL, hl, hN⟩ := C
  have hbA : ¬ (fun q => s.heap.size ≤ q) b := Nat.not_le.mpr hbl
  have hA : ∀ q, s.heap.size ≤ q → (fun q => s.heap.size ≤ q) q := fun _ h => h
  obtain ⟨w, Mx', Mm', S', hF, hG, hX', hM', ok'⟩ := q_fault  hXo hMn ok
  refine l_aload_n cx dL_law__513 1 rfl ?_
  refine l_callXL (As := []) (rest := []) cx hA (c_X9_fault l (adX_in _).1 Mx  lT0 hF) lcvX9_fault ⟨rfl, rfl, Nat.le_of_ble_eq_true rfl, Nat.le_of_ble_eq_true rfl⟩ rfl rfl ⟨Nat.le_trans (Nat.le_add_right _ 4) hcell.1, Nat.le_trans (Nat.le_add_right _ 24) hcell.2⟩ (Nat.le_of_ble_eq_true rfl) dL_law__514 ?_
  refine l_aload_n cx dL_law__517 2 rfl ?_
  refine l_callML (As := []) (rest := [.int w]) cx hA (c_X10_fault l (adM_in _) Mm  lTM hG) lcvX10_fault ⟨rfl, rfl, Nat.le_of_ble_eq_true rfl, Nat.le_of_ble_eq_true rfl⟩ rfl rfl ⟨Nat.le_trans (Nat.le_add_right _ 4) hcell.1, Nat.le_trans (Nat.le_add_right _ 24) hcell.2⟩ (Nat.le_of_ble_eq_true rfl) dL_law__518 ?_
  refine l_icmp_eq cx 2765 dL_law__521 (by decide) (fun _ => ?_) (fun h => absurd rfl h)
  exact l_widen (Nat.le_add_right _ 4) (Nat.le_add_right _ 24) (kk _ _ _ _ hX' hM' ok')
theorem dL_law__526 : decode code 526 = .ok (.aload_n 1, 1) := by decide +kernel
set_option maxRecDepth 100000 in
theorem lwd_479 : Cond.methodLink "SunnyPansLaw" 150 yX9_undo ∈ tbG := tw2 139 rfl rfl
set_option maxRecDepth 100000 in
theorem lwd_480 : Cond.instanceMethod yX9_undo ∈ tbG := tw2 140 rfl rfl
set_option maxRecDepth 100000 in
theorem lwd_481 : Cond.selects "SunnyPans" yX9_undo yX9_undo ∈ tbG := tw2 141 rfl rfl
set_option maxRecDepth 100000 in
theorem lwd_482 : Cond.code yX9_undo cX9_undo 1 (some .int) ∈ tbG := tw2 142 rfl rfl
theorem lcvX9_undo : zCV "SunnyPansLaw" 150 "SunnyPans" yX9_undo cX9_undo 1 (some .int) 0 := zCV_of lwd_479 lwd_480 lwd_481 lwd_101 lwd_482 (by decide +kernel)
theorem dL_law__527 : decode code 527 = .ok (.invokevirtual 150, 3) := by decide +kernel
theorem dL_law__530 : decode code 530 = .ok (.aload_n 2, 1) := by decide +kernel
set_option maxRecDepth 100000 in
theorem lwd_1743 : Cond.methodLink "SunnyPansLaw" 153 yX10_undo ∈ tbG := tw7 203 rfl rfl
set_option maxRecDepth 100000 in
theorem lwd_1744 : Cond.instanceMethod yX10_undo ∈ tbG := tw7 204 rfl rfl
set_option maxRecDepth 100000 in
theorem lwd_1745 : Cond.selects "SunnyPansModel" yX10_undo yX10_undo ∈ tbG := tw7 205 rfl rfl
set_option maxRecDepth 100000 in
theorem lwd_1746 : Cond.code yX10_undo cX10_undo 1 (some .int) ∈ tbG := tw7 206 rfl rfl
theorem lcvX10_undo : zCV "SunnyPansLaw" 153 "SunnyPansModel" yX10_undo cX10_undo 1 (some .int) 0 := zCV_of lwd_1743 lwd_1744 lwd_1745 lwd_111 lwd_1746 (by decide +kernel)
theorem dL_law__531 : decode code 531 = .ok (.invokevirtual 153, 3) := by decide +kernel
theorem dL_law__534 : decode code 534 = .ok (.if_icmp .eq 2231, 3) := by decide +kernel
set_option maxHeartbeats 4000000 in
theorem lc_undo {p : Program} {l : Launch} {e : Env} {s : State} {m : MethodId} {below : List Frame} {meth : Method} {c : Code} {G : zG} {b L i cells slots : Nat} {xs : Nat → Int32} {Q : State → Prop} (C : LW9 p l s m meth c G b L xs) (hi : i + 9 ≤ L) (hcell : cells + 4 ≤ room_1.cells ∧ slots + 24 ≤ room_1.slots) (kk : LK9 p l e s m below meth c G b i Q cells slots) : LC9 p l e s m below meth c G b i Q cells slots 526 := by
  intro Mx Mm v S hXo hMn ok
  obtain ⟨cx, hX, hbl, hL, hl, hN⟩ := C
  have hbA : ¬ (fun q => s.heap.size ≤ q) b := Nat.not_le.mpr hbl
  have hA : ∀ q, s.heap.size ≤ q → (fun q => s.heap.size ≤ q) q := fun _ h => h
  obtain ⟨w, Mx', Mm', S', hF, hG, hX', hM', ok'⟩ := q_undo  hXo hMn ok
  refine l_aload_n cx dL_law__526 1 rfl ?_
  refine l_callXL (As := []) (rest := []) cx hA (c_X9_undo l (adX_in _).1 Mx  lT0 hF) lcvX9_undo ⟨rfl, rfl, Nat.le_of_ble_eq_true rfl, Nat.le_of_ble_eq_true rfl⟩ rfl rfl ⟨Nat.le_trans (Nat.le_add_right _ 4) hcell.1, Nat.le_trans (Nat.le_add_right _ 24) hcell.2⟩ (Nat.le_of_ble_eq_true rfl) dL_law__527 ?_
  refine l_aload_n cx dL_law__530 2 rfl ?_
  refine l_callML (As := []) (rest := [.int w]) cx hA (c_X10_undo l (adM_in _) Mm  lTM hG) lcvX10_undo ⟨rfl, rfl, Nat.le_of_ble_eq_true rfl, Nat.le_of_ble_eq_true rfl⟩ rfl rfl ⟨Nat.le_trans (Nat.le_add_right _ 4) hcell.1, Nat.le_trans (Nat.le_add_right _ 24) hcell.2⟩ (Nat.le_of_ble_eq_true rfl) dL_law__531 ?_
  refine l_icmp_eq cx 2765 dL_law__534 (by decide) (fun _ => ?_) (fun h => absurd rfl h)
  exact l_widen (Nat.le_add_right _ 4) (Nat.le_add_right _ 24) (kk _ _ _ _ hX' hM' ok')
