/-! THE LAW: its cases 35 to 39 -/
theorem dL_law__2557 : decode code 2557 = .ok (.aload_n 1, 1) := by decide +kernel
theorem dL_law__2558 : decode code 2558 = .ok (.aload_n 0, 1) := by decide +kernel
theorem dL_law__2559 : decode code 2559 = .ok (.iload 4, 2) := by decide +kernel
theorem dL_law__2561 : decode code 2561 = .ok (.iconst 1, 1) := by decide +kernel
theorem dL_law__2562 : decode code 2562 = .ok (.iadd, 1) := by decide +kernel
theorem dL_law__2563 : decode code 2563 = .ok (.iaload, 1) := by decide +kernel
theorem dL_law__2564 : decode code 2564 = .ok (.aload_n 0, 1) := by decide +kernel
theorem dL_law__2565 : decode code 2565 = .ok (.iload 4, 2) := by decide +kernel
theorem dL_law__2567 : decode code 2567 = .ok (.iconst 2, 1) := by decide +kernel
theorem dL_law__2568 : decode code 2568 = .ok (.iadd, 1) := by decide +kernel
theorem dL_law__2569 : decode code 2569 = .ok (.iaload, 1) := by decide +kernel
theorem dL_law__2570 : decode code 2570 = .ok (.aload_n 0, 1) := by decide +kernel
theorem dL_law__2571 : decode code 2571 = .ok (.iload 4, 2) := by decide +kernel
theorem dL_law__2573 : decode code 2573 = .ok (.iconst 3, 1) := by decide +kernel
theorem dL_law__2574 : decode code 2574 = .ok (.iadd, 1) := by decide +kernel
theorem dL_law__2575 : decode code 2575 = .ok (.iaload, 1) := by decide +kernel
theorem dL_law__2576 : decode code 2576 = .ok (.aload_n 0, 1) := by decide +kernel
theorem dL_law__2577 : decode code 2577 = .ok (.iload 4, 2) := by decide +kernel
theorem dL_law__2579 : decode code 2579 = .ok (.iconst 4, 1) := by decide +kernel
theorem dL_law__2580 : decode code 2580 = .ok (.iadd, 1) := by decide +kernel
theorem dL_law__2581 : decode code 2581 = .ok (.iaload, 1) := by decide +kernel
theorem dL_law__2582 : decode code 2582 = .ok (.aload_n 0, 1) := by decide +kernel
theorem dL_law__2583 : decode code 2583 = .ok (.iload 4, 2) := by decide +kernel
theorem dL_law__2585 : decode code 2585 = .ok (.iconst 5, 1) := by decide +kernel
theorem dL_law__2586 : decode code 2586 = .ok (.iadd, 1) := by decide +kernel
theorem dL_law__2587 : decode code 2587 = .ok (.iaload, 1) := by decide +kernel
theorem dL_law__2588 : decode code 2588 = .ok (.aload_n 0, 1) := by decide +kernel
theorem dL_law__2589 : decode code 2589 = .ok (.iload 4, 2) := by decide +kernel
theorem dL_law__2591 : decode code 2591 = .ok (.bipush 6, 2) := by decide +kernel
theorem dL_law__2593 : decode code 2593 = .ok (.iadd, 1) := by decide +kernel
theorem dL_law__2594 : decode code 2594 = .ok (.iaload, 1) := by decide +kernel
theorem dL_law__2595 : decode code 2595 = .ok (.aload_n 0, 1) := by decide +kernel
theorem dL_law__2596 : decode code 2596 = .ok (.iload 4, 2) := by decide +kernel
theorem dL_law__2598 : decode code 2598 = .ok (.bipush 7, 2) := by decide +kernel
theorem dL_law__2600 : decode code 2600 = .ok (.iadd, 1) := by decide +kernel
theorem dL_law__2601 : decode code 2601 = .ok (.iaload, 1) := by decide +kernel
theorem dL_law__2602 : decode code 2602 = .ok (.aload_n 3, 1) := by decide +kernel
set_option maxRecDepth 100000 in
theorem lwd_1369 : Cond.methodLink "SunnyPansLaw" 242 yL_span ∈ tbG := tw6 69 rfl rfl
set_option maxRecDepth 100000 in
theorem lwd_1370 : Cond.static yL_span ∈ tbG := tw6 70 rfl rfl
set_option maxRecDepth 100000 in
theorem lwd_1371 : Cond.codeWith yL_span cL_span 10 (some .int) [(0, 20, 23, 31), (0, 20, 27, 13)] ∈ tbG := tw6 71 rfl rfl
theorem dL_law__2603 : decode code 2603 = .ok (.invokestatic 242, 3) := by decide +kernel
theorem dL_law__2606 : decode code 2606 = .ok (.istore 5, 2) := by decide +kernel
theorem dL_law__2608 : decode code 2608 = .ok (.aload_n 2, 1) := by decide +kernel
theorem dL_law__2609 : decode code 2609 = .ok (.aload_n 0, 1) := by decide +kernel
theorem dL_law__2610 : decode code 2610 = .ok (.iload 4, 2) := by decide +kernel
theorem dL_law__2612 : decode code 2612 = .ok (.iconst 1, 1) := by decide +kernel
theorem dL_law__2613 : decode code 2613 = .ok (.iadd, 1) := by decide +kernel
theorem dL_law__2614 : decode code 2614 = .ok (.iaload, 1) := by decide +kernel
theorem dL_law__2615 : decode code 2615 = .ok (.aload_n 0, 1) := by decide +kernel
theorem dL_law__2616 : decode code 2616 = .ok (.iload 4, 2) := by decide +kernel
theorem dL_law__2618 : decode code 2618 = .ok (.iconst 2, 1) := by decide +kernel
theorem dL_law__2619 : decode code 2619 = .ok (.iadd, 1) := by decide +kernel
theorem dL_law__2620 : decode code 2620 = .ok (.iaload, 1) := by decide +kernel
theorem dL_law__2621 : decode code 2621 = .ok (.aload_n 0, 1) := by decide +kernel
theorem dL_law__2622 : decode code 2622 = .ok (.iload 4, 2) := by decide +kernel
theorem dL_law__2624 : decode code 2624 = .ok (.iconst 3, 1) := by decide +kernel
theorem dL_law__2625 : decode code 2625 = .ok (.iadd, 1) := by decide +kernel
theorem dL_law__2626 : decode code 2626 = .ok (.iaload, 1) := by decide +kernel
theorem dL_law__2627 : decode code 2627 = .ok (.aload_n 0, 1) := by decide +kernel
theorem dL_law__2628 : decode code 2628 = .ok (.iload 4, 2) := by decide +kernel
theorem dL_law__2630 : decode code 2630 = .ok (.iconst 4, 1) := by decide +kernel
theorem dL_law__2631 : decode code 2631 = .ok (.iadd, 1) := by decide +kernel
theorem dL_law__2632 : decode code 2632 = .ok (.iaload, 1) := by decide +kernel
theorem dL_law__2633 : decode code 2633 = .ok (.aload_n 0, 1) := by decide +kernel
theorem dL_law__2634 : decode code 2634 = .ok (.iload 4, 2) := by decide +kernel
theorem dL_law__2636 : decode code 2636 = .ok (.iconst 5, 1) := by decide +kernel
theorem dL_law__2637 : decode code 2637 = .ok (.iadd, 1) := by decide +kernel
theorem dL_law__2638 : decode code 2638 = .ok (.iaload, 1) := by decide +kernel
theorem dL_law__2639 : decode code 2639 = .ok (.aload_n 0, 1) := by decide +kernel
theorem dL_law__2640 : decode code 2640 = .ok (.iload 4, 2) := by decide +kernel
theorem dL_law__2642 : decode code 2642 = .ok (.bipush 6, 2) := by decide +kernel
theorem dL_law__2644 : decode code 2644 = .ok (.iadd, 1) := by decide +kernel
theorem dL_law__2645 : decode code 2645 = .ok (.iaload, 1) := by decide +kernel
theorem dL_law__2646 : decode code 2646 = .ok (.aload_n 0, 1) := by decide +kernel
theorem dL_law__2647 : decode code 2647 = .ok (.iload 4, 2) := by decide +kernel
theorem dL_law__2649 : decode code 2649 = .ok (.bipush 7, 2) := by decide +kernel
theorem dL_law__2651 : decode code 2651 = .ok (.iadd, 1) := by decide +kernel
theorem dL_law__2652 : decode code 2652 = .ok (.iaload, 1) := by decide +kernel
set_option maxRecDepth 100000 in
theorem lwd_1940 : Cond.methodLink "SunnyPansLaw" 245 yX10_span ∈ tbG := tw8 160 rfl rfl
set_option maxRecDepth 100000 in
theorem lwd_1941 : Cond.instanceMethod yX10_span ∈ tbG := tw8 161 rfl rfl
set_option maxRecDepth 100000 in
theorem lwd_1942 : Cond.selects "SunnyPansModel" yX10_span yX10_span ∈ tbG := tw8 162 rfl rfl
set_option maxRecDepth 100000 in
theorem lwd_1943 : Cond.code yX10_span cX10_span 13 (some .int) ∈ tbG := tw8 163 rfl rfl
theorem lcvX10_span : zCV "SunnyPansLaw" 245 "SunnyPansModel" yX10_span cX10_span 13 (some .int) 7 := zCV_of lwd_1940 lwd_1941 lwd_1942 lwd_111 lwd_1943 (by decide +kernel)
theorem dL_law__2653 : decode code 2653 = .ok (.invokevirtual 245, 3) := by decide +kernel
theorem dL_law__2656 : decode code 2656 = .ok (.istore 6, 2) := by decide +kernel
theorem dL_law__2658 : decode code 2658 = .ok (.aload_n 2, 1) := by decide +kernel
theorem dL_law__2659 : decode code 2659 = .ok (.invokevirtual 133, 3) := by decide +kernel
theorem dL_law__2662 : decode code 2662 = .ok (.iload 5, 2) := by decide +kernel
theorem dL_law__2664 : decode code 2664 = .ok (.if_icmp .eq 5, 3) := by decide +kernel
theorem dL_law__2669 : decode code 2669 = .ok (.iload 5, 2) := by decide +kernel
theorem dL_law__2671 : decode code 2671 = .ok (.ifCond .ne 15, 3) := by decide +kernel
theorem dL_law__2686 : decode code 2686 = .ok (.goto 79, 3) := by decide +kernel
theorem dL_law__2674 : decode code 2674 = .ok (.aload_n 3, 1) := by decide +kernel
theorem dL_law__2675 : decode code 2675 = .ok (.iconst 0, 1) := by decide +kernel
theorem dL_law__2676 : decode code 2676 = .ok (.laload, 1) := by decide +kernel
theorem dL_law__2677 : decode code 2677 = .ok (.iload 6, 2) := by decide +kernel
theorem dL_law__2679 : decode code 2679 = .ok (.i2l, 1) := by decide +kernel
theorem dL_law__2680 : decode code 2680 = .ok (.lcmp, 1) := by decide +kernel
theorem dL_law__2681 : decode code 2681 = .ok (.ifCond .eq 5, 3) := by decide +kernel
set_option maxHeartbeats 4000000 in
theorem lc_span {p : Program} {l : Launch} {e : Env} {s : State} {m : MethodId} {below : List Frame} {meth : Method} {c : Code} {G : zG} {b L i cells slots : Nat} {xs : Nat → Int32} {Q : State → Prop} (C : LW9 p l s m meth c G b L xs) (hi : i + 9 ≤ L) (hcell : cells + 4 ≤ room_1.cells ∧ slots + 24 ≤ room_1.slots) (kk : LK9 p l e s m below meth c G b i Q cells slots) : LC9 p l e s m below meth c G b i Q cells slots 2557 := by
  intro Mx Mm v S hXo hMn ok
  obtain ⟨cx, hX, hbl, hL, hl, hN⟩ := C
  have hbA : ¬ (fun q => s.heap.size ≤ q) b := Nat.not_le.mpr hbl
  have hA : ∀ q, s.heap.size ≤ q → (fun q => s.heap.size ≤ q) q := fun _ h => h
  obtain ⟨k, vx, Mx', w, Mm', t, S', hF, hG, hth, hT, hv, hX', hM', ok'⟩ := q_span (xs (i + 1)) (xs (i + 2)) (xs (i + 3)) (xs (i + 4)) (xs (i + 5)) (xs (i + 6)) (xs (i + 7)) hXo hMn ok
  obtain ⟨v', hk, hv0⟩ := hkT3 (v := v) hT hv
  have hthr : F_X10_thrown Mm' = some (nI t, Mm') := by unfold F_X10_thrown; rw [hth]
  refine l_aload_n cx dL_law__2557 1 rfl ?_
  refine l_arg cx hX hbl hbA (j := 1) (by omega) hL 0 4 rfl rfl li_1 dL_law__2558 dL_law__2559 dL_law__2561 dL_law__2562 dL_law__2563 ?_
  refine l_arg cx hX hbl hbA (j := 2) (by omega) hL 0 4 rfl rfl li_2 dL_law__2564 dL_law__2565 dL_law__2567 dL_law__2568 dL_law__2569 ?_
  refine l_arg cx hX hbl hbA (j := 3) (by omega) hL 0 4 rfl rfl li_3 dL_law__2570 dL_law__2571 dL_law__2573 dL_law__2574 dL_law__2575 ?_
  refine l_arg cx hX hbl hbA (j := 4) (by omega) hL 0 4 rfl rfl li_4 dL_law__2576 dL_law__2577 dL_law__2579 dL_law__2580 dL_law__2581 ?_
  refine l_arg cx hX hbl hbA (j := 5) (by omega) hL 0 4 rfl rfl li_5 dL_law__2582 dL_law__2583 dL_law__2585 dL_law__2586 dL_law__2587 ?_
  refine l_argB cx hX hbl hbA (j := 6) (by omega) hL 0 4 rfl rfl lb_6 dL_law__2588 dL_law__2589 dL_law__2591 dL_law__2593 dL_law__2594 ?_
  refine l_argB cx hX hbl hbA (j := 7) (by omega) hL 0 4 rfl rfl lb_7 dL_law__2595 dL_law__2596 dL_law__2598 dL_law__2600 dL_law__2601 ?_
  refine l_aload_n cx dL_law__2602 3 rfl ?_
  refine l_callWL (na := 9) (As := [.ref (adX s.heap.size 0), .int (xs (i + 1)), .int (xs (i + 2)), .int (xs (i + 3)), .int (xs (i + 4)), .int (xs (i + 5)), .int (xs (i + 6)), .int (xs (i + 7)), .ref (aoL s.heap.size)]) (rest := []) cx hA (cw_span l (adX_in _) Mx v (xs (i + 1)) (xs (i + 2)) (xs (i + 3)) (xs (i + 4)) (xs (i + 5)) (xs (i + 6)) (xs (i + 7)) hl hF hk) lwd_1369 lwd_1370 lwd_100 lwd_1371 (by decide +kernel) ⟨rfl, rfl, Nat.le_of_ble_eq_true rfl, Nat.le_of_ble_eq_true rfl⟩ rfl rfl ⟨by decide, by decide⟩ hcell (Nat.le_of_ble_eq_true rfl) dL_law__2603 hN ?_
  refine l_istore cx 5 ((5, .int (nI t)) :: lvL b s.heap.size i) dL_law__2606 (by decide) rfl ?_
  refine l_aload_n cx dL_law__2608 3 rfl ?_
  refine l_arg cx hX hbl hbA (j := 1) (by omega) hL 1 5 rfl rfl li_1 dL_law__2609 dL_law__2610 dL_law__2612 dL_law__2613 dL_law__2614 ?_
  refine l_arg cx hX hbl hbA (j := 2) (by omega) hL 1 5 rfl rfl li_2 dL_law__2615 dL_law__2616 dL_law__2618 dL_law__2619 dL_law__2620 ?_
  refine l_arg cx hX hbl hbA (j := 3) (by omega) hL 1 5 rfl rfl li_3 dL_law__2621 dL_law__2622 dL_law__2624 dL_law__2625 dL_law__2626 ?_
  refine l_arg cx hX hbl hbA (j := 4) (by omega) hL 1 5 rfl rfl li_4 dL_law__2627 dL_law__2628 dL_law__2630 dL_law__2631 dL_law__2632 ?_
  refine l_arg cx hX hbl hbA (j := 5) (by omega) hL 1 5 rfl rfl li_5 dL_law__2633 dL_law__2634 dL_law__2636 dL_law__2637 dL_law__2638 ?_
  refine l_argB cx hX hbl hbA (j := 6) (by omega) hL 1 5 rfl rfl lb_6 dL_law__2639 dL_law__2640 dL_law__2642 dL_law__2644 dL_law__2645 ?_
  refine l_argB cx hX hbl hbA (j := 7) (by omega) hL 1 5 rfl rfl lb_7 dL_law__2646 dL_law__2647 dL_law__2649 dL_law__2651 dL_law__2652 ?_
  refine l_callML (As := [.int (xs (i + 1)), .int (xs (i + 2)), .int (xs (i + 3)), .int (xs (i + 4)), .int (xs (i + 5)), .int (xs (i + 6)), .int (xs (i + 7))]) (rest := []) cx hA (c_X10_span l (adM_in _) Mm (xs (i + 1)) (xs (i + 2)) (xs (i + 3)) (xs (i + 4)) (xs (i + 5)) (xs (i + 6)) (xs (i + 7)) lTM hG) lcvX10_span ⟨rfl, rfl, Nat.le_of_ble_eq_true rfl, Nat.le_of_ble_eq_true rfl⟩ rfl rfl hcell (Nat.le_of_ble_eq_true rfl) dL_law__2653 ?_
  refine l_istore cx 6 ((6, .int w) :: (5, .int (nI t)) :: lvL b s.heap.size i) dL_law__2656 (by decide) rfl ?_
  refine l_aload_n cx dL_law__2658 4 rfl ?_
  refine l_callML (As := []) (rest := []) cx hA (c_X10_thrown l (adM_in _) Mm' lTM hthr) lcvX10_thrown ⟨rfl, rfl, Nat.le_of_ble_eq_true rfl, Nat.le_of_ble_eq_true rfl⟩ rfl rfl hcell (Nat.le_of_ble_eq_true rfl) dL_law__2659 ?_
  refine l_iload cx dL_law__2662 1 rfl ?_
  refine l_icmp_eq cx 2669 dL_law__2664 (by decide) (fun _ => ?_) (fun h => absurd rfl h)
  refine l_iload cx dL_law__2669 1 rfl ?_
  refine l_if_ne cx 2686 dL_law__2671 (by decide) (fun _ => ?_) (fun h0 => ?_)
  · refine l_goto cx 2765 dL_law__2686 (by decide) ?_
    refine l_sub [2, 3, 4, 5, 6] rfl ?_
    exact kk _ _ _ _ hX' hM' ok'
  · refine l_aload_n cx dL_law__2674 5 rfl ?_
    refine l_iconst cx dL_law__2675 ki_0 ?_
    refine l_laldL cx dL_law__2676 ?_
    refine l_iload cx dL_law__2677 0 rfl ?_
    refine l_i2l cx dL_law__2679 ?_
    refine l_lcmp cx dL_law__2680 ?_
    rw [hv0 h0, lgc_self]
    refine l_if_eq cx 2686 dL_law__2681 (by decide) (fun _ => ?_) (fun h => absurd rfl h)
    refine l_goto cx 2765 dL_law__2686 (by decide) ?_
    refine l_sub [2, 3, 4, 5, 6] rfl ?_
    refine l_conv (P' := LPw G s.heap.size Mx' Mm' v') (fun _ h => by rw [hv0 h0]; exact h) ?_
    exact kk _ _ _ _ hX' hM' ok'
theorem dL_law__2689 : decode code 2689 = .ok (.aload_n 1, 1) := by decide +kernel
set_option maxRecDepth 100000 in
theorem lwd_494 : Cond.methodLink "SunnyPansLaw" 246 yX9_image ∈ tbG := tw2 154 rfl rfl
set_option maxRecDepth 100000 in
theorem lwd_495 : Cond.instanceMethod yX9_image ∈ tbG := tw2 155 rfl rfl
set_option maxRecDepth 100000 in
theorem lwd_496 : Cond.selects "SunnyPans" yX9_image yX9_image ∈ tbG := tw2 156 rfl rfl
set_option maxRecDepth 100000 in
theorem lwd_497 : Cond.code yX9_image cX9_image 2 (some .int) ∈ tbG := tw2 157 rfl rfl
theorem lcvX9_image : zCV "SunnyPansLaw" 246 "SunnyPans" yX9_image cX9_image 2 (some .int) 0 := zCV_of lwd_494 lwd_495 lwd_496 lwd_101 lwd_497 (by decide +kernel)
theorem dL_law__2690 : decode code 2690 = .ok (.invokevirtual 246, 3) := by decide +kernel
theorem dL_law__2693 : decode code 2693 = .ok (.aload_n 2, 1) := by decide +kernel
set_option maxRecDepth 100000 in
theorem lwd_1944 : Cond.methodLink "SunnyPansLaw" 249 yX10_image ∈ tbG := tw8 164 rfl rfl
set_option maxRecDepth 100000 in
theorem lwd_1945 : Cond.instanceMethod yX10_image ∈ tbG := tw8 165 rfl rfl
set_option maxRecDepth 100000 in
theorem lwd_1946 : Cond.selects "SunnyPansModel" yX10_image yX10_image ∈ tbG := tw8 166 rfl rfl
set_option maxRecDepth 100000 in
theorem lwd_1947 : Cond.code yX10_image cX10_image 1 (some .int) ∈ tbG := tw8 167 rfl rfl
theorem lcvX10_image : zCV "SunnyPansLaw" 249 "SunnyPansModel" yX10_image cX10_image 1 (some .int) 0 := zCV_of lwd_1944 lwd_1945 lwd_1946 lwd_111 lwd_1947 (by decide +kernel)
theorem dL_law__2694 : decode code 2694 = .ok (.invokevirtual 249, 3) := by decide +kernel
theorem dL_law__2697 : decode code 2697 = .ok (.if_icmp .eq 68, 3) := by decide +kernel
set_option maxHeartbeats 4000000 in
theorem lc_image {p : Program} {l : Launch} {e : Env} {s : State} {m : MethodId} {below : List Frame} {meth : Method} {c : Code} {G : zG} {b L i cells slots : Nat} {xs : Nat → Int32} {Q : State → Prop} (C : LW9 p l s m meth c G b L xs) (hi : i + 9 ≤ L) (hcell : cells + 4 ≤ room_1.cells ∧ slots + 24 ≤ room_1.slots) (kk : LK9 p l e s m below meth c G b i Q cells slots) : LC9 p l e s m below meth c G b i Q cells slots 2689 := by
  intro Mx Mm v S hXo hMn ok
  obtain ⟨cx, hX, hbl, hL, hl, hN⟩ := C
  have hbA : ¬ (fun q => s.heap.size ≤ q) b := Nat.not_le.mpr hbl
  have hA : ∀ q, s.heap.size ≤ q → (fun q => s.heap.size ≤ q) q := fun _ h => h
  obtain ⟨w, Mx', Mm', S', hF, hG, hX', hM', ok'⟩ := q_image  hXo hMn ok
  refine l_aload_n cx dL_law__2689 1 rfl ?_
  refine l_callXL (As := []) (rest := []) cx hA (c_X9_image l (adX_in _).1 Mx  lT0 hF) lcvX9_image ⟨rfl, rfl, Nat.le_of_ble_eq_true rfl, Nat.le_of_ble_eq_true rfl⟩ rfl rfl ⟨Nat.le_trans (Nat.le_add_right _ 4) hcell.1, Nat.le_trans (Nat.le_add_right _ 24) hcell.2⟩ (Nat.le_of_ble_eq_true rfl) dL_law__2690 ?_
  refine l_aload_n cx dL_law__2693 2 rfl ?_
  refine l_callML (As := []) (rest := [.int w]) cx hA (c_X10_image l (adM_in _) Mm  lTM hG) lcvX10_image ⟨rfl, rfl, Nat.le_of_ble_eq_true rfl, Nat.le_of_ble_eq_true rfl⟩ rfl rfl ⟨Nat.le_trans (Nat.le_add_right _ 4) hcell.1, Nat.le_trans (Nat.le_add_right _ 24) hcell.2⟩ (Nat.le_of_ble_eq_true rfl) dL_law__2694 ?_
  refine l_icmp_eq cx 2765 dL_law__2697 (by decide) (fun _ => ?_) (fun h => absurd rfl h)
  exact l_widen (Nat.le_add_right _ 4) (Nat.le_add_right _ 24) (kk _ _ _ _ hX' hM' ok')
theorem dL_law__2702 : decode code 2702 = .ok (.aload_n 1, 1) := by decide +kernel
set_option maxRecDepth 100000 in
theorem lwd_502 : Cond.methodLink "SunnyPansLaw" 250 yX9_restore ∈ tbG := tw2 162 rfl rfl
set_option maxRecDepth 100000 in
theorem lwd_503 : Cond.instanceMethod yX9_restore ∈ tbG := tw2 163 rfl rfl
set_option maxRecDepth 100000 in
theorem lwd_504 : Cond.selects "SunnyPans" yX9_restore yX9_restore ∈ tbG := tw2 164 rfl rfl
set_option maxRecDepth 100000 in
theorem lwd_505 : Cond.code yX9_restore cX9_restore 2 (some .int) ∈ tbG := tw2 165 rfl rfl
theorem lcvX9_restore : zCV "SunnyPansLaw" 250 "SunnyPans" yX9_restore cX9_restore 2 (some .int) 0 := zCV_of lwd_502 lwd_503 lwd_504 lwd_101 lwd_505 (by decide +kernel)
theorem dL_law__2703 : decode code 2703 = .ok (.invokevirtual 250, 3) := by decide +kernel
theorem dL_law__2706 : decode code 2706 = .ok (.aload_n 2, 1) := by decide +kernel
set_option maxRecDepth 100000 in
theorem lwd_1956 : Cond.methodLink "SunnyPansLaw" 253 yX10_restore ∈ tbG := tw8 176 rfl rfl
set_option maxRecDepth 100000 in
theorem lwd_1957 : Cond.instanceMethod yX10_restore ∈ tbG := tw8 177 rfl rfl
set_option maxRecDepth 100000 in
theorem lwd_1958 : Cond.selects "SunnyPansModel" yX10_restore yX10_restore ∈ tbG := tw8 178 rfl rfl
set_option maxRecDepth 100000 in
theorem lwd_1959 : Cond.code yX10_restore cX10_restore 1 (some .int) ∈ tbG := tw8 179 rfl rfl
theorem lcvX10_restore : zCV "SunnyPansLaw" 253 "SunnyPansModel" yX10_restore cX10_restore 1 (some .int) 0 := zCV_of lwd_1956 lwd_1957 lwd_1958 lwd_111 lwd_1959 (by decide +kernel)
theorem dL_law__2707 : decode code 2707 = .ok (.invokevirtual 253, 3) := by decide +kernel
theorem dL_law__2710 : decode code 2710 = .ok (.if_icmp .eq 55, 3) := by decide +kernel
set_option maxHeartbeats 4000000 in
theorem lc_restore {p : Program} {l : Launch} {e : Env} {s : State} {m : MethodId} {below : List Frame} {meth : Method} {c : Code} {G : zG} {b L i cells slots : Nat} {xs : Nat → Int32} {Q : State → Prop} (C : LW9 p l s m meth c G b L xs) (hi : i + 9 ≤ L) (hcell : cells + 4 ≤ room_1.cells ∧ slots + 24 ≤ room_1.slots) (kk : LK9 p l e s m below meth c G b i Q cells slots) : LC9 p l e s m below meth c G b i Q cells slots 2702 := by
  intro Mx Mm v S hXo hMn ok
  obtain ⟨cx, hX, hbl, hL, hl, hN⟩ := C
  have hbA : ¬ (fun q => s.heap.size ≤ q) b := Nat.not_le.mpr hbl
  have hA : ∀ q, s.heap.size ≤ q → (fun q => s.heap.size ≤ q) q := fun _ h => h
  obtain ⟨w, Mx', Mm', S', hF, hG, hX', hM', ok'⟩ := q_restore  hXo hMn ok
  refine l_aload_n cx dL_law__2702 1 rfl ?_
  refine l_callXL (As := []) (rest := []) cx hA (c_X9_restore l (adX_in _).1 Mx  lT0 hF) lcvX9_restore ⟨rfl, rfl, Nat.le_of_ble_eq_true rfl, Nat.le_of_ble_eq_true rfl⟩ rfl rfl ⟨Nat.le_trans (Nat.le_add_right _ 4) hcell.1, Nat.le_trans (Nat.le_add_right _ 24) hcell.2⟩ (Nat.le_of_ble_eq_true rfl) dL_law__2703 ?_
  refine l_aload_n cx dL_law__2706 2 rfl ?_
  refine l_callML (As := []) (rest := [.int w]) cx hA (c_X10_restore l (adM_in _) Mm  lTM hG) lcvX10_restore ⟨rfl, rfl, Nat.le_of_ble_eq_true rfl, Nat.le_of_ble_eq_true rfl⟩ rfl rfl ⟨Nat.le_trans (Nat.le_add_right _ 4) hcell.1, Nat.le_trans (Nat.le_add_right _ 24) hcell.2⟩ (Nat.le_of_ble_eq_true rfl) dL_law__2707 ?_
  refine l_icmp_eq cx 2765 dL_law__2710 (by decide) (fun _ => ?_) (fun h => absurd rfl h)
  exact l_widen (Nat.le_add_right _ 4) (Nat.le_add_right _ 24) (kk _ _ _ _ hX' hM' ok')
theorem dL_law__2715 : decode code 2715 = .ok (.aload_n 1, 1) := by decide +kernel
theorem dL_law__2716 : decode code 2716 = .ok (.aload_n 0, 1) := by decide +kernel
theorem dL_law__2717 : decode code 2717 = .ok (.iload 4, 2) := by decide +kernel
theorem dL_law__2719 : decode code 2719 = .ok (.iconst 1, 1) := by decide +kernel
theorem dL_law__2720 : decode code 2720 = .ok (.iadd, 1) := by decide +kernel
theorem dL_law__2721 : decode code 2721 = .ok (.iaload, 1) := by decide +kernel
set_option maxRecDepth 100000 in
theorem lwd_506 : Cond.methodLink "SunnyPansLaw" 254 yX9_status ∈ tbG := tw2 166 rfl rfl
set_option maxRecDepth 100000 in
theorem lwd_507 : Cond.instanceMethod yX9_status ∈ tbG := tw2 167 rfl rfl
set_option maxRecDepth 100000 in
theorem lwd_508 : Cond.selects "SunnyPans" yX9_status yX9_status ∈ tbG := tw2 168 rfl rfl
set_option maxRecDepth 100000 in
theorem lwd_509 : Cond.code yX9_status cX9_status 2 (some .int) ∈ tbG := tw2 169 rfl rfl
theorem lcvX9_status : zCV "SunnyPansLaw" 254 "SunnyPans" yX9_status cX9_status 2 (some .int) 1 := zCV_of lwd_506 lwd_507 lwd_508 lwd_101 lwd_509 (by decide +kernel)
theorem dL_law__2722 : decode code 2722 = .ok (.invokevirtual 254, 3) := by decide +kernel
theorem dL_law__2725 : decode code 2725 = .ok (.aload_n 2, 1) := by decide +kernel
theorem dL_law__2726 : decode code 2726 = .ok (.aload_n 0, 1) := by decide +kernel
theorem dL_law__2727 : decode code 2727 = .ok (.iload 4, 2) := by decide +kernel
theorem dL_law__2729 : decode code 2729 = .ok (.iconst 1, 1) := by decide +kernel
theorem dL_law__2730 : decode code 2730 = .ok (.iadd, 1) := by decide +kernel
theorem dL_law__2731 : decode code 2731 = .ok (.iaload, 1) := by decide +kernel
set_option maxRecDepth 100000 in
theorem lwd_1960 : Cond.methodLink "SunnyPansLaw" 257 yX10_status ∈ tbG := tw8 180 rfl rfl
set_option maxRecDepth 100000 in
theorem lwd_1961 : Cond.instanceMethod yX10_status ∈ tbG := tw8 181 rfl rfl
set_option maxRecDepth 100000 in
theorem lwd_1962 : Cond.selects "SunnyPansModel" yX10_status yX10_status ∈ tbG := tw8 182 rfl rfl
set_option maxRecDepth 100000 in
theorem lwd_1963 : Cond.code yX10_status cX10_status 2 (some .int) ∈ tbG := tw8 183 rfl rfl
theorem lcvX10_status : zCV "SunnyPansLaw" 257 "SunnyPansModel" yX10_status cX10_status 2 (some .int) 1 := zCV_of lwd_1960 lwd_1961 lwd_1962 lwd_111 lwd_1963 (by decide +kernel)
theorem dL_law__2732 : decode code 2732 = .ok (.invokevirtual 257, 3) := by decide +kernel
theorem dL_law__2735 : decode code 2735 = .ok (.if_icmp .eq 30, 3) := by decide +kernel
set_option maxHeartbeats 4000000 in
theorem lc_status {p : Program} {l : Launch} {e : Env} {s : State} {m : MethodId} {below : List Frame} {meth : Method} {c : Code} {G : zG} {b L i cells slots : Nat} {xs : Nat → Int32} {Q : State → Prop} (C : LW9 p l s m meth c G b L xs) (hi : i + 9 ≤ L) (hcell : cells + 4 ≤ room_1.cells ∧ slots + 24 ≤ room_1.slots) (kk : LK9 p l e s m below meth c G b i Q cells slots) : LC9 p l e s m below meth c G b i Q cells slots 2715 := by
  intro Mx Mm v S hXo hMn ok
  obtain ⟨cx, hX, hbl, hL, hl, hN⟩ := C
  have hbA : ¬ (fun q => s.heap.size ≤ q) b := Nat.not_le.mpr hbl
  have hA : ∀ q, s.heap.size ≤ q → (fun q => s.heap.size ≤ q) q := fun _ h => h
  obtain ⟨w, Mx', Mm', S', hF, hG, hX', hM', ok'⟩ := q_status (xs (i + 1)) hXo hMn ok
  refine l_aload_n cx dL_law__2715 1 rfl ?_
  refine l_arg cx hX hbl hbA (j := 1) (by omega) hL 0 4 rfl rfl li_1 dL_law__2716 dL_law__2717 dL_law__2719 dL_law__2720 dL_law__2721 ?_
  refine l_callXL (As := [.int (xs (i + 1))]) (rest := []) cx hA (c_X9_status l (adX_in _).1 Mx (xs (i + 1)) lT0 hF) lcvX9_status ⟨rfl, rfl, Nat.le_of_ble_eq_true rfl, Nat.le_of_ble_eq_true rfl⟩ rfl rfl ⟨Nat.le_trans (Nat.le_add_right _ 4) hcell.1, Nat.le_trans (Nat.le_add_right _ 24) hcell.2⟩ (Nat.le_of_ble_eq_true rfl) dL_law__2722 ?_
  refine l_aload_n cx dL_law__2725 2 rfl ?_
  refine l_arg cx hX hbl hbA (j := 1) (by omega) hL 0 4 rfl rfl li_1 dL_law__2726 dL_law__2727 dL_law__2729 dL_law__2730 dL_law__2731 ?_
  refine l_callML (As := [.int (xs (i + 1))]) (rest := [.int w]) cx hA (c_X10_status l (adM_in _) Mm (xs (i + 1)) lTM hG) lcvX10_status ⟨rfl, rfl, Nat.le_of_ble_eq_true rfl, Nat.le_of_ble_eq_true rfl⟩ rfl rfl ⟨Nat.le_trans (Nat.le_add_right _ 4) hcell.1, Nat.le_trans (Nat.le_add_right _ 24) hcell.2⟩ (Nat.le_of_ble_eq_true rfl) dL_law__2732 ?_
  refine l_icmp_eq cx 2765 dL_law__2735 (by decide) (fun _ => ?_) (fun h => absurd rfl h)
  exact l_widen (Nat.le_add_right _ 4) (Nat.le_add_right _ 24) (kk _ _ _ _ hX' hM' ok')
theorem dL_law__2740 : decode code 2740 = .ok (.aload_n 1, 1) := by decide +kernel
theorem dL_law__2741 : decode code 2741 = .ok (.aload_n 0, 1) := by decide +kernel
theorem dL_law__2742 : decode code 2742 = .ok (.iload 4, 2) := by decide +kernel
theorem dL_law__2744 : decode code 2744 = .ok (.iconst 1, 1) := by decide +kernel
theorem dL_law__2745 : decode code 2745 = .ok (.iadd, 1) := by decide +kernel
theorem dL_law__2746 : decode code 2746 = .ok (.iaload, 1) := by decide +kernel
set_option maxRecDepth 100000 in
theorem lwd_510 : Cond.methodLink "SunnyPansLaw" 258 yX9_count ∈ tbG := tw2 170 rfl rfl
set_option maxRecDepth 100000 in
theorem lwd_511 : Cond.instanceMethod yX9_count ∈ tbG := tw2 171 rfl rfl
set_option maxRecDepth 100000 in
theorem lwd_512 : Cond.selects "SunnyPans" yX9_count yX9_count ∈ tbG := tw2 172 rfl rfl
set_option maxRecDepth 100000 in
theorem lwd_513 : Cond.code yX9_count cX9_count 2 (some .int) ∈ tbG := tw2 173 rfl rfl
theorem lcvX9_count : zCV "SunnyPansLaw" 258 "SunnyPans" yX9_count cX9_count 2 (some .int) 1 := zCV_of lwd_510 lwd_511 lwd_512 lwd_101 lwd_513 (by decide +kernel)
theorem dL_law__2747 : decode code 2747 = .ok (.invokevirtual 258, 3) := by decide +kernel
theorem dL_law__2750 : decode code 2750 = .ok (.aload_n 2, 1) := by decide +kernel
theorem dL_law__2751 : decode code 2751 = .ok (.aload_n 0, 1) := by decide +kernel
theorem dL_law__2752 : decode code 2752 = .ok (.iload 4, 2) := by decide +kernel
theorem dL_law__2754 : decode code 2754 = .ok (.iconst 1, 1) := by decide +kernel
theorem dL_law__2755 : decode code 2755 = .ok (.iadd, 1) := by decide +kernel
theorem dL_law__2756 : decode code 2756 = .ok (.iaload, 1) := by decide +kernel
set_option maxRecDepth 100000 in
theorem lwd_1964 : Cond.methodLink "SunnyPansLaw" 261 yX10_count ∈ tbG := tw8 184 rfl rfl
set_option maxRecDepth 100000 in
theorem lwd_1965 : Cond.instanceMethod yX10_count ∈ tbG := tw8 185 rfl rfl
set_option maxRecDepth 100000 in
theorem lwd_1966 : Cond.selects "SunnyPansModel" yX10_count yX10_count ∈ tbG := tw8 186 rfl rfl
set_option maxRecDepth 100000 in
theorem lwd_1967 : Cond.code yX10_count cX10_count 2 (some .int) ∈ tbG := tw8 187 rfl rfl
theorem lcvX10_count : zCV "SunnyPansLaw" 261 "SunnyPansModel" yX10_count cX10_count 2 (some .int) 1 := zCV_of lwd_1964 lwd_1965 lwd_1966 lwd_111 lwd_1967 (by decide +kernel)
theorem dL_law__2757 : decode code 2757 = .ok (.invokevirtual 261, 3) := by decide +kernel
theorem dL_law__2760 : decode code 2760 = .ok (.if_icmp .eq 5, 3) := by decide +kernel
set_option maxHeartbeats 4000000 in
theorem lc_count {p : Program} {l : Launch} {e : Env} {s : State} {m : MethodId} {below : List Frame} {meth : Method} {c : Code} {G : zG} {b L i cells slots : Nat} {xs : Nat → Int32} {Q : State → Prop} (C : LW9 p l s m meth c G b L xs) (hi : i + 9 ≤ L) (hcell : cells + 4 ≤ room_1.cells ∧ slots + 24 ≤ room_1.slots) (kk : LK9 p l e s m below meth c G b i Q cells slots) : LC9 p l e s m below meth c G b i Q cells slots 2740 := by
  intro Mx Mm v S hXo hMn ok
  obtain ⟨cx, hX, hbl, hL, hl, hN⟩ := C
  have hbA : ¬ (fun q => s.heap.size ≤ q) b := Nat.not_le.mpr hbl
  have hA : ∀ q, s.heap.size ≤ q → (fun q => s.heap.size ≤ q) q := fun _ h => h
  obtain ⟨w, Mx', Mm', S', hF, hG, hX', hM', ok'⟩ := q_count (xs (i + 1)) hXo hMn ok
  refine l_aload_n cx dL_law__2740 1 rfl ?_
  refine l_arg cx hX hbl hbA (j := 1) (by omega) hL 0 4 rfl rfl li_1 dL_law__2741 dL_law__2742 dL_law__2744 dL_law__2745 dL_law__2746 ?_
  refine l_callXL (As := [.int (xs (i + 1))]) (rest := []) cx hA (c_X9_count l (adX_in _).1 Mx (xs (i + 1)) lT0 hF) lcvX9_count ⟨rfl, rfl, Nat.le_of_ble_eq_true rfl, Nat.le_of_ble_eq_true rfl⟩ rfl rfl ⟨Nat.le_trans (Nat.le_add_right _ 4) hcell.1, Nat.le_trans (Nat.le_add_right _ 24) hcell.2⟩ (Nat.le_of_ble_eq_true rfl) dL_law__2747 ?_
  refine l_aload_n cx dL_law__2750 2 rfl ?_
  refine l_arg cx hX hbl hbA (j := 1) (by omega) hL 0 4 rfl rfl li_1 dL_law__2751 dL_law__2752 dL_law__2754 dL_law__2755 dL_law__2756 ?_
  refine l_callML (As := [.int (xs (i + 1))]) (rest := [.int w]) cx hA (c_X10_count l (adM_in _) Mm (xs (i + 1)) lTM hG) lcvX10_count ⟨rfl, rfl, Nat.le_of_ble_eq_true rfl, Nat.le_of_ble_eq_true rfl⟩ rfl rfl ⟨Nat.le_trans (Nat.le_add_right _ 4) hcell.1, Nat.le_trans (Nat.le_add_right _ 24) hcell.2⟩ (Nat.le_of_ble_eq_true rfl) dL_law__2757 ?_
  refine l_icmp_eq cx 2765 dL_law__2760 (by decide) (fun _ => ?_) (fun h => absurd rfl h)
  exact l_widen (Nat.le_add_right _ 4) (Nat.le_add_right _ 24) (kk _ _ _ _ hX' hM' ok')
