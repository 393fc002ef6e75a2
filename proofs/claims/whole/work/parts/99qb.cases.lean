/-! THE LAW: its cases 7 to 13 -/
theorem dL_law__539 : decode code 539 = .ok (.aload_n 1, 1) := by decide +kernel
theorem dL_law__540 : decode code 540 = .ok (.aload_n 0, 1) := by decide +kernel
theorem dL_law__541 : decode code 541 = .ok (.iload 4, 2) := by decide +kernel
theorem dL_law__543 : decode code 543 = .ok (.iconst 1, 1) := by decide +kernel
theorem dL_law__544 : decode code 544 = .ok (.iadd, 1) := by decide +kernel
theorem dL_law__545 : decode code 545 = .ok (.iaload, 1) := by decide +kernel
theorem dL_law__546 : decode code 546 = .ok (.aload_n 3, 1) := by decide +kernel
set_option maxRecDepth 100000 in
theorem lwd_974 : Cond.methodLink "SunnyPansLaw" 154 yL_told ∈ tbG := tw4 154 rfl rfl
set_option maxRecDepth 100000 in
theorem lwd_975 : Cond.static yL_told ∈ tbG := tw4 155 rfl rfl
set_option maxRecDepth 100000 in
theorem lwd_976 : Cond.codeWith yL_told cL_told 4 (some .int) [(0, 9, 12, 13)] ∈ tbG := tw4 156 rfl rfl
theorem dL_law__547 : decode code 547 = .ok (.invokestatic 154, 3) := by decide +kernel
theorem dL_law__550 : decode code 550 = .ok (.istore 5, 2) := by decide +kernel
theorem dL_law__552 : decode code 552 = .ok (.aload_n 2, 1) := by decide +kernel
theorem dL_law__553 : decode code 553 = .ok (.aload_n 0, 1) := by decide +kernel
theorem dL_law__554 : decode code 554 = .ok (.iload 4, 2) := by decide +kernel
theorem dL_law__556 : decode code 556 = .ok (.iconst 1, 1) := by decide +kernel
theorem dL_law__557 : decode code 557 = .ok (.iadd, 1) := by decide +kernel
theorem dL_law__558 : decode code 558 = .ok (.iaload, 1) := by decide +kernel
set_option maxRecDepth 100000 in
theorem lwd_1747 : Cond.methodLink "SunnyPansLaw" 156 yX10_told ∈ tbG := tw7 207 rfl rfl
set_option maxRecDepth 100000 in
theorem lwd_1748 : Cond.instanceMethod yX10_told ∈ tbG := tw7 208 rfl rfl
set_option maxRecDepth 100000 in
theorem lwd_1749 : Cond.selects "SunnyPansModel" yX10_told yX10_told ∈ tbG := tw7 209 rfl rfl
set_option maxRecDepth 100000 in
theorem lwd_1750 : Cond.code yX10_told cX10_told 2 (some .int) ∈ tbG := tw7 210 rfl rfl
theorem lcvX10_told : zCV "SunnyPansLaw" 156 "SunnyPansModel" yX10_told cX10_told 2 (some .int) 1 := zCV_of lwd_1747 lwd_1748 lwd_1749 lwd_111 lwd_1750 (by decide +kernel)
theorem dL_law__559 : decode code 559 = .ok (.invokevirtual 156, 3) := by decide +kernel
theorem dL_law__562 : decode code 562 = .ok (.istore 6, 2) := by decide +kernel
theorem dL_law__564 : decode code 564 = .ok (.aload_n 2, 1) := by decide +kernel
theorem dL_law__565 : decode code 565 = .ok (.invokevirtual 133, 3) := by decide +kernel
theorem dL_law__568 : decode code 568 = .ok (.iload 5, 2) := by decide +kernel
theorem dL_law__570 : decode code 570 = .ok (.if_icmp .eq 5, 3) := by decide +kernel
theorem dL_law__575 : decode code 575 = .ok (.iload 5, 2) := by decide +kernel
theorem dL_law__577 : decode code 577 = .ok (.ifCond .ne 15, 3) := by decide +kernel
theorem dL_law__592 : decode code 592 = .ok (.goto 2173, 3) := by decide +kernel
theorem dL_law__580 : decode code 580 = .ok (.aload_n 3, 1) := by decide +kernel
theorem dL_law__581 : decode code 581 = .ok (.iconst 0, 1) := by decide +kernel
theorem dL_law__582 : decode code 582 = .ok (.laload, 1) := by decide +kernel
theorem dL_law__583 : decode code 583 = .ok (.iload 6, 2) := by decide +kernel
theorem dL_law__585 : decode code 585 = .ok (.i2l, 1) := by decide +kernel
theorem dL_law__586 : decode code 586 = .ok (.lcmp, 1) := by decide +kernel
theorem dL_law__587 : decode code 587 = .ok (.ifCond .eq 5, 3) := by decide +kernel
set_option maxHeartbeats 4000000 in
theorem lc_told {p : Program} {l : Launch} {e : Env} {s : State} {m : MethodId} {below : List Frame} {meth : Method} {c : Code} {G : zG} {b L i cells slots : Nat} {xs : Nat → Int32} {Q : State → Prop} (C : LW9 p l s m meth c G b L xs) (hi : i + 9 ≤ L) (hcell : cells + 4 ≤ room_1.cells ∧ slots + 24 ≤ room_1.slots) (kk : LK9 p l e s m below meth c G b i Q cells slots) : LC9 p l e s m below meth c G b i Q cells slots 539 := by
  intro Mx Mm v S hXo hMn ok
  obtain ⟨cx, hX, hbl, hL, hl, hN⟩ := C
  have hbA : ¬ (fun q => s.heap.size ≤ q) b := Nat.not_le.mpr hbl
  have hA : ∀ q, s.heap.size ≤ q → (fun q => s.heap.size ≤ q) q := fun _ h => h
  obtain ⟨k, vx, Mx', w, Mm', t, S', hF, hG, hth, hT, hv, hX', hM', ok'⟩ := q_told (xs (i + 1)) hXo hMn ok
  obtain ⟨v', hk, hv0⟩ := hkT1 (v := v) hT hv
  have hthr : F_X10_thrown Mm' = some (nI t, Mm') := by unfold F_X10_thrown; rw [hth]
  refine l_aload_n cx dL_law__539 1 rfl ?_
  refine l_arg cx hX hbl hbA (j := 1) (by omega) hL 0 4 rfl rfl li_1 dL_law__540 dL_law__541 dL_law__543 dL_law__544 dL_law__545 ?_
  refine l_aload_n cx dL_law__546 3 rfl ?_
  refine l_callWL (na := 3) (As := [.ref (adX s.heap.size 0), .int (xs (i + 1)), .ref (aoL s.heap.size)]) (rest := []) cx hA (cw_told l (adX_in _) Mx v (xs (i + 1)) hl hF hk) lwd_974 lwd_975 lwd_100 lwd_976 (by decide +kernel) ⟨rfl, rfl, Nat.le_of_ble_eq_true rfl, Nat.le_of_ble_eq_true rfl⟩ rfl rfl ⟨by decide, by decide⟩ hcell (Nat.le_of_ble_eq_true rfl) dL_law__547 hN ?_
  refine l_istore cx 5 ((5, .int (nI t)) :: lvL b s.heap.size i) dL_law__550 (by decide) rfl ?_
  refine l_aload_n cx dL_law__552 3 rfl ?_
  refine l_arg cx hX hbl hbA (j := 1) (by omega) hL 1 5 rfl rfl li_1 dL_law__553 dL_law__554 dL_law__556 dL_law__557 dL_law__558 ?_
  refine l_callML (As := [.int (xs (i + 1))]) (rest := []) cx hA (c_X10_told l (adM_in _) Mm (xs (i + 1)) lTM hG) lcvX10_told ⟨rfl, rfl, Nat.le_of_ble_eq_true rfl, Nat.le_of_ble_eq_true rfl⟩ rfl rfl hcell (Nat.le_of_ble_eq_true rfl) dL_law__559 ?_
  refine l_istore cx 6 ((6, .int w) :: (5, .int (nI t)) :: lvL b s.heap.size i) dL_law__562 (by decide) rfl ?_
  refine l_aload_n cx dL_law__564 4 rfl ?_
  refine l_callML (As := []) (rest := []) cx hA (c_X10_thrown l (adM_in _) Mm' lTM hthr) lcvX10_thrown ⟨rfl, rfl, Nat.le_of_ble_eq_true rfl, Nat.le_of_ble_eq_true rfl⟩ rfl rfl hcell (Nat.le_of_ble_eq_true rfl) dL_law__565 ?_
  refine l_iload cx dL_law__568 1 rfl ?_
  refine l_icmp_eq cx 575 dL_law__570 (by decide) (fun _ => ?_) (fun h => absurd rfl h)
  refine l_iload cx dL_law__575 1 rfl ?_
  refine l_if_ne cx 592 dL_law__577 (by decide) (fun _ => ?_) (fun h0 => ?_)
  · refine l_goto cx 2765 dL_law__592 (by decide) ?_
    refine l_sub [2, 3, 4, 5, 6] rfl ?_
    exact kk _ _ _ _ hX' hM' ok'
  · refine l_aload_n cx dL_law__580 5 rfl ?_
    refine l_iconst cx dL_law__581 ki_0 ?_
    refine l_laldL cx dL_law__582 ?_
    refine l_iload cx dL_law__583 0 rfl ?_
    refine l_i2l cx dL_law__585 ?_
    refine l_lcmp cx dL_law__586 ?_
    rw [hv0 h0, lgc_self]
    refine l_if_eq cx 592 dL_law__587 (by decide) (fun _ => ?_) (fun h => absurd rfl h)
    refine l_goto cx 2765 dL_law__592 (by decide) ?_
    refine l_sub [2, 3, 4, 5, 6] rfl ?_
    refine l_conv (P' := LPw G s.heap.size Mx' Mm' v') (fun _ h => by rw [hv0 h0]; exact h) ?_
    exact kk _ _ _ _ hX' hM' ok'
theorem dL_law__595 : decode code 595 = .ok (.aload_n 1, 1) := by decide +kernel
theorem dL_law__596 : decode code 596 = .ok (.aload_n 0, 1) := by decide +kernel
theorem dL_law__597 : decode code 597 = .ok (.iload 4, 2) := by decide +kernel
theorem dL_law__599 : decode code 599 = .ok (.iconst 1, 1) := by decide +kernel
theorem dL_law__600 : decode code 600 = .ok (.iadd, 1) := by decide +kernel
theorem dL_law__601 : decode code 601 = .ok (.iaload, 1) := by decide +kernel
theorem dL_law__602 : decode code 602 = .ok (.aload_n 0, 1) := by decide +kernel
theorem dL_law__603 : decode code 603 = .ok (.iload 4, 2) := by decide +kernel
theorem dL_law__605 : decode code 605 = .ok (.iconst 2, 1) := by decide +kernel
theorem dL_law__606 : decode code 606 = .ok (.iadd, 1) := by decide +kernel
theorem dL_law__607 : decode code 607 = .ok (.iaload, 1) := by decide +kernel
theorem dL_law__608 : decode code 608 = .ok (.aload_n 0, 1) := by decide +kernel
theorem dL_law__609 : decode code 609 = .ok (.iload 4, 2) := by decide +kernel
theorem dL_law__611 : decode code 611 = .ok (.iconst 3, 1) := by decide +kernel
theorem dL_law__612 : decode code 612 = .ok (.iadd, 1) := by decide +kernel
theorem dL_law__613 : decode code 613 = .ok (.iaload, 1) := by decide +kernel
theorem dL_law__614 : decode code 614 = .ok (.aload_n 3, 1) := by decide +kernel
set_option maxRecDepth 100000 in
theorem lwd_1012 : Cond.methodLink "SunnyPansLaw" 157 yL_pan ∈ tbG := tw4 192 rfl rfl
set_option maxRecDepth 100000 in
theorem lwd_1013 : Cond.static yL_pan ∈ tbG := tw4 193 rfl rfl
set_option maxRecDepth 100000 in
theorem lwd_1014 : Cond.codeWith yL_pan cL_pan 6 (some .int) [(0, 12, 15, 31), (0, 12, 19, 13)] ∈ tbG := tw4 194 rfl rfl
theorem dL_law__615 : decode code 615 = .ok (.invokestatic 157, 3) := by decide +kernel
theorem dL_law__618 : decode code 618 = .ok (.istore 5, 2) := by decide +kernel
theorem dL_law__620 : decode code 620 = .ok (.aload_n 2, 1) := by decide +kernel
theorem dL_law__621 : decode code 621 = .ok (.aload_n 0, 1) := by decide +kernel
theorem dL_law__622 : decode code 622 = .ok (.iload 4, 2) := by decide +kernel
theorem dL_law__624 : decode code 624 = .ok (.iconst 1, 1) := by decide +kernel
theorem dL_law__625 : decode code 625 = .ok (.iadd, 1) := by decide +kernel
theorem dL_law__626 : decode code 626 = .ok (.iaload, 1) := by decide +kernel
theorem dL_law__627 : decode code 627 = .ok (.aload_n 0, 1) := by decide +kernel
theorem dL_law__628 : decode code 628 = .ok (.iload 4, 2) := by decide +kernel
theorem dL_law__630 : decode code 630 = .ok (.iconst 2, 1) := by decide +kernel
theorem dL_law__631 : decode code 631 = .ok (.iadd, 1) := by decide +kernel
theorem dL_law__632 : decode code 632 = .ok (.iaload, 1) := by decide +kernel
theorem dL_law__633 : decode code 633 = .ok (.aload_n 0, 1) := by decide +kernel
theorem dL_law__634 : decode code 634 = .ok (.iload 4, 2) := by decide +kernel
theorem dL_law__636 : decode code 636 = .ok (.iconst 3, 1) := by decide +kernel
theorem dL_law__637 : decode code 637 = .ok (.iadd, 1) := by decide +kernel
theorem dL_law__638 : decode code 638 = .ok (.iaload, 1) := by decide +kernel
set_option maxRecDepth 100000 in
theorem lwd_1762 : Cond.methodLink "SunnyPansLaw" 160 yX10_pan ∈ tbG := tw7 222 rfl rfl
set_option maxRecDepth 100000 in
theorem lwd_1763 : Cond.instanceMethod yX10_pan ∈ tbG := tw7 223 rfl rfl
set_option maxRecDepth 100000 in
theorem lwd_1764 : Cond.selects "SunnyPansModel" yX10_pan yX10_pan ∈ tbG := tw7 224 rfl rfl
set_option maxRecDepth 100000 in
theorem lwd_1765 : Cond.code yX10_pan cX10_pan 5 (some .int) ∈ tbG := tw7 225 rfl rfl
theorem lcvX10_pan : zCV "SunnyPansLaw" 160 "SunnyPansModel" yX10_pan cX10_pan 5 (some .int) 3 := zCV_of lwd_1762 lwd_1763 lwd_1764 lwd_111 lwd_1765 (by decide +kernel)
theorem dL_law__639 : decode code 639 = .ok (.invokevirtual 160, 3) := by decide +kernel
theorem dL_law__642 : decode code 642 = .ok (.istore 6, 2) := by decide +kernel
theorem dL_law__644 : decode code 644 = .ok (.aload_n 2, 1) := by decide +kernel
theorem dL_law__645 : decode code 645 = .ok (.invokevirtual 133, 3) := by decide +kernel
theorem dL_law__648 : decode code 648 = .ok (.iload 5, 2) := by decide +kernel
theorem dL_law__650 : decode code 650 = .ok (.if_icmp .eq 5, 3) := by decide +kernel
theorem dL_law__655 : decode code 655 = .ok (.iload 5, 2) := by decide +kernel
theorem dL_law__657 : decode code 657 = .ok (.ifCond .ne 15, 3) := by decide +kernel
theorem dL_law__672 : decode code 672 = .ok (.goto 2093, 3) := by decide +kernel
theorem dL_law__660 : decode code 660 = .ok (.aload_n 3, 1) := by decide +kernel
theorem dL_law__661 : decode code 661 = .ok (.iconst 0, 1) := by decide +kernel
theorem dL_law__662 : decode code 662 = .ok (.laload, 1) := by decide +kernel
theorem dL_law__663 : decode code 663 = .ok (.iload 6, 2) := by decide +kernel
theorem dL_law__665 : decode code 665 = .ok (.i2l, 1) := by decide +kernel
theorem dL_law__666 : decode code 666 = .ok (.lcmp, 1) := by decide +kernel
theorem dL_law__667 : decode code 667 = .ok (.ifCond .eq 5, 3) := by decide +kernel
set_option maxHeartbeats 4000000 in
theorem lc_pan {p : Program} {l : Launch} {e : Env} {s : State} {m : MethodId} {below : List Frame} {meth : Method} {c : Code} {G : zG} {b L i cells slots : Nat} {xs : Nat → Int32} {Q : State → Prop} (C : LW9 p l s m meth c G b L xs) (hi : i + 9 ≤ L) (hcell : cells + 4 ≤ room_1.cells ∧ slots + 24 ≤ room_1.slots) (kk : LK9 p l e s m below meth c G b i Q cells slots) : LC9 p l e s m below meth c G b i Q cells slots 595 := by
  intro Mx Mm v S hXo hMn ok
  obtain ⟨cx, hX, hbl, hL, hl, hN⟩ := C
  have hbA : ¬ (fun q => s.heap.size ≤ q) b := Nat.not_le.mpr hbl
  have hA : ∀ q, s.heap.size ≤ q → (fun q => s.heap.size ≤ q) q := fun _ h => h
  obtain ⟨k, vx, Mx', w, Mm', t, S', hF, hG, hth, hT, hv, hX', hM', ok'⟩ := q_pan (xs (i + 1)) (xs (i + 2)) (xs (i + 3)) hXo hMn ok
  obtain ⟨v', hk, hv0⟩ := hkT3 (v := v) hT hv
  have hthr : F_X10_thrown Mm' = some (nI t, Mm') := by unfold F_X10_thrown; rw [hth]
  refine l_aload_n cx dL_law__595 1 rfl ?_
  refine l_arg cx hX hbl hbA (j := 1) (by omega) hL 0 4 rfl rfl li_1 dL_law__596 dL_law__597 dL_law__599 dL_law__600 dL_law__601 ?_
  refine l_arg cx hX hbl hbA (j := 2) (by omega) hL 0 4 rfl rfl li_2 dL_law__602 dL_law__603 dL_law__605 dL_law__606 dL_law__607 ?_
  refine l_arg cx hX hbl hbA (j := 3) (by omega) hL 0 4 rfl rfl li_3 dL_law__608 dL_law__609 dL_law__611 dL_law__612 dL_law__613 ?_
  refine l_aload_n cx dL_law__614 3 rfl ?_
  refine l_callWL (na := 5) (As := [.ref (adX s.heap.size 0), .int (xs (i + 1)), .int (xs (i + 2)), .int (xs (i + 3)), .ref (aoL s.heap.size)]) (rest := []) cx hA (cw_pan l (adX_in _) Mx v (xs (i + 1)) (xs (i + 2)) (xs (i + 3)) hl hF hk) lwd_1012 lwd_1013 lwd_100 lwd_1014 (by decide +kernel) ⟨rfl, rfl, Nat.le_of_ble_eq_true rfl, Nat.le_of_ble_eq_true rfl⟩ rfl rfl ⟨by decide, by decide⟩ hcell (Nat.le_of_ble_eq_true rfl) dL_law__615 hN ?_
  refine l_istore cx 5 ((5, .int (nI t)) :: lvL b s.heap.size i) dL_law__618 (by decide) rfl ?_
  refine l_aload_n cx dL_law__620 3 rfl ?_
  refine l_arg cx hX hbl hbA (j := 1) (by omega) hL 1 5 rfl rfl li_1 dL_law__621 dL_law__622 dL_law__624 dL_law__625 dL_law__626 ?_
  refine l_arg cx hX hbl hbA (j := 2) (by omega) hL 1 5 rfl rfl li_2 dL_law__627 dL_law__628 dL_law__630 dL_law__631 dL_law__632 ?_
  refine l_arg cx hX hbl hbA (j := 3) (by omega) hL 1 5 rfl rfl li_3 dL_law__633 dL_law__634 dL_law__636 dL_law__637 dL_law__638 ?_
  refine l_callML (As := [.int (xs (i + 1)), .int (xs (i + 2)), .int (xs (i + 3))]) (rest := []) cx hA (c_X10_pan l (adM_in _) Mm (xs (i + 1)) (xs (i + 2)) (xs (i + 3)) lTM hG) lcvX10_pan ⟨rfl, rfl, Nat.le_of_ble_eq_true rfl, Nat.le_of_ble_eq_true rfl⟩ rfl rfl hcell (Nat.le_of_ble_eq_true rfl) dL_law__639 ?_
  refine l_istore cx 6 ((6, .int w) :: (5, .int (nI t)) :: lvL b s.heap.size i) dL_law__642 (by decide) rfl ?_
  refine l_aload_n cx dL_law__644 4 rfl ?_
  refine l_callML (As := []) (rest := []) cx hA (c_X10_thrown l (adM_in _) Mm' lTM hthr) lcvX10_thrown ⟨rfl, rfl, Nat.le_of_ble_eq_true rfl, Nat.le_of_ble_eq_true rfl⟩ rfl rfl hcell (Nat.le_of_ble_eq_true rfl) dL_law__645 ?_
  refine l_iload cx dL_law__648 1 rfl ?_
  refine l_icmp_eq cx 655 dL_law__650 (by decide) (fun _ => ?_) (fun h => absurd rfl h)
  refine l_iload cx dL_law__655 1 rfl ?_
  refine l_if_ne cx 672 dL_law__657 (by decide) (fun _ => ?_) (fun h0 => ?_)
  · refine l_goto cx 2765 dL_law__672 (by decide) ?_
    refine l_sub [2, 3, 4, 5, 6] rfl ?_
    exact kk _ _ _ _ hX' hM' ok'
  · refine l_aload_n cx dL_law__660 5 rfl ?_
    refine l_iconst cx dL_law__661 ki_0 ?_
    refine l_laldL cx dL_law__662 ?_
    refine l_iload cx dL_law__663 0 rfl ?_
    refine l_i2l cx dL_law__665 ?_
    refine l_lcmp cx dL_law__666 ?_
    rw [hv0 h0, lgc_self]
    refine l_if_eq cx 672 dL_law__667 (by decide) (fun _ => ?_) (fun h => absurd rfl h)
    refine l_goto cx 2765 dL_law__672 (by decide) ?_
    refine l_sub [2, 3, 4, 5, 6] rfl ?_
    refine l_conv (P' := LPw G s.heap.size Mx' Mm' v') (fun _ h => by rw [hv0 h0]; exact h) ?_
    exact kk _ _ _ _ hX' hM' ok'
theorem dL_law__675 : decode code 675 = .ok (.aload_n 1, 1) := by decide +kernel
theorem dL_law__676 : decode code 676 = .ok (.aload_n 0, 1) := by decide +kernel
theorem dL_law__677 : decode code 677 = .ok (.iload 4, 2) := by decide +kernel
theorem dL_law__679 : decode code 679 = .ok (.iconst 1, 1) := by decide +kernel
theorem dL_law__680 : decode code 680 = .ok (.iadd, 1) := by decide +kernel
theorem dL_law__681 : decode code 681 = .ok (.iaload, 1) := by decide +kernel
theorem dL_law__682 : decode code 682 = .ok (.aload_n 0, 1) := by decide +kernel
theorem dL_law__683 : decode code 683 = .ok (.iload 4, 2) := by decide +kernel
theorem dL_law__685 : decode code 685 = .ok (.iconst 2, 1) := by decide +kernel
theorem dL_law__686 : decode code 686 = .ok (.iadd, 1) := by decide +kernel
theorem dL_law__687 : decode code 687 = .ok (.iaload, 1) := by decide +kernel
theorem dL_law__688 : decode code 688 = .ok (.aload_n 3, 1) := by decide +kernel
set_option maxRecDepth 100000 in
theorem lwd_1058 : Cond.methodLink "SunnyPansLaw" 161 yL_hour ∈ tbG := tw4 238 rfl rfl
set_option maxRecDepth 100000 in
theorem lwd_1059 : Cond.static yL_hour ∈ tbG := tw4 239 rfl rfl
set_option maxRecDepth 100000 in
theorem lwd_1060 : Cond.codeWith yL_hour cL_hour 5 (some .int) [(0, 10, 13, 31), (0, 10, 17, 13)] ∈ tbG := tw5 0 rfl rfl
theorem dL_law__689 : decode code 689 = .ok (.invokestatic 161, 3) := by decide +kernel
theorem dL_law__692 : decode code 692 = .ok (.istore 5, 2) := by decide +kernel
theorem dL_law__694 : decode code 694 = .ok (.aload_n 2, 1) := by decide +kernel
theorem dL_law__695 : decode code 695 = .ok (.aload_n 0, 1) := by decide +kernel
theorem dL_law__696 : decode code 696 = .ok (.iload 4, 2) := by decide +kernel
theorem dL_law__698 : decode code 698 = .ok (.iconst 1, 1) := by decide +kernel
theorem dL_law__699 : decode code 699 = .ok (.iadd, 1) := by decide +kernel
theorem dL_law__700 : decode code 700 = .ok (.iaload, 1) := by decide +kernel
theorem dL_law__701 : decode code 701 = .ok (.aload_n 0, 1) := by decide +kernel
theorem dL_law__702 : decode code 702 = .ok (.iload 4, 2) := by decide +kernel
theorem dL_law__704 : decode code 704 = .ok (.iconst 2, 1) := by decide +kernel
theorem dL_law__705 : decode code 705 = .ok (.iadd, 1) := by decide +kernel
theorem dL_law__706 : decode code 706 = .ok (.iaload, 1) := by decide +kernel
set_option maxRecDepth 100000 in
theorem lwd_1773 : Cond.methodLink "SunnyPansLaw" 164 yX10_hour ∈ tbG := tw7 233 rfl rfl
set_option maxRecDepth 100000 in
theorem lwd_1774 : Cond.instanceMethod yX10_hour ∈ tbG := tw7 234 rfl rfl
set_option maxRecDepth 100000 in
theorem lwd_1775 : Cond.selects "SunnyPansModel" yX10_hour yX10_hour ∈ tbG := tw7 235 rfl rfl
set_option maxRecDepth 100000 in
theorem lwd_1776 : Cond.code yX10_hour cX10_hour 5 (some .int) ∈ tbG := tw7 236 rfl rfl
theorem lcvX10_hour : zCV "SunnyPansLaw" 164 "SunnyPansModel" yX10_hour cX10_hour 5 (some .int) 2 := zCV_of lwd_1773 lwd_1774 lwd_1775 lwd_111 lwd_1776 (by decide +kernel)
theorem dL_law__707 : decode code 707 = .ok (.invokevirtual 164, 3) := by decide +kernel
theorem dL_law__710 : decode code 710 = .ok (.istore 6, 2) := by decide +kernel
theorem dL_law__712 : decode code 712 = .ok (.aload_n 2, 1) := by decide +kernel
theorem dL_law__713 : decode code 713 = .ok (.invokevirtual 133, 3) := by decide +kernel
theorem dL_law__716 : decode code 716 = .ok (.iload 5, 2) := by decide +kernel
theorem dL_law__718 : decode code 718 = .ok (.if_icmp .eq 5, 3) := by decide +kernel
theorem dL_law__723 : decode code 723 = .ok (.iload 5, 2) := by decide +kernel
theorem dL_law__725 : decode code 725 = .ok (.ifCond .ne 15, 3) := by decide +kernel
theorem dL_law__740 : decode code 740 = .ok (.goto 2025, 3) := by decide +kernel
theorem dL_law__728 : decode code 728 = .ok (.aload_n 3, 1) := by decide +kernel
theorem dL_law__729 : decode code 729 = .ok (.iconst 0, 1) := by decide +kernel
theorem dL_law__730 : decode code 730 = .ok (.laload, 1) := by decide +kernel
theorem dL_law__731 : decode code 731 = .ok (.iload 6, 2) := by decide +kernel
theorem dL_law__733 : decode code 733 = .ok (.i2l, 1) := by decide +kernel
theorem dL_law__734 : decode code 734 = .ok (.lcmp, 1) := by decide +kernel
theorem dL_law__735 : decode code 735 = .ok (.ifCond .eq 5, 3) := by decide +kernel
set_option maxHeartbeats 4000000 in
theorem lc_hour {p : Program} {l : Launch} {e : Env} {s : State} {m : MethodId} {below : List Frame} {meth : Method} {c : Code} {G : zG} {b L i cells slots : Nat} {xs : Nat → Int32} {Q : State → Prop} (C : LW9 p l s m meth c G b L xs) (hi : i + 9 ≤ L) (hcell : cells + 4 ≤ room_1.cells ∧ slots + 24 ≤ room_1.slots) (kk : LK9 p l e s m below meth c G b i Q cells slots) : LC9 p l e s m below meth c G b i Q cells slots 675 := by
  intro Mx Mm v S hXo hMn ok
  obtain ⟨cx, hX, hbl, hL, hl, hN⟩ := C
  have hbA : ¬ (fun q => s.heap.size ≤ q) b := Nat.not_le.mpr hbl
  have hA : ∀ q, s.heap.size ≤ q → (fun q => s.heap.size ≤ q) q := fun _ h => h
  obtain ⟨k, vx, Mx', w, Mm', t, S', hF, hG, hth, hT, hv, hX', hM', ok'⟩ := q_hour (xs (i + 1)) (xs (i + 2)) hXo hMn ok
  obtain ⟨v', hk, hv0⟩ := hkT3 (v := v) hT hv
  have hthr : F_X10_thrown Mm' = some (nI t, Mm') := by unfold F_X10_thrown; rw [hth]
  refine l_aload_n cx dL_law__675 1 rfl ?_
  refine l_arg cx hX hbl hbA (j := 1) (by omega) hL 0 4 rfl rfl li_1 dL_law__676 dL_law__677 dL_law__679 dL_law__680 dL_law__681 ?_
  refine l_arg cx hX hbl hbA (j := 2) (by omega) hL 0 4 rfl rfl li_2 dL_law__682 dL_law__683 dL_law__685 dL_law__686 dL_law__687 ?_
  refine l_aload_n cx dL_law__688 3 rfl ?_
  refine l_callWL (na := 4) (As := [.ref (adX s.heap.size 0), .int (xs (i + 1)), .int (xs (i + 2)), .ref (aoL s.heap.size)]) (rest := []) cx hA (cw_hour l (adX_in _) Mx v (xs (i + 1)) (xs (i + 2)) hl hF hk) lwd_1058 lwd_1059 lwd_100 lwd_1060 (by decide +kernel) ⟨rfl, rfl, Nat.le_of_ble_eq_true rfl, Nat.le_of_ble_eq_true rfl⟩ rfl rfl ⟨by decide, by decide⟩ hcell (Nat.le_of_ble_eq_true rfl) dL_law__689 hN ?_
  refine l_istore cx 5 ((5, .int (nI t)) :: lvL b s.heap.size i) dL_law__692 (by decide) rfl ?_
  refine l_aload_n cx dL_law__694 3 rfl ?_
  refine l_arg cx hX hbl hbA (j := 1) (by omega) hL 1 5 rfl rfl li_1 dL_law__695 dL_law__696 dL_law__698 dL_law__699 dL_law__700 ?_
  refine l_arg cx hX hbl hbA (j := 2) (by omega) hL 1 5 rfl rfl li_2 dL_law__701 dL_law__702 dL_law__704 dL_law__705 dL_law__706 ?_
  refine l_callML (As := [.int (xs (i + 1)), .int (xs (i + 2))]) (rest := []) cx hA (c_X10_hour l (adM_in _) Mm (xs (i + 1)) (xs (i + 2)) lTM hG) lcvX10_hour ⟨rfl, rfl, Nat.le_of_ble_eq_true rfl, Nat.le_of_ble_eq_true rfl⟩ rfl rfl hcell (Nat.le_of_ble_eq_true rfl) dL_law__707 ?_
  refine l_istore cx 6 ((6, .int w) :: (5, .int (nI t)) :: lvL b s.heap.size i) dL_law__710 (by decide) rfl ?_
  refine l_aload_n cx dL_law__712 4 rfl ?_
  refine l_callML (As := []) (rest := []) cx hA (c_X10_thrown l (adM_in _) Mm' lTM hthr) lcvX10_thrown ⟨rfl, rfl, Nat.le_of_ble_eq_true rfl, Nat.le_of_ble_eq_true rfl⟩ rfl rfl hcell (Nat.le_of_ble_eq_true rfl) dL_law__713 ?_
  refine l_iload cx dL_law__716 1 rfl ?_
  refine l_icmp_eq cx 723 dL_law__718 (by decide) (fun _ => ?_) (fun h => absurd rfl h)
  refine l_iload cx dL_law__723 1 rfl ?_
  refine l_if_ne cx 740 dL_law__725 (by decide) (fun _ => ?_) (fun h0 => ?_)
  · refine l_goto cx 2765 dL_law__740 (by decide) ?_
    refine l_sub [2, 3, 4, 5, 6] rfl ?_
    exact kk _ _ _ _ hX' hM' ok'
  · refine l_aload_n cx dL_law__728 5 rfl ?_
    refine l_iconst cx dL_law__729 ki_0 ?_
    refine l_laldL cx dL_law__730 ?_
    refine l_iload cx dL_law__731 0 rfl ?_
    refine l_i2l cx dL_law__733 ?_
    refine l_lcmp cx dL_law__734 ?_
    rw [hv0 h0, lgc_self]
    refine l_if_eq cx 740 dL_law__735 (by decide) (fun _ => ?_) (fun h => absurd rfl h)
    refine l_goto cx 2765 dL_law__740 (by decide) ?_
    refine l_sub [2, 3, 4, 5, 6] rfl ?_
    refine l_conv (P' := LPw G s.heap.size Mx' Mm' v') (fun _ h => by rw [hv0 h0]; exact h) ?_
    exact kk _ _ _ _ hX' hM' ok'
theorem dL_law__743 : decode code 743 = .ok (.aload_n 1, 1) := by decide +kernel
theorem dL_law__744 : decode code 744 = .ok (.aload_n 0, 1) := by decide +kernel
theorem dL_law__745 : decode code 745 = .ok (.iload 4, 2) := by decide +kernel
theorem dL_law__747 : decode code 747 = .ok (.iconst 1, 1) := by decide +kernel
theorem dL_law__748 : decode code 748 = .ok (.iadd, 1) := by decide +kernel
theorem dL_law__749 : decode code 749 = .ok (.iaload, 1) := by decide +kernel
theorem dL_law__750 : decode code 750 = .ok (.aload_n 0, 1) := by decide +kernel
theorem dL_law__751 : decode code 751 = .ok (.iload 4, 2) := by decide +kernel
theorem dL_law__753 : decode code 753 = .ok (.iconst 2, 1) := by decide +kernel
theorem dL_law__754 : decode code 754 = .ok (.iadd, 1) := by decide +kernel
theorem dL_law__755 : decode code 755 = .ok (.iaload, 1) := by decide +kernel
theorem dL_law__756 : decode code 756 = .ok (.aload_n 3, 1) := by decide +kernel
set_option maxRecDepth 100000 in
theorem lwd_1070 : Cond.methodLink "SunnyPansLaw" 165 yL_shade ∈ tbG := tw5 10 rfl rfl
set_option maxRecDepth 100000 in
theorem lwd_1071 : Cond.static yL_shade ∈ tbG := tw5 11 rfl rfl
set_option maxRecDepth 100000 in
theorem lwd_1072 : Cond.codeWith yL_shade cL_shade 5 (some .int) [(0, 10, 13, 31)] ∈ tbG := tw5 12 rfl rfl
theorem dL_law__757 : decode code 757 = .ok (.invokestatic 165, 3) := by decide +kernel
theorem dL_law__760 : decode code 760 = .ok (.istore 5, 2) := by decide +kernel
theorem dL_law__762 : decode code 762 = .ok (.aload_n 2, 1) := by decide +kernel
theorem dL_law__763 : decode code 763 = .ok (.aload_n 0, 1) := by decide +kernel
theorem dL_law__764 : decode code 764 = .ok (.iload 4, 2) := by decide +kernel
theorem dL_law__766 : decode code 766 = .ok (.iconst 1, 1) := by decide +kernel
theorem dL_law__767 : decode code 767 = .ok (.iadd, 1) := by decide +kernel
theorem dL_law__768 : decode code 768 = .ok (.iaload, 1) := by decide +kernel
theorem dL_law__769 : decode code 769 = .ok (.aload_n 0, 1) := by decide +kernel
theorem dL_law__770 : decode code 770 = .ok (.iload 4, 2) := by decide +kernel
theorem dL_law__772 : decode code 772 = .ok (.iconst 2, 1) := by decide +kernel
theorem dL_law__773 : decode code 773 = .ok (.iadd, 1) := by decide +kernel
theorem dL_law__774 : decode code 774 = .ok (.iaload, 1) := by decide +kernel
set_option maxRecDepth 100000 in
theorem lwd_1781 : Cond.methodLink "SunnyPansLaw" 167 yX10_shade ∈ tbG := tw8 1 rfl rfl
set_option maxRecDepth 100000 in
theorem lwd_1782 : Cond.instanceMethod yX10_shade ∈ tbG := tw8 2 rfl rfl
set_option maxRecDepth 100000 in
theorem lwd_1783 : Cond.selects "SunnyPansModel" yX10_shade yX10_shade ∈ tbG := tw8 3 rfl rfl
set_option maxRecDepth 100000 in
theorem lwd_1784 : Cond.code yX10_shade cX10_shade 3 (some .int) ∈ tbG := tw8 4 rfl rfl
theorem lcvX10_shade : zCV "SunnyPansLaw" 167 "SunnyPansModel" yX10_shade cX10_shade 3 (some .int) 2 := zCV_of lwd_1781 lwd_1782 lwd_1783 lwd_111 lwd_1784 (by decide +kernel)
theorem dL_law__775 : decode code 775 = .ok (.invokevirtual 167, 3) := by decide +kernel
theorem dL_law__778 : decode code 778 = .ok (.istore 6, 2) := by decide +kernel
theorem dL_law__780 : decode code 780 = .ok (.aload_n 2, 1) := by decide +kernel
theorem dL_law__781 : decode code 781 = .ok (.invokevirtual 133, 3) := by decide +kernel
theorem dL_law__784 : decode code 784 = .ok (.iload 5, 2) := by decide +kernel
theorem dL_law__786 : decode code 786 = .ok (.if_icmp .eq 5, 3) := by decide +kernel
theorem dL_law__791 : decode code 791 = .ok (.iload 5, 2) := by decide +kernel
theorem dL_law__793 : decode code 793 = .ok (.ifCond .ne 15, 3) := by decide +kernel
theorem dL_law__808 : decode code 808 = .ok (.goto 1957, 3) := by decide +kernel
theorem dL_law__796 : decode code 796 = .ok (.aload_n 3, 1) := by decide +kernel
theorem dL_law__797 : decode code 797 = .ok (.iconst 0, 1) := by decide +kernel
theorem dL_law__798 : decode code 798 = .ok (.laload, 1) := by decide +kernel
theorem dL_law__799 : decode code 799 = .ok (.iload 6, 2) := by decide +kernel
theorem dL_law__801 : decode code 801 = .ok (.i2l, 1) := by decide +kernel
theorem dL_law__802 : decode code 802 = .ok (.lcmp, 1) := by decide +kernel
theorem dL_law__803 : decode code 803 = .ok (.ifCond .eq 5, 3) := by decide +kernel
set_option maxHeartbeats 4000000 in
theorem lc_shade {p : Program} {l : Launch} {e : Env} {s : State} {m : MethodId} {below : List Frame} {meth : Method} {c : Code} {G : zG} {b L i cells slots : Nat} {xs : Nat → Int32} {Q : State → Prop} (C : LW9 p l s m meth c G b L xs) (hi : i + 9 ≤ L) (hcell : cells + 4 ≤ room_1.cells ∧ slots + 24 ≤ room_1.slots) (kk : LK9 p l e s m below meth c G b i Q cells slots) : LC9 p l e s m below meth c G b i Q cells slots 743 := by
  intro Mx Mm v S hXo hMn ok
  obtain ⟨cx, hX, hbl, hL, hl, hN⟩ := C
  have hbA : ¬ (fun q => s.heap.size ≤ q) b := Nat.not_le.mpr hbl
  have hA : ∀ q, s.heap.size ≤ q → (fun q => s.heap.size ≤ q) q := fun _ h => h
  obtain ⟨k, vx, Mx', w, Mm', t, S', hF, hG, hth, hT, hv, hX', hM', ok'⟩ := q_shade (xs (i + 1)) (xs (i + 2)) hXo hMn ok
  obtain ⟨v', hk, hv0⟩ := hkT2 (v := v) hT hv
  have hthr : F_X10_thrown Mm' = some (nI t, Mm') := by unfold F_X10_thrown; rw [hth]
  refine l_aload_n cx dL_law__743 1 rfl ?_
  refine l_arg cx hX hbl hbA (j := 1) (by omega) hL 0 4 rfl rfl li_1 dL_law__744 dL_law__745 dL_law__747 dL_law__748 dL_law__749 ?_
  refine l_arg cx hX hbl hbA (j := 2) (by omega) hL 0 4 rfl rfl li_2 dL_law__750 dL_law__751 dL_law__753 dL_law__754 dL_law__755 ?_
  refine l_aload_n cx dL_law__756 3 rfl ?_
  refine l_callWL (na := 4) (As := [.ref (adX s.heap.size 0), .int (xs (i + 1)), .int (xs (i + 2)), .ref (aoL s.heap.size)]) (rest := []) cx hA (cw_shade l (adX_in _) Mx v (xs (i + 1)) (xs (i + 2)) hl hF hk) lwd_1070 lwd_1071 lwd_100 lwd_1072 (by decide +kernel) ⟨rfl, rfl, Nat.le_of_ble_eq_true rfl, Nat.le_of_ble_eq_true rfl⟩ rfl rfl ⟨by decide, by decide⟩ hcell (Nat.le_of_ble_eq_true rfl) dL_law__757 hN ?_
  refine l_istore cx 5 ((5, .int (nI t)) :: lvL b s.heap.size i) dL_law__760 (by decide) rfl ?_
  refine l_aload_n cx dL_law__762 3 rfl ?_
  refine l_arg cx hX hbl hbA (j := 1) (by omega) hL 1 5 rfl rfl li_1 dL_law__763 dL_law__764 dL_law__766 dL_law__767 dL_law__768 ?_
  refine l_arg cx hX hbl hbA (j := 2) (by omega) hL 1 5 rfl rfl li_2 dL_law__769 dL_law__770 dL_law__772 dL_law__773 dL_law__774 ?_
  refine l_callML (As := [.int (xs (i + 1)), .int (xs (i + 2))]) (rest := []) cx hA (c_X10_shade l (adM_in _) Mm (xs (i + 1)) (xs (i + 2)) lTM hG) lcvX10_shade ⟨rfl, rfl, Nat.le_of_ble_eq_true rfl, Nat.le_of_ble_eq_true rfl⟩ rfl rfl hcell (Nat.le_of_ble_eq_true rfl) dL_law__775 ?_
  refine l_istore cx 6 ((6, .int w) :: (5, .int (nI t)) :: lvL b s.heap.size i) dL_law__778 (by decide) rfl ?_
  refine l_aload_n cx dL_law__780 4 rfl ?_
  refine l_callML (As := []) (rest := []) cx hA (c_X10_thrown l (adM_in _) Mm' lTM hthr) lcvX10_thrown ⟨rfl, rfl, Nat.le_of_ble_eq_true rfl, Nat.le_of_ble_eq_true rfl⟩ rfl rfl hcell (Nat.le_of_ble_eq_true rfl) dL_law__781 ?_
  refine l_iload cx dL_law__784 1 rfl ?_
  refine l_icmp_eq cx 791 dL_law__786 (by decide) (fun _ => ?_) (fun h => absurd rfl h)
  refine l_iload cx dL_law__791 1 rfl ?_
  refine l_if_ne cx 808 dL_law__793 (by decide) (fun _ => ?_) (fun h0 => ?_)
  · refine l_goto cx 2765 dL_law__808 (by decide) ?_
    refine l_sub [2, 3, 4, 5, 6] rfl ?_
    exact kk _ _ _ _ hX' hM' ok'
  · refine l_aload_n cx dL_law__796 5 rfl ?_
    refine l_iconst cx dL_law__797 ki_0 ?_
    refine l_laldL cx dL_law__798 ?_
    refine l_iload cx dL_law__799 0 rfl ?_
    refine l_i2l cx dL_law__801 ?_
    refine l_lcmp cx dL_law__802 ?_
    rw [hv0 h0, lgc_self]
    refine l_if_eq cx 808 dL_law__803 (by decide) (fun _ => ?_) (fun h => absurd rfl h)
    refine l_goto cx 2765 dL_law__808 (by decide) ?_
    refine l_sub [2, 3, 4, 5, 6] rfl ?_
    refine l_conv (P' := LPw G s.heap.size Mx' Mm' v') (fun _ h => by rw [hv0 h0]; exact h) ?_
    exact kk _ _ _ _ hX' hM' ok'
theorem dL_law__811 : decode code 811 = .ok (.aload_n 1, 1) := by decide +kernel
theorem dL_law__812 : decode code 812 = .ok (.aload_n 0, 1) := by decide +kernel
theorem dL_law__813 : decode code 813 = .ok (.iload 4, 2) := by decide +kernel
theorem dL_law__815 : decode code 815 = .ok (.iconst 1, 1) := by decide +kernel
theorem dL_law__816 : decode code 816 = .ok (.iadd, 1) := by decide +kernel
theorem dL_law__817 : decode code 817 = .ok (.iaload, 1) := by decide +kernel
theorem dL_law__818 : decode code 818 = .ok (.aload_n 0, 1) := by decide +kernel
theorem dL_law__819 : decode code 819 = .ok (.iload 4, 2) := by decide +kernel
theorem dL_law__821 : decode code 821 = .ok (.iconst 2, 1) := by decide +kernel
theorem dL_law__822 : decode code 822 = .ok (.iadd, 1) := by decide +kernel
theorem dL_law__823 : decode code 823 = .ok (.iaload, 1) := by decide +kernel
theorem dL_law__824 : decode code 824 = .ok (.aload_n 0, 1) := by decide +kernel
theorem dL_law__825 : decode code 825 = .ok (.iload 4, 2) := by decide +kernel
theorem dL_law__827 : decode code 827 = .ok (.iconst 3, 1) := by decide +kernel
theorem dL_law__828 : decode code 828 = .ok (.iadd, 1) := by decide +kernel
theorem dL_law__829 : decode code 829 = .ok (.iaload, 1) := by decide +kernel
theorem dL_law__830 : decode code 830 = .ok (.aload_n 3, 1) := by decide +kernel
set_option maxRecDepth 100000 in
theorem lwd_1085 : Cond.methodLink "SunnyPansLaw" 168 yL_dries ∈ tbG := tw5 25 rfl rfl
set_option maxRecDepth 100000 in
theorem lwd_1086 : Cond.static yL_dries ∈ tbG := tw5 26 rfl rfl
set_option maxRecDepth 100000 in
theorem lwd_1087 : Cond.codeWith yL_dries cL_dries 6 (some .int) [(0, 12, 15, 31)] ∈ tbG := tw5 27 rfl rfl
theorem dL_law__831 : decode code 831 = .ok (.invokestatic 168, 3) := by decide +kernel
theorem dL_law__834 : decode code 834 = .ok (.istore 5, 2) := by decide +kernel
theorem dL_law__836 : decode code 836 = .ok (.aload_n 2, 1) := by decide +kernel
theorem dL_law__837 : decode code 837 = .ok (.aload_n 0, 1) := by decide +kernel
theorem dL_law__838 : decode code 838 = .ok (.iload 4, 2) := by decide +kernel
theorem dL_law__840 : decode code 840 = .ok (.iconst 1, 1) := by decide +kernel
theorem dL_law__841 : decode code 841 = .ok (.iadd, 1) := by decide +kernel
theorem dL_law__842 : decode code 842 = .ok (.iaload, 1) := by decide +kernel
theorem dL_law__843 : decode code 843 = .ok (.aload_n 0, 1) := by decide +kernel
theorem dL_law__844 : decode code 844 = .ok (.iload 4, 2) := by decide +kernel
theorem dL_law__846 : decode code 846 = .ok (.iconst 2, 1) := by decide +kernel
theorem dL_law__847 : decode code 847 = .ok (.iadd, 1) := by decide +kernel
theorem dL_law__848 : decode code 848 = .ok (.iaload, 1) := by decide +kernel
theorem dL_law__849 : decode code 849 = .ok (.aload_n 0, 1) := by decide +kernel
theorem dL_law__850 : decode code 850 = .ok (.iload 4, 2) := by decide +kernel
theorem dL_law__852 : decode code 852 = .ok (.iconst 3, 1) := by decide +kernel
theorem dL_law__853 : decode code 853 = .ok (.iadd, 1) := by decide +kernel
theorem dL_law__854 : decode code 854 = .ok (.iaload, 1) := by decide +kernel
set_option maxRecDepth 100000 in
theorem lwd_1789 : Cond.methodLink "SunnyPansLaw" 170 yX10_dries ∈ tbG := tw8 9 rfl rfl
set_option maxRecDepth 100000 in
theorem lwd_1790 : Cond.instanceMethod yX10_dries ∈ tbG := tw8 10 rfl rfl
set_option maxRecDepth 100000 in
theorem lwd_1791 : Cond.selects "SunnyPansModel" yX10_dries yX10_dries ∈ tbG := tw8 11 rfl rfl
set_option maxRecDepth 100000 in
theorem lwd_1792 : Cond.code yX10_dries cX10_dries 4 (some .int) ∈ tbG := tw8 12 rfl rfl
theorem lcvX10_dries : zCV "SunnyPansLaw" 170 "SunnyPansModel" yX10_dries cX10_dries 4 (some .int) 3 := zCV_of lwd_1789 lwd_1790 lwd_1791 lwd_111 lwd_1792 (by decide +kernel)
theorem dL_law__855 : decode code 855 = .ok (.invokevirtual 170, 3) := by decide +kernel
theorem dL_law__858 : decode code 858 = .ok (.istore 6, 2) := by decide +kernel
theorem dL_law__860 : decode code 860 = .ok (.aload_n 2, 1) := by decide +kernel
theorem dL_law__861 : decode code 861 = .ok (.invokevirtual 133, 3) := by decide +kernel
theorem dL_law__864 : decode code 864 = .ok (.iload 5, 2) := by decide +kernel
theorem dL_law__866 : decode code 866 = .ok (.if_icmp .eq 5, 3) := by decide +kernel
theorem dL_law__871 : decode code 871 = .ok (.iload 5, 2) := by decide +kernel
theorem dL_law__873 : decode code 873 = .ok (.ifCond .ne 15, 3) := by decide +kernel
theorem dL_law__888 : decode code 888 = .ok (.goto 1877, 3) := by decide +kernel
theorem dL_law__876 : decode code 876 = .ok (.aload_n 3, 1) := by decide +kernel
theorem dL_law__877 : decode code 877 = .ok (.iconst 0, 1) := by decide +kernel
theorem dL_law__878 : decode code 878 = .ok (.laload, 1) := by decide +kernel
theorem dL_law__879 : decode code 879 = .ok (.iload 6, 2) := by decide +kernel
theorem dL_law__881 : decode code 881 = .ok (.i2l, 1) := by decide +kernel
theorem dL_law__882 : decode code 882 = .ok (.lcmp, 1) := by decide +kernel
theorem dL_law__883 : decode code 883 = .ok (.ifCond .eq 5, 3) := by decide +kernel
set_option maxHeartbeats 4000000 in
theorem lc_dries {p : Program} {l : Launch} {e : Env} {s : State} {m : MethodId} {below : List Frame} {meth : Method} {c : Code} {G : zG} {b L i cells slots : Nat} {xs : Nat → Int32} {Q : State → Prop} (C : LW9 p l s m meth c G b L xs) (hi : i + 9 ≤ L) (hcell : cells + 4 ≤ room_1.cells ∧ slots + 24 ≤ room_1.slots) (kk : LK9 p l e s m below meth c G b i Q cells slots) : LC9 p l e s m below meth c G b i Q cells slots 811 := by
  intro Mx Mm v S hXo hMn ok
  obtain ⟨cx, hX, hbl, hL, hl, hN⟩ := C
  have hbA : ¬ (fun q => s.heap.size ≤ q) b := Nat.not_le.mpr hbl
  have hA : ∀ q, s.heap.size ≤ q → (fun q => s.heap.size ≤ q) q := fun _ h => h
  obtain ⟨k, vx, Mx', w, Mm', t, S', hF, hG, hth, hT, hv, hX', hM', ok'⟩ := q_dries (xs (i + 1)) (xs (i + 2)) (xs (i + 3)) hXo hMn ok
  obtain ⟨v', hk, hv0⟩ := hkT2 (v := v) hT hv
  have hthr : F_X10_thrown Mm' = some (nI t, Mm') := by unfold F_X10_thrown; rw [hth]
  refine l_aload_n cx dL_law__811 1 rfl ?_
  refine l_arg cx hX hbl hbA (j := 1) (by omega) hL 0 4 rfl rfl li_1 dL_law__812 dL_law__813 dL_law__815 dL_law__816 dL_law__817 ?_
  refine l_arg cx hX hbl hbA (j := 2) (by omega) hL 0 4 rfl rfl li_2 dL_law__818 dL_law__819 dL_law__821 dL_law__822 dL_law__823 ?_
  refine l_arg cx hX hbl hbA (j := 3) (by omega) hL 0 4 rfl rfl li_3 dL_law__824 dL_law__825 dL_law__827 dL_law__828 dL_law__829 ?_
  refine l_aload_n cx dL_law__830 3 rfl ?_
  refine l_callWL (na := 5) (As := [.ref (adX s.heap.size 0), .int (xs (i + 1)), .int (xs (i + 2)), .int (xs (i + 3)), .ref (aoL s.heap.size)]) (rest := []) cx hA (cw_dries l (adX_in _) Mx v (xs (i + 1)) (xs (i + 2)) (xs (i + 3)) hl hF hk) lwd_1085 lwd_1086 lwd_100 lwd_1087 (by decide +kernel) ⟨rfl, rfl, Nat.le_of_ble_eq_true rfl, Nat.le_of_ble_eq_true rfl⟩ rfl rfl ⟨by decide, by decide⟩ hcell (Nat.le_of_ble_eq_true rfl) dL_law__831 hN ?_
  refine l_istore cx 5 ((5, .int (nI t)) :: lvL b s.heap.size i) dL_law__834 (by decide) rfl ?_
  refine l_aload_n cx dL_law__836 3 rfl ?_
  refine l_arg cx hX hbl hbA (j := 1) (by omega) hL 1 5 rfl rfl li_1 dL_law__837 dL_law__838 dL_law__840 dL_law__841 dL_law__842 ?_
  refine l_arg cx hX hbl hbA (j := 2) (by omega) hL 1 5 rfl rfl li_2 dL_law__843 dL_law__844 dL_law__846 dL_law__847 dL_law__848 ?_
  refine l_arg cx hX hbl hbA (j := 3) (by omega) hL 1 5 rfl rfl li_3 dL_law__849 dL_law__850 dL_law__852 dL_law__853 dL_law__854 ?_
  refine l_callML (As := [.int (xs (i + 1)), .int (xs (i + 2)), .int (xs (i + 3))]) (rest := []) cx hA (c_X10_dries l (adM_in _) Mm (xs (i + 1)) (xs (i + 2)) (xs (i + 3)) lTM hG) lcvX10_dries ⟨rfl, rfl, Nat.le_of_ble_eq_true rfl, Nat.le_of_ble_eq_true rfl⟩ rfl rfl hcell (Nat.le_of_ble_eq_true rfl) dL_law__855 ?_
  refine l_istore cx 6 ((6, .int w) :: (5, .int (nI t)) :: lvL b s.heap.size i) dL_law__858 (by decide) rfl ?_
  refine l_aload_n cx dL_law__860 4 rfl ?_
  refine l_callML (As := []) (rest := []) cx hA (c_X10_thrown l (adM_in _) Mm' lTM hthr) lcvX10_thrown ⟨rfl, rfl, Nat.le_of_ble_eq_true rfl, Nat.le_of_ble_eq_true rfl⟩ rfl rfl hcell (Nat.le_of_ble_eq_true rfl) dL_law__861 ?_
  refine l_iload cx dL_law__864 1 rfl ?_
  refine l_icmp_eq cx 871 dL_law__866 (by decide) (fun _ => ?_) (fun h => absurd rfl h)
  refine l_iload cx dL_law__871 1 rfl ?_
  refine l_if_ne cx 888 dL_law__873 (by decide) (fun _ => ?_) (fun h0 => ?_)
  · refine l_goto cx 2765 dL_law__888 (by decide) ?_
    refine l_sub [2, 3, 4, 5, 6] rfl ?_
    exact kk _ _ _ _ hX' hM' ok'
  · refine l_aload_n cx dL_law__876 5 rfl ?_
    refine l_iconst cx dL_law__877 ki_0 ?_
    refine l_laldL cx dL_law__878 ?_
    refine l_iload cx dL_law__879 0 rfl ?_
    refine l_i2l cx dL_law__881 ?_
    refine l_lcmp cx dL_law__882 ?_
    rw [hv0 h0, lgc_self]
    refine l_if_eq cx 888 dL_law__883 (by decide) (fun _ => ?_) (fun h => absurd rfl h)
    refine l_goto cx 2765 dL_law__888 (by decide) ?_
    refine l_sub [2, 3, 4, 5, 6] rfl ?_
    refine l_conv (P' := LPw G s.heap.size Mx' Mm' v') (fun _ h => by rw [hv0 h0]; exact h) ?_
    exact kk _ _ _ _ hX' hM' ok'
theorem dL_law__891 : decode code 891 = .ok (.aload_n 1, 1) := by decide +kernel
theorem dL_law__892 : decode code 892 = .ok (.aload_n 0, 1) := by decide +kernel
theorem dL_law__893 : decode code 893 = .ok (.iload 4, 2) := by decide +kernel
theorem dL_law__895 : decode code 895 = .ok (.iconst 1, 1) := by decide +kernel
theorem dL_law__896 : decode code 896 = .ok (.iadd, 1) := by decide +kernel
theorem dL_law__897 : decode code 897 = .ok (.iaload, 1) := by decide +kernel
theorem dL_law__898 : decode code 898 = .ok (.aload_n 0, 1) := by decide +kernel
theorem dL_law__899 : decode code 899 = .ok (.iload 4, 2) := by decide +kernel
theorem dL_law__901 : decode code 901 = .ok (.iconst 2, 1) := by decide +kernel
theorem dL_law__902 : decode code 902 = .ok (.iadd, 1) := by decide +kernel
theorem dL_law__903 : decode code 903 = .ok (.iaload, 1) := by decide +kernel
theorem dL_law__904 : decode code 904 = .ok (.aload_n 0, 1) := by decide +kernel
theorem dL_law__905 : decode code 905 = .ok (.iload 4, 2) := by decide +kernel
theorem dL_law__907 : decode code 907 = .ok (.iconst 3, 1) := by decide +kernel
theorem dL_law__908 : decode code 908 = .ok (.iadd, 1) := by decide +kernel
theorem dL_law__909 : decode code 909 = .ok (.iaload, 1) := by decide +kernel
theorem dL_law__910 : decode code 910 = .ok (.aload_n 0, 1) := by decide +kernel
theorem dL_law__911 : decode code 911 = .ok (.iload 4, 2) := by decide +kernel
theorem dL_law__913 : decode code 913 = .ok (.iconst 4, 1) := by decide +kernel
theorem dL_law__914 : decode code 914 = .ok (.iadd, 1) := by decide +kernel
theorem dL_law__915 : decode code 915 = .ok (.iaload, 1) := by decide +kernel
theorem dL_law__916 : decode code 916 = .ok (.aload_n 0, 1) := by decide +kernel
theorem dL_law__917 : decode code 917 = .ok (.iload 4, 2) := by decide +kernel
theorem dL_law__919 : decode code 919 = .ok (.iconst 5, 1) := by decide +kernel
theorem dL_law__920 : decode code 920 = .ok (.iadd, 1) := by decide +kernel
theorem dL_law__921 : decode code 921 = .ok (.iaload, 1) := by decide +kernel
theorem dL_law__922 : decode code 922 = .ok (.aload_n 0, 1) := by decide +kernel
theorem dL_law__923 : decode code 923 = .ok (.iload 4, 2) := by decide +kernel
theorem dL_law__925 : decode code 925 = .ok (.bipush 6, 2) := by decide +kernel
theorem dL_law__927 : decode code 927 = .ok (.iadd, 1) := by decide +kernel
theorem dL_law__928 : decode code 928 = .ok (.iaload, 1) := by decide +kernel
theorem dL_law__929 : decode code 929 = .ok (.aload_n 0, 1) := by decide +kernel
theorem dL_law__930 : decode code 930 = .ok (.iload 4, 2) := by decide +kernel
theorem dL_law__932 : decode code 932 = .ok (.bipush 7, 2) := by decide +kernel
theorem dL_law__934 : decode code 934 = .ok (.iadd, 1) := by decide +kernel
theorem dL_law__935 : decode code 935 = .ok (.iaload, 1) := by decide +kernel
theorem dL_law__936 : decode code 936 = .ok (.aload_n 0, 1) := by decide +kernel
theorem dL_law__937 : decode code 937 = .ok (.iload 4, 2) := by decide +kernel
theorem dL_law__939 : decode code 939 = .ok (.bipush 8, 2) := by decide +kernel
theorem dL_law__941 : decode code 941 = .ok (.iadd, 1) := by decide +kernel
theorem dL_law__942 : decode code 942 = .ok (.iaload, 1) := by decide +kernel
theorem dL_law__943 : decode code 943 = .ok (.aload_n 3, 1) := by decide +kernel
set_option maxRecDepth 100000 in
theorem lwd_1092 : Cond.methodLink "SunnyPansLaw" 171 yL_would ∈ tbG := tw5 32 rfl rfl
set_option maxRecDepth 100000 in
theorem lwd_1093 : Cond.static yL_would ∈ tbG := tw5 33 rfl rfl
set_option maxRecDepth 100000 in
theorem lwd_1094 : Cond.codeWith yL_would cL_would 11 (some .int) [(0, 22, 25, 13)] ∈ tbG := tw5 34 rfl rfl
theorem dL_law__944 : decode code 944 = .ok (.invokestatic 171, 3) := by decide +kernel
theorem dL_law__947 : decode code 947 = .ok (.istore 5, 2) := by decide +kernel
theorem dL_law__949 : decode code 949 = .ok (.aload_n 2, 1) := by decide +kernel
theorem dL_law__950 : decode code 950 = .ok (.aload_n 0, 1) := by decide +kernel
theorem dL_law__951 : decode code 951 = .ok (.iload 4, 2) := by decide +kernel
theorem dL_law__953 : decode code 953 = .ok (.iconst 1, 1) := by decide +kernel
theorem dL_law__954 : decode code 954 = .ok (.iadd, 1) := by decide +kernel
theorem dL_law__955 : decode code 955 = .ok (.iaload, 1) := by decide +kernel
theorem dL_law__956 : decode code 956 = .ok (.aload_n 0, 1) := by decide +kernel
theorem dL_law__957 : decode code 957 = .ok (.iload 4, 2) := by decide +kernel
theorem dL_law__959 : decode code 959 = .ok (.iconst 2, 1) := by decide +kernel
theorem dL_law__960 : decode code 960 = .ok (.iadd, 1) := by decide +kernel
theorem dL_law__961 : decode code 961 = .ok (.iaload, 1) := by decide +kernel
theorem dL_law__962 : decode code 962 = .ok (.aload_n 0, 1) := by decide +kernel
theorem dL_law__963 : decode code 963 = .ok (.iload 4, 2) := by decide +kernel
theorem dL_law__965 : decode code 965 = .ok (.iconst 3, 1) := by decide +kernel
theorem dL_law__966 : decode code 966 = .ok (.iadd, 1) := by decide +kernel
theorem dL_law__967 : decode code 967 = .ok (.iaload, 1) := by decide +kernel
theorem dL_law__968 : decode code 968 = .ok (.aload_n 0, 1) := by decide +kernel
theorem dL_law__969 : decode code 969 = .ok (.iload 4, 2) := by decide +kernel
theorem dL_law__971 : decode code 971 = .ok (.iconst 4, 1) := by decide +kernel
theorem dL_law__972 : decode code 972 = .ok (.iadd, 1) := by decide +kernel
theorem dL_law__973 : decode code 973 = .ok (.iaload, 1) := by decide +kernel
theorem dL_law__974 : decode code 974 = .ok (.aload_n 0, 1) := by decide +kernel
theorem dL_law__975 : decode code 975 = .ok (.iload 4, 2) := by decide +kernel
theorem dL_law__977 : decode code 977 = .ok (.iconst 5, 1) := by decide +kernel
theorem dL_law__978 : decode code 978 = .ok (.iadd, 1) := by decide +kernel
theorem dL_law__979 : decode code 979 = .ok (.iaload, 1) := by decide +kernel
theorem dL_law__980 : decode code 980 = .ok (.aload_n 0, 1) := by decide +kernel
theorem dL_law__981 : decode code 981 = .ok (.iload 4, 2) := by decide +kernel
theorem dL_law__983 : decode code 983 = .ok (.bipush 6, 2) := by decide +kernel
theorem dL_law__985 : decode code 985 = .ok (.iadd, 1) := by decide +kernel
theorem dL_law__986 : decode code 986 = .ok (.iaload, 1) := by decide +kernel
theorem dL_law__987 : decode code 987 = .ok (.aload_n 0, 1) := by decide +kernel
theorem dL_law__988 : decode code 988 = .ok (.iload 4, 2) := by decide +kernel
theorem dL_law__990 : decode code 990 = .ok (.bipush 7, 2) := by decide +kernel
theorem dL_law__992 : decode code 992 = .ok (.iadd, 1) := by decide +kernel
theorem dL_law__993 : decode code 993 = .ok (.iaload, 1) := by decide +kernel
theorem dL_law__994 : decode code 994 = .ok (.aload_n 0, 1) := by decide +kernel
theorem dL_law__995 : decode code 995 = .ok (.iload 4, 2) := by decide +kernel
theorem dL_law__997 : decode code 997 = .ok (.bipush 8, 2) := by decide +kernel
theorem dL_law__999 : decode code 999 = .ok (.iadd, 1) := by decide +kernel
theorem dL_law__1000 : decode code 1000 = .ok (.iaload, 1) := by decide +kernel
set_option maxRecDepth 100000 in
theorem lwd_1793 : Cond.methodLink "SunnyPansLaw" 174 yX10_would ∈ tbG := tw8 13 rfl rfl
set_option maxRecDepth 100000 in
theorem lwd_1794 : Cond.instanceMethod yX10_would ∈ tbG := tw8 14 rfl rfl
set_option maxRecDepth 100000 in
theorem lwd_1795 : Cond.selects "SunnyPansModel" yX10_would yX10_would ∈ tbG := tw8 15 rfl rfl
set_option maxRecDepth 100000 in
theorem lwd_1796 : Cond.code yX10_would cX10_would 9 (some .int) ∈ tbG := tw8 16 rfl rfl
theorem lcvX10_would : zCV "SunnyPansLaw" 174 "SunnyPansModel" yX10_would cX10_would 9 (some .int) 8 := zCV_of lwd_1793 lwd_1794 lwd_1795 lwd_111 lwd_1796 (by decide +kernel)
theorem dL_law__1001 : decode code 1001 = .ok (.invokevirtual 174, 3) := by decide +kernel
theorem dL_law__1004 : decode code 1004 = .ok (.istore 6, 2) := by decide +kernel
theorem dL_law__1006 : decode code 1006 = .ok (.aload_n 2, 1) := by decide +kernel
theorem dL_law__1007 : decode code 1007 = .ok (.invokevirtual 133, 3) := by decide +kernel
theorem dL_law__1010 : decode code 1010 = .ok (.iload 5, 2) := by decide +kernel
theorem dL_law__1012 : decode code 1012 = .ok (.if_icmp .eq 5, 3) := by decide +kernel
theorem dL_law__1017 : decode code 1017 = .ok (.iload 5, 2) := by decide +kernel
theorem dL_law__1019 : decode code 1019 = .ok (.ifCond .ne 15, 3) := by decide +kernel
theorem dL_law__1034 : decode code 1034 = .ok (.goto 1731, 3) := by decide +kernel
theorem dL_law__1022 : decode code 1022 = .ok (.aload_n 3, 1) := by decide +kernel
theorem dL_law__1023 : decode code 1023 = .ok (.iconst 0, 1) := by decide +kernel
theorem dL_law__1024 : decode code 1024 = .ok (.laload, 1) := by decide +kernel
theorem dL_law__1025 : decode code 1025 = .ok (.iload 6, 2) := by decide +kernel
theorem dL_law__1027 : decode code 1027 = .ok (.i2l, 1) := by decide +kernel
theorem dL_law__1028 : decode code 1028 = .ok (.lcmp, 1) := by decide +kernel
theorem dL_law__1029 : decode code 1029 = .ok (.ifCond .eq 5, 3) := by decide +kernel
set_option maxHeartbeats 4000000 in
theorem lc_would {p : Program} {l : Launch} {e : Env} {s : State} {m : MethodId} {below : List Frame} {meth : Method} {c : Code} {G : zG} {b L i cells slots : Nat} {xs : Nat → Int32} {Q : State → Prop} (C : LW9 p l s m meth c G b L xs) (hi : i + 9 ≤ L) (hcell : cells + 4 ≤ room_1.cells ∧ slots + 24 ≤ room_1.slots) (kk : LK9 p l e s m below meth c G b i Q cells slots) : LC9 p l e s m below meth c G b i Q cells slots 891 := by
  intro Mx Mm v S hXo hMn ok
  obtain ⟨cx, hX, hbl, hL, hl, hN⟩ := C
  have hbA : ¬ (fun q => s.heap.size ≤ q) b := Nat.not_le.mpr hbl
  have hA : ∀ q, s.heap.size ≤ q → (fun q => s.heap.size ≤ q) q := fun _ h => h
  obtain ⟨k, vx, Mx', w, Mm', t, S', hF, hG, hth, hT, hv, hX', hM', ok'⟩ := q_would (xs (i + 1)) (xs (i + 2)) (xs (i + 3)) (xs (i + 4)) (xs (i + 5)) (xs (i + 6)) (xs (i + 7)) (xs (i + 8)) hXo hMn ok
  obtain ⟨v', hk, hv0⟩ := hkT1 (v := v) hT hv
  have hthr : F_X10_thrown Mm' = some (nI t, Mm') := by unfold F_X10_thrown; rw [hth]
  refine l_aload_n cx dL_law__891 1 rfl ?_
  refine l_arg cx hX hbl hbA (j := 1) (by omega) hL 0 4 rfl rfl li_1 dL_law__892 dL_law__893 dL_law__895 dL_law__896 dL_law__897 ?_
  refine l_arg cx hX hbl hbA (j := 2) (by omega) hL 0 4 rfl rfl li_2 dL_law__898 dL_law__899 dL_law__901 dL_law__902 dL_law__903 ?_
  refine l_arg cx hX hbl hbA (j := 3) (by omega) hL 0 4 rfl rfl li_3 dL_law__904 dL_law__905 dL_law__907 dL_law__908 dL_law__909 ?_
  refine l_arg cx hX hbl hbA (j := 4) (by omega) hL 0 4 rfl rfl li_4 dL_law__910 dL_law__911 dL_law__913 dL_law__914 dL_law__915 ?_
  refine l_arg cx hX hbl hbA (j := 5) (by omega) hL 0 4 rfl rfl li_5 dL_law__916 dL_law__917 dL_law__919 dL_law__920 dL_law__921 ?_
  refine l_argB cx hX hbl hbA (j := 6) (by omega) hL 0 4 rfl rfl lb_6 dL_law__922 dL_law__923 dL_law__925 dL_law__927 dL_law__928 ?_
  refine l_argB cx hX hbl hbA (j := 7) (by omega) hL 0 4 rfl rfl lb_7 dL_law__929 dL_law__930 dL_law__932 dL_law__934 dL_law__935 ?_
  refine l_argB cx hX hbl hbA (j := 8) (by omega) hL 0 4 rfl rfl lb_8 dL_law__936 dL_law__937 dL_law__939 dL_law__941 dL_law__942 ?_
  refine l_aload_n cx dL_law__943 3 rfl ?_
  refine l_callWL (na := 10) (As := [.ref (adX s.heap.size 0), .int (xs (i + 1)), .int (xs (i + 2)), .int (xs (i + 3)), .int (xs (i + 4)), .int (xs (i + 5)), .int (xs (i + 6)), .int (xs (i + 7)), .int (xs (i + 8)), .ref (aoL s.heap.size)]) (rest := []) cx hA (cw_would l (adX_in _) Mx v (xs (i + 1)) (xs (i + 2)) (xs (i + 3)) (xs (i + 4)) (xs (i + 5)) (xs (i + 6)) (xs (i + 7)) (xs (i + 8)) hl hF hk) lwd_1092 lwd_1093 lwd_100 lwd_1094 (by decide +kernel) ⟨rfl, rfl, Nat.le_of_ble_eq_true rfl, Nat.le_of_ble_eq_true rfl⟩ rfl rfl ⟨by decide, by decide⟩ hcell (Nat.le_of_ble_eq_true rfl) dL_law__944 hN ?_
  refine l_istore cx 5 ((5, .int (nI t)) :: lvL b s.heap.size i) dL_law__947 (by decide) rfl ?_
  refine l_aload_n cx dL_law__949 3 rfl ?_
  refine l_arg cx hX hbl hbA (j := 1) (by omega) hL 1 5 rfl rfl li_1 dL_law__950 dL_law__951 dL_law__953 dL_law__954 dL_law__955 ?_
  refine l_arg cx hX hbl hbA (j := 2) (by omega) hL 1 5 rfl rfl li_2 dL_law__956 dL_law__957 dL_law__959 dL_law__960 dL_law__961 ?_
  refine l_arg cx hX hbl hbA (j := 3) (by omega) hL 1 5 rfl rfl li_3 dL_law__962 dL_law__963 dL_law__965 dL_law__966 dL_law__967 ?_
  refine l_arg cx hX hbl hbA (j := 4) (by omega) hL 1 5 rfl rfl li_4 dL_law__968 dL_law__969 dL_law__971 dL_law__972 dL_law__973 ?_
  refine l_arg cx hX hbl hbA (j := 5) (by omega) hL 1 5 rfl rfl li_5 dL_law__974 dL_law__975 dL_law__977 dL_law__978 dL_law__979 ?_
  refine l_argB cx hX hbl hbA (j := 6) (by omega) hL 1 5 rfl rfl lb_6 dL_law__980 dL_law__981 dL_law__983 dL_law__985 dL_law__986 ?_
  refine l_argB cx hX hbl hbA (j := 7) (by omega) hL 1 5 rfl rfl lb_7 dL_law__987 dL_law__988 dL_law__990 dL_law__992 dL_law__993 ?_
  refine l_argB cx hX hbl hbA (j := 8) (by omega) hL 1 5 rfl rfl lb_8 dL_law__994 dL_law__995 dL_law__997 dL_law__999 dL_law__1000 ?_
  refine l_callML (As := [.int (xs (i + 1)), .int (xs (i + 2)), .int (xs (i + 3)), .int (xs (i + 4)), .int (xs (i + 5)), .int (xs (i + 6)), .int (xs (i + 7)), .int (xs (i + 8))]) (rest := []) cx hA (c_X10_would l (adM_in _) Mm (xs (i + 1)) (xs (i + 2)) (xs (i + 3)) (xs (i + 4)) (xs (i + 5)) (xs (i + 6)) (xs (i + 7)) (xs (i + 8)) lTM hG) lcvX10_would ⟨rfl, rfl, Nat.le_of_ble_eq_true rfl, Nat.le_of_ble_eq_true rfl⟩ rfl rfl hcell (Nat.le_of_ble_eq_true rfl) dL_law__1001 ?_
  refine l_istore cx 6 ((6, .int w) :: (5, .int (nI t)) :: lvL b s.heap.size i) dL_law__1004 (by decide) rfl ?_
  refine l_aload_n cx dL_law__1006 4 rfl ?_
  refine l_callML (As := []) (rest := []) cx hA (c_X10_thrown l (adM_in _) Mm' lTM hthr) lcvX10_thrown ⟨rfl, rfl, Nat.le_of_ble_eq_true rfl, Nat.le_of_ble_eq_true rfl⟩ rfl rfl hcell (Nat.le_of_ble_eq_true rfl) dL_law__1007 ?_
  refine l_iload cx dL_law__1010 1 rfl ?_
  refine l_icmp_eq cx 1017 dL_law__1012 (by decide) (fun _ => ?_) (fun h => absurd rfl h)
  refine l_iload cx dL_law__1017 1 rfl ?_
  refine l_if_ne cx 1034 dL_law__1019 (by decide) (fun _ => ?_) (fun h0 => ?_)
  · refine l_goto cx 2765 dL_law__1034 (by decide) ?_
    refine l_sub [2, 3, 4, 5, 6] rfl ?_
    exact kk _ _ _ _ hX' hM' ok'
  · refine l_aload_n cx dL_law__1022 5 rfl ?_
    refine l_iconst cx dL_law__1023 ki_0 ?_
    refine l_laldL cx dL_law__1024 ?_
    refine l_iload cx dL_law__1025 0 rfl ?_
    refine l_i2l cx dL_law__1027 ?_
    refine l_lcmp cx dL_law__1028 ?_
    rw [hv0 h0, lgc_self]
    refine l_if_eq cx 1034 dL_law__1029 (by decide) (fun _ => ?_) (fun h => absurd rfl h)
    refine l_goto cx 2765 dL_law__1034 (by decide) ?_
    refine l_sub [2, 3, 4, 5, 6] rfl ?_
    refine l_conv (P' := LPw G s.heap.size Mx' Mm' v') (fun _ h => by rw [hv0 h0]; exact h) ?_
    exact kk _ _ _ _ hX' hM' ok'
theorem dL_law__1037 : decode code 1037 = .ok (.aload_n 1, 1) := by decide +kernel
theorem dL_law__1038 : decode code 1038 = .ok (.aload_n 0, 1) := by decide +kernel
theorem dL_law__1039 : decode code 1039 = .ok (.iload 4, 2) := by decide +kernel
theorem dL_law__1041 : decode code 1041 = .ok (.iconst 1, 1) := by decide +kernel
theorem dL_law__1042 : decode code 1042 = .ok (.iadd, 1) := by decide +kernel
theorem dL_law__1043 : decode code 1043 = .ok (.iaload, 1) := by decide +kernel
theorem dL_law__1044 : decode code 1044 = .ok (.aload_n 0, 1) := by decide +kernel
theorem dL_law__1045 : decode code 1045 = .ok (.iload 4, 2) := by decide +kernel
theorem dL_law__1047 : decode code 1047 = .ok (.iconst 2, 1) := by decide +kernel
theorem dL_law__1048 : decode code 1048 = .ok (.iadd, 1) := by decide +kernel
theorem dL_law__1049 : decode code 1049 = .ok (.iaload, 1) := by decide +kernel
theorem dL_law__1050 : decode code 1050 = .ok (.aload_n 3, 1) := by decide +kernel
set_option maxRecDepth 100000 in
theorem lwd_1099 : Cond.methodLink "SunnyPansLaw" 175 yL_ahead ∈ tbG := tw5 39 rfl rfl
set_option maxRecDepth 100000 in
theorem lwd_1100 : Cond.static yL_ahead ∈ tbG := tw5 40 rfl rfl
set_option maxRecDepth 100000 in
theorem lwd_1101 : Cond.codeWith yL_ahead cL_ahead 5 (some .int) [(0, 10, 13, 13)] ∈ tbG := tw5 41 rfl rfl
theorem dL_law__1051 : decode code 1051 = .ok (.invokestatic 175, 3) := by decide +kernel
theorem dL_law__1054 : decode code 1054 = .ok (.istore 5, 2) := by decide +kernel
theorem dL_law__1056 : decode code 1056 = .ok (.aload_n 2, 1) := by decide +kernel
theorem dL_law__1057 : decode code 1057 = .ok (.aload_n 0, 1) := by decide +kernel
theorem dL_law__1058 : decode code 1058 = .ok (.iload 4, 2) := by decide +kernel
theorem dL_law__1060 : decode code 1060 = .ok (.iconst 1, 1) := by decide +kernel
theorem dL_law__1061 : decode code 1061 = .ok (.iadd, 1) := by decide +kernel
theorem dL_law__1062 : decode code 1062 = .ok (.iaload, 1) := by decide +kernel
theorem dL_law__1063 : decode code 1063 = .ok (.aload_n 0, 1) := by decide +kernel
theorem dL_law__1064 : decode code 1064 = .ok (.iload 4, 2) := by decide +kernel
theorem dL_law__1066 : decode code 1066 = .ok (.iconst 2, 1) := by decide +kernel
theorem dL_law__1067 : decode code 1067 = .ok (.iadd, 1) := by decide +kernel
theorem dL_law__1068 : decode code 1068 = .ok (.iaload, 1) := by decide +kernel
set_option maxRecDepth 100000 in
theorem lwd_1797 : Cond.methodLink "SunnyPansLaw" 177 yX10_ahead ∈ tbG := tw8 17 rfl rfl
set_option maxRecDepth 100000 in
theorem lwd_1798 : Cond.instanceMethod yX10_ahead ∈ tbG := tw8 18 rfl rfl
set_option maxRecDepth 100000 in
theorem lwd_1799 : Cond.selects "SunnyPansModel" yX10_ahead yX10_ahead ∈ tbG := tw8 19 rfl rfl
set_option maxRecDepth 100000 in
theorem lwd_1800 : Cond.code yX10_ahead cX10_ahead 4 (some .int) ∈ tbG := tw8 20 rfl rfl
theorem lcvX10_ahead : zCV "SunnyPansLaw" 177 "SunnyPansModel" yX10_ahead cX10_ahead 4 (some .int) 2 := zCV_of lwd_1797 lwd_1798 lwd_1799 lwd_111 lwd_1800 (by decide +kernel)
theorem dL_law__1069 : decode code 1069 = .ok (.invokevirtual 177, 3) := by decide +kernel
theorem dL_law__1072 : decode code 1072 = .ok (.istore 6, 2) := by decide +kernel
theorem dL_law__1074 : decode code 1074 = .ok (.aload_n 2, 1) := by decide +kernel
theorem dL_law__1075 : decode code 1075 = .ok (.invokevirtual 133, 3) := by decide +kernel
theorem dL_law__1078 : decode code 1078 = .ok (.iload 5, 2) := by decide +kernel
theorem dL_law__1080 : decode code 1080 = .ok (.if_icmp .eq 5, 3) := by decide +kernel
theorem dL_law__1085 : decode code 1085 = .ok (.iload 5, 2) := by decide +kernel
theorem dL_law__1087 : decode code 1087 = .ok (.ifCond .ne 15, 3) := by decide +kernel
theorem dL_law__1102 : decode code 1102 = .ok (.goto 1663, 3) := by decide +kernel
theorem dL_law__1090 : decode code 1090 = .ok (.aload_n 3, 1) := by decide +kernel
theorem dL_law__1091 : decode code 1091 = .ok (.iconst 0, 1) := by decide +kernel
theorem dL_law__1092 : decode code 1092 = .ok (.laload, 1) := by decide +kernel
theorem dL_law__1093 : decode code 1093 = .ok (.iload 6, 2) := by decide +kernel
theorem dL_law__1095 : decode code 1095 = .ok (.i2l, 1) := by decide +kernel
theorem dL_law__1096 : decode code 1096 = .ok (.lcmp, 1) := by decide +kernel
theorem dL_law__1097 : decode code 1097 = .ok (.ifCond .eq 5, 3) := by decide +kernel
set_option maxHeartbeats 4000000 in
theorem lc_ahead {p : Program} {l : Launch} {e : Env} {s : State} {m : MethodId} {below : List Frame} {meth : Method} {c : Code} {G : zG} {b L i cells slots : Nat} {xs : Nat → Int32} {Q : State → Prop} (C : LW9 p l s m meth c G b L xs) (hi : i + 9 ≤ L) (hcell : cells + 4 ≤ room_1.cells ∧ slots + 24 ≤ room_1.slots) (kk : LK9 p l e s m below meth c G b i Q cells slots) : LC9 p l e s m below meth c G b i Q cells slots 1037 := by
  intro Mx Mm v S hXo hMn ok
  obtain ⟨cx, hX, hbl, hL, hl, hN⟩ := C
  have hbA : ¬ (fun q => s.heap.size ≤ q) b := Nat.not_le.mpr hbl
  have hA : ∀ q, s.heap.size ≤ q → (fun q => s.heap.size ≤ q) q := fun _ h => h
  obtain ⟨k, vx, Mx', w, Mm', t, S', hF, hG, hth, hT, hv, hX', hM', ok'⟩ := q_ahead (xs (i + 1)) (xs (i + 2)) hXo hMn ok
  obtain ⟨v', hk, hv0⟩ := hkT1 (v := v) hT hv
  have hthr : F_X10_thrown Mm' = some (nI t, Mm') := by unfold F_X10_thrown; rw [hth]
  refine l_aload_n cx dL_law__1037 1 rfl ?_
  refine l_arg cx hX hbl hbA (j := 1) (by omega) hL 0 4 rfl rfl li_1 dL_law__1038 dL_law__1039 dL_law__1041 dL_law__1042 dL_law__1043 ?_
  refine l_arg cx hX hbl hbA (j := 2) (by omega) hL 0 4 rfl rfl li_2 dL_law__1044 dL_law__1045 dL_law__1047 dL_law__1048 dL_law__1049 ?_
  refine l_aload_n cx dL_law__1050 3 rfl ?_
  refine l_callWL (na := 4) (As := [.ref (adX s.heap.size 0), .int (xs (i + 1)), .int (xs (i + 2)), .ref (aoL s.heap.size)]) (rest := []) cx hA (cw_ahead l (adX_in _) Mx v (xs (i + 1)) (xs (i + 2)) hl hF hk) lwd_1099 lwd_1100 lwd_100 lwd_1101 (by decide +kernel) ⟨rfl, rfl, Nat.le_of_ble_eq_true rfl, Nat.le_of_ble_eq_true rfl⟩ rfl rfl ⟨by decide, by decide⟩ hcell (Nat.le_of_ble_eq_true rfl) dL_law__1051 hN ?_
  refine l_istore cx 5 ((5, .int (nI t)) :: lvL b s.heap.size i) dL_law__1054 (by decide) rfl ?_
  refine l_aload_n cx dL_law__1056 3 rfl ?_
  refine l_arg cx hX hbl hbA (j := 1) (by omega) hL 1 5 rfl rfl li_1 dL_law__1057 dL_law__1058 dL_law__1060 dL_law__1061 dL_law__1062 ?_
  refine l_arg cx hX hbl hbA (j := 2) (by omega) hL 1 5 rfl rfl li_2 dL_law__1063 dL_law__1064 dL_law__1066 dL_law__1067 dL_law__1068 ?_
  refine l_callML (As := [.int (xs (i + 1)), .int (xs (i + 2))]) (rest := []) cx hA (c_X10_ahead l (adM_in _) Mm (xs (i + 1)) (xs (i + 2)) lTM hG) lcvX10_ahead ⟨rfl, rfl, Nat.le_of_ble_eq_true rfl, Nat.le_of_ble_eq_true rfl⟩ rfl rfl hcell (Nat.le_of_ble_eq_true rfl) dL_law__1069 ?_
  refine l_istore cx 6 ((6, .int w) :: (5, .int (nI t)) :: lvL b s.heap.size i) dL_law__1072 (by decide) rfl ?_
  refine l_aload_n cx dL_law__1074 4 rfl ?_
  refine l_callML (As := []) (rest := []) cx hA (c_X10_thrown l (adM_in _) Mm' lTM hthr) lcvX10_thrown ⟨rfl, rfl, Nat.le_of_ble_eq_true rfl, Nat.le_of_ble_eq_true rfl⟩ rfl rfl hcell (Nat.le_of_ble_eq_true rfl) dL_law__1075 ?_
  refine l_iload cx dL_law__1078 1 rfl ?_
  refine l_icmp_eq cx 1085 dL_law__1080 (by decide) (fun _ => ?_) (fun h => absurd rfl h)
  refine l_iload cx dL_law__1085 1 rfl ?_
  refine l_if_ne cx 1102 dL_law__1087 (by decide) (fun _ => ?_) (fun h0 => ?_)
  · refine l_goto cx 2765 dL_law__1102 (by decide) ?_
    refine l_sub [2, 3, 4, 5, 6] rfl ?_
    exact kk _ _ _ _ hX' hM' ok'
  · refine l_aload_n cx dL_law__1090 5 rfl ?_
    refine l_iconst cx dL_law__1091 ki_0 ?_
    refine l_laldL cx dL_law__1092 ?_
    refine l_iload cx dL_law__1093 0 rfl ?_
    refine l_i2l cx dL_law__1095 ?_
    refine l_lcmp cx dL_law__1096 ?_
    rw [hv0 h0, lgc_self]
    refine l_if_eq cx 1102 dL_law__1097 (by decide) (fun _ => ?_) (fun h => absurd rfl h)
    refine l_goto cx 2765 dL_law__1102 (by decide) ?_
    refine l_sub [2, 3, 4, 5, 6] rfl ?_
    refine l_conv (P' := LPw G s.heap.size Mx' Mm' v') (fun _ h => by rw [hv0 h0]; exact h) ?_
    exact kk _ _ _ _ hX' hM' ok'
