/-! facts of this claim: shapes, words by their places, fields, calls -/
theorem zUW (ws : List Cond) (ps : List Nat) (hp : ws = ps.filterMap (fun i => lw_tbl[i]?)) (h : ws.all goodWord = true) : ∀ w ∈ ws, w ∈ tbG := by
  intro w hw
  obtain ⟨h1, -⟩ := goodIn_r (big := lw_tbl) ws ps hp h w hw
  exact List.mem_filter.mpr ⟨h1, List.all_eq_true.mp h w hw⟩
theorem zne {x : Int32} (h : (!(x == 0)) = true) : ¬ x = 0 := by
  intro q
  subst q
  exact absurd h (by decide)
theorem shX_out {k : Nat} (h : 461 ≤ k) : shX k = 0 := by
  unfold shX
  rw [List.getD_eq_getElem?_getD, List.getElem?_eq_none (show shXl.length ≤ k from Nat.le_trans (by decide +kernel) h)]
  rfl
theorem shM_out {k : Nat} (h : 540 ≤ k) : shM k = 0 := by
  unfold shM
  rw [List.getD_eq_getElem?_getD, List.getElem?_eq_none (show shMl.length ≤ k from Nat.le_trans (by decide +kernel) h)]
  rfl
theorem shX_f {c o d : Nat} (hc : ¬ c = 0) (h : (List.range 461).all (fun k => shX k != c || shX (k + o) == d) = true) : ∀ k, shX k = c → shX (k + o) = d := by
  intro k hk
  by_cases hl : k < 461
  · have h2 := List.all_eq_true.mp h k (List.mem_range.mpr hl)
    simp only [hk, Bool.or_eq_true, bne_self_eq_false, Bool.false_eq_true, false_or, beq_iff_eq] at h2
    exact h2
  · exact absurd (hk.symm.trans (shX_out (by omega))) hc
theorem shM_f {c o d : Nat} (hc : ¬ c = 0) (h : (List.range 540).all (fun k => shM k != c || shM (k + o) == d) = true) : ∀ k, shM k = c → shM (k + o) = d := by
  intro k hk
  by_cases hl : k < 540
  · have h2 := List.all_eq_true.mp h k (List.mem_range.mpr hl)
    simp only [hk, Bool.or_eq_true, bne_self_eq_false, Bool.false_eq_true, false_or, beq_iff_eq] at h2
    exact h2
  · exact absurd (hk.symm.trans (shM_out (by omega))) hc
theorem shX_e {c o t d len : Nat} (hc : ¬ c = 0) (h : (List.range 461).all (fun k => shX k != c || (List.range len).all (fun j => shX (k + (o + t * j)) == d)) = true) : ∀ k, shX k = c → ∀ j, j < len → shX (k + (o + t * j)) = d := by
  intro k hk j hj
  by_cases hl : k < 461
  · have h2 := List.all_eq_true.mp h k (List.mem_range.mpr hl)
    simp only [hk, Bool.or_eq_true, bne_self_eq_false, Bool.false_eq_true, false_or] at h2
    exact eq_of_beq (List.all_eq_true.mp h2 j (List.mem_range.mpr hj))
  · exact absurd (hk.symm.trans (shX_out (by omega))) hc
theorem shM_e {c o t d len : Nat} (hc : ¬ c = 0) (h : (List.range 540).all (fun k => shM k != c || (List.range len).all (fun j => shM (k + (o + t * j)) == d)) = true) : ∀ k, shM k = c → ∀ j, j < len → shM (k + (o + t * j)) = d := by
  intro k hk j hj
  by_cases hl : k < 540
  · have h2 := List.all_eq_true.mp h k (List.mem_range.mpr hl)
    simp only [hk, Bool.or_eq_true, bne_self_eq_false, Bool.false_eq_true, false_or] at h2
    exact eq_of_beq (List.all_eq_true.mp h2 j (List.mem_range.mpr hj))
  · exact absurd (hk.symm.trans (shM_out (by omega))) hc
theorem shX_b {c n : Nat} (hc : ¬ c = 0) (h : (List.range 461).all (fun k => shX k != c || decide (k + zB c ≤ 461)) = true) (hn : 0 + zB 10 ≤ n) : ∀ k, shX k = c → k + zB c ≤ n := by
  intro k hk
  have hn2 : 461 ≤ n := by
    have e : zB 10 = 461 := rfl
    omega
  by_cases hl : k < 461
  · have h2 := List.all_eq_true.mp h k (List.mem_range.mpr hl)
    simp only [hk, Bool.or_eq_true, bne_self_eq_false, Bool.false_eq_true, false_or, decide_eq_true_eq] at h2
    omega
  · exact absurd (hk.symm.trans (shX_out (by omega))) hc
theorem ki_m1 : Int32.ofInt (-1) = (-1 : Int32) := by decide +kernel
theorem wd_291 : Cond.fieldLink "SunnyPans$Best" 9 "SunnyPans$Best" "found" "I" ∈ tbG := tw 291 (by decide +kernel) rfl
theorem uw_0 : ∀ w ∈ u_ws RX0 TX0 2, w ∈ tbG := zUW _ [295, 297] (by decide +kernel) (by decide +kernel)
theorem fg_Best_9 : zGetI "SunnyPans$Best" 9 0 1 0 := ⟨RX0, TX0, 2, rfl, by decide, uw_0, wd_291, fun _ _ _ _ _ _ => ⟨_, rfl, rfl⟩⟩
theorem zc_0 : zCls 0 := ⟨RX0, TX0, 2, tyX0, rfl, tyX0_ok, nmX0⟩
theorem fp_Best_9 : zPutI "SunnyPans$Best" 9 0 1 0 := ⟨zc_0, fg_Best_9, ⟨RX0, TX0, 2, rfl, rfl, by decide +kernel⟩, fun _ _ _ _ _ _ _ => ⟨_, rfl, Nat.le_of_ble_eq_true rfl, rfl⟩⟩
theorem wd_293 : Cond.fieldLink "SunnyPans$Best" 15 "SunnyPans$Best" "amount" "I" ∈ tbG := tw 293 (by decide +kernel) rfl
theorem fg_Best_15 : zGetI "SunnyPans$Best" 15 0 1 1 := ⟨RX0, TX0, 2, rfl, by decide, uw_0, wd_293, fun _ _ _ _ _ _ => ⟨_, rfl, rfl⟩⟩
theorem fp_Best_15 : zPutI "SunnyPans$Best" 15 0 1 1 := ⟨zc_0, fg_Best_15, ⟨RX0, TX0, 2, rfl, rfl, by decide +kernel⟩, fun _ _ _ _ _ _ _ => ⟨_, rfl, Nat.le_of_ble_eq_true rfl, rfl⟩⟩
theorem kb_8 : (Int8.ofInt (8)).toInt32 = (8 : Int32) := by decide +kernel
theorem kb_10 : (Int8.ofInt (10)).toInt32 = (10 : Int32) := by decide +kernel
theorem wd_1138 : Cond.code yX9_tellPlace cX9_tellPlace 1 (some .int) ∈ tbG := tw 1138 (by decide +kernel) rfl
theorem wd_1136 : Cond.methodLinkNest "SunnyPans$Best" 18 yX9_tellPlace "SunnyPans" ∈ tbN := twn 1136 (by decide +kernel) rfl
theorem wd_101 : Cond.initialized "SunnyPans" ∈ tbG := tw 101 (by decide +kernel) rfl
theorem cn_Best_18 : zCN "SunnyPans$Best" 18 yX9_tellPlace cX9_tellPlace 1 (some .int) 1 := ⟨wd_1136, wd_101, wd_1138, by decide +kernel⟩
theorem wd_1137 : Cond.static yX9_tellPlace ∈ tbG := tw 1137 (by decide +kernel) rfl
theorem ki_0 : Int32.ofInt (0) = (0 : Int32) := by decide +kernel
theorem wd_396 : Cond.fieldLink "SunnyPans$Book" 18 "SunnyPans$Book" "lines" "I" ∈ tbG := tw 396 (by decide +kernel) rfl
theorem uw_1 : ∀ w ∈ u_ws RX1 TX1 4, w ∈ tbG := zUW _ [400, 402, 404, 406] (by decide +kernel) (by decide +kernel)
theorem fg_Book_18 : zGetI "SunnyPans$Book" 18 1 2 2 := ⟨RX1, TX1, 4, rfl, by decide, uw_1, wd_396, fun _ _ _ _ _ _ => ⟨_, rfl, rfl⟩⟩
theorem zc_1 : zCls 1 := ⟨RX1, TX1, 4, tyX1, rfl, tyX1_ok, nmX1⟩
theorem fp_Book_18 : zPutI "SunnyPans$Book" 18 1 2 2 := ⟨zc_1, fg_Book_18, ⟨RX1, TX1, 4, rfl, rfl, by decide +kernel⟩, fun _ _ _ _ _ _ _ => ⟨_, rfl, Nat.le_of_ble_eq_true rfl, rfl⟩⟩
theorem wd_398 : Cond.fieldLink "SunnyPans$Book" 22 "SunnyPans$Book" "places" "J" ∈ tbG := tw 398 (by decide +kernel) rfl
theorem fg_Book_22 : zGetL "SunnyPans$Book" 22 1 2 3 := ⟨RX1, TX1, 4, rfl, by decide, uw_1, wd_398, fun _ _ _ _ _ _ => ⟨_, rfl, rfl⟩⟩
theorem fp_Book_22 : zPutL "SunnyPans$Book" 22 1 2 3 := ⟨zc_1, fg_Book_22, ⟨RX1, TX1, 4, rfl, rfl, by decide +kernel⟩, fun _ _ _ _ _ _ _ => ⟨_, rfl, Nat.le_of_ble_eq_true rfl, rfl⟩⟩
theorem wd_152 : Cond.fieldLink "SunnyPans$Text" 34 "SunnyPans$Text" "at" "I" ∈ tbG := tw 152 (by decide +kernel) rfl
theorem uw_8 : ∀ w ∈ u_ws RX8 TX8 8, w ∈ tbG := zUW _ [153, 155, 157, 159, 161, 163, 165, 167] (by decide +kernel) (by decide +kernel)
theorem fg_Text_34 : zGetI "SunnyPans$Text" 34 8 9 7 := ⟨RX8, TX8, 8, rfl, by decide, uw_8, wd_152, fun _ _ _ _ _ _ => ⟨_, rfl, rfl⟩⟩
theorem wd_151 : Cond.fieldLink "SunnyPans$Text" 31 "SunnyPans$Text" "end" "I" ∈ tbG := tw 151 (by decide +kernel) rfl
theorem fg_Text_31 : zGetI "SunnyPans$Text" 31 8 9 6 := ⟨RX8, TX8, 8, rfl, by decide, uw_8, wd_151, fun _ _ _ _ _ _ => ⟨_, rfl, rfl⟩⟩
theorem wd_138 : Cond.fieldLink "SunnyPans$Text" 9 "SunnyPans$Text" "bytes" "[I" ∈ tbG := tw 138 (by decide +kernel) rfl
theorem fg_Text_9 : zGetR "SunnyPans$Text" 9 8 9 0 1 := ⟨RX8, TX8, 8, rfl, by decide, uw_8, wd_138, fun _ _ _ _ _ _ => ⟨_, rfl, rfl⟩⟩
theorem tfX_9_1 {n k : Nat} (h : zT shX n k 9) : zT shX n (k + 1) 17 := zT_off h (shX_f (by decide) (by decide +kernel)) (by decide) (by decide)
theorem za_17 : zArrI 17 600 := fun _ _ _ _ _ _ => rfl
theorem kb_32 : (Int8.ofInt (32)).toInt32 = (32 : Int32) := by decide +kernel
theorem ki_1 : Int32.ofInt (1) = (1 : Int32) := by decide +kernel
theorem zc_8 : zCls 8 := ⟨RX8, TX8, 8, tyX8, rfl, tyX8_ok, nmX8⟩
theorem fp_Text_34 : zPutI "SunnyPans$Text" 34 8 9 7 := ⟨zc_8, fg_Text_34, ⟨RX8, TX8, 8, rfl, rfl, by decide +kernel⟩, fun _ _ _ _ _ _ _ => ⟨_, rfl, Nat.le_of_ble_eq_true rfl, rfl⟩⟩
theorem wd_618 : Cond.code yX8_skipBlanks cX8_skipBlanks 1 none ∈ tbG := tw 618 (by decide +kernel) rfl
theorem wd_615 : Cond.methodLink "SunnyPans$Text" 40 yX8_skipBlanks ∈ tbG := tw 615 (by decide +kernel) rfl
theorem wd_617 : Cond.instanceMethod yX8_skipBlanks ∈ tbG := tw 617 (by decide +kernel) rfl
theorem wd_4 : Cond.selects "SunnyPans$Text" yX8_skipBlanks yX8_skipBlanks ∈ tbG := tw 4 (by decide +kernel) rfl
theorem wd_102 : Cond.initialized "SunnyPans$Text" ∈ tbG := tw 102 (by decide +kernel) rfl
theorem cv_Text_40 : zCV "SunnyPans$Text" 40 "SunnyPans$Text" yX8_skipBlanks cX8_skipBlanks 1 none 0 := zCV_of wd_615 wd_617 wd_4 wd_102 wd_618 (by decide +kernel)
theorem zo_9 : zObj "SunnyPans$Text" 9 := ⟨8, (RX8, TX8, 8), rfl, rfl, fun _ _ _ _ _ _ => ⟨_, rfl⟩⟩
theorem wd_141 : Cond.fieldLink "SunnyPans$Text" 37 "SunnyPans$Text" "fault" "I" ∈ tbG := tw 141 (by decide +kernel) rfl
theorem fg_Text_37 : zGetI "SunnyPans$Text" 37 8 9 2 := ⟨RX8, TX8, 8, rfl, by decide, uw_8, wd_141, fun _ _ _ _ _ _ => ⟨_, rfl, rfl⟩⟩
theorem kb_48 : (Int8.ofInt (48)).toInt32 = (48 : Int32) := by decide +kernel
theorem kb_57 : (Int8.ofInt (57)).toInt32 = (57 : Int32) := by decide +kernel
theorem wd_630 : Cond.code yX8_peek cX8_peek 1 (some .int) ∈ tbG := tw 630 (by decide +kernel) rfl
theorem wd_627 : Cond.methodLink "SunnyPans$Text" 47 yX8_peek ∈ tbG := tw 627 (by decide +kernel) rfl
theorem wd_629 : Cond.instanceMethod yX8_peek ∈ tbG := tw 629 (by decide +kernel) rfl
theorem wd_6 : Cond.selects "SunnyPans$Text" yX8_peek yX8_peek ∈ tbG := tw 6 (by decide +kernel) rfl
theorem cv_Text_47 : zCV "SunnyPans$Text" 47 "SunnyPans$Text" yX8_peek cX8_peek 1 (some .int) 0 := zCV_of wd_627 wd_629 wd_6 wd_102 wd_630 (by decide +kernel)
theorem wd_704 : Cond.code yX8_isDigit cX8_isDigit 1 (some .boolean) ∈ tbG := tw 704 (by decide +kernel) rfl
theorem wd_702 : Cond.methodLink "SunnyPans$Text" 51 yX8_isDigit ∈ tbG := tw 702 (by decide +kernel) rfl
theorem wd_703 : Cond.static yX8_isDigit ∈ tbG := tw 703 (by decide +kernel) rfl
theorem cs_Text_51 : zCS "SunnyPans$Text" 51 yX8_isDigit cX8_isDigit 1 (some .boolean) 1 := zCS_of wd_702 wd_703 wd_102 wd_704 (by decide +kernel)
theorem fp_Text_37 : zPutI "SunnyPans$Text" 37 8 9 2 := ⟨zc_8, fg_Text_37, ⟨RX8, TX8, 8, rfl, rfl, by decide +kernel⟩, fun _ _ _ _ _ _ _ => ⟨_, rfl, Nat.le_of_ble_eq_true rfl, rfl⟩⟩
theorem wd_143 : Cond.fieldLink "SunnyPans$Text" 15 "SunnyPans$Text" "faultPlace" "I" ∈ tbG := tw 143 (by decide +kernel) rfl
theorem fg_Text_15 : zGetI "SunnyPans$Text" 15 8 9 3 := ⟨RX8, TX8, 8, rfl, by decide, uw_8, wd_143, fun _ _ _ _ _ _ => ⟨_, rfl, rfl⟩⟩
theorem fp_Text_15 : zPutI "SunnyPans$Text" 15 8 9 3 := ⟨zc_8, fg_Text_15, ⟨RX8, TX8, 8, rfl, rfl, by decide +kernel⟩, fun _ _ _ _ _ _ _ => ⟨_, rfl, Nat.le_of_ble_eq_true rfl, rfl⟩⟩
theorem wd_709 : Cond.code yX9_within cX9_within 3 (some .boolean) ∈ tbG := tw 709 (by decide +kernel) rfl
theorem wd_707 : Cond.methodLinkNest "SunnyPans$Text" 66 yX9_within "SunnyPans" ∈ tbN := twn 707 (by decide +kernel) rfl
theorem cn_Text_66 : zCN "SunnyPans$Text" 66 yX9_within cX9_within 3 (some .boolean) 3 := ⟨wd_707, wd_101, wd_709, by decide +kernel⟩
theorem wd_708 : Cond.static yX9_within ∈ tbG := tw 708 (by decide +kernel) rfl
theorem ki_2 : Int32.ofInt (2) = (2 : Int32) := by decide +kernel
theorem wd_150 : Cond.fieldLink "SunnyPans$Text" 62 "SunnyPans$Text" "numberFrom" "I" ∈ tbG := tw 150 (by decide +kernel) rfl
theorem fg_Text_62 : zGetI "SunnyPans$Text" 62 8 9 5 := ⟨RX8, TX8, 8, rfl, by decide, uw_8, wd_150, fun _ _ _ _ _ _ => ⟨_, rfl, rfl⟩⟩
theorem wd_693 : Cond.code yX8_fail cX8_fail 3 none ∈ tbG := tw 693 (by decide +kernel) rfl
theorem wd_705 : Cond.methodLink "SunnyPans$Text" 43 yX8_fail ∈ tbG := tw 705 (by decide +kernel) rfl
theorem wd_691 : Cond.instanceMethod yX8_fail ∈ tbG := tw 691 (by decide +kernel) rfl
theorem wd_692 : Cond.selects "SunnyPans$Text" yX8_fail yX8_fail ∈ tbG := tw 692 (by decide +kernel) rfl
theorem cv_Text_43 : zCV "SunnyPans$Text" 43 "SunnyPans$Text" yX8_fail cX8_fail 3 none 2 := zCV_of wd_705 wd_691 wd_692 wd_102 wd_693 (by decide +kernel)
theorem wd_706 : Cond.constant "SunnyPans$Text" 65 (1000000) ∈ tbG := tw 706 (by decide +kernel) rfl
theorem wd_601 : Cond.methodLink "SunnyPans$Text" 22 Lib.Math.min.name ∈ tbG := tw 601 (by decide +kernel) rfl
theorem wd_602 : Cond.static Lib.Math.min.name ∈ tbG := tw 602 (by decide +kernel) rfl
theorem wd_116 : Cond.initialized "java/lang/Math" ∈ tbG := tw 116 (by decide +kernel) rfl
theorem wd_603 : Cond.code Lib.Math.min.name Lib.Math.min.code 2 (some .int) ∈ tbG := tw 603 (by decide +kernel) rfl
theorem wd_701 : Cond.code yX8_seesDigit cX8_seesDigit 1 (some .boolean) ∈ tbG := tw 701 (by decide +kernel) rfl
theorem wd_698 : Cond.methodLink "SunnyPans$Text" 58 yX8_seesDigit ∈ tbG := tw 698 (by decide +kernel) rfl
theorem wd_699 : Cond.instanceMethod yX8_seesDigit ∈ tbG := tw 699 (by decide +kernel) rfl
theorem wd_700 : Cond.selects "SunnyPans$Text" yX8_seesDigit yX8_seesDigit ∈ tbG := tw 700 (by decide +kernel) rfl
theorem cv_Text_58 : zCV "SunnyPans$Text" 58 "SunnyPans$Text" yX8_seesDigit cX8_seesDigit 1 (some .boolean) 0 := zCV_of wd_698 wd_699 wd_700 wd_102 wd_701 (by decide +kernel)
theorem fp_Text_62 : zPutI "SunnyPans$Text" 62 8 9 5 := ⟨zc_8, fg_Text_62, ⟨RX8, TX8, 8, rfl, rfl, by decide +kernel⟩, fun _ _ _ _ _ _ _ => ⟨_, rfl, Nat.le_of_ble_eq_true rfl, rfl⟩⟩
theorem wd_730 : Cond.code yX8_sees cX8_sees 2 (some .boolean) ∈ tbG := tw 730 (by decide +kernel) rfl
theorem wd_727 : Cond.methodLink "SunnyPans$Text" 55 yX8_sees ∈ tbG := tw 727 (by decide +kernel) rfl
theorem wd_728 : Cond.instanceMethod yX8_sees ∈ tbG := tw 728 (by decide +kernel) rfl
theorem wd_729 : Cond.selects "SunnyPans$Text" yX8_sees yX8_sees ∈ tbG := tw 729 (by decide +kernel) rfl
theorem cv_Text_55 : zCV "SunnyPans$Text" 55 "SunnyPans$Text" yX8_sees cX8_sees 2 (some .boolean) 1 := zCV_of wd_727 wd_728 wd_729 wd_102 wd_730 (by decide +kernel)
theorem ks_9999 : (Int16.ofInt (9999)).toInt32 = (9999 : Int32) := by decide +kernel
theorem wd_697 : Cond.code yX8_number cX8_number 4 (some .int) ∈ tbG := tw 697 (by decide +kernel) rfl
theorem wd_967 : Cond.methodLink "SunnyPans$Book" 44 yX8_number ∈ tbG := tw 967 (by decide +kernel) rfl
theorem wd_695 : Cond.instanceMethod yX8_number ∈ tbG := tw 695 (by decide +kernel) rfl
theorem wd_696 : Cond.selects "SunnyPans$Text" yX8_number yX8_number ∈ tbG := tw 696 (by decide +kernel) rfl
theorem cv_Book_44 : zCV "SunnyPans$Book" 44 "SunnyPans$Text" yX8_number cX8_number 4 (some .int) 2 := zCV_of wd_967 wd_695 wd_696 wd_102 wd_697 (by decide +kernel)
theorem kb_59 : (Int8.ofInt (59)).toInt32 = (59 : Int32) := by decide +kernel
theorem wd_726 : Cond.code yX8_sign cX8_sign 2 none ∈ tbG := tw 726 (by decide +kernel) rfl
theorem wd_971 : Cond.methodLink "SunnyPans$Book" 65 yX8_sign ∈ tbG := tw 971 (by decide +kernel) rfl
theorem wd_724 : Cond.instanceMethod yX8_sign ∈ tbG := tw 724 (by decide +kernel) rfl
theorem wd_725 : Cond.selects "SunnyPans$Text" yX8_sign yX8_sign ∈ tbG := tw 725 (by decide +kernel) rfl
theorem cv_Book_65 : zCV "SunnyPans$Book" 65 "SunnyPans$Text" yX8_sign cX8_sign 2 none 1 := zCV_of wd_971 wd_724 wd_725 wd_102 wd_726 (by decide +kernel)
theorem wd_392 : Cond.fieldLink "SunnyPans$Book" 9 "SunnyPans$Book" "place" "[I" ∈ tbG := tw 392 (by decide +kernel) rfl
theorem fg_Book_9 : zGetR "SunnyPans$Book" 9 1 2 0 1 := ⟨RX1, TX1, 4, rfl, by decide, uw_1, wd_392, fun _ _ _ _ _ _ => ⟨_, rfl, rfl⟩⟩
theorem tfX_2_1 {n k : Nat} (h : zT shX n k 2) : zT shX n (k + 1) 26 := zT_off h (shX_f (by decide) (by decide +kernel)) (by decide) (by decide)
theorem za_26 : zArrI 26 8 := fun _ _ _ _ _ _ => rfl
theorem wd_394 : Cond.fieldLink "SunnyPans$Book" 15 "SunnyPans$Book" "brine" "[I" ∈ tbG := tw 394 (by decide +kernel) rfl
theorem fg_Book_15 : zGetR "SunnyPans$Book" 15 1 2 1 2 := ⟨RX1, TX1, 4, rfl, by decide, uw_1, wd_394, fun _ _ _ _ _ _ => ⟨_, rfl, rfl⟩⟩
theorem tfX_2_2 {n k : Nat} (h : zT shX n k 2) : zT shX n (k + 2) 26 := zT_off h (shX_f (by decide) (by decide +kernel)) (by decide) (by decide)
theorem wd_314 : Cond.code yX9_bit cX9_bit 1 (some .long) ∈ tbG := tw 314 (by decide +kernel) rfl
theorem wd_972 : Cond.methodLinkNest "SunnyPans$Book" 69 yX9_bit "SunnyPans" ∈ tbN := twn 972 (by decide +kernel) rfl
theorem cn_Book_69 : zCN "SunnyPans$Book" 69 yX9_bit cX9_bit 1 (some .long) 1 := ⟨wd_972, wd_101, wd_314, by decide +kernel⟩
theorem wd_313 : Cond.static yX9_bit ∈ tbG := tw 313 (by decide +kernel) rfl
theorem wd_317 : Cond.fieldLink "SunnyPans$Book" 39 "SunnyPans$Plan" "wide" "I" ∈ tbG := tw 317 (by decide +kernel) rfl
theorem uw_5 : ∀ w ∈ u_ws RX5 TX5 9, w ∈ tbG := zUW _ [340, 342, 344, 346, 348, 350, 352, 354, 356] (by decide +kernel) (by decide +kernel)
theorem fg_Book_39 : zGetI "SunnyPans$Book" 39 5 6 0 := ⟨RX5, TX5, 9, rfl, by decide, uw_5, wd_317, fun _ _ _ _ _ _ => ⟨_, rfl, rfl⟩⟩
theorem wd_321 : Cond.fieldLink "SunnyPans$Book" 55 "SunnyPans$Plan" "high" "I" ∈ tbG := tw 321 (by decide +kernel) rfl
theorem fg_Book_55 : zGetI "SunnyPans$Book" 55 5 6 1 := ⟨RX5, TX5, 9, rfl, by decide, uw_5, wd_321, fun _ _ _ _ _ _ => ⟨_, rfl, rfl⟩⟩
theorem wd_311 : Cond.code yX9_placeOf cX9_placeOf 2 (some .int) ∈ tbG := tw 311 (by decide +kernel) rfl
theorem wd_969 : Cond.methodLinkNest "SunnyPans$Book" 58 yX9_placeOf "SunnyPans" ∈ tbN := twn 969 (by decide +kernel) rfl
theorem cn_Book_58 : zCN "SunnyPans$Book" 58 yX9_placeOf cX9_placeOf 2 (some .int) 2 := ⟨wd_969, wd_101, wd_311, by decide +kernel⟩
theorem wd_310 : Cond.static yX9_placeOf ∈ tbG := tw 310 (by decide +kernel) rfl
theorem wd_737 : Cond.code yX9_has cX9_has 3 (some .boolean) ∈ tbG := tw 737 (by decide +kernel) rfl
theorem wd_970 : Cond.methodLinkNest "SunnyPans$Book" 61 yX9_has "SunnyPans" ∈ tbN := twn 970 (by decide +kernel) rfl
theorem cn_Book_61 : zCN "SunnyPans$Book" 61 yX9_has cX9_has 3 (some .boolean) 2 := ⟨wd_970, wd_101, wd_737, by decide +kernel⟩
theorem wd_736 : Cond.static yX9_has ∈ tbG := tw 736 (by decide +kernel) rfl
theorem wd_149 : Cond.fieldLink "SunnyPans$Book" 48 "SunnyPans$Text" "numberFrom" "I" ∈ tbG := tw 149 (by decide +kernel) rfl
theorem fg_Book_48 : zGetI "SunnyPans$Book" 48 8 9 5 := ⟨RX8, TX8, 8, rfl, by decide, uw_8, wd_149, fun _ _ _ _ _ _ => ⟨_, rfl, rfl⟩⟩
theorem wd_968 : Cond.methodLink "SunnyPans$Book" 51 yX8_fail ∈ tbG := tw 968 (by decide +kernel) rfl
theorem cv_Book_51 : zCV "SunnyPans$Book" 51 "SunnyPans$Text" yX8_fail cX8_fail 3 none 2 := zCV_of wd_968 wd_691 wd_692 wd_102 wd_693 (by decide +kernel)
theorem ki_3 : Int32.ofInt (3) = (3 : Int32) := by decide +kernel
theorem wd_614 : Cond.code yX8_goesOn cX8_goesOn 1 (some .boolean) ∈ tbG := tw 614 (by decide +kernel) rfl
theorem wd_962 : Cond.methodLink "SunnyPans$Book" 29 yX8_goesOn ∈ tbG := tw 962 (by decide +kernel) rfl
theorem wd_612 : Cond.instanceMethod yX8_goesOn ∈ tbG := tw 612 (by decide +kernel) rfl
theorem wd_613 : Cond.selects "SunnyPans$Text" yX8_goesOn yX8_goesOn ∈ tbG := tw 613 (by decide +kernel) rfl
theorem cv_Book_29 : zCV "SunnyPans$Book" 29 "SunnyPans$Text" yX8_goesOn cX8_goesOn 1 (some .boolean) 0 := zCV_of wd_962 wd_612 wd_613 wd_102 wd_614 (by decide +kernel)
theorem wd_966 : Cond.code yX1_readLine cX1_readLine 7 none ∈ tbG := tw 966 (by decide +kernel) rfl
theorem wd_963 : Cond.methodLink "SunnyPans$Book" 35 yX1_readLine ∈ tbG := tw 963 (by decide +kernel) rfl
theorem wd_965 : Cond.instanceMethod yX1_readLine ∈ tbG := tw 965 (by decide +kernel) rfl
theorem wd_23 : Cond.selects "SunnyPans$Book" yX1_readLine yX1_readLine ∈ tbG := tw 23 (by decide +kernel) rfl
theorem wd_110 : Cond.initialized "SunnyPans$Book" ∈ tbG := tw 110 (by decide +kernel) rfl
theorem cv_Book_35 : zCV "SunnyPans$Book" 35 "SunnyPans$Book" yX1_readLine cX1_readLine 7 none 2 := zCV_of wd_963 wd_965 wd_23 wd_110 wd_966 (by decide +kernel)
theorem zo_2 : zObj "SunnyPans$Book" 2 := ⟨1, (RX1, TX1, 4), rfl, rfl, fun _ _ _ _ _ _ => ⟨_, rfl⟩⟩
theorem wd_742 : Cond.code yX1_clear cX1_clear 1 none ∈ tbG := tw 742 (by decide +kernel) rfl
theorem wd_961 : Cond.methodLink "SunnyPans$Book" 26 yX1_clear ∈ tbG := tw 961 (by decide +kernel) rfl
theorem wd_740 : Cond.instanceMethod yX1_clear ∈ tbG := tw 740 (by decide +kernel) rfl
theorem wd_741 : Cond.selects "SunnyPans$Book" yX1_clear yX1_clear ∈ tbG := tw 741 (by decide +kernel) rfl
theorem cv_Book_26 : zCV "SunnyPans$Book" 26 "SunnyPans$Book" yX1_clear cX1_clear 1 none 0 := zCV_of wd_961 wd_740 wd_741 wd_110 wd_742 (by decide +kernel)
theorem wd_245 : Cond.fieldLink "SunnyPans$Job" 33 "SunnyPans$Job" "size" "I" ∈ tbG := tw 245 (by decide +kernel) rfl
theorem uw_2 : ∀ w ∈ u_ws RX2 TX2 9, w ∈ tbG := zUW _ [246, 248, 250, 252, 254, 256, 258, 260, 262] (by decide +kernel) (by decide +kernel)
theorem fg_Job_33 : zGetI "SunnyPans$Job" 33 2 3 8 := ⟨RX2, TX2, 9, rfl, by decide, uw_2, wd_245, fun _ _ _ _ _ _ => ⟨_, rfl, rfl⟩⟩
theorem ks_150 : (Int16.ofInt (150)).toInt32 = (150 : Int32) := by decide +kernel
theorem wd_233 : Cond.fieldLink "SunnyPans$Job" 9 "SunnyPans$Job" "kind" "[I" ∈ tbG := tw 233 (by decide +kernel) rfl
theorem fg_Job_9 : zGetR "SunnyPans$Job" 9 2 3 0 1 := ⟨RX2, TX2, 9, rfl, by decide, uw_2, wd_233, fun _ _ _ _ _ _ => ⟨_, rfl, rfl⟩⟩
theorem tfX_3_1 {n k : Nat} (h : zT shX n k 3) : zT shX n (k + 1) 21 := zT_off h (shX_f (by decide) (by decide +kernel)) (by decide) (by decide)
theorem za_21 : zArrI 21 150 := fun _ _ _ _ _ _ => rfl
theorem wd_235 : Cond.fieldLink "SunnyPans$Job" 15 "SunnyPans$Job" "place" "[I" ∈ tbG := tw 235 (by decide +kernel) rfl
theorem fg_Job_15 : zGetR "SunnyPans$Job" 15 2 3 1 2 := ⟨RX2, TX2, 9, rfl, by decide, uw_2, wd_235, fun _ _ _ _ _ _ => ⟨_, rfl, rfl⟩⟩
theorem tfX_3_2 {n k : Nat} (h : zT shX n k 3) : zT shX n (k + 2) 21 := zT_off h (shX_f (by decide) (by decide +kernel)) (by decide) (by decide)
theorem wd_237 : Cond.fieldLink "SunnyPans$Job" 18 "SunnyPans$Job" "other" "[I" ∈ tbG := tw 237 (by decide +kernel) rfl
theorem fg_Job_18 : zGetR "SunnyPans$Job" 18 2 3 2 3 := ⟨RX2, TX2, 9, rfl, by decide, uw_2, wd_237, fun _ _ _ _ _ _ => ⟨_, rfl, rfl⟩⟩
theorem tfX_3_3 {n k : Nat} (h : zT shX n k 3) : zT shX n (k + 3) 21 := zT_off h (shX_f (by decide) (by decide +kernel)) (by decide) (by decide)
theorem wd_239 : Cond.fieldLink "SunnyPans$Job" 21 "SunnyPans$Job" "amount" "[I" ∈ tbG := tw 239 (by decide +kernel) rfl
theorem fg_Job_21 : zGetR "SunnyPans$Job" 21 2 3 3 4 := ⟨RX2, TX2, 9, rfl, by decide, uw_2, wd_239, fun _ _ _ _ _ _ => ⟨_, rfl, rfl⟩⟩
theorem tfX_3_4 {n k : Nat} (h : zT shX n k 3) : zT shX n (k + 4) 21 := zT_off h (shX_f (by decide) (by decide +kernel)) (by decide) (by decide)
theorem zc_2 : zCls 2 := ⟨RX2, TX2, 9, tyX2, rfl, tyX2_ok, nmX2⟩
theorem fp_Job_33 : zPutI "SunnyPans$Job" 33 2 3 8 := ⟨zc_2, fg_Job_33, ⟨RX2, TX2, 9, rfl, rfl, by decide +kernel⟩, fun _ _ _ _ _ _ _ => ⟨_, rfl, Nat.le_of_ble_eq_true rfl, rfl⟩⟩
theorem kb_6 : (Int8.ofInt (6)).toInt32 = (6 : Int32) := by decide +kernel
theorem wd_851 : Cond.code yX2_add cX2_add 5 none ∈ tbG := tw 851 (by decide +kernel) rfl
theorem wd_848 : Cond.methodLink "SunnyPans$Job" 84 yX2_add ∈ tbG := tw 848 (by decide +kernel) rfl
theorem wd_850 : Cond.instanceMethod yX2_add ∈ tbG := tw 850 (by decide +kernel) rfl
theorem wd_16 : Cond.selects "SunnyPans$Job" yX2_add yX2_add ∈ tbG := tw 16 (by decide +kernel) rfl
theorem wd_105 : Cond.initialized "SunnyPans$Job" ∈ tbG := tw 105 (by decide +kernel) rfl
theorem cv_Job_84 : zCV "SunnyPans$Job" 84 "SunnyPans$Job" yX2_add cX2_add 5 none 4 := zCV_of wd_848 wd_850 wd_16 wd_105 wd_851 (by decide +kernel)
theorem zo_3 : zObj "SunnyPans$Job" 3 := ⟨2, (RX2, TX2, 9), rfl, rfl, fun _ _ _ _ _ _ => ⟨_, rfl⟩⟩
theorem kb_93 : (Int8.ofInt (93)).toInt32 = (93 : Int32) := by decide +kernel
theorem wd_847 : Cond.methodLink "SunnyPans$Job" 108 yX8_sign ∈ tbG := tw 847 (by decide +kernel) rfl
theorem cv_Job_108 : zCV "SunnyPans$Job" 108 "SunnyPans$Text" yX8_sign cX8_sign 2 none 1 := zCV_of wd_847 wd_724 wd_725 wd_102 wd_726 (by decide +kernel)
theorem wd_244 : Cond.fieldLink "SunnyPans$Job" 37 "SunnyPans$Job" "open" "I" ∈ tbG := tw 244 (by decide +kernel) rfl
theorem fg_Job_37 : zGetI "SunnyPans$Job" 37 2 3 7 := ⟨RX2, TX2, 9, rfl, by decide, uw_2, wd_244, fun _ _ _ _ _ _ => ⟨_, rfl, rfl⟩⟩
theorem fp_Job_37 : zPutI "SunnyPans$Job" 37 2 3 7 := ⟨zc_2, fg_Job_37, ⟨RX2, TX2, 9, rfl, rfl, by decide +kernel⟩, fun _ _ _ _ _ _ _ => ⟨_, rfl, Nat.le_of_ble_eq_true rfl, rfl⟩⟩
theorem wd_243 : Cond.fieldLink "SunnyPans$Job" 30 "SunnyPans$Job" "openAt" "[I" ∈ tbG := tw 243 (by decide +kernel) rfl
theorem fg_Job_30 : zGetR "SunnyPans$Job" 30 2 3 6 7 := ⟨RX2, TX2, 9, rfl, by decide, uw_2, wd_243, fun _ _ _ _ _ _ => ⟨_, rfl, rfl⟩⟩
theorem tfX_3_7 {n k : Nat} (h : zT shX n k 3) : zT shX n (k + 7) 22 := zT_off h (shX_f (by decide) (by decide +kernel)) (by decide) (by decide)
theorem za_22 : zArrI 22 6 := fun _ _ _ _ _ _ => rfl
theorem wd_241 : Cond.fieldLink "SunnyPans$Job" 24 "SunnyPans$Job" "mate" "[I" ∈ tbG := tw 241 (by decide +kernel) rfl
theorem fg_Job_24 : zGetR "SunnyPans$Job" 24 2 3 4 5 := ⟨RX2, TX2, 9, rfl, by decide, uw_2, wd_241, fun _ _ _ _ _ _ => ⟨_, rfl, rfl⟩⟩
theorem tfX_3_5 {n k : Nat} (h : zT shX n k 3) : zT shX n (k + 5) 21 := zT_off h (shX_f (by decide) (by decide +kernel)) (by decide) (by decide)
theorem kb_97 : (Int8.ofInt (97)).toInt32 = (97 : Int32) := by decide +kernel
theorem kb_122 : (Int8.ofInt (122)).toInt32 = (122 : Int32) := by decide +kernel
theorem wd_633 : Cond.code yX8_isLetter cX8_isLetter 1 (some .boolean) ∈ tbG := tw 633 (by decide +kernel) rfl
theorem wd_631 : Cond.methodLink "SunnyPans$Text" 73 yX8_isLetter ∈ tbG := tw 631 (by decide +kernel) rfl
theorem wd_632 : Cond.static yX8_isLetter ∈ tbG := tw 632 (by decide +kernel) rfl
theorem cs_Text_73 : zCS "SunnyPans$Text" 73 yX8_isLetter cX8_isLetter 1 (some .boolean) 1 := zCS_of wd_631 wd_632 wd_102 wd_633 (by decide +kernel)
theorem wd_148 : Cond.fieldLink "SunnyPans$Text" 70 "SunnyPans$Text" "wordFrom" "I" ∈ tbG := tw 148 (by decide +kernel) rfl
theorem fg_Text_70 : zGetI "SunnyPans$Text" 70 8 9 4 := ⟨RX8, TX8, 8, rfl, by decide, uw_8, wd_148, fun _ _ _ _ _ _ => ⟨_, rfl, rfl⟩⟩
theorem fp_Text_70 : zPutI "SunnyPans$Text" 70 8 9 4 := ⟨zc_8, fg_Text_70, ⟨RX8, TX8, 8, rfl, rfl, by decide +kernel⟩, fun _ _ _ _ _ _ _ => ⟨_, rfl, Nat.le_of_ble_eq_true rfl, rfl⟩⟩
theorem wd_720 : Cond.methodLink "SunnyPans$Text" 85 yX8_number ∈ tbG := tw 720 (by decide +kernel) rfl
theorem cv_Text_85 : zCV "SunnyPans$Text" 85 "SunnyPans$Text" yX8_number cX8_number 4 (some .int) 2 := zCV_of wd_720 wd_695 wd_696 wd_102 wd_697 (by decide +kernel)
theorem wd_721 : Cond.methodLinkNest "SunnyPans$Text" 88 yX9_placeOf "SunnyPans" ∈ tbN := twn 721 (by decide +kernel) rfl
theorem cn_Text_88 : zCN "SunnyPans$Text" 88 yX9_placeOf cX9_placeOf 2 (some .int) 2 := ⟨wd_721, wd_101, wd_311, by decide +kernel⟩
theorem kb_60 : (Int8.ofInt (60)).toInt32 = (60 : Int32) := by decide +kernel
theorem wd_860 : Cond.methodLink "SunnyPans$Job" 81 yX8_number ∈ tbG := tw 860 (by decide +kernel) rfl
theorem cv_Job_81 : zCV "SunnyPans$Job" 81 "SunnyPans$Text" yX8_number cX8_number 4 (some .int) 2 := zCV_of wd_860 wd_695 wd_696 wd_102 wd_697 (by decide +kernel)
theorem kb_91 : (Int8.ofInt (91)).toInt32 = (91 : Int32) := by decide +kernel
theorem ki_5 : Int32.ofInt (5) = (5 : Int32) := by decide +kernel
theorem wd_146 : Cond.fieldLink "SunnyPans$Job" 101 "SunnyPans$Text" "wordFrom" "I" ∈ tbG := tw 146 (by decide +kernel) rfl
theorem fg_Job_101 : zGetI "SunnyPans$Job" 101 8 9 4 := ⟨RX8, TX8, 8, rfl, by decide, uw_8, wd_146, fun _ _ _ _ _ _ => ⟨_, rfl, rfl⟩⟩
theorem wd_870 : Cond.methodLink "SunnyPans$Job" 104 yX8_fail ∈ tbG := tw 870 (by decide +kernel) rfl
theorem cv_Job_104 : zCV "SunnyPans$Job" 104 "SunnyPans$Text" yX8_fail cX8_fail 3 none 2 := zCV_of wd_870 wd_691 wd_692 wd_102 wd_693 (by decide +kernel)
theorem wd_626 : Cond.code yX8_word cX8_word 1 none ∈ tbG := tw 626 (by decide +kernel) rfl
theorem wd_856 : Cond.methodLink "SunnyPans$Job" 61 yX8_word ∈ tbG := tw 856 (by decide +kernel) rfl
theorem wd_624 : Cond.instanceMethod yX8_word ∈ tbG := tw 624 (by decide +kernel) rfl
theorem wd_625 : Cond.selects "SunnyPans$Text" yX8_word yX8_word ∈ tbG := tw 625 (by decide +kernel) rfl
theorem cv_Job_61 : zCV "SunnyPans$Job" 61 "SunnyPans$Text" yX8_word cX8_word 1 none 0 := zCV_of wd_856 wd_624 wd_625 wd_102 wd_626 (by decide +kernel)
theorem wd_874 : Cond.code yX8_failAtEnd cX8_failAtEnd 1 none ∈ tbG := tw 874 (by decide +kernel) rfl
theorem wd_871 : Cond.methodLink "SunnyPans$Job" 58 yX8_failAtEnd ∈ tbG := tw 871 (by decide +kernel) rfl
theorem wd_872 : Cond.instanceMethod yX8_failAtEnd ∈ tbG := tw 872 (by decide +kernel) rfl
theorem wd_873 : Cond.selects "SunnyPans$Text" yX8_failAtEnd yX8_failAtEnd ∈ tbG := tw 873 (by decide +kernel) rfl
theorem cv_Job_58 : zCV "SunnyPans$Job" 58 "SunnyPans$Text" yX8_failAtEnd cX8_failAtEnd 1 none 0 := zCV_of wd_871 wd_872 wd_873 wd_102 wd_874 (by decide +kernel)
theorem wd_242 : Cond.fieldLink "SunnyPans$Job" 27 "SunnyPans$Job" "left" "[I" ∈ tbG := tw 242 (by decide +kernel) rfl
theorem fg_Job_27 : zGetR "SunnyPans$Job" 27 2 3 5 6 := ⟨RX2, TX2, 9, rfl, by decide, uw_2, wd_242, fun _ _ _ _ _ _ => ⟨_, rfl, rfl⟩⟩
theorem tfX_3_6 {n k : Nat} (h : zT shX n k 3) : zT shX n (k + 6) 21 := zT_off h (shX_f (by decide) (by decide +kernel)) (by decide) (by decide)
theorem wd_376 : Cond.fieldLink "SunnyPans$Law" 24 "SunnyPans$Law" "size" "I" ∈ tbG := tw 376 (by decide +kernel) rfl
theorem uw_3 : ∀ w ∈ u_ws RX3 TX3 4, w ∈ tbG := zUW _ [377, 379, 381, 383] (by decide +kernel) (by decide +kernel)
theorem fg_Law_24 : zGetI "SunnyPans$Law" 24 3 4 3 := ⟨RX3, TX3, 4, rfl, by decide, uw_3, wd_376, fun _ _ _ _ _ _ => ⟨_, rfl, rfl⟩⟩
theorem wd_373 : Cond.fieldLink "SunnyPans$Law" 11 "SunnyPans$Law" "code" "[I" ∈ tbG := tw 373 (by decide +kernel) rfl
theorem fg_Law_11 : zGetR "SunnyPans$Law" 11 3 4 0 1 := ⟨RX3, TX3, 4, rfl, by decide, uw_3, wd_373, fun _ _ _ _ _ _ => ⟨_, rfl, rfl⟩⟩
theorem tfX_4_1 {n k : Nat} (h : zT shX n k 4) : zT shX n (k + 1) 21 := zT_off h (shX_f (by decide) (by decide +kernel)) (by decide) (by decide)
theorem zc_3 : zCls 3 := ⟨RX3, TX3, 4, tyX3, rfl, tyX3_ok, nmX3⟩
theorem fp_Law_24 : zPutI "SunnyPans$Law" 24 3 4 3 := ⟨zc_3, fg_Law_24, ⟨RX3, TX3, 4, rfl, rfl, by decide +kernel⟩, fun _ _ _ _ _ _ _ => ⟨_, rfl, Nat.le_of_ble_eq_true rfl, rfl⟩⟩
theorem wd_372 : Cond.code yX3_emit cX3_emit 2 none ∈ tbG := tw 372 (by decide +kernel) rfl
theorem wd_369 : Cond.methodLink "SunnyPans$Law" 28 yX3_emit ∈ tbG := tw 369 (by decide +kernel) rfl
theorem wd_371 : Cond.instanceMethod yX3_emit ∈ tbG := tw 371 (by decide +kernel) rfl
theorem wd_0 : Cond.selects "SunnyPans$Law" yX3_emit yX3_emit ∈ tbG := tw 0 (by decide +kernel) rfl
theorem wd_109 : Cond.initialized "SunnyPans$Law" ∈ tbG := tw 109 (by decide +kernel) rfl
theorem cv_Law_28 : zCV "SunnyPans$Law" 28 "SunnyPans$Law" yX3_emit cX3_emit 2 none 1 := zCV_of wd_369 wd_371 wd_0 wd_109 wd_372 (by decide +kernel)
theorem zo_4 : zObj "SunnyPans$Law" 4 := ⟨3, (RX3, TX3, 4), rfl, rfl, fun _ _ _ _ _ _ => ⟨_, rfl⟩⟩
theorem ks_1002 : (Int16.ofInt (1002)).toInt32 = (1002 : Int32) := by decide +kernel
theorem ki_4 : Int32.ofInt (4) = (4 : Int32) := by decide +kernel
theorem ks_1011 : (Int16.ofInt (1011)).toInt32 = (1011 : Int32) := by decide +kernel
theorem ks_1008 : (Int16.ofInt (1008)).toInt32 = (1008 : Int32) := by decide +kernel
theorem wd_801 : Cond.methodLink "SunnyPans$Law" 52 yX8_sign ∈ tbG := tw 801 (by decide +kernel) rfl
theorem cv_Law_52 : zCV "SunnyPans$Law" 52 "SunnyPans$Text" yX8_sign cX8_sign 2 none 1 := zCV_of wd_801 wd_724 wd_725 wd_102 wd_726 (by decide +kernel)
theorem wd_806 : Cond.methodLink "SunnyPans$Law" 76 yX8_word ∈ tbG := tw 806 (by decide +kernel) rfl
theorem cv_Law_76 : zCV "SunnyPans$Law" 76 "SunnyPans$Text" yX8_word cX8_word 1 none 0 := zCV_of wd_806 wd_624 wd_625 wd_102 wd_626 (by decide +kernel)
theorem wd_793 : Cond.methodLink "SunnyPans$Law" 58 yX8_seesDigit ∈ tbG := tw 793 (by decide +kernel) rfl
theorem cv_Law_58 : zCV "SunnyPans$Law" 58 "SunnyPans$Text" yX8_seesDigit cX8_seesDigit 1 (some .boolean) 0 := zCV_of wd_793 wd_699 wd_700 wd_102 wd_701 (by decide +kernel)
theorem kb_40 : (Int8.ofInt (40)).toInt32 = (40 : Int32) := by decide +kernel
theorem wd_795 : Cond.methodLink "SunnyPans$Law" 48 yX8_sees ∈ tbG := tw 795 (by decide +kernel) rfl
theorem cv_Law_48 : zCV "SunnyPans$Law" 48 "SunnyPans$Text" yX8_sees cX8_sees 2 (some .boolean) 1 := zCV_of wd_795 wd_728 wd_729 wd_102 wd_730 (by decide +kernel)
theorem wd_948 : Cond.methodLink "SunnyPans$Law" 122 Lib.Math.max.name ∈ tbG := tw 948 (by decide +kernel) rfl
theorem wd_605 : Cond.static Lib.Math.max.name ∈ tbG := tw 605 (by decide +kernel) rfl
theorem wd_606 : Cond.code Lib.Math.max.name Lib.Math.max.code 2 (some .int) ∈ tbG := tw 606 (by decide +kernel) rfl
theorem wd_947 : Cond.methodLink "SunnyPans$Law" 117 Lib.Math.min.name ∈ tbG := tw 947 (by decide +kernel) rfl
theorem kb_99 : (Int8.ofInt (99)).toInt32 = (99 : Int32) := by decide +kernel
theorem wd_374 : Cond.fieldLink "SunnyPans$Law" 15 "SunnyPans$Law" "stack" "[I" ∈ tbG := tw 374 (by decide +kernel) rfl
theorem fg_Law_15 : zGetR "SunnyPans$Law" 15 3 4 1 2 := ⟨RX3, TX3, 4, rfl, by decide, uw_3, wd_374, fun _ _ _ _ _ _ => ⟨_, rfl, rfl⟩⟩
theorem tfX_4_2 {n k : Nat} (h : zT shX n k 4) : zT shX n (k + 2) 21 := zT_off h (shX_f (by decide) (by decide +kernel)) (by decide) (by decide)
theorem ks_1000 : (Int16.ofInt (1000)).toInt32 = (1000 : Int32) := by decide +kernel
theorem wd_375 : Cond.fieldLink "SunnyPans$Law" 18 "SunnyPans$Law" "named" "[I" ∈ tbG := tw 375 (by decide +kernel) rfl
theorem fg_Law_18 : zGetR "SunnyPans$Law" 18 3 4 2 3 := ⟨RX3, TX3, 4, rfl, by decide, uw_3, wd_375, fun _ _ _ _ _ _ => ⟨_, rfl, rfl⟩⟩
theorem tfX_4_3 {n k : Nat} (h : zT shX n k 4) : zT shX n (k + 3) 26 := zT_off h (shX_f (by decide) (by decide +kernel)) (by decide) (by decide)
theorem wd_946 : Cond.code yX3_join cX3_join 3 (some .int) ∈ tbG := tw 946 (by decide +kernel) rfl
theorem wd_944 : Cond.methodLink "SunnyPans$Law" 113 yX3_join ∈ tbG := tw 944 (by decide +kernel) rfl
theorem wd_945 : Cond.static yX3_join ∈ tbG := tw 945 (by decide +kernel) rfl
theorem cs_Law_113 : zCS "SunnyPans$Law" 113 yX3_join cX3_join 3 (some .int) 3 := zCS_of wd_944 wd_945 wd_109 wd_946 (by decide +kernel)
theorem kb_7 : (Int8.ofInt (7)).toInt32 = (7 : Int32) := by decide +kernel
theorem wd_183 : Cond.fieldLink "SunnyPans$Pans" 9 "SunnyPans$Pans" "brine" "[I" ∈ tbG := tw 183 (by decide +kernel) rfl
theorem uw_4 : ∀ w ∈ u_ws RX4 TX4 7, w ∈ tbG := zUW _ [197, 199, 201, 203, 205, 207, 209] (by decide +kernel) (by decide +kernel)
theorem fg_Pans_9 : zGetR "SunnyPans$Pans" 9 4 5 0 1 := ⟨RX4, TX4, 7, rfl, by decide, uw_4, wd_183, fun _ _ _ _ _ _ => ⟨_, rfl, rfl⟩⟩
theorem tfX_5_1 {n k : Nat} (h : zT shX n k 5) : zT shX n (k + 1) 16 := zT_off h (shX_f (by decide) (by decide +kernel)) (by decide) (by decide)
theorem kb_64 : (Int8.ofInt (64)).toInt32 = (64 : Int32) := by decide +kernel
theorem wd_491 : Cond.methodLink "SunnyPans$Pans" 25 arraycopyName ∈ tbG := tw 491 (by decide +kernel) rfl
theorem wd_493 : Cond.native arraycopyName ∈ tbG := tw 493 (by decide +kernel) rfl
theorem wd_492 : Cond.static arraycopyName ∈ tbG := tw 492 (by decide +kernel) rfl
theorem wd_121 : Cond.initialized "java/lang/System" ∈ tbG := tw 121 (by decide +kernel) rfl
theorem za_16 : zArrI 16 64 := fun _ _ _ _ _ _ => rfl
theorem wd_185 : Cond.fieldLink "SunnyPans$Pans" 15 "SunnyPans$Pans" "salt" "[I" ∈ tbG := tw 185 (by decide +kernel) rfl
theorem fg_Pans_15 : zGetR "SunnyPans$Pans" 15 4 5 1 2 := ⟨RX4, TX4, 7, rfl, by decide, uw_4, wd_185, fun _ _ _ _ _ _ => ⟨_, rfl, rfl⟩⟩
theorem tfX_5_2 {n k : Nat} (h : zT shX n k 5) : zT shX n (k + 2) 16 := zT_off h (shX_f (by decide) (by decide +kernel)) (by decide) (by decide)
theorem wd_187 : Cond.fieldLink "SunnyPans$Pans" 18 "SunnyPans$Pans" "grams" "[I" ∈ tbG := tw 187 (by decide +kernel) rfl
theorem fg_Pans_18 : zGetR "SunnyPans$Pans" 18 4 5 2 3 := ⟨RX4, TX4, 7, rfl, by decide, uw_4, wd_187, fun _ _ _ _ _ _ => ⟨_, rfl, rfl⟩⟩
theorem tfX_5_3 {n k : Nat} (h : zT shX n k 5) : zT shX n (k + 3) 16 := zT_off h (shX_f (by decide) (by decide +kernel)) (by decide) (by decide)
theorem wd_190 : Cond.fieldLink "SunnyPans$Pans" 31 "SunnyPans$Pans" "store" "I" ∈ tbG := tw 190 (by decide +kernel) rfl
theorem fg_Pans_31 : zGetI "SunnyPans$Pans" 31 4 5 3 := ⟨RX4, TX4, 7, rfl, by decide, uw_4, wd_190, fun _ _ _ _ _ _ => ⟨_, rfl, rfl⟩⟩
theorem zc_4 : zCls 4 := ⟨RX4, TX4, 7, tyX4, rfl, tyX4_ok, nmX4⟩
theorem fp_Pans_31 : zPutI "SunnyPans$Pans" 31 4 5 3 := ⟨zc_4, fg_Pans_31, ⟨RX4, TX4, 7, rfl, rfl, by decide +kernel⟩, fun _ _ _ _ _ _ _ => ⟨_, rfl, Nat.le_of_ble_eq_true rfl, rfl⟩⟩
theorem wd_192 : Cond.fieldLink "SunnyPans$Pans" 35 "SunnyPans$Pans" "day" "I" ∈ tbG := tw 192 (by decide +kernel) rfl
theorem fg_Pans_35 : zGetI "SunnyPans$Pans" 35 4 5 4 := ⟨RX4, TX4, 7, rfl, by decide, uw_4, wd_192, fun _ _ _ _ _ _ => ⟨_, rfl, rfl⟩⟩
theorem fp_Pans_35 : zPutI "SunnyPans$Pans" 35 4 5 4 := ⟨zc_4, fg_Pans_35, ⟨RX4, TX4, 7, rfl, rfl, by decide +kernel⟩, fun _ _ _ _ _ _ _ => ⟨_, rfl, Nat.le_of_ble_eq_true rfl, rfl⟩⟩
theorem wd_194 : Cond.fieldLink "SunnyPans$Pans" 38 "SunnyPans$Pans" "next" "I" ∈ tbG := tw 194 (by decide +kernel) rfl
theorem fg_Pans_38 : zGetI "SunnyPans$Pans" 38 4 5 5 := ⟨RX4, TX4, 7, rfl, by decide, uw_4, wd_194, fun _ _ _ _ _ _ => ⟨_, rfl, rfl⟩⟩
theorem fp_Pans_38 : zPutI "SunnyPans$Pans" 38 4 5 5 := ⟨zc_4, fg_Pans_38, ⟨RX4, TX4, 7, rfl, rfl, by decide +kernel⟩, fun _ _ _ _ _ _ _ => ⟨_, rfl, Nat.le_of_ble_eq_true rfl, rfl⟩⟩
theorem wd_196 : Cond.fieldLink "SunnyPans$Pans" 21 "SunnyPans$Pans" "shades" "[J" ∈ tbG := tw 196 (by decide +kernel) rfl
theorem fg_Pans_21 : zGetR "SunnyPans$Pans" 21 4 5 6 4 := ⟨RX4, TX4, 7, rfl, by decide, uw_4, wd_196, fun _ _ _ _ _ _ => ⟨_, rfl, rfl⟩⟩
theorem tfX_5_4 {n k : Nat} (h : zT shX n k 5) : zT shX n (k + 4) 18 := zT_off h (shX_f (by decide) (by decide +kernel)) (by decide) (by decide)
theorem za_18 : zArrL 18 10 := fun _ _ _ _ _ _ => rfl
theorem kb_50 : (Int8.ofInt (50)).toInt32 = (50 : Int32) := by decide +kernel
theorem wd_315 : Cond.fieldLink "SunnyPans$Plan" 9 "SunnyPans$Plan" "wide" "I" ∈ tbG := tw 315 (by decide +kernel) rfl
theorem fg_Plan_9 : zGetI "SunnyPans$Plan" 9 5 6 0 := ⟨RX5, TX5, 9, rfl, by decide, uw_5, wd_315, fun _ _ _ _ _ _ => ⟨_, rfl, rfl⟩⟩
theorem wd_319 : Cond.fieldLink "SunnyPans$Plan" 15 "SunnyPans$Plan" "high" "I" ∈ tbG := tw 319 (by decide +kernel) rfl
theorem fg_Plan_15 : zGetI "SunnyPans$Plan" 15 5 6 1 := ⟨RX5, TX5, 9, rfl, by decide, uw_5, wd_319, fun _ _ _ _ _ _ => ⟨_, rfl, rfl⟩⟩
theorem wd_762 : Cond.fieldLinkNest "SunnyPans$Plan" 114 "SunnyPans" "EAST" "[I" "SunnyPans" ∈ tbN := twn 762 (by decide +kernel) rfl
theorem wd_330 : Cond.fieldLink "SunnyPans$Plan" 26 "SunnyPans$Plan" "side" "[I" ∈ tbG := tw 330 (by decide +kernel) rfl
theorem fg_Plan_26 : zGetR "SunnyPans$Plan" 26 5 6 4 1 := ⟨RX5, TX5, 9, rfl, by decide, uw_5, wd_330, fun _ _ _ _ _ _ => ⟨_, rfl, rfl⟩⟩
theorem tfX_6_1 {n k : Nat} (h : zT shX n k 6) : zT shX n (k + 1) 25 := zT_off h (shX_f (by decide) (by decide +kernel)) (by decide) (by decide)
theorem za_25 : zArrI 25 10 := fun _ _ _ _ _ _ => rfl
theorem wd_764 : Cond.fieldLinkNest "SunnyPans$Plan" 117 "SunnyPans" "SOUTH" "[I" "SunnyPans" ∈ tbN := twn 764 (by decide +kernel) rfl
theorem wd_769 : Cond.code yX5_holds cX5_holds 3 (some .boolean) ∈ tbG := tw 769 (by decide +kernel) rfl
theorem wd_766 : Cond.methodLink "SunnyPans$Plan" 120 yX5_holds ∈ tbG := tw 766 (by decide +kernel) rfl
theorem wd_767 : Cond.instanceMethod yX5_holds ∈ tbG := tw 767 (by decide +kernel) rfl
theorem wd_768 : Cond.selects "SunnyPans$Plan" yX5_holds yX5_holds ∈ tbG := tw 768 (by decide +kernel) rfl
theorem wd_108 : Cond.initialized "SunnyPans$Plan" ∈ tbG := tw 108 (by decide +kernel) rfl
theorem cv_Plan_120 : zCV "SunnyPans$Plan" 120 "SunnyPans$Plan" yX5_holds cX5_holds 3 (some .boolean) 2 := zCV_of wd_766 wd_767 wd_768 wd_108 wd_769 (by decide +kernel)
theorem zo_6 : zObj "SunnyPans$Plan" 6 := ⟨5, (RX5, TX5, 9), rfl, rfl, fun _ _ _ _ _ _ => ⟨_, rfl⟩⟩
theorem wd_309 : Cond.methodLinkNest "SunnyPans$Plan" 103 yX9_placeOf "SunnyPans" ∈ tbN := twn 309 (by decide +kernel) rfl
theorem cn_Plan_103 : zCN "SunnyPans$Plan" 103 yX9_placeOf cX9_placeOf 2 (some .int) 2 := ⟨wd_309, wd_101, wd_311, by decide +kernel⟩
theorem wd_312 : Cond.methodLinkNest "SunnyPans$Plan" 106 yX9_bit "SunnyPans" ∈ tbN := twn 312 (by decide +kernel) rfl
theorem cn_Plan_106 : zCN "SunnyPans$Plan" 106 yX9_bit cX9_bit 1 (some .long) 1 := ⟨wd_312, wd_101, wd_314, by decide +kernel⟩
theorem wd_323 : Cond.fieldLink "SunnyPans$Plan" 42 "SunnyPans$Plan" "hours" "I" ∈ tbG := tw 323 (by decide +kernel) rfl
theorem fg_Plan_42 : zGetI "SunnyPans$Plan" 42 5 6 2 := ⟨RX5, TX5, 9, rfl, by decide, uw_5, wd_323, fun _ _ _ _ _ _ => ⟨_, rfl, rfl⟩⟩
theorem wd_761 : Cond.code yX9_heightOf cX9_heightOf 1 (some .int) ∈ tbG := tw 761 (by decide +kernel) rfl
theorem wd_759 : Cond.methodLinkNest "SunnyPans$Plan" 110 yX9_heightOf "SunnyPans" ∈ tbN := twn 759 (by decide +kernel) rfl
theorem cn_Plan_110 : zCN "SunnyPans$Plan" 110 yX9_heightOf cX9_heightOf 1 (some .int) 1 := ⟨wd_759, wd_101, wd_761, by decide +kernel⟩
theorem wd_760 : Cond.static yX9_heightOf ∈ tbG := tw 760 (by decide +kernel) rfl
theorem wd_332 : Cond.fieldLink "SunnyPans$Plan" 30 "SunnyPans$Plan" "reach" "[I" ∈ tbG := tw 332 (by decide +kernel) rfl
theorem fg_Plan_30 : zGetR "SunnyPans$Plan" 30 5 6 5 2 := ⟨RX5, TX5, 9, rfl, by decide, uw_5, wd_332, fun _ _ _ _ _ _ => ⟨_, rfl, rfl⟩⟩
theorem tfX_6_2 {n k : Nat} (h : zT shX n k 6) : zT shX n (k + 2) 25 := zT_off h (shX_f (by decide) (by decide +kernel)) (by decide) (by decide)
theorem wd_326 : Cond.fieldLink "SunnyPans$Pans" 90 "SunnyPans$Plan" "hours" "I" ∈ tbG := tw 326 (by decide +kernel) rfl
theorem fg_Pans_90 : zGetI "SunnyPans$Pans" 90 5 6 2 := ⟨RX5, TX5, 9, rfl, by decide, uw_5, wd_326, fun _ _ _ _ _ _ => ⟨_, rfl, rfl⟩⟩
theorem wd_758 : Cond.code yX5_shadedBy cX5_shadedBy 10 (some .long) ∈ tbG := tw 758 (by decide +kernel) rfl
theorem wd_755 : Cond.methodLink "SunnyPans$Pans" 93 yX5_shadedBy ∈ tbG := tw 755 (by decide +kernel) rfl
theorem wd_756 : Cond.instanceMethod yX5_shadedBy ∈ tbG := tw 756 (by decide +kernel) rfl
theorem wd_757 : Cond.selects "SunnyPans$Plan" yX5_shadedBy yX5_shadedBy ∈ tbG := tw 757 (by decide +kernel) rfl
theorem cv_Pans_93 : zCV "SunnyPans$Pans" 93 "SunnyPans$Plan" yX5_shadedBy cX5_shadedBy 10 (some .long) 3 := zCV_of wd_755 wd_756 wd_757 wd_108 wd_758 (by decide +kernel)
theorem wd_335 : Cond.fieldLink "SunnyPans$Pans" 41 "SunnyPans$Plan" "brine" "[I" ∈ tbG := tw 335 (by decide +kernel) rfl
theorem fg_Pans_41 : zGetR "SunnyPans$Pans" 41 5 6 6 3 := ⟨RX5, TX5, 9, rfl, by decide, uw_5, wd_335, fun _ _ _ _ _ _ => ⟨_, rfl, rfl⟩⟩
theorem tfX_6_3 {n k : Nat} (h : zT shX n k 6) : zT shX n (k + 3) 16 := zT_off h (shX_f (by decide) (by decide +kernel)) (by decide) (by decide)
theorem wd_337 : Cond.fieldLink "SunnyPans$Pans" 44 "SunnyPans$Plan" "salt" "[I" ∈ tbG := tw 337 (by decide +kernel) rfl
theorem fg_Pans_44 : zGetR "SunnyPans$Pans" 44 5 6 7 4 := ⟨RX5, TX5, 9, rfl, by decide, uw_5, wd_337, fun _ _ _ _ _ _ => ⟨_, rfl, rfl⟩⟩
theorem tfX_6_4 {n k : Nat} (h : zT shX n k 6) : zT shX n (k + 4) 16 := zT_off h (shX_f (by decide) (by decide +kernel)) (by decide) (by decide)
theorem wd_339 : Cond.fieldLink "SunnyPans$Pans" 45 "SunnyPans$Plan" "grams" "[I" ∈ tbG := tw 339 (by decide +kernel) rfl
theorem fg_Pans_45 : zGetR "SunnyPans$Pans" 45 5 6 8 5 := ⟨RX5, TX5, 9, rfl, by decide, uw_5, wd_339, fun _ _ _ _ _ _ => ⟨_, rfl, rfl⟩⟩
theorem tfX_6_5 {n k : Nat} (h : zT shX n k 6) : zT shX n (k + 5) 16 := zT_off h (shX_f (by decide) (by decide +kernel)) (by decide) (by decide)
theorem wd_754 : Cond.code yX4_learnShades cX4_learnShades 4 none ∈ tbG := tw 754 (by decide +kernel) rfl
theorem wd_751 : Cond.methodLink "SunnyPans$Pans" 46 yX4_learnShades ∈ tbG := tw 751 (by decide +kernel) rfl
theorem wd_753 : Cond.instanceMethod yX4_learnShades ∈ tbG := tw 753 (by decide +kernel) rfl
theorem wd_9 : Cond.selects "SunnyPans$Pans" yX4_learnShades yX4_learnShades ∈ tbG := tw 9 (by decide +kernel) rfl
theorem wd_104 : Cond.initialized "SunnyPans$Pans" ∈ tbG := tw 104 (by decide +kernel) rfl
theorem cv_Pans_46 : zCV "SunnyPans$Pans" 46 "SunnyPans$Pans" yX4_learnShades cX4_learnShades 4 none 1 := zCV_of wd_751 wd_753 wd_9 wd_104 wd_754 (by decide +kernel)
theorem zo_5 : zObj "SunnyPans$Pans" 5 := ⟨4, (RX4, TX4, 7), rfl, rfl, fun _ _ _ _ _ _ => ⟨_, rfl⟩⟩
theorem wd_990 : Cond.methodLink "SunnyPans" 298 yX9_bit ∈ tbG := tw 990 (by decide +kernel) rfl
theorem cs_SunnyPans_298 : zCS "SunnyPans" 298 yX9_bit cX9_bit 1 (some .long) 1 := zCS_of wd_990 wd_313 wd_101 wd_314 (by decide +kernel)
theorem wd_989 : Cond.code yX9_placesOver0 cX9_placesOver0 4 (some .long) ∈ tbG := tw 989 (by decide +kernel) rfl
theorem wd_987 : Cond.methodLinkNest "SunnyPans$Pans" 50 yX9_placesOver0 "SunnyPans" ∈ tbN := twn 987 (by decide +kernel) rfl
theorem cn_Pans_50 : zCN "SunnyPans$Pans" 50 yX9_placesOver0 cX9_placesOver0 4 (some .long) 1 := ⟨wd_987, wd_101, wd_989, by decide +kernel⟩
theorem wd_988 : Cond.static yX9_placesOver0 ∈ tbG := tw 988 (by decide +kernel) rfl
theorem wd_1004 : Cond.code yX4_brinePlaces cX4_brinePlaces 1 (some .long) ∈ tbG := tw 1004 (by decide +kernel) rfl
theorem wd_1001 : Cond.methodLink "SunnyPans$Pans" 54 yX4_brinePlaces ∈ tbG := tw 1001 (by decide +kernel) rfl
theorem wd_1002 : Cond.instanceMethod yX4_brinePlaces ∈ tbG := tw 1002 (by decide +kernel) rfl
theorem wd_1003 : Cond.selects "SunnyPans$Pans" yX4_brinePlaces yX4_brinePlaces ∈ tbG := tw 1003 (by decide +kernel) rfl
theorem cv_Pans_54 : zCV "SunnyPans$Pans" 54 "SunnyPans$Pans" yX4_brinePlaces cX4_brinePlaces 1 (some .long) 0 := zCV_of wd_1001 wd_1002 wd_1003 wd_104 wd_1004 (by decide +kernel)
theorem wd_986 : Cond.code yX4_heapPlaces cX4_heapPlaces 1 (some .long) ∈ tbG := tw 986 (by decide +kernel) rfl
theorem wd_1005 : Cond.methodLink "SunnyPans$Pans" 58 yX4_heapPlaces ∈ tbG := tw 1005 (by decide +kernel) rfl
theorem wd_984 : Cond.instanceMethod yX4_heapPlaces ∈ tbG := tw 984 (by decide +kernel) rfl
theorem wd_985 : Cond.selects "SunnyPans$Pans" yX4_heapPlaces yX4_heapPlaces ∈ tbG := tw 985 (by decide +kernel) rfl
theorem cv_Pans_58 : zCV "SunnyPans$Pans" 58 "SunnyPans$Pans" yX4_heapPlaces cX4_heapPlaces 1 (some .long) 0 := zCV_of wd_1005 wd_984 wd_985 wd_104 wd_986 (by decide +kernel)
theorem wd_1006 : Cond.constantLong "SunnyPans$Pans" 61 (-1) ∈ tbG := tw 1006 (by decide +kernel) rfl
theorem wd_1010 : Cond.code yX4_saltPlaces cX4_saltPlaces 1 (some .long) ∈ tbG := tw 1010 (by decide +kernel) rfl
theorem wd_1154 : Cond.methodLink "SunnyPans$Pans" 63 yX4_saltPlaces ∈ tbG := tw 1154 (by decide +kernel) rfl
theorem wd_1008 : Cond.instanceMethod yX4_saltPlaces ∈ tbG := tw 1008 (by decide +kernel) rfl
theorem wd_1009 : Cond.selects "SunnyPans$Pans" yX4_saltPlaces yX4_saltPlaces ∈ tbG := tw 1009 (by decide +kernel) rfl
theorem cv_Pans_63 : zCV "SunnyPans$Pans" 63 "SunnyPans$Pans" yX4_saltPlaces cX4_saltPlaces 1 (some .long) 0 := zCV_of wd_1154 wd_1008 wd_1009 wd_104 wd_1010 (by decide +kernel)
theorem wd_907 : Cond.code yX4_canPour cX4_canPour 3 (some .boolean) ∈ tbG := tw 907 (by decide +kernel) rfl
theorem wd_904 : Cond.methodLink "SunnyPans$Pans" 66 yX4_canPour ∈ tbG := tw 904 (by decide +kernel) rfl
theorem wd_905 : Cond.instanceMethod yX4_canPour ∈ tbG := tw 905 (by decide +kernel) rfl
theorem wd_906 : Cond.selects "SunnyPans$Pans" yX4_canPour yX4_canPour ∈ tbG := tw 906 (by decide +kernel) rfl
theorem cv_Pans_66 : zCV "SunnyPans$Pans" 66 "SunnyPans$Pans" yX4_canPour cX4_canPour 3 (some .boolean) 2 := zCV_of wd_904 wd_905 wd_906 wd_104 wd_907 (by decide +kernel)
theorem wd_915 : Cond.code yX4_canScrape cX4_canScrape 3 (some .boolean) ∈ tbG := tw 915 (by decide +kernel) rfl
theorem wd_912 : Cond.methodLink "SunnyPans$Pans" 70 yX4_canScrape ∈ tbG := tw 912 (by decide +kernel) rfl
theorem wd_913 : Cond.instanceMethod yX4_canScrape ∈ tbG := tw 913 (by decide +kernel) rfl
theorem wd_914 : Cond.selects "SunnyPans$Pans" yX4_canScrape yX4_canScrape ∈ tbG := tw 914 (by decide +kernel) rfl
theorem cv_Pans_70 : zCV "SunnyPans$Pans" 70 "SunnyPans$Pans" yX4_canScrape cX4_canScrape 3 (some .boolean) 2 := zCV_of wd_912 wd_913 wd_914 wd_104 wd_915 (by decide +kernel)
theorem wd_329 : Cond.fieldLink "SunnyPans$Pans" 79 "SunnyPans$Plan" "places" "J" ∈ tbG := tw 329 (by decide +kernel) rfl
theorem fg_Pans_79 : zGetL "SunnyPans$Pans" 79 5 6 3 := ⟨RX5, TX5, 9, rfl, by decide, uw_5, wd_329, fun _ _ _ _ _ _ => ⟨_, rfl, rfl⟩⟩
theorem wd_925 : Cond.methodLinkNest "SunnyPans$Pans" 83 yX9_has "SunnyPans" ∈ tbN := twn 925 (by decide +kernel) rfl
theorem cn_Pans_83 : zCN "SunnyPans$Pans" 83 yX9_has cX9_has 3 (some .boolean) 2 := ⟨wd_925, wd_101, wd_737, by decide +kernel⟩
theorem wd_926 : Cond.methodLink "SunnyPans$Pans" 87 Lib.Math.min.name ∈ tbG := tw 926 (by decide +kernel) rfl
theorem wd_924 : Cond.methodLink "SunnyPans$Pans" 73 Lib.Math.max.name ∈ tbG := tw 924 (by decide +kernel) rfl
theorem wd_145 : Cond.fieldLink "SunnyPans$Plan" 88 "SunnyPans$Text" "wordFrom" "I" ∈ tbG := tw 145 (by decide +kernel) rfl
theorem fg_Plan_88 : zGetI "SunnyPans$Plan" 88 8 9 4 := ⟨RX8, TX8, 8, rfl, by decide, uw_8, wd_145, fun _ _ _ _ _ _ => ⟨_, rfl, rfl⟩⟩
theorem wd_690 : Cond.methodLink "SunnyPans$Plan" 91 yX8_fail ∈ tbG := tw 690 (by decide +kernel) rfl
theorem cv_Plan_91 : zCV "SunnyPans$Plan" 91 "SunnyPans$Text" yX8_fail cX8_fail 3 none 2 := zCV_of wd_690 wd_691 wd_692 wd_102 wd_693 (by decide +kernel)
theorem wd_694 : Cond.methodLink "SunnyPans$Plan" 71 yX8_number ∈ tbG := tw 694 (by decide +kernel) rfl
theorem cv_Plan_71 : zCV "SunnyPans$Plan" 71 "SunnyPans$Text" yX8_number cX8_number 4 (some .int) 2 := zCV_of wd_694 wd_695 wd_696 wd_102 wd_697 (by decide +kernel)
theorem zc_5 : zCls 5 := ⟨RX5, TX5, 9, tyX5, rfl, tyX5_ok, nmX5⟩
theorem fp_Plan_42 : zPutI "SunnyPans$Plan" 42 5 6 2 := ⟨zc_5, fg_Plan_42, ⟨RX5, TX5, 9, rfl, rfl, by decide +kernel⟩, fun _ _ _ _ _ _ _ => ⟨_, rfl, Nat.le_of_ble_eq_true rfl, rfl⟩⟩
theorem wd_723 : Cond.methodLink "SunnyPans$Plan" 95 yX8_sign ∈ tbG := tw 723 (by decide +kernel) rfl
theorem cv_Plan_95 : zCV "SunnyPans$Plan" 95 "SunnyPans$Text" yX8_sign cX8_sign 2 none 1 := zCV_of wd_723 wd_724 wd_725 wd_102 wd_726 (by decide +kernel)
theorem wd_623 : Cond.methodLink "SunnyPans$Plan" 58 yX8_word ∈ tbG := tw 623 (by decide +kernel) rfl
theorem cv_Plan_58 : zCV "SunnyPans$Plan" 58 "SunnyPans$Text" yX8_word cX8_word 1 none 0 := zCV_of wd_623 wd_624 wd_625 wd_102 wd_626 (by decide +kernel)
theorem wd_334 : Cond.fieldLink "SunnyPans$Plan" 33 "SunnyPans$Plan" "brine" "[I" ∈ tbG := tw 334 (by decide +kernel) rfl
theorem fg_Plan_33 : zGetR "SunnyPans$Plan" 33 5 6 6 3 := ⟨RX5, TX5, 9, rfl, by decide, uw_5, wd_334, fun _ _ _ _ _ _ => ⟨_, rfl, rfl⟩⟩
theorem wd_336 : Cond.fieldLink "SunnyPans$Plan" 36 "SunnyPans$Plan" "salt" "[I" ∈ tbG := tw 336 (by decide +kernel) rfl
theorem fg_Plan_36 : zGetR "SunnyPans$Plan" 36 5 6 7 4 := ⟨RX5, TX5, 9, rfl, by decide, uw_5, wd_336, fun _ _ _ _ _ _ => ⟨_, rfl, rfl⟩⟩
theorem wd_327 : Cond.fieldLink "SunnyPans$Plan" 22 "SunnyPans$Plan" "places" "J" ∈ tbG := tw 327 (by decide +kernel) rfl
theorem fg_Plan_22 : zGetL "SunnyPans$Plan" 22 5 6 3 := ⟨RX5, TX5, 9, rfl, by decide, uw_5, wd_327, fun _ _ _ _ _ _ => ⟨_, rfl, rfl⟩⟩
theorem wd_735 : Cond.methodLinkNest "SunnyPans$Plan" 99 yX9_has "SunnyPans" ∈ tbN := twn 735 (by decide +kernel) rfl
theorem cn_Plan_99 : zCN "SunnyPans$Plan" 99 yX9_has cX9_has 3 (some .boolean) 2 := ⟨wd_735, wd_101, wd_737, by decide +kernel⟩
theorem wd_338 : Cond.fieldLink "SunnyPans$Plan" 39 "SunnyPans$Plan" "grams" "[I" ∈ tbG := tw 338 (by decide +kernel) rfl
theorem fg_Plan_39 : zGetR "SunnyPans$Plan" 39 5 6 8 5 := ⟨RX5, TX5, 9, rfl, by decide, uw_5, wd_338, fun _ _ _ _ _ _ => ⟨_, rfl, rfl⟩⟩
theorem wd_308 : Cond.code yX5_square cX5_square 6 (some .long) ∈ tbG := tw 308 (by decide +kernel) rfl
theorem wd_306 : Cond.methodLink "SunnyPans$Plan" 18 yX5_square ∈ tbG := tw 306 (by decide +kernel) rfl
theorem wd_307 : Cond.static yX5_square ∈ tbG := tw 307 (by decide +kernel) rfl
theorem cs_Plan_18 : zCS "SunnyPans$Plan" 18 yX5_square cX5_square 6 (some .long) 2 := zCS_of wd_306 wd_307 wd_108 wd_308 (by decide +kernel)
theorem fp_Plan_22 : zPutL "SunnyPans$Plan" 22 5 6 3 := ⟨zc_5, fg_Plan_22, ⟨RX5, TX5, 9, rfl, rfl, by decide +kernel⟩, fun _ _ _ _ _ _ _ => ⟨_, rfl, Nat.le_of_ble_eq_true rfl, rfl⟩⟩
theorem wd_734 : Cond.code yX5_leaveOut cX5_leaveOut 2 none ∈ tbG := tw 734 (by decide +kernel) rfl
theorem wd_731 : Cond.methodLink "SunnyPans$Plan" 55 yX5_leaveOut ∈ tbG := tw 731 (by decide +kernel) rfl
theorem wd_733 : Cond.instanceMethod yX5_leaveOut ∈ tbG := tw 733 (by decide +kernel) rfl
theorem wd_8 : Cond.selects "SunnyPans$Plan" yX5_leaveOut yX5_leaveOut ∈ tbG := tw 8 (by decide +kernel) rfl
theorem cv_Plan_55 : zCV "SunnyPans$Plan" 55 "SunnyPans$Plan" yX5_leaveOut cX5_leaveOut 2 none 0 := zCV_of wd_731 wd_733 wd_8 wd_108 wd_734 (by decide +kernel)
theorem wd_611 : Cond.methodLink "SunnyPans$Plan" 45 yX8_goesOn ∈ tbG := tw 611 (by decide +kernel) rfl
theorem cv_Plan_45 : zCV "SunnyPans$Plan" 45 "SunnyPans$Text" yX8_goesOn cX8_goesOn 1 (some .boolean) 0 := zCV_of wd_611 wd_612 wd_613 wd_102 wd_614 (by decide +kernel)
theorem wd_324 : Cond.fieldLink "SunnyPans$Shadows" 23 "SunnyPans$Plan" "hours" "I" ∈ tbG := tw 324 (by decide +kernel) rfl
theorem fg_Shadows_23 : zGetI "SunnyPans$Shadows" 23 5 6 2 := ⟨RX5, TX5, 9, rfl, by decide, uw_5, wd_324, fun _ _ _ _ _ _ => ⟨_, rfl, rfl⟩⟩
theorem wd_1159 : Cond.methodLinkNest "SunnyPans$Shadows" 29 yX9_has "SunnyPans" ∈ tbN := twn 1159 (by decide +kernel) rfl
theorem cn_Shadows_29 : zCN "SunnyPans$Shadows" 29 yX9_has cX9_has 3 (some .boolean) 2 := ⟨wd_1159, wd_101, wd_737, by decide +kernel⟩
theorem wd_275 : Cond.fieldLink "SunnyPans$Shadows" 11 "SunnyPans$Shadows" "added" "[[J" ∈ tbG := tw 275 (by decide +kernel) rfl
theorem uw_6 : ∀ w ∈ u_ws RX6 TX6 3, w ∈ tbG := zUW _ [278, 280, 282] (by decide +kernel) (by decide +kernel)
theorem fg_Shadows_11 : zGetR "SunnyPans$Shadows" 11 6 7 0 1 := ⟨RX6, TX6, 3, rfl, by decide, uw_6, wd_275, fun _ _ _ _ _ _ => ⟨_, rfl, rfl⟩⟩
theorem tfX_7_1 {n k : Nat} (h : zT shX n k 7) : zT shX n (k + 1) 23 := zT_off h (shX_f (by decide) (by decide +kernel)) (by decide) (by decide)
theorem za_23 : zArrR 23 64 5 1 1 := ⟨by decide, fun _ _ _ _ _ _ => rfl⟩
theorem teX_23 {n k : Nat} {i : Int32} (h : zT shX n k 23) (hi : vp_in i 64) : zT shX n (k + (1 + 1 * i.toNatClampNeg)) 18 := by
  have hlt : i.toNatClampNeg < 64 := Nat.not_le.mp fun q => hi (Or.inr q)
  have h2 : k + 65 ≤ n := h.2.2
  exact ⟨shX_e (by decide) (by decide +kernel) k h.1 _ hlt, by omega, by show _ + 1 ≤ n; omega⟩
theorem wd_1160 : Cond.methodLink "SunnyPans$Shadows" 33 yX5_shadedBy ∈ tbG := tw 1160 (by decide +kernel) rfl
theorem cv_Shadows_33 : zCV "SunnyPans$Shadows" 33 "SunnyPans$Plan" yX5_shadedBy cX5_shadedBy 10 (some .long) 3 := zCV_of wd_1160 wd_756 wd_757 wd_108 wd_758 (by decide +kernel)
theorem wd_938 : Cond.code yX4_shadeAt cX4_shadeAt 2 (some .long) ∈ tbG := tw 938 (by decide +kernel) rfl
theorem wd_1161 : Cond.methodLink "SunnyPans$Shadows" 37 yX4_shadeAt ∈ tbG := tw 1161 (by decide +kernel) rfl
theorem wd_936 : Cond.instanceMethod yX4_shadeAt ∈ tbG := tw 936 (by decide +kernel) rfl
theorem wd_937 : Cond.selects "SunnyPans$Pans" yX4_shadeAt yX4_shadeAt ∈ tbG := tw 937 (by decide +kernel) rfl
theorem cv_Shadows_37 : zCV "SunnyPans$Shadows" 37 "SunnyPans$Pans" yX4_shadeAt cX4_shadeAt 2 (some .long) 1 := zCV_of wd_1161 wd_936 wd_937 wd_104 wd_938 (by decide +kernel)
theorem wd_1162 : Cond.constantLong "SunnyPans$Shadows" 43 (-1) ∈ tbG := tw 1162 (by decide +kernel) rfl
theorem wd_276 : Cond.fieldLink "SunnyPans$Shadows" 16 "SunnyPans$Shadows" "touched" "[J" ∈ tbG := tw 276 (by decide +kernel) rfl
theorem fg_Shadows_16 : zGetR "SunnyPans$Shadows" 16 6 7 1 66 := ⟨RX6, TX6, 3, rfl, by decide, uw_6, wd_276, fun _ _ _ _ _ _ => ⟨_, rfl, rfl⟩⟩
theorem tfX_7_66 {n k : Nat} (h : zT shX n k 7) : zT shX n (k + 66) 24 := zT_off h (shX_f (by decide) (by decide +kernel)) (by decide) (by decide)
theorem za_24 : zArrL 24 64 := fun _ _ _ _ _ _ => rfl
theorem kb_63 : (Int8.ofInt (63)).toInt32 = (63 : Int32) := by decide +kernel
theorem wd_1171 : Cond.methodLinkNest "SunnyPans$Shadows" 45 yX9_within "SunnyPans" ∈ tbN := twn 1171 (by decide +kernel) rfl
theorem cn_Shadows_45 : zCN "SunnyPans$Shadows" 45 yX9_within cX9_within 3 (some .boolean) 3 := ⟨wd_1171, wd_101, wd_709, by decide +kernel⟩
theorem kb_9 : (Int8.ofInt (9)).toInt32 = (9 : Int32) := by decide +kernel
theorem wd_1170 : Cond.code yX6_addedAt cX6_addedAt 3 (some .long) ∈ tbG := tw 1170 (by decide +kernel) rfl
theorem wd_1167 : Cond.methodLink "SunnyPans$Shadows" 49 yX6_addedAt ∈ tbG := tw 1167 (by decide +kernel) rfl
theorem wd_1168 : Cond.instanceMethod yX6_addedAt ∈ tbG := tw 1168 (by decide +kernel) rfl
theorem wd_1169 : Cond.selects "SunnyPans$Shadows" yX6_addedAt yX6_addedAt ∈ tbG := tw 1169 (by decide +kernel) rfl
theorem wd_106 : Cond.initialized "SunnyPans$Shadows" ∈ tbG := tw 106 (by decide +kernel) rfl
theorem cv_Shadows_49 : zCV "SunnyPans$Shadows" 49 "SunnyPans$Shadows" yX6_addedAt cX6_addedAt 3 (some .long) 2 := zCV_of wd_1167 wd_1168 wd_1169 wd_106 wd_1170 (by decide +kernel)
theorem zo_7 : zObj "SunnyPans$Shadows" 7 := ⟨6, (RX6, TX6, 3), rfl, rfl, fun _ _ _ _ _ _ => ⟨_, rfl⟩⟩
theorem wd_277 : Cond.fieldLink "SunnyPans$Shadows" 20 "SunnyPans$Shadows" "alone" "[J" ∈ tbG := tw 277 (by decide +kernel) rfl
theorem fg_Shadows_20 : zGetR "SunnyPans$Shadows" 20 6 7 2 67 := ⟨RX6, TX6, 3, rfl, by decide, uw_6, wd_277, fun _ _ _ _ _ _ => ⟨_, rfl, rfl⟩⟩
theorem tfX_7_67 {n k : Nat} (h : zT shX n k 7) : zT shX n (k + 67) 18 := zT_off h (shX_f (by decide) (by decide +kernel)) (by decide) (by decide)
theorem wd_188 : Cond.fieldLink "SunnyPans$Shadows" 59 "SunnyPans$Pans" "grams" "[I" ∈ tbG := tw 188 (by decide +kernel) rfl
theorem fg_Shadows_59 : zGetR "SunnyPans$Shadows" 59 4 5 2 3 := ⟨RX4, TX4, 7, rfl, by decide, uw_4, wd_188, fun _ _ _ _ _ _ => ⟨_, rfl, rfl⟩⟩
theorem wd_214 : Cond.fieldLink "SunnyPans$Stand" 12 "SunnyPans$Stand" "now" "LSunnyPans$Pans;" ∈ tbG := tw 214 (by decide +kernel) rfl
theorem uw_7 : ∀ w ∈ u_ws RX7 TX7 3, w ∈ tbG := zUW _ [219, 221, 223] (by decide +kernel) (by decide +kernel)
theorem fg_Stand_12 : zGetR "SunnyPans$Stand" 12 7 8 0 1 := ⟨RX7, TX7, 3, rfl, by decide, uw_7, wd_214, fun _ _ _ _ _ _ => ⟨_, rfl, rfl⟩⟩
theorem tfX_8_1 {n k : Nat} (h : zT shX n k 8) : zT shX n (k + 1) 5 := zT_off h (shX_f (by decide) (by decide +kernel)) (by decide) (by decide)
theorem wd_750 : Cond.code yX4_start cX4_start 2 none ∈ tbG := tw 750 (by decide +kernel) rfl
theorem wd_747 : Cond.methodLink "SunnyPans$Stand" 22 yX4_start ∈ tbG := tw 747 (by decide +kernel) rfl
theorem wd_748 : Cond.instanceMethod yX4_start ∈ tbG := tw 748 (by decide +kernel) rfl
theorem wd_749 : Cond.selects "SunnyPans$Pans" yX4_start yX4_start ∈ tbG := tw 749 (by decide +kernel) rfl
theorem cv_Stand_22 : zCV "SunnyPans$Stand" 22 "SunnyPans$Pans" yX4_start cX4_start 2 none 1 := zCV_of wd_747 wd_748 wd_749 wd_104 wd_750 (by decide +kernel)
theorem wd_216 : Cond.fieldLink "SunnyPans$Stand" 26 "SunnyPans$Stand" "kept" "I" ∈ tbG := tw 216 (by decide +kernel) rfl
theorem fg_Stand_26 : zGetI "SunnyPans$Stand" 26 7 8 1 := ⟨RX7, TX7, 3, rfl, by decide, uw_7, wd_216, fun _ _ _ _ _ _ => ⟨_, rfl, rfl⟩⟩
theorem zc_7 : zCls 7 := ⟨RX7, TX7, 3, tyX7, rfl, tyX7_ok, nmX7⟩
theorem fp_Stand_26 : zPutI "SunnyPans$Stand" 26 7 8 1 := ⟨zc_7, fg_Stand_26, ⟨RX7, TX7, 3, rfl, rfl, by decide +kernel⟩, fun _ _ _ _ _ _ _ => ⟨_, rfl, Nat.le_of_ble_eq_true rfl, rfl⟩⟩
theorem kb_16 : (Int8.ofInt (16)).toInt32 = (16 : Int32) := by decide +kernel
theorem wd_218 : Cond.fieldLink "SunnyPans$Stand" 18 "SunnyPans$Stand" "before" "[LSunnyPans$Pans;" ∈ tbG := tw 218 (by decide +kernel) rfl
theorem fg_Stand_18 : zGetR "SunnyPans$Stand" 18 7 8 2 6 := ⟨RX7, TX7, 3, rfl, by decide, uw_7, wd_218, fun _ _ _ _ _ _ => ⟨_, rfl, rfl⟩⟩
theorem tfX_8_6 {n k : Nat} (h : zT shX n k 8) : zT shX n (k + 6) 19 := zT_off h (shX_f (by decide) (by decide +kernel)) (by decide) (by decide)
theorem za_19 : zArrR 19 16 2 1 5 := ⟨by decide, fun _ _ _ _ _ _ => rfl⟩
theorem teX_19 {n k : Nat} {i : Int32} (h : zT shX n k 19) (hi : vp_in i 16) : zT shX n (k + (1 + 5 * i.toNatClampNeg)) 5 := by
  have hlt : i.toNatClampNeg < 16 := Nat.not_le.mp fun q => hi (Or.inr q)
  have h2 : k + 81 ≤ n := h.2.2
  exact ⟨shX_e (by decide) (by decide +kernel) k h.1 _ hlt, by omega, by show _ + 5 ≤ n; omega⟩
theorem ki_m8 : Int32.ofInt (-8) = (-8 : Int32) := by decide +kernel
theorem wd_140 : Cond.fieldLink "SunnyPans$Text" 19 "SunnyPans$Text" "size" "I" ∈ tbG := tw 140 (by decide +kernel) rfl
theorem fg_Text_19 : zGetI "SunnyPans$Text" 19 8 9 1 := ⟨RX8, TX8, 8, rfl, by decide, uw_8, wd_140, fun _ _ _ _ _ _ => ⟨_, rfl, rfl⟩⟩
theorem ks_255 : (Int16.ofInt (255)).toInt32 = (255 : Int32) := by decide +kernel
theorem fp_Text_19 : zPutI "SunnyPans$Text" 19 8 9 1 := ⟨zc_8, fg_Text_19, ⟨RX8, TX8, 8, rfl, rfl, by decide +kernel⟩, fun _ _ _ _ _ _ _ => ⟨_, rfl, Nat.le_of_ble_eq_true rfl, rfl⟩⟩
theorem kb_24 : (Int8.ofInt (24)).toInt32 = (24 : Int32) := by decide +kernel
theorem wd_604 : Cond.methodLink "SunnyPans$Text" 28 Lib.Math.max.name ∈ tbG := tw 604 (by decide +kernel) rfl
theorem fp_Text_31 : zPutI "SunnyPans$Text" 31 8 9 6 := ⟨zc_8, fg_Text_31, ⟨RX8, TX8, 8, rfl, rfl, by decide +kernel⟩, fun _ _ _ _ _ _ _ => ⟨_, rfl, Nat.le_of_ble_eq_true rfl, rfl⟩⟩
theorem wd_409 : Cond.fieldLink "SunnyPans" 10 "SunnyPans" "tape" "LSunnyPans$Text;" ∈ tbG := tw 409 (by decide +kernel) rfl
theorem uw_9 : ∀ w ∈ u_ws RX9 TX9 19, w ∈ tbG := zUW _ [428, 430, 432, 434, 436, 438, 440, 442, 444, 446, 448, 450, 452, 454, 456, 458, 460, 462, 464] (by decide +kernel) (by decide +kernel)
theorem fg_SunnyPans_10 : zGetR "SunnyPans" 10 9 10 0 1 := ⟨RX9, TX9, 19, rfl, by decide, uw_9, wd_409, fun _ _ _ _ _ _ => ⟨_, rfl, rfl⟩⟩
theorem tfX_10_1 {n k : Nat} (h : zT shX n k 10) : zT shX n (k + 1) 9 := zT_off h (shX_f (by decide) (by decide +kernel)) (by decide) (by decide)
theorem wd_139 : Cond.fieldLink "SunnyPans" 89 "SunnyPans$Text" "size" "I" ∈ tbG := tw 139 (by decide +kernel) rfl
theorem fg_SunnyPans_89 : zGetI "SunnyPans" 89 8 9 1 := ⟨RX8, TX8, 8, rfl, by decide, uw_8, wd_139, fun _ _ _ _ _ _ => ⟨_, rfl, rfl⟩⟩
theorem kb_20 : (Int8.ofInt (20)).toInt32 = (20 : Int32) := by decide +kernel
theorem ks_600 : (Int16.ofInt (600)).toInt32 = (600 : Int32) := by decide +kernel
theorem wd_474 : Cond.code yX8_add cX8_add 3 none ∈ tbG := tw 474 (by decide +kernel) rfl
theorem wd_471 : Cond.methodLink "SunnyPans" 93 yX8_add ∈ tbG := tw 471 (by decide +kernel) rfl
theorem wd_472 : Cond.instanceMethod yX8_add ∈ tbG := tw 472 (by decide +kernel) rfl
theorem wd_473 : Cond.selects "SunnyPans$Text" yX8_add yX8_add ∈ tbG := tw 473 (by decide +kernel) rfl
theorem cv_SunnyPans_93 : zCV "SunnyPans" 93 "SunnyPans$Text" yX8_add cX8_add 3 none 1 := zCV_of wd_471 wd_472 wd_473 wd_102 wd_474 (by decide +kernel)
theorem wd_417 : Cond.fieldLink "SunnyPans" 62 "SunnyPans" "plan" "LSunnyPans$Plan;" ∈ tbG := tw 417 (by decide +kernel) rfl
theorem fg_SunnyPans_62 : zGetD "SunnyPans" 62 9 10 8 := ⟨RX9, TX9, 19, rfl, by decide, uw_9, wd_417, fun _ _ _ _ _ _ => ⟨_, rfl, rfl⟩⟩
theorem td_6 {n k : Nat} (h0 : zT shX n 0 10) (h : (shX k == 6) = true) : zT shX n k 6 := zT_g h (shX_b (by decide) (by decide +kernel) h0.2.2) (by decide)
theorem wd_325 : Cond.fieldLink "SunnyPans" 127 "SunnyPans$Plan" "hours" "I" ∈ tbG := tw 325 (by decide +kernel) rfl
theorem fg_SunnyPans_127 : zGetI "SunnyPans" 127 5 6 2 := ⟨RX5, TX5, 9, rfl, by decide, uw_5, wd_325, fun _ _ _ _ _ _ => ⟨_, rfl, rfl⟩⟩
theorem wd_935 : Cond.methodLink "SunnyPans" 330 yX4_shadeAt ∈ tbG := tw 935 (by decide +kernel) rfl
theorem cv_SunnyPans_330 : zCV "SunnyPans" 330 "SunnyPans$Pans" yX4_shadeAt cX4_shadeAt 2 (some .long) 1 := zCV_of wd_935 wd_936 wd_937 wd_104 wd_938 (by decide +kernel)
theorem wd_939 : Cond.methodLink "SunnyPans" 231 yX9_has ∈ tbG := tw 939 (by decide +kernel) rfl
theorem cs_SunnyPans_231 : zCS "SunnyPans" 231 yX9_has cX9_has 3 (some .boolean) 2 := zCS_of wd_939 wd_736 wd_101 wd_737 (by decide +kernel)
theorem wd_333 : Cond.fieldLink "SunnyPans" 241 "SunnyPans$Plan" "reach" "[I" ∈ tbG := tw 333 (by decide +kernel) rfl
theorem fg_SunnyPans_241 : zGetR "SunnyPans" 241 5 6 5 2 := ⟨RX5, TX5, 9, rfl, by decide, uw_5, wd_333, fun _ _ _ _ _ _ => ⟨_, rfl, rfl⟩⟩
theorem wd_419 : Cond.fieldLink "SunnyPans" 72 "SunnyPans" "rule" "LSunnyPans$Law;" ∈ tbG := tw 419 (by decide +kernel) rfl
theorem fg_SunnyPans_72 : zGetD "SunnyPans" 72 9 10 10 := ⟨RX9, TX9, 19, rfl, by decide, uw_9, wd_419, fun _ _ _ _ _ _ => ⟨_, rfl, rfl⟩⟩
theorem td_4 {n k : Nat} (h0 : zT shX n 0 10) (h : (shX k == 4) = true) : zT shX n k 4 := zT_g h (shX_b (by decide) (by decide +kernel) h0.2.2) (by decide)
theorem wd_186 : Cond.fieldLink "SunnyPans" 181 "SunnyPans$Pans" "salt" "[I" ∈ tbG := tw 186 (by decide +kernel) rfl
theorem fg_SunnyPans_181 : zGetR "SunnyPans" 181 4 5 1 2 := ⟨RX4, TX4, 7, rfl, by decide, uw_4, wd_186, fun _ _ _ _ _ _ => ⟨_, rfl, rfl⟩⟩
theorem wd_331 : Cond.fieldLink "SunnyPans" 238 "SunnyPans$Plan" "side" "[I" ∈ tbG := tw 331 (by decide +kernel) rfl
theorem fg_SunnyPans_238 : zGetR "SunnyPans" 238 5 6 4 1 := ⟨RX5, TX5, 9, rfl, by decide, uw_5, wd_331, fun _ _ _ _ _ _ => ⟨_, rfl, rfl⟩⟩
theorem wd_943 : Cond.code yX3_rate cX3_rate 11 (some .int) ∈ tbG := tw 943 (by decide +kernel) rfl
theorem wd_940 : Cond.methodLink "SunnyPans" 251 yX3_rate ∈ tbG := tw 940 (by decide +kernel) rfl
theorem wd_941 : Cond.instanceMethod yX3_rate ∈ tbG := tw 941 (by decide +kernel) rfl
theorem wd_942 : Cond.selects "SunnyPans$Law" yX3_rate yX3_rate ∈ tbG := tw 942 (by decide +kernel) rfl
theorem cv_SunnyPans_251 : zCV "SunnyPans" 251 "SunnyPans$Law" yX3_rate cX3_rate 11 (some .int) 7 := zCV_of wd_940 wd_941 wd_942 wd_109 wd_943 (by decide +kernel)
theorem wd_949 : Cond.methodLink "SunnyPans" 290 Lib.Math.min.name ∈ tbG := tw 949 (by decide +kernel) rfl
theorem wd_195 : Cond.fieldLink "SunnyPans" 171 "SunnyPans$Pans" "next" "I" ∈ tbG := tw 195 (by decide +kernel) rfl
theorem fg_SunnyPans_171 : zGetI "SunnyPans" 171 4 5 5 := ⟨RX4, TX4, 7, rfl, by decide, uw_4, wd_195, fun _ _ _ _ _ _ => ⟨_, rfl, rfl⟩⟩
theorem fp_SunnyPans_171 : zPutI "SunnyPans" 171 4 5 5 := ⟨zc_4, fg_SunnyPans_171, ⟨RX4, TX4, 7, rfl, rfl, by decide +kernel⟩, fun _ _ _ _ _ _ _ => ⟨_, rfl, Nat.le_of_ble_eq_true rfl, rfl⟩⟩
theorem wd_193 : Cond.fieldLink "SunnyPans" 168 "SunnyPans$Pans" "day" "I" ∈ tbG := tw 193 (by decide +kernel) rfl
theorem fg_SunnyPans_168 : zGetI "SunnyPans" 168 4 5 4 := ⟨RX4, TX4, 7, rfl, by decide, uw_4, wd_193, fun _ _ _ _ _ _ => ⟨_, rfl, rfl⟩⟩
theorem fp_SunnyPans_168 : zPutI "SunnyPans" 168 4 5 4 := ⟨zc_4, fg_SunnyPans_168, ⟨RX4, TX4, 7, rfl, rfl, by decide +kernel⟩, fun _ _ _ _ _ _ _ => ⟨_, rfl, Nat.le_of_ble_eq_true rfl, rfl⟩⟩
theorem wd_184 : Cond.fieldLink "SunnyPans" 174 "SunnyPans$Pans" "brine" "[I" ∈ tbG := tw 184 (by decide +kernel) rfl
theorem fg_SunnyPans_174 : zGetR "SunnyPans" 174 4 5 0 1 := ⟨RX4, TX4, 7, rfl, by decide, uw_4, wd_184, fun _ _ _ _ _ _ => ⟨_, rfl, rfl⟩⟩
theorem wd_934 : Cond.code yX9_lossOf cX9_lossOf 7 (some .int) ∈ tbG := tw 934 (by decide +kernel) rfl
theorem wd_931 : Cond.methodLink "SunnyPans" 326 yX9_lossOf ∈ tbG := tw 931 (by decide +kernel) rfl
theorem wd_933 : Cond.instanceMethod yX9_lossOf ∈ tbG := tw 933 (by decide +kernel) rfl
theorem wd_22 : Cond.selects "SunnyPans" yX9_lossOf yX9_lossOf ∈ tbG := tw 22 (by decide +kernel) rfl
theorem cv_SunnyPans_326 : zCV "SunnyPans" 326 "SunnyPans" yX9_lossOf cX9_lossOf 7 (some .int) 5 := zCV_of wd_931 wd_933 wd_22 wd_101 wd_934 (by decide +kernel)
theorem zo_10 : zObj "SunnyPans" 10 := ⟨9, (RX9, TX9, 19), rfl, rfl, fun _ _ _ _ _ _ => ⟨_, rfl⟩⟩
theorem ks_400 : (Int16.ofInt (400)).toInt32 = (400 : Int32) := by decide +kernel
theorem wd_930 : Cond.code yX9_passHour cX9_passHour 3 none ∈ tbG := tw 930 (by decide +kernel) rfl
theorem wd_927 : Cond.methodLink "SunnyPans" 311 yX9_passHour ∈ tbG := tw 927 (by decide +kernel) rfl
theorem wd_929 : Cond.instanceMethod yX9_passHour ∈ tbG := tw 929 (by decide +kernel) rfl
theorem wd_21 : Cond.selects "SunnyPans" yX9_passHour yX9_passHour ∈ tbG := tw 21 (by decide +kernel) rfl
theorem cv_SunnyPans_311 : zCV "SunnyPans" 311 "SunnyPans" yX9_passHour cX9_passHour 3 none 1 := zCV_of wd_927 wd_929 wd_21 wd_101 wd_930 (by decide +kernel)
theorem wd_923 : Cond.code yX4_wet cX4_wet 4 none ∈ tbG := tw 923 (by decide +kernel) rfl
theorem wd_920 : Cond.methodLink "SunnyPans" 461 yX4_wet ∈ tbG := tw 920 (by decide +kernel) rfl
theorem wd_921 : Cond.instanceMethod yX4_wet ∈ tbG := tw 921 (by decide +kernel) rfl
theorem wd_922 : Cond.selects "SunnyPans$Pans" yX4_wet yX4_wet ∈ tbG := tw 922 (by decide +kernel) rfl
theorem cv_SunnyPans_461 : zCV "SunnyPans" 461 "SunnyPans$Pans" yX4_wet cX4_wet 4 none 2 := zCV_of wd_920 wd_921 wd_922 wd_104 wd_923 (by decide +kernel)
theorem wd_919 : Cond.code yX4_haul cX4_haul 3 (some .boolean) ∈ tbG := tw 919 (by decide +kernel) rfl
theorem wd_916 : Cond.methodLink "SunnyPans" 402 yX4_haul ∈ tbG := tw 916 (by decide +kernel) rfl
theorem wd_917 : Cond.instanceMethod yX4_haul ∈ tbG := tw 917 (by decide +kernel) rfl
theorem wd_918 : Cond.selects "SunnyPans$Pans" yX4_haul yX4_haul ∈ tbG := tw 918 (by decide +kernel) rfl
theorem cv_SunnyPans_402 : zCV "SunnyPans" 402 "SunnyPans$Pans" yX4_haul cX4_haul 3 (some .boolean) 2 := zCV_of wd_916 wd_917 wd_918 wd_104 wd_919 (by decide +kernel)
theorem wd_911 : Cond.code yX4_scrape cX4_scrape 4 (some .boolean) ∈ tbG := tw 911 (by decide +kernel) rfl
theorem wd_908 : Cond.methodLink "SunnyPans" 457 yX4_scrape ∈ tbG := tw 908 (by decide +kernel) rfl
theorem wd_909 : Cond.instanceMethod yX4_scrape ∈ tbG := tw 909 (by decide +kernel) rfl
theorem wd_910 : Cond.selects "SunnyPans$Pans" yX4_scrape yX4_scrape ∈ tbG := tw 910 (by decide +kernel) rfl
theorem cv_SunnyPans_457 : zCV "SunnyPans" 457 "SunnyPans$Pans" yX4_scrape cX4_scrape 4 (some .boolean) 3 := zCV_of wd_908 wd_909 wd_910 wd_104 wd_911 (by decide +kernel)
theorem wd_903 : Cond.code yX4_pour cX4_pour 3 (some .boolean) ∈ tbG := tw 903 (by decide +kernel) rfl
theorem wd_900 : Cond.methodLink "SunnyPans" 399 yX4_pour ∈ tbG := tw 900 (by decide +kernel) rfl
theorem wd_901 : Cond.instanceMethod yX4_pour ∈ tbG := tw 901 (by decide +kernel) rfl
theorem wd_902 : Cond.selects "SunnyPans$Pans" yX4_pour yX4_pour ∈ tbG := tw 902 (by decide +kernel) rfl
theorem cv_SunnyPans_399 : zCV "SunnyPans" 399 "SunnyPans$Pans" yX4_pour cX4_pour 3 (some .boolean) 2 := zCV_of wd_900 wd_901 wd_902 wd_104 wd_903 (by decide +kernel)
theorem wd_410 : Cond.fieldLink "SunnyPans" 19 "SunnyPans" "stand" "LSunnyPans$Stand;" ∈ tbG := tw 410 (by decide +kernel) rfl
theorem fg_SunnyPans_19 : zGetR "SunnyPans" 19 9 10 1 3 := ⟨RX9, TX9, 19, rfl, by decide, uw_9, wd_410, fun _ _ _ _ _ _ => ⟨_, rfl, rfl⟩⟩
theorem tfX_10_3 {n k : Nat} (h : zT shX n k 10) : zT shX n (k + 3) 8 := zT_off h (shX_f (by decide) (by decide +kernel)) (by decide) (by decide)
theorem wd_215 : Cond.fieldLink "SunnyPans" 159 "SunnyPans$Stand" "now" "LSunnyPans$Pans;" ∈ tbG := tw 215 (by decide +kernel) rfl
theorem fg_SunnyPans_159 : zGetR "SunnyPans" 159 7 8 0 1 := ⟨RX7, TX7, 3, rfl, by decide, uw_7, wd_215, fun _ _ _ _ _ _ => ⟨_, rfl, rfl⟩⟩
theorem wd_883 : Cond.constant "SunnyPans" 434 (1000000) ∈ tbG := tw 883 (by decide +kernel) rfl
theorem wd_412 : Cond.fieldLink "SunnyPans" 30 "SunnyPans" "job" "LSunnyPans$Job;" ∈ tbG := tw 412 (by decide +kernel) rfl
theorem fg_SunnyPans_30 : zGetR "SunnyPans" 30 9 10 3 91 := ⟨RX9, TX9, 19, rfl, by decide, uw_9, wd_412, fun _ _ _ _ _ _ => ⟨_, rfl, rfl⟩⟩
theorem tfX_10_91 {n k : Nat} (h : zT shX n k 10) : zT shX n (k + 91) 3 := zT_off h (shX_f (by decide) (by decide +kernel)) (by decide) (by decide)
theorem wd_887 : Cond.code yX2_isAt cX2_isAt 2 (some .boolean) ∈ tbG := tw 887 (by decide +kernel) rfl
theorem wd_884 : Cond.methodLink "SunnyPans" 435 yX2_isAt ∈ tbG := tw 884 (by decide +kernel) rfl
theorem wd_885 : Cond.instanceMethod yX2_isAt ∈ tbG := tw 885 (by decide +kernel) rfl
theorem wd_886 : Cond.selects "SunnyPans$Job" yX2_isAt yX2_isAt ∈ tbG := tw 886 (by decide +kernel) rfl
theorem cv_SunnyPans_435 : zCV "SunnyPans" 435 "SunnyPans$Job" yX2_isAt cX2_isAt 2 (some .boolean) 1 := zCV_of wd_884 wd_885 wd_886 wd_105 wd_887 (by decide +kernel)
theorem wd_234 : Cond.fieldLink "SunnyPans" 438 "SunnyPans$Job" "kind" "[I" ∈ tbG := tw 234 (by decide +kernel) rfl
theorem fg_SunnyPans_438 : zGetR "SunnyPans" 438 2 3 0 1 := ⟨RX2, TX2, 9, rfl, by decide, uw_2, wd_234, fun _ _ _ _ _ _ => ⟨_, rfl, rfl⟩⟩
theorem ks_200 : (Int16.ofInt (200)).toInt32 = (200 : Int32) := by decide +kernel
theorem wd_236 : Cond.fieldLink "SunnyPans" 447 "SunnyPans$Job" "place" "[I" ∈ tbG := tw 236 (by decide +kernel) rfl
theorem fg_SunnyPans_447 : zGetR "SunnyPans" 447 2 3 1 2 := ⟨RX2, TX2, 9, rfl, by decide, uw_2, wd_236, fun _ _ _ _ _ _ => ⟨_, rfl, rfl⟩⟩
theorem wd_238 : Cond.fieldLink "SunnyPans" 448 "SunnyPans$Job" "other" "[I" ∈ tbG := tw 238 (by decide +kernel) rfl
theorem fg_SunnyPans_448 : zGetR "SunnyPans" 448 2 3 2 3 := ⟨RX2, TX2, 9, rfl, by decide, uw_2, wd_238, fun _ _ _ _ _ _ => ⟨_, rfl, rfl⟩⟩
theorem wd_240 : Cond.fieldLink "SunnyPans" 451 "SunnyPans$Job" "amount" "[I" ∈ tbG := tw 240 (by decide +kernel) rfl
theorem fg_SunnyPans_451 : zGetR "SunnyPans" 451 2 3 3 4 := ⟨RX2, TX2, 9, rfl, by decide, uw_2, wd_240, fun _ _ _ _ _ _ => ⟨_, rfl, rfl⟩⟩
theorem wd_899 : Cond.code yX9_doStep cX9_doStep 6 (some .boolean) ∈ tbG := tw 899 (by decide +kernel) rfl
theorem wd_896 : Cond.methodLink "SunnyPans" 453 yX9_doStep ∈ tbG := tw 896 (by decide +kernel) rfl
theorem wd_898 : Cond.instanceMethod yX9_doStep ∈ tbG := tw 898 (by decide +kernel) rfl
theorem wd_20 : Cond.selects "SunnyPans" yX9_doStep yX9_doStep ∈ tbG := tw 20 (by decide +kernel) rfl
theorem cv_SunnyPans_453 : zCV "SunnyPans" 453 "SunnyPans" yX9_doStep cX9_doStep 6 (some .boolean) 4 := zCV_of wd_896 wd_898 wd_20 wd_101 wd_899 (by decide +kernel)
theorem wd_424 : Cond.fieldLink "SunnyPans" 124 "SunnyPans" "refusedSteps" "I" ∈ tbG := tw 424 (by decide +kernel) rfl
theorem fg_SunnyPans_124 : zGetI "SunnyPans" 124 9 10 15 := ⟨RX9, TX9, 19, rfl, by decide, uw_9, wd_424, fun _ _ _ _ _ _ => ⟨_, rfl, rfl⟩⟩
theorem zc_9 : zCls 9 := ⟨RX9, TX9, 19, tyX9, rfl, tyX9_ok, nmX9⟩
theorem fp_SunnyPans_124 : zPutI "SunnyPans" 124 9 10 15 := ⟨zc_9, fg_SunnyPans_124, ⟨RX9, TX9, 19, rfl, rfl, by decide +kernel⟩, fun _ _ _ _ _ _ _ => ⟨_, rfl, Nat.le_of_ble_eq_true rfl, rfl⟩⟩
theorem wd_895 : Cond.code yX2_behindAgain cX2_behindAgain 2 (some .int) ∈ tbG := tw 895 (by decide +kernel) rfl
theorem wd_892 : Cond.methodLink "SunnyPans" 444 yX2_behindAgain ∈ tbG := tw 892 (by decide +kernel) rfl
theorem wd_893 : Cond.instanceMethod yX2_behindAgain ∈ tbG := tw 893 (by decide +kernel) rfl
theorem wd_894 : Cond.selects "SunnyPans$Job" yX2_behindAgain yX2_behindAgain ∈ tbG := tw 894 (by decide +kernel) rfl
theorem cv_SunnyPans_444 : zCV "SunnyPans" 444 "SunnyPans$Job" yX2_behindAgain cX2_behindAgain 2 (some .int) 1 := zCV_of wd_892 wd_893 wd_894 wd_105 wd_895 (by decide +kernel)
theorem wd_891 : Cond.code yX2_behindClose cX2_behindClose 3 (some .int) ∈ tbG := tw 891 (by decide +kernel) rfl
theorem wd_888 : Cond.methodLink "SunnyPans" 441 yX2_behindClose ∈ tbG := tw 888 (by decide +kernel) rfl
theorem wd_889 : Cond.instanceMethod yX2_behindClose ∈ tbG := tw 889 (by decide +kernel) rfl
theorem wd_890 : Cond.selects "SunnyPans$Job" yX2_behindClose yX2_behindClose ∈ tbG := tw 890 (by decide +kernel) rfl
theorem cv_SunnyPans_441 : zCV "SunnyPans" 441 "SunnyPans$Job" yX2_behindClose cX2_behindClose 3 (some .int) 1 := zCV_of wd_888 wd_889 wd_890 wd_105 wd_891 (by decide +kernel)
theorem wd_144 : Cond.fieldLink "SunnyPans" 148 "SunnyPans$Text" "faultPlace" "I" ∈ tbG := tw 144 (by decide +kernel) rfl
theorem fg_SunnyPans_148 : zGetI "SunnyPans" 148 8 9 3 := ⟨RX8, TX8, 8, rfl, by decide, uw_8, wd_144, fun _ _ _ _ _ _ => ⟨_, rfl, rfl⟩⟩
theorem wd_328 : Cond.fieldLink "SunnyPans" 200 "SunnyPans$Plan" "places" "J" ∈ tbG := tw 328 (by decide +kernel) rfl
theorem fg_SunnyPans_200 : zGetL "SunnyPans" 200 5 6 3 := ⟨RX5, TX5, 9, rfl, by decide, uw_5, wd_328, fun _ _ _ _ _ _ => ⟨_, rfl, rfl⟩⟩
theorem wd_1000 : Cond.code yX4_dryPlaces cX4_dryPlaces 1 (some .long) ∈ tbG := tw 1000 (by decide +kernel) rfl
theorem wd_997 : Cond.methodLink "SunnyPans" 204 yX4_dryPlaces ∈ tbG := tw 997 (by decide +kernel) rfl
theorem wd_998 : Cond.instanceMethod yX4_dryPlaces ∈ tbG := tw 998 (by decide +kernel) rfl
theorem wd_999 : Cond.selects "SunnyPans$Pans" yX4_dryPlaces yX4_dryPlaces ∈ tbG := tw 999 (by decide +kernel) rfl
theorem cv_SunnyPans_204 : zCV "SunnyPans" 204 "SunnyPans$Pans" yX4_dryPlaces cX4_dryPlaces 1 (some .long) 0 := zCV_of wd_997 wd_998 wd_999 wd_104 wd_1000 (by decide +kernel)
theorem wd_1007 : Cond.methodLink "SunnyPans" 207 yX4_saltPlaces ∈ tbG := tw 1007 (by decide +kernel) rfl
theorem cv_SunnyPans_207 : zCV "SunnyPans" 207 "SunnyPans$Pans" yX4_saltPlaces cX4_saltPlaces 1 (some .long) 0 := zCV_of wd_1007 wd_1008 wd_1009 wd_104 wd_1010 (by decide +kernel)
theorem wd_1023 : Cond.methodLink "SunnyPans" 423 yX5_holds ∈ tbG := tw 1023 (by decide +kernel) rfl
theorem cv_SunnyPans_423 : zCV "SunnyPans" 423 "SunnyPans$Plan" yX5_holds cX5_holds 3 (some .boolean) 2 := zCV_of wd_1023 wd_767 wd_768 wd_108 wd_769 (by decide +kernel)
theorem wd_1056 : Cond.code yX9_shadeNow cX9_shadeNow 2 (some .long) ∈ tbG := tw 1056 (by decide +kernel) rfl
theorem wd_1053 : Cond.methodLink "SunnyPans" 227 yX9_shadeNow ∈ tbG := tw 1053 (by decide +kernel) rfl
theorem wd_1055 : Cond.instanceMethod yX9_shadeNow ∈ tbG := tw 1055 (by decide +kernel) rfl
theorem wd_27 : Cond.selects "SunnyPans" yX9_shadeNow yX9_shadeNow ∈ tbG := tw 27 (by decide +kernel) rfl
theorem cv_SunnyPans_227 : zCV "SunnyPans" 227 "SunnyPans" yX9_shadeNow cX9_shadeNow 2 (some .long) 1 := zCV_of wd_1053 wd_1055 wd_27 wd_101 wd_1056 (by decide +kernel)
theorem wd_1052 : Cond.code yX9_sunOf cX9_sunOf 4 (some .int) ∈ tbG := tw 1052 (by decide +kernel) rfl
theorem wd_1049 : Cond.methodLink "SunnyPans" 224 yX9_sunOf ∈ tbG := tw 1049 (by decide +kernel) rfl
theorem wd_1051 : Cond.instanceMethod yX9_sunOf ∈ tbG := tw 1051 (by decide +kernel) rfl
theorem wd_26 : Cond.selects "SunnyPans" yX9_sunOf yX9_sunOf ∈ tbG := tw 26 (by decide +kernel) rfl
theorem cv_SunnyPans_224 : zCV "SunnyPans" 224 "SunnyPans" yX9_sunOf cX9_sunOf 4 (some .int) 1 := zCV_of wd_1049 wd_1051 wd_26 wd_101 wd_1052 (by decide +kernel)
theorem wd_189 : Cond.fieldLink "SunnyPans" 184 "SunnyPans$Pans" "grams" "[I" ∈ tbG := tw 189 (by decide +kernel) rfl
theorem fg_SunnyPans_184 : zGetR "SunnyPans" 184 4 5 2 3 := ⟨RX4, TX4, 7, rfl, by decide, uw_4, wd_189, fun _ _ _ _ _ _ => ⟨_, rfl, rfl⟩⟩
theorem wd_1048 : Cond.methodLink "SunnyPans" 220 yX9_heightOf ∈ tbG := tw 1048 (by decide +kernel) rfl
theorem cs_SunnyPans_220 : zCS "SunnyPans" 220 yX9_heightOf cX9_heightOf 1 (some .int) 1 := zCS_of wd_1048 wd_760 wd_101 wd_761 (by decide +kernel)
theorem wd_1047 : Cond.code yX9_strengthOf cX9_strengthOf 3 (some .int) ∈ tbG := tw 1047 (by decide +kernel) rfl
theorem wd_1045 : Cond.methodLink "SunnyPans" 217 yX9_strengthOf ∈ tbG := tw 1045 (by decide +kernel) rfl
theorem wd_1046 : Cond.static yX9_strengthOf ∈ tbG := tw 1046 (by decide +kernel) rfl
theorem cs_SunnyPans_217 : zCS "SunnyPans" 217 yX9_strengthOf cX9_strengthOf 3 (some .int) 2 := zCS_of wd_1045 wd_1046 wd_101 wd_1047 (by decide +kernel)
theorem wd_1068 : Cond.methodLink "SunnyPans" 255 yX9_within ∈ tbG := tw 1068 (by decide +kernel) rfl
theorem cs_SunnyPans_255 : zCS "SunnyPans" 255 yX9_within cX9_within 3 (some .boolean) 3 := zCS_of wd_1068 wd_708 wd_101 wd_709 (by decide +kernel)
theorem wd_322 : Cond.fieldLink "SunnyPans" 165 "SunnyPans$Plan" "high" "I" ∈ tbG := tw 322 (by decide +kernel) rfl
theorem fg_SunnyPans_165 : zGetI "SunnyPans" 165 5 6 1 := ⟨RX5, TX5, 9, rfl, by decide, uw_5, wd_322, fun _ _ _ _ _ _ => ⟨_, rfl, rfl⟩⟩
theorem wd_1083 : Cond.constantLong "SunnyPans" 465 (255) ∈ tbG := tw 1083 (by decide +kernel) rfl
theorem wd_415 : Cond.fieldLink "SunnyPans" 51 "SunnyPans" "best" "LSunnyPans$Best;" ∈ tbG := tw 415 (by decide +kernel) rfl
theorem fg_SunnyPans_51 : zGetR "SunnyPans" 51 9 10 6 172 := ⟨RX9, TX9, 19, rfl, by decide, uw_9, wd_415, fun _ _ _ _ _ _ => ⟨_, rfl, rfl⟩⟩
theorem tfX_10_172 {n k : Nat} (h : zT shX n k 10) : zT shX n (k + 172) 1 := zT_off h (shX_f (by decide) (by decide +kernel)) (by decide) (by decide)
theorem wd_1135 : Cond.code yX0_placeOrAmount cX0_placeOrAmount 2 (some .int) ∈ tbG := tw 1135 (by decide +kernel) rfl
theorem wd_1132 : Cond.methodLink "SunnyPans" 263 yX0_placeOrAmount ∈ tbG := tw 1132 (by decide +kernel) rfl
theorem wd_1133 : Cond.instanceMethod yX0_placeOrAmount ∈ tbG := tw 1133 (by decide +kernel) rfl
theorem wd_1134 : Cond.selects "SunnyPans$Best" yX0_placeOrAmount yX0_placeOrAmount ∈ tbG := tw 1134 (by decide +kernel) rfl
theorem wd_107 : Cond.initialized "SunnyPans$Best" ∈ tbG := tw 107 (by decide +kernel) rfl
theorem cv_SunnyPans_263 : zCV "SunnyPans" 263 "SunnyPans$Best" yX0_placeOrAmount cX0_placeOrAmount 2 (some .int) 1 := zCV_of wd_1132 wd_1133 wd_1134 wd_107 wd_1135 (by decide +kernel)
theorem zo_1 : zObj "SunnyPans$Best" 1 := ⟨0, (RX0, TX0, 2), rfl, rfl, fun _ _ _ _ _ _ => ⟨_, rfl⟩⟩
theorem wd_1199 : Cond.code yX0_offerMost cX0_offerMost 3 none ∈ tbG := tw 1199 (by decide +kernel) rfl
theorem wd_1196 : Cond.methodLink "SunnyPans" 260 yX0_offerMost ∈ tbG := tw 1196 (by decide +kernel) rfl
theorem wd_1197 : Cond.instanceMethod yX0_offerMost ∈ tbG := tw 1197 (by decide +kernel) rfl
theorem wd_1198 : Cond.selects "SunnyPans$Best" yX0_offerMost yX0_offerMost ∈ tbG := tw 1198 (by decide +kernel) rfl
theorem cv_SunnyPans_260 : zCV "SunnyPans" 260 "SunnyPans$Best" yX0_offerMost cX0_offerMost 3 none 2 := zCV_of wd_1196 wd_1197 wd_1198 wd_107 wd_1199 (by decide +kernel)
theorem wd_318 : Cond.fieldLink "SunnyPans" 162 "SunnyPans$Plan" "wide" "I" ∈ tbG := tw 318 (by decide +kernel) rfl
theorem fg_SunnyPans_162 : zGetI "SunnyPans" 162 5 6 0 := ⟨RX5, TX5, 9, rfl, by decide, uw_5, wd_318, fun _ _ _ _ _ _ => ⟨_, rfl, rfl⟩⟩
theorem wd_1044 : Cond.methodLink "SunnyPans" 213 yX9_placeOf ∈ tbG := tw 1044 (by decide +kernel) rfl
theorem cs_SunnyPans_213 : zCS "SunnyPans" 213 yX9_placeOf cX9_placeOf 2 (some .int) 2 := zCS_of wd_1044 wd_310 wd_101 wd_311 (by decide +kernel)
theorem wd_1294 : Cond.methodLink "SunnyPans" 270 yX4_canScrape ∈ tbG := tw 1294 (by decide +kernel) rfl
theorem cv_SunnyPans_270 : zCV "SunnyPans" 270 "SunnyPans$Pans" yX4_canScrape cX4_canScrape 3 (some .boolean) 2 := zCV_of wd_1294 wd_913 wd_914 wd_104 wd_915 (by decide +kernel)
theorem wd_1334 : Cond.methodLink "SunnyPans" 274 Lib.Math.abs.name ∈ tbG := tw 1334 (by decide +kernel) rfl
theorem wd_1335 : Cond.static Lib.Math.abs.name ∈ tbG := tw 1335 (by decide +kernel) rfl
theorem wd_1336 : Cond.code Lib.Math.abs.name Lib.Math.abs.code 1 (some .int) ∈ tbG := tw 1336 (by decide +kernel) rfl
theorem wd_1131 : Cond.code yX0_offerLeast cX0_offerLeast 3 none ∈ tbG := tw 1131 (by decide +kernel) rfl
theorem wd_1128 : Cond.methodLink "SunnyPans" 279 yX0_offerLeast ∈ tbG := tw 1128 (by decide +kernel) rfl
theorem wd_1129 : Cond.instanceMethod yX0_offerLeast ∈ tbG := tw 1129 (by decide +kernel) rfl
theorem wd_1130 : Cond.selects "SunnyPans$Best" yX0_offerLeast yX0_offerLeast ∈ tbG := tw 1130 (by decide +kernel) rfl
theorem cv_SunnyPans_279 : zCV "SunnyPans" 279 "SunnyPans$Best" yX0_offerLeast cX0_offerLeast 3 none 2 := zCV_of wd_1128 wd_1129 wd_1130 wd_107 wd_1131 (by decide +kernel)
theorem wd_1264 : Cond.code yX9_givenOf cX9_givenOf 6 (some .int) ∈ tbG := tw 1264 (by decide +kernel) rfl
theorem wd_1261 : Cond.methodLink "SunnyPans" 286 yX9_givenOf ∈ tbG := tw 1261 (by decide +kernel) rfl
theorem wd_1263 : Cond.instanceMethod yX9_givenOf ∈ tbG := tw 1263 (by decide +kernel) rfl
theorem wd_37 : Cond.selects "SunnyPans" yX9_givenOf yX9_givenOf ∈ tbG := tw 37 (by decide +kernel) rfl
theorem cv_SunnyPans_286 : zCV "SunnyPans" 286 "SunnyPans" yX9_givenOf cX9_givenOf 6 (some .int) 3 := zCV_of wd_1261 wd_1263 wd_37 wd_101 wd_1264 (by decide +kernel)
theorem wd_1212 : Cond.constantLong "SunnyPans" 305 (9187201950435737471) ∈ tbG := tw 1212 (by decide +kernel) rfl
theorem wd_1211 : Cond.code yX9_spread cX9_spread 8 (some .long) ∈ tbG := tw 1211 (by decide +kernel) rfl
theorem wd_1209 : Cond.methodLink "SunnyPans" 301 yX9_spread ∈ tbG := tw 1209 (by decide +kernel) rfl
theorem wd_1210 : Cond.static yX9_spread ∈ tbG := tw 1210 (by decide +kernel) rfl
theorem cs_SunnyPans_301 : zCS "SunnyPans" 301 yX9_spread cX9_spread 8 (some .long) 2 := zCS_of wd_1209 wd_1210 wd_101 wd_1211 (by decide +kernel)
theorem wd_413 : Cond.fieldLink "SunnyPans" 37 "SunnyPans" "trial" "LSunnyPans$Pans;" ∈ tbG := tw 413 (by decide +kernel) rfl
theorem fg_SunnyPans_37 : zGetR "SunnyPans" 37 9 10 4 99 := ⟨RX9, TX9, 19, rfl, by decide, uw_9, wd_413, fun _ _ _ _ _ _ => ⟨_, rfl, rfl⟩⟩
theorem tfX_10_99 {n k : Nat} (h : zT shX n k 10) : zT shX n (k + 99) 5 := zT_off h (shX_f (by decide) (by decide +kernel)) (by decide) (by decide)
theorem wd_1116 : Cond.code yX9_dryingOf cX9_dryingOf 8 (some .int) ∈ tbG := tw 1116 (by decide +kernel) rfl
theorem wd_1113 : Cond.methodLink "SunnyPans" 314 yX9_dryingOf ∈ tbG := tw 1113 (by decide +kernel) rfl
theorem wd_1115 : Cond.instanceMethod yX9_dryingOf ∈ tbG := tw 1115 (by decide +kernel) rfl
theorem wd_30 : Cond.selects "SunnyPans" yX9_dryingOf yX9_dryingOf ∈ tbG := tw 30 (by decide +kernel) rfl
theorem cv_SunnyPans_314 : zCV "SunnyPans" 314 "SunnyPans" yX9_dryingOf cX9_dryingOf 8 (some .int) 2 := zCV_of wd_1113 wd_1115 wd_30 wd_101 wd_1116 (by decide +kernel)
theorem wd_294 : Cond.fieldLink "SunnyPans" 323 "SunnyPans$Best" "amount" "I" ∈ tbG := tw 294 (by decide +kernel) rfl
theorem fg_SunnyPans_323 : zGetI "SunnyPans" 323 0 1 1 := ⟨RX0, TX0, 2, rfl, by decide, uw_0, wd_294, fun _ _ _ _ _ _ => ⟨_, rfl, rfl⟩⟩
theorem wd_292 : Cond.fieldLink "SunnyPans" 320 "SunnyPans$Best" "found" "I" ∈ tbG := tw 292 (by decide +kernel) rfl
theorem fg_SunnyPans_320 : zGetI "SunnyPans" 320 0 1 0 := ⟨RX0, TX0, 2, rfl, by decide, uw_0, wd_292, fun _ _ _ _ _ _ => ⟨_, rfl, rfl⟩⟩
theorem wd_1326 : Cond.code yX9_lossBy cX9_lossBy 5 (some .int) ∈ tbG := tw 1326 (by decide +kernel) rfl
theorem wd_1323 : Cond.methodLink "SunnyPans" 317 yX9_lossBy ∈ tbG := tw 1323 (by decide +kernel) rfl
theorem wd_1325 : Cond.instanceMethod yX9_lossBy ∈ tbG := tw 1325 (by decide +kernel) rfl
theorem wd_38 : Cond.selects "SunnyPans" yX9_lossBy yX9_lossBy ∈ tbG := tw 38 (by decide +kernel) rfl
theorem cv_SunnyPans_317 : zCV "SunnyPans" 317 "SunnyPans" yX9_lossBy cX9_lossBy 5 (some .int) 1 := zCV_of wd_1323 wd_1325 wd_38 wd_101 wd_1326 (by decide +kernel)
theorem wd_1153 : Cond.code yX4_freePlaces cX4_freePlaces 1 (some .long) ∈ tbG := tw 1153 (by decide +kernel) rfl
theorem wd_1150 : Cond.methodLink "SunnyPans" 361 yX4_freePlaces ∈ tbG := tw 1150 (by decide +kernel) rfl
theorem wd_1151 : Cond.instanceMethod yX4_freePlaces ∈ tbG := tw 1151 (by decide +kernel) rfl
theorem wd_1152 : Cond.selects "SunnyPans$Pans" yX4_freePlaces yX4_freePlaces ∈ tbG := tw 1152 (by decide +kernel) rfl
theorem cv_SunnyPans_361 : zCV "SunnyPans" 361 "SunnyPans$Pans" yX4_freePlaces cX4_freePlaces 1 (some .long) 0 := zCV_of wd_1150 wd_1151 wd_1152 wd_104 wd_1153 (by decide +kernel)
theorem wd_414 : Cond.fieldLink "SunnyPans" 44 "SunnyPans" "shadows" "LSunnyPans$Shadows;" ∈ tbG := tw 414 (by decide +kernel) rfl
theorem fg_SunnyPans_44 : zGetR "SunnyPans" 44 9 10 5 104 := ⟨RX9, TX9, 19, rfl, by decide, uw_9, wd_414, fun _ _ _ _ _ _ => ⟨_, rfl, rfl⟩⟩
theorem tfX_10_104 {n k : Nat} (h : zT shX n k 10) : zT shX n (k + 104) 7 := zT_off h (shX_f (by decide) (by decide +kernel)) (by decide) (by decide)
theorem wd_1158 : Cond.code yX6_lay cX6_lay 8 none ∈ tbG := tw 1158 (by decide +kernel) rfl
theorem wd_1155 : Cond.methodLink "SunnyPans" 364 yX6_lay ∈ tbG := tw 1155 (by decide +kernel) rfl
theorem wd_1156 : Cond.instanceMethod yX6_lay ∈ tbG := tw 1156 (by decide +kernel) rfl
theorem wd_1157 : Cond.selects "SunnyPans$Shadows" yX6_lay yX6_lay ∈ tbG := tw 1157 (by decide +kernel) rfl
theorem cv_SunnyPans_364 : zCV "SunnyPans" 364 "SunnyPans$Shadows" yX6_lay cX6_lay 8 none 4 := zCV_of wd_1155 wd_1156 wd_1157 wd_106 wd_1158 (by decide +kernel)
theorem wd_1180 : Cond.methodLink "SunnyPans" 339 yX9_tellPlace ∈ tbG := tw 1180 (by decide +kernel) rfl
theorem cs_SunnyPans_339 : zCS "SunnyPans" 339 yX9_tellPlace cX9_tellPlace 1 (some .int) 1 := zCS_of wd_1180 wd_1137 wd_101 wd_1138 (by decide +kernel)
theorem wd_1232 : Cond.methodLink "SunnyPans" 379 yX6_addedAt ∈ tbG := tw 1232 (by decide +kernel) rfl
theorem cv_SunnyPans_379 : zCV "SunnyPans" 379 "SunnyPans$Shadows" yX6_addedAt cX6_addedAt 3 (some .long) 2 := zCV_of wd_1232 wd_1168 wd_1169 wd_106 wd_1170 (by decide +kernel)
theorem wd_421 : Cond.fieldLink "SunnyPans" 82 "SunnyPans" "notes" "LSunnyPans$Book;" ∈ tbG := tw 421 (by decide +kernel) rfl
theorem fg_SunnyPans_82 : zGetD "SunnyPans" 82 9 10 12 := ⟨RX9, TX9, 19, rfl, by decide, uw_9, wd_421, fun _ _ _ _ _ _ => ⟨_, rfl, rfl⟩⟩
theorem td_2 {n k : Nat} (h0 : zT shX n 0 10) (h : (shX k == 2) = true) : zT shX n k 2 := zT_g h (shX_b (by decide) (by decide +kernel) h0.2.2) (by decide)
theorem wd_397 : Cond.fieldLink "SunnyPans" 145 "SunnyPans$Book" "lines" "I" ∈ tbG := tw 397 (by decide +kernel) rfl
theorem fg_SunnyPans_145 : zGetI "SunnyPans" 145 1 2 2 := ⟨RX1, TX1, 4, rfl, by decide, uw_1, wd_397, fun _ _ _ _ _ _ => ⟨_, rfl, rfl⟩⟩
theorem wd_393 : Cond.fieldLink "SunnyPans" 372 "SunnyPans$Book" "place" "[I" ∈ tbG := tw 393 (by decide +kernel) rfl
theorem fg_SunnyPans_372 : zGetR "SunnyPans" 372 1 2 0 1 := ⟨RX1, TX1, 4, rfl, by decide, uw_1, wd_393, fun _ _ _ _ _ _ => ⟨_, rfl, rfl⟩⟩
theorem wd_1231 : Cond.code yX9_brineAfterDay cX9_brineAfterDay 8 (some .int) ∈ tbG := tw 1231 (by decide +kernel) rfl
theorem wd_1228 : Cond.methodLink "SunnyPans" 375 yX9_brineAfterDay ∈ tbG := tw 1228 (by decide +kernel) rfl
theorem wd_1230 : Cond.instanceMethod yX9_brineAfterDay ∈ tbG := tw 1230 (by decide +kernel) rfl
theorem wd_34 : Cond.selects "SunnyPans" yX9_brineAfterDay yX9_brineAfterDay ∈ tbG := tw 34 (by decide +kernel) rfl
theorem cv_SunnyPans_375 : zCV "SunnyPans" 375 "SunnyPans" yX9_brineAfterDay cX9_brineAfterDay 8 (some .int) 2 := zCV_of wd_1228 wd_1230 wd_34 wd_101 wd_1231 (by decide +kernel)
theorem wd_395 : Cond.fieldLink "SunnyPans" 378 "SunnyPans$Book" "brine" "[I" ∈ tbG := tw 395 (by decide +kernel) rfl
theorem fg_SunnyPans_378 : zGetR "SunnyPans" 378 1 2 1 2 := ⟨RX1, TX1, 4, rfl, by decide, uw_1, wd_395, fun _ _ _ _ _ _ => ⟨_, rfl, rfl⟩⟩
theorem wd_1227 : Cond.code yX9_linesRight cX9_linesRight 3 (some .boolean) ∈ tbG := tw 1227 (by decide +kernel) rfl
theorem wd_1224 : Cond.methodLink "SunnyPans" 368 yX9_linesRight ∈ tbG := tw 1224 (by decide +kernel) rfl
theorem wd_1226 : Cond.instanceMethod yX9_linesRight ∈ tbG := tw 1226 (by decide +kernel) rfl
theorem wd_33 : Cond.selects "SunnyPans" yX9_linesRight yX9_linesRight ∈ tbG := tw 33 (by decide +kernel) rfl
theorem cv_SunnyPans_368 : zCV "SunnyPans" 368 "SunnyPans" yX9_linesRight cX9_linesRight 3 (some .boolean) 1 := zCV_of wd_1224 wd_1226 wd_33 wd_101 wd_1227 (by decide +kernel)
theorem wd_1149 : Cond.code yX9_layEverywhere cX9_layEverywhere 4 (some .long) ∈ tbG := tw 1149 (by decide +kernel) rfl
theorem wd_1146 : Cond.methodLink "SunnyPans" 333 yX9_layEverywhere ∈ tbG := tw 1146 (by decide +kernel) rfl
theorem wd_1148 : Cond.instanceMethod yX9_layEverywhere ∈ tbG := tw 1148 (by decide +kernel) rfl
theorem wd_31 : Cond.selects "SunnyPans" yX9_layEverywhere yX9_layEverywhere ∈ tbG := tw 31 (by decide +kernel) rfl
theorem cv_SunnyPans_333 : zCV "SunnyPans" 333 "SunnyPans" yX9_layEverywhere cX9_layEverywhere 4 (some .long) 1 := zCV_of wd_1146 wd_1148 wd_31 wd_101 wd_1149 (by decide +kernel)
theorem wd_416 : Cond.fieldLink "SunnyPans" 55 "SunnyPans" "seen" "[I" ∈ tbG := tw 416 (by decide +kernel) rfl
theorem fg_SunnyPans_55 : zGetR "SunnyPans" 55 9 10 7 173 := ⟨RX9, TX9, 19, rfl, by decide, uw_9, wd_416, fun _ _ _ _ _ _ => ⟨_, rfl, rfl⟩⟩
theorem tfX_10_173 {n k : Nat} (h : zT shX n k 10) : zT shX n (k + 173) 16 := zT_off h (shX_f (by decide) (by decide +kernel)) (by decide) (by decide)
theorem wd_1247 : Cond.code yX6_touchedBy cX6_touchedBy 2 (some .long) ∈ tbG := tw 1247 (by decide +kernel) rfl
theorem wd_1244 : Cond.methodLink "SunnyPans" 383 yX6_touchedBy ∈ tbG := tw 1244 (by decide +kernel) rfl
theorem wd_1245 : Cond.instanceMethod yX6_touchedBy ∈ tbG := tw 1245 (by decide +kernel) rfl
theorem wd_1246 : Cond.selects "SunnyPans$Shadows" yX6_touchedBy yX6_touchedBy ∈ tbG := tw 1246 (by decide +kernel) rfl
theorem cv_SunnyPans_383 : zCV "SunnyPans" 383 "SunnyPans$Shadows" yX6_touchedBy cX6_touchedBy 2 (some .long) 1 := zCV_of wd_1244 wd_1245 wd_1246 wd_106 wd_1247 (by decide +kernel)
theorem wd_1252 : Cond.methodLink "SunnyPans" 386 Lib.Math.max.name ∈ tbG := tw 1252 (by decide +kernel) rfl
theorem wd_1243 : Cond.code yX9_brinesSeen cX9_brinesSeen 7 (some .int) ∈ tbG := tw 1243 (by decide +kernel) rfl
theorem wd_1240 : Cond.methodLink "SunnyPans" 354 yX9_brinesSeen ∈ tbG := tw 1240 (by decide +kernel) rfl
theorem wd_1242 : Cond.instanceMethod yX9_brinesSeen ∈ tbG := tw 1242 (by decide +kernel) rfl
theorem wd_35 : Cond.selects "SunnyPans" yX9_brinesSeen yX9_brinesSeen ∈ tbG := tw 35 (by decide +kernel) rfl
theorem cv_SunnyPans_354 : zCV "SunnyPans" 354 "SunnyPans" yX9_brinesSeen cX9_brinesSeen 7 (some .int) 2 := zCV_of wd_1240 wd_1242 wd_35 wd_101 wd_1243 (by decide +kernel)
theorem wd_1251 : Cond.code yX9_mostAlike cX9_mostAlike 6 (some .int) ∈ tbG := tw 1251 (by decide +kernel) rfl
theorem wd_1248 : Cond.methodLink "SunnyPans" 358 yX9_mostAlike ∈ tbG := tw 1248 (by decide +kernel) rfl
theorem wd_1250 : Cond.instanceMethod yX9_mostAlike ∈ tbG := tw 1250 (by decide +kernel) rfl
theorem wd_36 : Cond.selects "SunnyPans" yX9_mostAlike yX9_mostAlike ∈ tbG := tw 36 (by decide +kernel) rfl
theorem cv_SunnyPans_358 : zCV "SunnyPans" 358 "SunnyPans" yX9_mostAlike cX9_mostAlike 6 (some .int) 1 := zCV_of wd_1248 wd_1250 wd_36 wd_101 wd_1251 (by decide +kernel)
theorem wd_427 : Cond.fieldLink "SunnyPans" 393 "SunnyPans" "seedNow" "I" ∈ tbG := tw 427 (by decide +kernel) rfl
theorem fg_SunnyPans_393 : zGetI "SunnyPans" 393 9 10 18 := ⟨RX9, TX9, 19, rfl, by decide, uw_9, wd_427, fun _ _ _ _ _ _ => ⟨_, rfl, rfl⟩⟩
theorem wd_1367 : Cond.constant "SunnyPans" 406 (1103515245) ∈ tbG := tw 1367 (by decide +kernel) rfl
theorem ks_12345 : (Int16.ofInt (12345)).toInt32 = (12345 : Int32) := by decide +kernel
theorem fp_SunnyPans_393 : zPutI "SunnyPans" 393 9 10 18 := ⟨zc_9, fg_SunnyPans_393, ⟨RX9, TX9, 19, rfl, rfl, by decide +kernel⟩, fun _ _ _ _ _ _ _ => ⟨_, rfl, Nat.le_of_ble_eq_true rfl, rfl⟩⟩
theorem ks_32767 : (Int16.ofInt (32767)).toInt32 = (32767 : Int32) := by decide +kernel
theorem wd_1366 : Cond.code yX9_draw cX9_draw 2 (some .int) ∈ tbG := tw 1366 (by decide +kernel) rfl
theorem wd_1363 : Cond.methodLink "SunnyPans" 396 yX9_draw ∈ tbG := tw 1363 (by decide +kernel) rfl
theorem wd_1365 : Cond.instanceMethod yX9_draw ∈ tbG := tw 1365 (by decide +kernel) rfl
theorem wd_40 : Cond.selects "SunnyPans" yX9_draw yX9_draw ∈ tbG := tw 40 (by decide +kernel) rfl
theorem cv_SunnyPans_396 : zCV "SunnyPans" 396 "SunnyPans" yX9_draw cX9_draw 2 (some .int) 1 := zCV_of wd_1363 wd_1365 wd_40 wd_101 wd_1366 (by decide +kernel)
theorem wd_490 : Cond.code yX4_copyFrom cX4_copyFrom 2 none ∈ tbG := tw 490 (by decide +kernel) rfl
theorem wd_1105 : Cond.methodLink "SunnyPans" 307 yX4_copyFrom ∈ tbG := tw 1105 (by decide +kernel) rfl
theorem wd_488 : Cond.instanceMethod yX4_copyFrom ∈ tbG := tw 488 (by decide +kernel) rfl
theorem wd_489 : Cond.selects "SunnyPans$Pans" yX4_copyFrom yX4_copyFrom ∈ tbG := tw 489 (by decide +kernel) rfl
theorem cv_SunnyPans_307 : zCV "SunnyPans" 307 "SunnyPans$Pans" yX4_copyFrom cX4_copyFrom 2 none 1 := zCV_of wd_1105 wd_488 wd_489 wd_104 wd_490 (by decide +kernel)
theorem wd_1362 : Cond.code yX9_runSummer cX9_runSummer 7 none ∈ tbG := tw 1362 (by decide +kernel) rfl
theorem wd_1359 : Cond.methodLink "SunnyPans" 389 yX9_runSummer ∈ tbG := tw 1359 (by decide +kernel) rfl
theorem wd_1361 : Cond.instanceMethod yX9_runSummer ∈ tbG := tw 1361 (by decide +kernel) rfl
theorem wd_39 : Cond.selects "SunnyPans" yX9_runSummer yX9_runSummer ∈ tbG := tw 39 (by decide +kernel) rfl
theorem cv_SunnyPans_389 : zCV "SunnyPans" 389 "SunnyPans" yX9_runSummer cX9_runSummer 7 none 3 := zCV_of wd_1359 wd_1361 wd_39 wd_101 wd_1362 (by decide +kernel)
theorem wd_982 : Cond.code yX9_sumOf cX9_sumOf 3 (some .int) ∈ tbG := tw 982 (by decide +kernel) rfl
theorem wd_980 : Cond.methodLink "SunnyPans" 177 yX9_sumOf ∈ tbG := tw 980 (by decide +kernel) rfl
theorem wd_981 : Cond.static yX9_sumOf ∈ tbG := tw 981 (by decide +kernel) rfl
theorem cs_SunnyPans_177 : zCS "SunnyPans" 177 yX9_sumOf cX9_sumOf 3 (some .int) 1 := zCS_of wd_980 wd_981 wd_101 wd_982 (by decide +kernel)
theorem wd_423 : Cond.fieldLink "SunnyPans" 121 "SunnyPans" "imageCount" "I" ∈ tbG := tw 423 (by decide +kernel) rfl
theorem fg_SunnyPans_121 : zGetI "SunnyPans" 121 9 10 14 := ⟨RX9, TX9, 19, rfl, by decide, uw_9, wd_423, fun _ _ _ _ _ _ => ⟨_, rfl, rfl⟩⟩
theorem wd_411 : Cond.fieldLink "SunnyPans" 23 "SunnyPans" "images" "[LSunnyPans$Stand;" ∈ tbG := tw 411 (by decide +kernel) rfl
theorem fg_SunnyPans_23 : zGetR "SunnyPans" 23 9 10 2 90 := ⟨RX9, TX9, 19, rfl, by decide, uw_9, wd_411, fun _ _ _ _ _ _ => ⟨_, rfl, rfl⟩⟩
theorem tfX_10_90 {n k : Nat} (h : zT shX n k 10) : zT shX n (k + 90) 20 := zT_off h (shX_f (by decide) (by decide +kernel)) (by decide) (by decide)
theorem za_20 : zArrR 20 3 3 110 87 := ⟨by decide, fun _ _ _ _ _ _ => rfl⟩
theorem teX_20 {n : Nat} {i : Int32} (h : zT shX n 0 10) (hi : vp_in i 3) : zT shX n (90 + (110 + 87 * i.toNatClampNeg)) 8 := by
  have hlt : i.toNatClampNeg < 3 := Nat.not_le.mp fun q => hi (Or.inr q)
  have h2 : 0 + 461 ≤ n := h.2.2
  have e : ∀ j, j < 3 → shX (90 + (110 + 87 * j)) = 8 := by decide +kernel
  exact ⟨e _ hlt, by omega, by show _ + 87 ≤ n; omega⟩
theorem wd_426 : Cond.fieldLink "SunnyPans" 413 "SunnyPans" "refusedArguments" "I" ∈ tbG := tw 426 (by decide +kernel) rfl
theorem fg_SunnyPans_413 : zGetI "SunnyPans" 413 9 10 17 := ⟨RX9, TX9, 19, rfl, by decide, uw_9, wd_426, fun _ _ _ _ _ _ => ⟨_, rfl, rfl⟩⟩
theorem wd_425 : Cond.fieldLink "SunnyPans" 410 "SunnyPans" "refusedPlaces" "I" ∈ tbG := tw 425 (by decide +kernel) rfl
theorem fg_SunnyPans_410 : zGetI "SunnyPans" 410 9 10 16 := ⟨RX9, TX9, 19, rfl, by decide, uw_9, wd_425, fun _ _ _ _ _ _ => ⟨_, rfl, rfl⟩⟩
theorem wd_217 : Cond.fieldLink "SunnyPans" 131 "SunnyPans$Stand" "kept" "I" ∈ tbG := tw 217 (by decide +kernel) rfl
theorem fg_SunnyPans_131 : zGetI "SunnyPans" 131 7 8 1 := ⟨RX7, TX7, 3, rfl, by decide, uw_7, wd_217, fun _ _ _ _ _ _ => ⟨_, rfl, rfl⟩⟩
theorem ks_192 : (Int16.ofInt (192)).toInt32 = (192 : Int32) := by decide +kernel
theorem wd_1407 : Cond.fieldLink "SunnyPansModel" 26 "SunnyPansModel" "readPlaces" "[I" ∈ tbG := tw 1407 (by decide +kernel) rfl
theorem uw_10 : ∀ w ∈ u_ws RX10 TX10 40, w ∈ tbG := zUW _ [1434, 1436, 1438, 1440, 1442, 1444, 1446, 1448, 1450, 1452, 1454, 1456, 1458, 1460, 1462, 1464, 1466, 1468, 1470, 1472, 1474, 1476, 1478, 1480, 1482, 1484, 1486, 1488, 1490, 1492, 1494, 1496, 1498, 1500, 1502, 1504, 1506, 1508, 1510, 1512] (by decide +kernel) (by decide +kernel)
theorem fg_SunnyPansModel_26 : zGetR "SunnyPansModel" 26 10 11 13 5 := ⟨RX10, TX10, 40, rfl, by decide, uw_10, wd_1407, fun _ _ _ _ _ _ => ⟨_, rfl, rfl⟩⟩
theorem tfM_11_5 {n k : Nat} (h : zT shM n k 11) : zT shM n (k + 5) 29 := zT_off h (shM_f (by decide) (by decide +kernel)) (by decide) (by decide)
theorem za_29 : zArrI 29 192 := fun _ _ _ _ _ _ => rfl
theorem wd_1405 : Cond.fieldLink "SunnyPansModel" 20 "SunnyPansModel" "readTold" "[I" ∈ tbG := tw 1405 (by decide +kernel) rfl
theorem fg_SunnyPansModel_20 : zGetR "SunnyPansModel" 20 10 11 11 3 := ⟨RX10, TX10, 40, rfl, by decide, uw_10, wd_1405, fun _ _ _ _ _ _ => ⟨_, rfl, rfl⟩⟩
theorem tfM_11_3 {n k : Nat} (h : zT shM n k 11) : zT shM n (k + 3) 28 := zT_off h (shM_f (by decide) (by decide +kernel)) (by decide) (by decide)
theorem za_28 : zArrI 28 3 := fun _ _ _ _ _ _ => rfl
theorem za_36 : zArrI 36 195 := fun _ _ _ _ _ _ => rfl
theorem wd_1420 : Cond.fieldLink "SunnyPansModel" 58 "SunnyPansModel" "now" "[I" ∈ tbG := tw 1420 (by decide +kernel) rfl
theorem fg_SunnyPansModel_58 : zGetR "SunnyPansModel" 58 10 11 26 451 := ⟨RX10, TX10, 40, rfl, by decide, uw_10, wd_1420, fun _ _ _ _ _ _ => ⟨_, rfl, rfl⟩⟩
theorem tfM_11_451 {n k : Nat} (h : zT shM n k 11) : zT shM n (k + 451) 36 := zT_off h (shM_f (by decide) (by decide +kernel)) (by decide) (by decide)
theorem ks_128 : (Int16.ofInt (128)).toInt32 = (128 : Int32) := by decide +kernel
theorem wd_1410 : Cond.fieldLink "SunnyPansModel" 172 "SunnyPansModel" "lawMany" "I" ∈ tbG := tw 1410 (by decide +kernel) rfl
theorem fg_SunnyPansModel_172 : zGetI "SunnyPansModel" 172 10 11 16 := ⟨RX10, TX10, 40, rfl, by decide, uw_10, wd_1410, fun _ _ _ _ _ _ => ⟨_, rfl, rfl⟩⟩
theorem zc_10 : zCls 10 := ⟨RX10, TX10, 40, tyX10, rfl, tyX10_ok, nmX10⟩
theorem fp_SunnyPansModel_172 : zPutI "SunnyPansModel" 172 10 11 16 := ⟨zc_10, fg_SunnyPansModel_172, ⟨RX10, TX10, 40, rfl, rfl, by decide +kernel⟩, fun _ _ _ _ _ _ _ => ⟨_, rfl, Nat.le_of_ble_eq_true rfl, rfl⟩⟩
theorem wd_1424 : Cond.fieldLink "SunnyPansModel" 175 "SunnyPansModel" "lines" "I" ∈ tbG := tw 1424 (by decide +kernel) rfl
theorem fg_SunnyPansModel_175 : zGetI "SunnyPansModel" 175 10 11 30 := ⟨RX10, TX10, 40, rfl, by decide, uw_10, wd_1424, fun _ _ _ _ _ _ => ⟨_, rfl, rfl⟩⟩
theorem fp_SunnyPansModel_175 : zPutI "SunnyPansModel" 175 10 11 30 := ⟨zc_10, fg_SunnyPansModel_175, ⟨RX10, TX10, 40, rfl, rfl, by decide +kernel⟩, fun _ _ _ _ _ _ _ => ⟨_, rfl, Nat.le_of_ble_eq_true rfl, rfl⟩⟩
theorem wd_1425 : Cond.fieldLink "SunnyPansModel" 178 "SunnyPansModel" "works" "I" ∈ tbG := tw 1425 (by decide +kernel) rfl
theorem fg_SunnyPansModel_178 : zGetI "SunnyPansModel" 178 10 11 31 := ⟨RX10, TX10, 40, rfl, by decide, uw_10, wd_1425, fun _ _ _ _ _ _ => ⟨_, rfl, rfl⟩⟩
theorem fp_SunnyPansModel_178 : zPutI "SunnyPansModel" 178 10 11 31 := ⟨zc_10, fg_SunnyPansModel_178, ⟨RX10, TX10, 40, rfl, rfl, by decide +kernel⟩, fun _ _ _ _ _ _ _ => ⟨_, rfl, Nat.le_of_ble_eq_true rfl, rfl⟩⟩
theorem wd_1426 : Cond.fieldLink "SunnyPansModel" 181 "SunnyPansModel" "refusedSteps" "I" ∈ tbG := tw 1426 (by decide +kernel) rfl
theorem fg_SunnyPansModel_181 : zGetI "SunnyPansModel" 181 10 11 32 := ⟨RX10, TX10, 40, rfl, by decide, uw_10, wd_1426, fun _ _ _ _ _ _ => ⟨_, rfl, rfl⟩⟩
theorem fp_SunnyPansModel_181 : zPutI "SunnyPansModel" 181 10 11 32 := ⟨zc_10, fg_SunnyPansModel_181, ⟨RX10, TX10, 40, rfl, rfl, by decide +kernel⟩, fun _ _ _ _ _ _ _ => ⟨_, rfl, Nat.le_of_ble_eq_true rfl, rfl⟩⟩
theorem wd_1427 : Cond.fieldLink "SunnyPansModel" 184 "SunnyPansModel" "images" "I" ∈ tbG := tw 1427 (by decide +kernel) rfl
theorem fg_SunnyPansModel_184 : zGetI "SunnyPansModel" 184 10 11 33 := ⟨RX10, TX10, 40, rfl, by decide, uw_10, wd_1427, fun _ _ _ _ _ _ => ⟨_, rfl, rfl⟩⟩
theorem fp_SunnyPansModel_184 : zPutI "SunnyPansModel" 184 10 11 33 := ⟨zc_10, fg_SunnyPansModel_184, ⟨RX10, TX10, 40, rfl, rfl, by decide +kernel⟩, fun _ _ _ _ _ _ _ => ⟨_, rfl, Nat.le_of_ble_eq_true rfl, rfl⟩⟩
theorem wd_1406 : Cond.fieldLink "SunnyPansModel" 23 "SunnyPansModel" "told" "[I" ∈ tbG := tw 1406 (by decide +kernel) rfl
theorem fg_SunnyPansModel_23 : zGetR "SunnyPansModel" 23 10 11 12 4 := ⟨RX10, TX10, 40, rfl, by decide, uw_10, wd_1406, fun _ _ _ _ _ _ => ⟨_, rfl, rfl⟩⟩
theorem tfM_11_4 {n k : Nat} (h : zT shM n k 11) : zT shM n (k + 4) 28 := zT_off h (shM_f (by decide) (by decide +kernel)) (by decide) (by decide)
theorem ks_195 : (Int16.ofInt (195)).toInt32 = (195 : Int32) := by decide +kernel
theorem wd_1408 : Cond.fieldLink "SunnyPansModel" 31 "SunnyPansModel" "readHour" "[[I" ∈ tbG := tw 1408 (by decide +kernel) rfl
theorem fg_SunnyPansModel_31 : zGetR "SunnyPansModel" 31 10 11 14 6 := ⟨RX10, TX10, 40, rfl, by decide, uw_10, wd_1408, fun _ _ _ _ _ _ => ⟨_, rfl, rfl⟩⟩
theorem tfM_11_6 {n k : Nat} (h : zT shM n k 11) : zT shM n (k + 6) 30 := zT_off h (shM_f (by decide) (by decide +kernel)) (by decide) (by decide)
theorem wd_1409 : Cond.fieldLink "SunnyPansModel" 34 "SunnyPansModel" "hour" "[[I" ∈ tbG := tw 1409 (by decide +kernel) rfl
theorem fg_SunnyPansModel_34 : zGetR "SunnyPansModel" 34 10 11 15 17 := ⟨RX10, TX10, 40, rfl, by decide, uw_10, wd_1409, fun _ _ _ _ _ _ => ⟨_, rfl, rfl⟩⟩
theorem tfM_11_17 {n k : Nat} (h : zT shM n k 11) : zT shM n (k + 17) 30 := zT_off h (shM_f (by decide) (by decide +kernel)) (by decide) (by decide)
theorem wd_1394 : Cond.fieldLink "SunnyPansModel" 82 "SunnyPansModel" "thrown" "I" ∈ tbG := tw 1394 (by decide +kernel) rfl
theorem fg_SunnyPansModel_82 : zGetI "SunnyPansModel" 82 10 11 0 := ⟨RX10, TX10, 40, rfl, by decide, uw_10, wd_1394, fun _ _ _ _ _ _ => ⟨_, rfl, rfl⟩⟩
theorem fp_SunnyPansModel_82 : zPutI "SunnyPansModel" 82 10 11 0 := ⟨zc_10, fg_SunnyPansModel_82, ⟨RX10, TX10, 40, rfl, rfl, by decide +kernel⟩, fun _ _ _ _ _ _ _ => ⟨_, rfl, Nat.le_of_ble_eq_true rfl, rfl⟩⟩
theorem wd_1404 : Cond.fieldLink "SunnyPansModel" 17 "SunnyPansModel" "refused" "[I" ∈ tbG := tw 1404 (by decide +kernel) rfl
theorem fg_SunnyPansModel_17 : zGetR "SunnyPansModel" 17 10 11 10 2 := ⟨RX10, TX10, 40, rfl, by decide, uw_10, wd_1404, fun _ _ _ _ _ _ => ⟨_, rfl, rfl⟩⟩
theorem tfM_11_2 {n k : Nat} (h : zT shM n k 11) : zT shM n (k + 2) 27 := zT_off h (shM_f (by decide) (by decide +kernel)) (by decide) (by decide)
theorem za_27 : zArrI 27 2 := fun _ _ _ _ _ _ => rfl
theorem wd_1403 : Cond.fieldLink "SunnyPansModel" 13 "SunnyPansModel" "fed" "[I" ∈ tbG := tw 1403 (by decide +kernel) rfl
theorem fg_SunnyPansModel_13 : zGetR "SunnyPansModel" 13 10 11 9 1 := ⟨RX10, TX10, 40, rfl, by decide, uw_10, wd_1403, fun _ _ _ _ _ _ => ⟨_, rfl, rfl⟩⟩
theorem tfM_11_1 {n k : Nat} (h : zT shM n k 11) : zT shM n (k + 1) 17 := zT_off h (shM_f (by decide) (by decide +kernel)) (by decide) (by decide)
theorem wd_1395 : Cond.fieldLink "SunnyPansModel" 85 "SunnyPansModel" "tape" "I" ∈ tbG := tw 1395 (by decide +kernel) rfl
theorem fg_SunnyPansModel_85 : zGetI "SunnyPansModel" 85 10 11 1 := ⟨RX10, TX10, 40, rfl, by decide, uw_10, wd_1395, fun _ _ _ _ _ _ => ⟨_, rfl, rfl⟩⟩
theorem fp_SunnyPansModel_85 : zPutI "SunnyPansModel" 85 10 11 1 := ⟨zc_10, fg_SunnyPansModel_85, ⟨RX10, TX10, 40, rfl, rfl, by decide +kernel⟩, fun _ _ _ _ _ _ _ => ⟨_, rfl, Nat.le_of_ble_eq_true rfl, rfl⟩⟩
theorem kb_12 : (Int8.ofInt (12)).toInt32 = (12 : Int32) := by decide +kernel
theorem wd_1396 : Cond.fieldLink "SunnyPansModel" 88 "SunnyPansModel" "size" "I" ∈ tbG := tw 1396 (by decide +kernel) rfl
theorem fg_SunnyPansModel_88 : zGetI "SunnyPansModel" 88 10 11 2 := ⟨RX10, TX10, 40, rfl, by decide, uw_10, wd_1396, fun _ _ _ _ _ _ => ⟨_, rfl, rfl⟩⟩
theorem wd_1398 : Cond.fieldLink "SunnyPansModel" 91 "SunnyPansModel" "at" "I" ∈ tbG := tw 1398 (by decide +kernel) rfl
theorem fg_SunnyPansModel_91 : zGetI "SunnyPansModel" 91 10 11 4 := ⟨RX10, TX10, 40, rfl, by decide, uw_10, wd_1398, fun _ _ _ _ _ _ => ⟨_, rfl, rfl⟩⟩
theorem wd_1545 : Cond.code yX10_byteAt cX10_byteAt 2 (some .int) ∈ tbG := tw 1545 (by decide +kernel) rfl
theorem wd_1542 : Cond.methodLink "SunnyPansModel" 94 yX10_byteAt ∈ tbG := tw 1542 (by decide +kernel) rfl
theorem wd_1544 : Cond.instanceMethod yX10_byteAt ∈ tbG := tw 1544 (by decide +kernel) rfl
theorem wd_46 : Cond.selects "SunnyPansModel" yX10_byteAt yX10_byteAt ∈ tbG := tw 46 (by decide +kernel) rfl
theorem wd_111 : Cond.initialized "SunnyPansModel" ∈ tbG := tw 111 (by decide +kernel) rfl
theorem cv_SunnyPansModel_94 : zCV "SunnyPansModel" 94 "SunnyPansModel" yX10_byteAt cX10_byteAt 2 (some .int) 1 := zCV_of wd_1542 wd_1544 wd_46 wd_111 wd_1545 (by decide +kernel)
theorem zo_11 : zObj "SunnyPansModel" 11 := ⟨10, (RX10, TX10, 40), rfl, rfl, fun _ _ _ _ _ _ => ⟨_, rfl⟩⟩
theorem fp_SunnyPansModel_91 : zPutI "SunnyPansModel" 91 10 11 4 := ⟨zc_10, fg_SunnyPansModel_91, ⟨RX10, TX10, 40, rfl, rfl, by decide +kernel⟩, fun _ _ _ _ _ _ _ => ⟨_, rfl, Nat.le_of_ble_eq_true rfl, rfl⟩⟩
theorem wd_1399 : Cond.fieldLink "SunnyPansModel" 98 "SunnyPansModel" "fault" "I" ∈ tbG := tw 1399 (by decide +kernel) rfl
theorem fg_SunnyPansModel_98 : zGetI "SunnyPansModel" 98 10 11 5 := ⟨RX10, TX10, 40, rfl, by decide, uw_10, wd_1399, fun _ _ _ _ _ _ => ⟨_, rfl, rfl⟩⟩
theorem fp_SunnyPansModel_98 : zPutI "SunnyPansModel" 98 10 11 5 := ⟨zc_10, fg_SunnyPansModel_98, ⟨RX10, TX10, 40, rfl, rfl, by decide +kernel⟩, fun _ _ _ _ _ _ _ => ⟨_, rfl, Nat.le_of_ble_eq_true rfl, rfl⟩⟩
theorem wd_1400 : Cond.fieldLink "SunnyPansModel" 101 "SunnyPansModel" "faultAt" "I" ∈ tbG := tw 1400 (by decide +kernel) rfl
theorem fg_SunnyPansModel_101 : zGetI "SunnyPansModel" 101 10 11 6 := ⟨RX10, TX10, 40, rfl, by decide, uw_10, wd_1400, fun _ _ _ _ _ _ => ⟨_, rfl, rfl⟩⟩
theorem fp_SunnyPansModel_101 : zPutI "SunnyPansModel" 101 10 11 6 := ⟨zc_10, fg_SunnyPansModel_101, ⟨RX10, TX10, 40, rfl, rfl, by decide +kernel⟩, fun _ _ _ _ _ _ _ => ⟨_, rfl, Nat.le_of_ble_eq_true rfl, rfl⟩⟩
theorem wd_1582 : Cond.code yX10_isDigit cX10_isDigit 1 (some .boolean) ∈ tbG := tw 1582 (by decide +kernel) rfl
theorem wd_1580 : Cond.methodLink "SunnyPansModel" 107 yX10_isDigit ∈ tbG := tw 1580 (by decide +kernel) rfl
theorem wd_1581 : Cond.static yX10_isDigit ∈ tbG := tw 1581 (by decide +kernel) rfl
theorem cs_SunnyPansModel_107 : zCS "SunnyPansModel" 107 yX10_isDigit cX10_isDigit 1 (some .boolean) 1 := zCS_of wd_1580 wd_1581 wd_111 wd_1582 (by decide +kernel)
theorem wd_1529 : Cond.code yX10_in cX10_in 3 (some .boolean) ∈ tbG := tw 1529 (by decide +kernel) rfl
theorem wd_1527 : Cond.methodLink "SunnyPansModel" 116 yX10_in ∈ tbG := tw 1527 (by decide +kernel) rfl
theorem wd_1528 : Cond.static yX10_in ∈ tbG := tw 1528 (by decide +kernel) rfl
theorem cs_SunnyPansModel_116 : zCS "SunnyPansModel" 116 yX10_in cX10_in 3 (some .boolean) 3 := zCS_of wd_1527 wd_1528 wd_111 wd_1529 (by decide +kernel)
theorem wd_1571 : Cond.code yX10_wrong cX10_wrong 3 none ∈ tbG := tw 1571 (by decide +kernel) rfl
theorem wd_1568 : Cond.methodLink "SunnyPansModel" 111 yX10_wrong ∈ tbG := tw 1568 (by decide +kernel) rfl
theorem wd_1570 : Cond.instanceMethod yX10_wrong ∈ tbG := tw 1570 (by decide +kernel) rfl
theorem wd_51 : Cond.selects "SunnyPansModel" yX10_wrong yX10_wrong ∈ tbG := tw 51 (by decide +kernel) rfl
theorem cv_SunnyPansModel_111 : zCV "SunnyPansModel" 111 "SunnyPansModel" yX10_wrong cX10_wrong 3 none 2 := zCV_of wd_1568 wd_1570 wd_51 wd_111 wd_1571 (by decide +kernel)
theorem wd_1583 : Cond.constant "SunnyPansModel" 115 (100000) ∈ tbG := tw 1583 (by decide +kernel) rfl
theorem wd_1541 : Cond.code yX10_blanks cX10_blanks 1 none ∈ tbG := tw 1541 (by decide +kernel) rfl
theorem wd_1538 : Cond.methodLink "SunnyPansModel" 104 yX10_blanks ∈ tbG := tw 1538 (by decide +kernel) rfl
theorem wd_1540 : Cond.instanceMethod yX10_blanks ∈ tbG := tw 1540 (by decide +kernel) rfl
theorem wd_45 : Cond.selects "SunnyPansModel" yX10_blanks yX10_blanks ∈ tbG := tw 45 (by decide +kernel) rfl
theorem cv_SunnyPansModel_104 : zCV "SunnyPansModel" 104 "SunnyPansModel" yX10_blanks cX10_blanks 1 none 0 := zCV_of wd_1538 wd_1540 wd_45 wd_111 wd_1541 (by decide +kernel)
theorem wd_1564 : Cond.code yX10_isSmall cX10_isSmall 1 (some .boolean) ∈ tbG := tw 1564 (by decide +kernel) rfl
theorem wd_1562 : Cond.methodLink "SunnyPansModel" 120 yX10_isSmall ∈ tbG := tw 1562 (by decide +kernel) rfl
theorem wd_1563 : Cond.static yX10_isSmall ∈ tbG := tw 1563 (by decide +kernel) rfl
theorem cs_SunnyPansModel_120 : zCS "SunnyPansModel" 120 yX10_isSmall cX10_isSmall 1 (some .boolean) 1 := zCS_of wd_1562 wd_1563 wd_111 wd_1564 (by decide +kernel)
theorem kb_27 : (Int8.ofInt (27)).toInt32 = (27 : Int32) := by decide +kernel
theorem wd_1561 : Cond.code yX10_wordHere cX10_wordHere 3 (some .int) ∈ tbG := tw 1561 (by decide +kernel) rfl
theorem wd_1558 : Cond.methodLink "SunnyPansModel" 123 yX10_wordHere ∈ tbG := tw 1558 (by decide +kernel) rfl
theorem wd_1560 : Cond.instanceMethod yX10_wordHere ∈ tbG := tw 1560 (by decide +kernel) rfl
theorem wd_50 : Cond.selects "SunnyPansModel" yX10_wordHere yX10_wordHere ∈ tbG := tw 50 (by decide +kernel) rfl
theorem cv_SunnyPansModel_123 : zCV "SunnyPansModel" 123 "SunnyPansModel" yX10_wordHere cX10_wordHere 3 (some .int) 0 := zCV_of wd_1558 wd_1560 wd_50 wd_111 wd_1561 (by decide +kernel)
theorem wd_1567 : Cond.code yX10_six cX10_six 7 (some .int) ∈ tbG := tw 1567 (by decide +kernel) rfl
theorem wd_1565 : Cond.methodLink "SunnyPansModel" 127 yX10_six ∈ tbG := tw 1565 (by decide +kernel) rfl
theorem wd_1566 : Cond.static yX10_six ∈ tbG := tw 1566 (by decide +kernel) rfl
theorem cs_SunnyPansModel_127 : zCS "SunnyPansModel" 127 yX10_six cX10_six 7 (some .int) 6 := zCS_of wd_1565 wd_1566 wd_111 wd_1567 (by decide +kernel)
theorem wd_1557 : Cond.code yX10_isWord cX10_isWord 7 (some .boolean) ∈ tbG := tw 1557 (by decide +kernel) rfl
theorem wd_1554 : Cond.methodLink "SunnyPansModel" 131 yX10_isWord ∈ tbG := tw 1554 (by decide +kernel) rfl
theorem wd_1556 : Cond.instanceMethod yX10_isWord ∈ tbG := tw 1556 (by decide +kernel) rfl
theorem wd_49 : Cond.selects "SunnyPansModel" yX10_isWord yX10_isWord ∈ tbG := tw 49 (by decide +kernel) rfl
theorem cv_SunnyPansModel_131 : zCV "SunnyPansModel" 131 "SunnyPansModel" yX10_isWord cX10_isWord 7 (some .boolean) 6 := zCV_of wd_1554 wd_1556 wd_49 wd_111 wd_1557 (by decide +kernel)
theorem wd_1575 : Cond.code yX10_skipWord cX10_skipWord 1 none ∈ tbG := tw 1575 (by decide +kernel) rfl
theorem wd_1572 : Cond.methodLink "SunnyPansModel" 135 yX10_skipWord ∈ tbG := tw 1572 (by decide +kernel) rfl
theorem wd_1574 : Cond.instanceMethod yX10_skipWord ∈ tbG := tw 1574 (by decide +kernel) rfl
theorem wd_52 : Cond.selects "SunnyPansModel" yX10_skipWord yX10_skipWord ∈ tbG := tw 52 (by decide +kernel) rfl
theorem cv_SunnyPansModel_135 : zCV "SunnyPansModel" 135 "SunnyPansModel" yX10_skipWord cX10_skipWord 1 none 0 := zCV_of wd_1572 wd_1574 wd_52 wd_111 wd_1575 (by decide +kernel)
theorem fp_SunnyPansModel_88 : zPutI "SunnyPansModel" 88 10 11 2 := ⟨zc_10, fg_SunnyPansModel_88, ⟨RX10, TX10, 40, rfl, rfl, by decide +kernel⟩, fun _ _ _ _ _ _ _ => ⟨_, rfl, Nat.le_of_ble_eq_true rfl, rfl⟩⟩
theorem wd_1401 : Cond.fieldLink "SunnyPansModel" 138 "SunnyPansModel" "clauses" "I" ∈ tbG := tw 1401 (by decide +kernel) rfl
theorem fg_SunnyPansModel_138 : zGetI "SunnyPansModel" 138 10 11 7 := ⟨RX10, TX10, 40, rfl, by decide, uw_10, wd_1401, fun _ _ _ _ _ _ => ⟨_, rfl, rfl⟩⟩
theorem fp_SunnyPansModel_138 : zPutI "SunnyPansModel" 138 10 11 7 := ⟨zc_10, fg_SunnyPansModel_138, ⟨RX10, TX10, 40, rfl, rfl, by decide +kernel⟩, fun _ _ _ _ _ _ _ => ⟨_, rfl, Nat.le_of_ble_eq_true rfl, rfl⟩⟩
theorem wd_1402 : Cond.fieldLink "SunnyPansModel" 141 "SunnyPansModel" "open" "I" ∈ tbG := tw 1402 (by decide +kernel) rfl
theorem fg_SunnyPansModel_141 : zGetI "SunnyPansModel" 141 10 11 8 := ⟨RX10, TX10, 40, rfl, by decide, uw_10, wd_1402, fun _ _ _ _ _ _ => ⟨_, rfl, rfl⟩⟩
theorem fp_SunnyPansModel_141 : zPutI "SunnyPansModel" 141 10 11 8 := ⟨zc_10, fg_SunnyPansModel_141, ⟨RX10, TX10, 40, rfl, rfl, by decide +kernel⟩, fun _ _ _ _ _ _ _ => ⟨_, rfl, Nat.le_of_ble_eq_true rfl, rfl⟩⟩
theorem wd_1397 : Cond.fieldLink "SunnyPansModel" 9 "SunnyPansModel" "place" "I" ∈ tbG := tw 1397 (by decide +kernel) rfl
theorem fg_SunnyPansModel_9 : zGetI "SunnyPansModel" 9 10 11 3 := ⟨RX10, TX10, 40, rfl, by decide, uw_10, wd_1397, fun _ _ _ _ _ _ => ⟨_, rfl, rfl⟩⟩
theorem fp_SunnyPansModel_9 : zPutI "SunnyPansModel" 9 10 11 3 := ⟨zc_10, fg_SunnyPansModel_9, ⟨RX10, TX10, 40, rfl, rfl, by decide +kernel⟩, fun _ _ _ _ _ _ _ => ⟨_, rfl, Nat.le_of_ble_eq_true rfl, rfl⟩⟩
theorem kb_19 : (Int8.ofInt (19)).toInt32 = (19 : Int32) := by decide +kernel
theorem kb_26 : (Int8.ofInt (26)).toInt32 = (26 : Int32) := by decide +kernel
theorem kb_15 : (Int8.ofInt (15)).toInt32 = (15 : Int32) := by decide +kernel
theorem kb_21 : (Int8.ofInt (21)).toInt32 = (21 : Int32) := by decide +kernel
theorem kb_18 : (Int8.ofInt (18)).toInt32 = (18 : Int32) := by decide +kernel
theorem kb_14 : (Int8.ofInt (14)).toInt32 = (14 : Int32) := by decide +kernel
theorem wd_1587 : Cond.code yX10_sign cX10_sign 2 none ∈ tbG := tw 1587 (by decide +kernel) rfl
theorem wd_1584 : Cond.methodLink "SunnyPansModel" 151 yX10_sign ∈ tbG := tw 1584 (by decide +kernel) rfl
theorem wd_1586 : Cond.instanceMethod yX10_sign ∈ tbG := tw 1586 (by decide +kernel) rfl
theorem wd_54 : Cond.selects "SunnyPansModel" yX10_sign yX10_sign ∈ tbG := tw 54 (by decide +kernel) rfl
theorem cv_SunnyPansModel_151 : zCV "SunnyPansModel" 151 "SunnyPansModel" yX10_sign cX10_sign 2 none 1 := zCV_of wd_1584 wd_1586 wd_54 wd_111 wd_1587 (by decide +kernel)
theorem ks_999 : (Int16.ofInt (999)).toInt32 = (999 : Int32) := by decide +kernel
theorem wd_1579 : Cond.code yX10_number cX10_number 5 (some .int) ∈ tbG := tw 1579 (by decide +kernel) rfl
theorem wd_1576 : Cond.methodLink "SunnyPansModel" 147 yX10_number ∈ tbG := tw 1576 (by decide +kernel) rfl
theorem wd_1578 : Cond.instanceMethod yX10_number ∈ tbG := tw 1578 (by decide +kernel) rfl
theorem wd_53 : Cond.selects "SunnyPansModel" yX10_number yX10_number ∈ tbG := tw 53 (by decide +kernel) rfl
theorem cv_SunnyPansModel_147 : zCV "SunnyPansModel" 147 "SunnyPansModel" yX10_number cX10_number 5 (some .int) 2 := zCV_of wd_1576 wd_1578 wd_53 wd_111 wd_1579 (by decide +kernel)
theorem za_30 : zArrR 30 10 4 1 1 := ⟨by decide, fun _ _ _ _ _ _ => rfl⟩
theorem teM_30 {n k : Nat} {i : Int32} (h : zT shM n k 30) (hi : vp_in i 10) : zT shM n (k + (1 + 1 * i.toNatClampNeg)) 27 := by
  have hlt : i.toNatClampNeg < 10 := Nat.not_le.mp fun q => hi (Or.inr q)
  have h2 : k + 11 ≤ n := h.2.2
  exact ⟨shM_e (by decide) (by decide +kernel) k h.1 _ hlt, by omega, by show _ + 1 ≤ n; omega⟩
theorem wd_1553 : Cond.code yX10_kindHere cX10_kindHere 1 (some .int) ∈ tbG := tw 1553 (by decide +kernel) rfl
theorem wd_1550 : Cond.methodLink "SunnyPansModel" 144 yX10_kindHere ∈ tbG := tw 1550 (by decide +kernel) rfl
theorem wd_1552 : Cond.instanceMethod yX10_kindHere ∈ tbG := tw 1552 (by decide +kernel) rfl
theorem wd_48 : Cond.selects "SunnyPansModel" yX10_kindHere yX10_kindHere ∈ tbG := tw 48 (by decide +kernel) rfl
theorem cv_SunnyPansModel_144 : zCV "SunnyPansModel" 144 "SunnyPansModel" yX10_kindHere cX10_kindHere 1 (some .int) 0 := zCV_of wd_1550 wd_1552 wd_48 wd_111 wd_1553 (by decide +kernel)
theorem wd_1413 : Cond.fieldLink "SunnyPansModel" 40 "SunnyPansModel" "readLaw" "[[I" ∈ tbG := tw 1413 (by decide +kernel) rfl
theorem fg_SunnyPansModel_40 : zGetR "SunnyPansModel" 40 10 11 19 189 := ⟨RX10, TX10, 40, rfl, by decide, uw_10, wd_1413, fun _ _ _ _ _ _ => ⟨_, rfl, rfl⟩⟩
theorem tfM_11_189 {n k : Nat} (h : zT shM n k 11) : zT shM n (k + 189) 31 := zT_off h (shM_f (by decide) (by decide +kernel)) (by decide) (by decide)
theorem wd_1411 : Cond.fieldLink "SunnyPansModel" 187 "SunnyPansModel" "readLawMany" "I" ∈ tbG := tw 1411 (by decide +kernel) rfl
theorem fg_SunnyPansModel_187 : zGetI "SunnyPansModel" 187 10 11 17 := ⟨RX10, TX10, 40, rfl, by decide, uw_10, wd_1411, fun _ _ _ _ _ _ => ⟨_, rfl, rfl⟩⟩
theorem za_31 : zArrR 31 160 4 1 1 := ⟨by decide, fun _ _ _ _ _ _ => rfl⟩
theorem teM_31 {n k : Nat} {i : Int32} (h : zT shM n k 31) (hi : vp_in i 160) : zT shM n (k + (1 + 1 * i.toNatClampNeg)) 27 := by
  have hlt : i.toNatClampNeg < 160 := Nat.not_le.mp fun q => hi (Or.inr q)
  have h2 : k + 161 ≤ n := h.2.2
  exact ⟨shM_e (by decide) (by decide +kernel) k h.1 _ hlt, by omega, by show _ + 1 ≤ n; omega⟩
theorem fp_SunnyPansModel_187 : zPutI "SunnyPansModel" 187 10 11 17 := ⟨zc_10, fg_SunnyPansModel_187, ⟨RX10, TX10, 40, rfl, rfl, by decide +kernel⟩, fun _ _ _ _ _ _ _ => ⟨_, rfl, Nat.le_of_ble_eq_true rfl, rfl⟩⟩
theorem wd_1623 : Cond.code yX10_takes cX10_takes 8 (some .boolean) ∈ tbG := tw 1623 (by decide +kernel) rfl
theorem wd_1620 : Cond.methodLink "SunnyPansModel" 202 yX10_takes ∈ tbG := tw 1620 (by decide +kernel) rfl
theorem wd_1622 : Cond.instanceMethod yX10_takes ∈ tbG := tw 1622 (by decide +kernel) rfl
theorem wd_62 : Cond.selects "SunnyPansModel" yX10_takes yX10_takes ∈ tbG := tw 62 (by decide +kernel) rfl
theorem cv_SunnyPansModel_202 : zCV "SunnyPansModel" 202 "SunnyPansModel" yX10_takes cX10_takes 8 (some .boolean) 6 := zCV_of wd_1620 wd_1622 wd_62 wd_111 wd_1623 (by decide +kernel)
theorem kb_25 : (Int8.ofInt (25)).toInt32 = (25 : Int32) := by decide +kernel
theorem kb_23 : (Int8.ofInt (23)).toInt32 = (23 : Int32) := by decide +kernel
theorem wd_1619 : Cond.code yX10_knownHere cX10_knownHere 1 (some .int) ∈ tbG := tw 1619 (by decide +kernel) rfl
theorem wd_1616 : Cond.methodLink "SunnyPansModel" 212 yX10_knownHere ∈ tbG := tw 1616 (by decide +kernel) rfl
theorem wd_1618 : Cond.instanceMethod yX10_knownHere ∈ tbG := tw 1618 (by decide +kernel) rfl
theorem wd_61 : Cond.selects "SunnyPansModel" yX10_knownHere yX10_knownHere ∈ tbG := tw 61 (by decide +kernel) rfl
theorem cv_SunnyPansModel_212 : zCV "SunnyPansModel" 212 "SunnyPansModel" yX10_knownHere cX10_knownHere 1 (some .int) 0 := zCV_of wd_1616 wd_1618 wd_61 wd_111 wd_1619 (by decide +kernel)
theorem wd_1615 : Cond.code yX10_notes cX10_notes 3 none ∈ tbG := tw 1615 (by decide +kernel) rfl
theorem wd_1612 : Cond.methodLink "SunnyPansModel" 196 yX10_notes ∈ tbG := tw 1612 (by decide +kernel) rfl
theorem wd_1614 : Cond.instanceMethod yX10_notes ∈ tbG := tw 1614 (by decide +kernel) rfl
theorem wd_60 : Cond.selects "SunnyPansModel" yX10_notes yX10_notes ∈ tbG := tw 60 (by decide +kernel) rfl
theorem cv_SunnyPansModel_196 : zCV "SunnyPansModel" 196 "SunnyPansModel" yX10_notes cX10_notes 3 none 2 := zCV_of wd_1612 wd_1614 wd_60 wd_111 wd_1615 (by decide +kernel)
theorem wd_1611 : Cond.code yX10_opensOne cX10_opensOne 1 (some .boolean) ∈ tbG := tw 1611 (by decide +kernel) rfl
theorem wd_1608 : Cond.methodLink "SunnyPansModel" 205 yX10_opensOne ∈ tbG := tw 1608 (by decide +kernel) rfl
theorem wd_1610 : Cond.instanceMethod yX10_opensOne ∈ tbG := tw 1610 (by decide +kernel) rfl
theorem wd_59 : Cond.selects "SunnyPansModel" yX10_opensOne yX10_opensOne ∈ tbG := tw 59 (by decide +kernel) rfl
theorem cv_SunnyPansModel_205 : zCV "SunnyPansModel" 205 "SunnyPansModel" yX10_opensOne cX10_opensOne 1 (some .boolean) 0 := zCV_of wd_1608 wd_1610 wd_59 wd_111 wd_1611 (by decide +kernel)
theorem wd_1412 : Cond.fieldLink "SunnyPansModel" 37 "SunnyPansModel" "law" "[[I" ∈ tbG := tw 1412 (by decide +kernel) rfl
theorem fg_SunnyPansModel_37 : zGetR "SunnyPansModel" 37 10 11 18 28 := ⟨RX10, TX10, 40, rfl, by decide, uw_10, wd_1412, fun _ _ _ _ _ _ => ⟨_, rfl, rfl⟩⟩
theorem tfM_11_28 {n k : Nat} (h : zT shM n k 11) : zT shM n (k + 28) 31 := zT_off h (shM_f (by decide) (by decide +kernel)) (by decide) (by decide)
theorem wd_1690 : Cond.code yX10_more cX10_more 2 (some .int) ∈ tbG := tw 1690 (by decide +kernel) rfl
theorem wd_1688 : Cond.methodLink "SunnyPansModel" 218 yX10_more ∈ tbG := tw 1688 (by decide +kernel) rfl
theorem wd_1689 : Cond.static yX10_more ∈ tbG := tw 1689 (by decide +kernel) rfl
theorem cs_SunnyPansModel_218 : zCS "SunnyPansModel" 218 yX10_more cX10_more 2 (some .int) 2 := zCS_of wd_1688 wd_1689 wd_111 wd_1690 (by decide +kernel)
theorem wd_1693 : Cond.code yX10_less cX10_less 2 (some .int) ∈ tbG := tw 1693 (by decide +kernel) rfl
theorem wd_1691 : Cond.methodLink "SunnyPansModel" 215 yX10_less ∈ tbG := tw 1691 (by decide +kernel) rfl
theorem wd_1692 : Cond.static yX10_less ∈ tbG := tw 1692 (by decide +kernel) rfl
theorem cs_SunnyPansModel_215 : zCS "SunnyPansModel" 215 yX10_less cX10_less 2 (some .int) 2 := zCS_of wd_1691 wd_1692 wd_111 wd_1693 (by decide +kernel)
theorem wd_1416 : Cond.fieldLink "SunnyPansModel" 49 "SunnyPansModel" "stack" "[I" ∈ tbG := tw 1416 (by decide +kernel) rfl
theorem fg_SunnyPansModel_49 : zGetR "SunnyPansModel" 49 10 11 22 368 := ⟨RX10, TX10, 40, rfl, by decide, uw_10, wd_1416, fun _ _ _ _ _ _ => ⟨_, rfl, rfl⟩⟩
theorem tfM_11_368 {n k : Nat} (h : zT shM n k 11) : zT shM n (k + 368) 33 := zT_off h (shM_f (by decide) (by decide +kernel)) (by decide) (by decide)
theorem za_33 : zArrI 33 160 := fun _ _ _ _ _ _ => rfl
theorem wd_1737 : Cond.code yX10_by cX10_by 3 (some .int) ∈ tbG := tw 1737 (by decide +kernel) rfl
theorem wd_1735 : Cond.methodLink "SunnyPansModel" 221 yX10_by ∈ tbG := tw 1735 (by decide +kernel) rfl
theorem wd_1736 : Cond.static yX10_by ∈ tbG := tw 1736 (by decide +kernel) rfl
theorem cs_SunnyPansModel_221 : zCS "SunnyPansModel" 221 yX10_by cX10_by 3 (some .int) 3 := zCS_of wd_1735 wd_1736 wd_111 wd_1737 (by decide +kernel)
theorem wd_1417 : Cond.fieldLink "SunnyPansModel" 52 "SunnyPansModel" "known" "[I" ∈ tbG := tw 1417 (by decide +kernel) rfl
theorem fg_SunnyPansModel_52 : zGetR "SunnyPansModel" 52 10 11 23 369 := ⟨RX10, TX10, 40, rfl, by decide, uw_10, wd_1417, fun _ _ _ _ _ _ => ⟨_, rfl, rfl⟩⟩
theorem tfM_11_369 {n k : Nat} (h : zT shM n k 11) : zT shM n (k + 369) 26 := zT_off h (shM_f (by decide) (by decide +kernel)) (by decide) (by decide)
theorem kb_11 : (Int8.ofInt (11)).toInt32 = (11 : Int32) := by decide +kernel
theorem wd_1419 : Cond.fieldLink "SunnyPansModel" 228 "SunnyPansModel" "steps" "I" ∈ tbG := tw 1419 (by decide +kernel) rfl
theorem fg_SunnyPansModel_228 : zGetI "SunnyPansModel" 228 10 11 25 := ⟨RX10, TX10, 40, rfl, by decide, uw_10, wd_1419, fun _ _ _ _ _ _ => ⟨_, rfl, rfl⟩⟩
theorem za_35 : zArrI 35 4 := fun _ _ _ _ _ _ => rfl
theorem wd_1415 : Cond.fieldLink "SunnyPansModel" 46 "SunnyPansModel" "readLine" "[[I" ∈ tbG := tw 1415 (by decide +kernel) rfl
theorem fg_SunnyPansModel_46 : zGetR "SunnyPansModel" 46 10 11 21 359 := ⟨RX10, TX10, 40, rfl, by decide, uw_10, wd_1415, fun _ _ _ _ _ _ => ⟨_, rfl, rfl⟩⟩
theorem tfM_11_359 {n k : Nat} (h : zT shM n k 11) : zT shM n (k + 359) 32 := zT_off h (shM_f (by decide) (by decide +kernel)) (by decide) (by decide)
theorem wd_1414 : Cond.fieldLink "SunnyPansModel" 43 "SunnyPansModel" "line" "[[I" ∈ tbG := tw 1414 (by decide +kernel) rfl
theorem fg_SunnyPansModel_43 : zGetR "SunnyPansModel" 43 10 11 20 350 := ⟨RX10, TX10, 40, rfl, by decide, uw_10, wd_1414, fun _ _ _ _ _ _ => ⟨_, rfl, rfl⟩⟩
theorem tfM_11_350 {n k : Nat} (h : zT shM n k 11) : zT shM n (k + 350) 32 := zT_off h (shM_f (by decide) (by decide +kernel)) (by decide) (by decide)
theorem wd_1687 : Cond.code yX10_isWithin cX10_isWithin 3 (some .boolean) ∈ tbG := tw 1687 (by decide +kernel) rfl
theorem wd_1684 : Cond.methodLink "SunnyPansModel" 237 yX10_isWithin ∈ tbG := tw 1684 (by decide +kernel) rfl
theorem wd_1686 : Cond.instanceMethod yX10_isWithin ∈ tbG := tw 1686 (by decide +kernel) rfl
theorem wd_72 : Cond.selects "SunnyPansModel" yX10_isWithin yX10_isWithin ∈ tbG := tw 72 (by decide +kernel) rfl
theorem cv_SunnyPansModel_237 : zCV "SunnyPansModel" 237 "SunnyPansModel" yX10_isWithin cX10_isWithin 3 (some .boolean) 2 := zCV_of wd_1684 wd_1686 wd_72 wd_111 wd_1687 (by decide +kernel)
theorem wd_1716 : Cond.code yX10_high cX10_high 1 (some .int) ∈ tbG := tw 1716 (by decide +kernel) rfl
theorem wd_1714 : Cond.methodLink "SunnyPansModel" 241 yX10_high ∈ tbG := tw 1714 (by decide +kernel) rfl
theorem wd_1715 : Cond.static yX10_high ∈ tbG := tw 1715 (by decide +kernel) rfl
theorem cs_SunnyPansModel_241 : zCS "SunnyPansModel" 241 yX10_high cX10_high 1 (some .int) 1 := zCS_of wd_1714 wd_1715 wd_111 wd_1716 (by decide +kernel)
theorem wd_1713 : Cond.code yX10_lengthOf cX10_lengthOf 3 (some .int) ∈ tbG := tw 1713 (by decide +kernel) rfl
theorem wd_1710 : Cond.methodLink "SunnyPansModel" 244 yX10_lengthOf ∈ tbG := tw 1710 (by decide +kernel) rfl
theorem wd_1712 : Cond.instanceMethod yX10_lengthOf ∈ tbG := tw 1712 (by decide +kernel) rfl
theorem wd_77 : Cond.selects "SunnyPansModel" yX10_lengthOf yX10_lengthOf ∈ tbG := tw 77 (by decide +kernel) rfl
theorem cv_SunnyPansModel_244 : zCV "SunnyPansModel" 244 "SunnyPansModel" yX10_lengthOf cX10_lengthOf 3 (some .int) 2 := zCV_of wd_1710 wd_1712 wd_77 wd_111 wd_1713 (by decide +kernel)
theorem wd_1719 : Cond.code yX10_eastOf cX10_eastOf 1 (some .int) ∈ tbG := tw 1719 (by decide +kernel) rfl
theorem wd_1717 : Cond.methodLink "SunnyPansModel" 247 yX10_eastOf ∈ tbG := tw 1717 (by decide +kernel) rfl
theorem wd_1718 : Cond.static yX10_eastOf ∈ tbG := tw 1718 (by decide +kernel) rfl
theorem cs_SunnyPansModel_247 : zCS "SunnyPansModel" 247 yX10_eastOf cX10_eastOf 1 (some .int) 1 := zCS_of wd_1717 wd_1718 wd_111 wd_1719 (by decide +kernel)
theorem wd_1722 : Cond.code yX10_southOf cX10_southOf 1 (some .int) ∈ tbG := tw 1722 (by decide +kernel) rfl
theorem wd_1720 : Cond.methodLink "SunnyPansModel" 250 yX10_southOf ∈ tbG := tw 1720 (by decide +kernel) rfl
theorem wd_1721 : Cond.static yX10_southOf ∈ tbG := tw 1721 (by decide +kernel) rfl
theorem cs_SunnyPansModel_250 : zCS "SunnyPansModel" 250 yX10_southOf cX10_southOf 1 (some .int) 1 := zCS_of wd_1720 wd_1721 wd_111 wd_1722 (by decide +kernel)
theorem wd_1709 : Cond.code yX10_covers cX10_covers 8 (some .boolean) ∈ tbG := tw 1709 (by decide +kernel) rfl
theorem wd_1706 : Cond.methodLink "SunnyPansModel" 253 yX10_covers ∈ tbG := tw 1706 (by decide +kernel) rfl
theorem wd_1708 : Cond.instanceMethod yX10_covers ∈ tbG := tw 1708 (by decide +kernel) rfl
theorem wd_76 : Cond.selects "SunnyPansModel" yX10_covers yX10_covers ∈ tbG := tw 76 (by decide +kernel) rfl
theorem cv_SunnyPansModel_253 : zCV "SunnyPansModel" 253 "SunnyPansModel" yX10_covers cX10_covers 8 (some .boolean) 4 := zCV_of wd_1706 wd_1708 wd_76 wd_111 wd_1709 (by decide +kernel)
theorem wd_1734 : Cond.code yX10_byLaw cX10_byLaw 3 (some .int) ∈ tbG := tw 1734 (by decide +kernel) rfl
theorem wd_1731 : Cond.methodLink "SunnyPansModel" 257 yX10_byLaw ∈ tbG := tw 1731 (by decide +kernel) rfl
theorem wd_1733 : Cond.instanceMethod yX10_byLaw ∈ tbG := tw 1733 (by decide +kernel) rfl
theorem wd_80 : Cond.selects "SunnyPansModel" yX10_byLaw yX10_byLaw ∈ tbG := tw 80 (by decide +kernel) rfl
theorem cv_SunnyPansModel_257 : zCV "SunnyPansModel" 257 "SunnyPansModel" yX10_byLaw cX10_byLaw 3 (some .int) 0 := zCV_of wd_1731 wd_1733 wd_80 wd_111 wd_1734 (by decide +kernel)
theorem wd_1730 : Cond.code yX10_driesBy cX10_driesBy 9 (some .int) ∈ tbG := tw 1730 (by decide +kernel) rfl
theorem wd_1727 : Cond.methodLink "SunnyPansModel" 260 yX10_driesBy ∈ tbG := tw 1727 (by decide +kernel) rfl
theorem wd_1729 : Cond.instanceMethod yX10_driesBy ∈ tbG := tw 1729 (by decide +kernel) rfl
theorem wd_79 : Cond.selects "SunnyPansModel" yX10_driesBy yX10_driesBy ∈ tbG := tw 79 (by decide +kernel) rfl
theorem cv_SunnyPansModel_260 : zCV "SunnyPansModel" 260 "SunnyPansModel" yX10_driesBy cX10_driesBy 9 (some .int) 8 := zCV_of wd_1727 wd_1729 wd_79 wd_111 wd_1730 (by decide +kernel)
theorem ks_193 : (Int16.ofInt (193)).toInt32 = (193 : Int32) := by decide +kernel
theorem wd_1705 : Cond.code yX10_isShade cX10_isShade 5 (some .boolean) ∈ tbG := tw 1705 (by decide +kernel) rfl
theorem wd_1702 : Cond.methodLink "SunnyPansModel" 264 yX10_isShade ∈ tbG := tw 1702 (by decide +kernel) rfl
theorem wd_1704 : Cond.instanceMethod yX10_isShade ∈ tbG := tw 1704 (by decide +kernel) rfl
theorem wd_75 : Cond.selects "SunnyPansModel" yX10_isShade yX10_isShade ∈ tbG := tw 75 (by decide +kernel) rfl
theorem cv_SunnyPansModel_264 : zCV "SunnyPansModel" 264 "SunnyPansModel" yX10_isShade cX10_isShade 5 (some .boolean) 3 := zCV_of wd_1702 wd_1704 wd_75 wd_111 wd_1705 (by decide +kernel)
theorem wd_1726 : Cond.code yX10_driesOf cX10_driesOf 4 (some .int) ∈ tbG := tw 1726 (by decide +kernel) rfl
theorem wd_1723 : Cond.methodLink "SunnyPansModel" 268 yX10_driesOf ∈ tbG := tw 1723 (by decide +kernel) rfl
theorem wd_1725 : Cond.instanceMethod yX10_driesOf ∈ tbG := tw 1725 (by decide +kernel) rfl
theorem wd_78 : Cond.selects "SunnyPansModel" yX10_driesOf yX10_driesOf ∈ tbG := tw 78 (by decide +kernel) rfl
theorem cv_SunnyPansModel_268 : zCV "SunnyPansModel" 268 "SunnyPansModel" yX10_driesOf cX10_driesOf 4 (some .int) 3 := zCV_of wd_1723 wd_1725 wd_78 wd_111 wd_1726 (by decide +kernel)
theorem wd_1741 : Cond.code yX10_nextHour cX10_nextHour 2 none ∈ tbG := tw 1741 (by decide +kernel) rfl
theorem wd_1738 : Cond.methodLink "SunnyPansModel" 276 yX10_nextHour ∈ tbG := tw 1738 (by decide +kernel) rfl
theorem wd_1740 : Cond.instanceMethod yX10_nextHour ∈ tbG := tw 1740 (by decide +kernel) rfl
theorem wd_81 : Cond.selects "SunnyPansModel" yX10_nextHour yX10_nextHour ∈ tbG := tw 81 (by decide +kernel) rfl
theorem cv_SunnyPansModel_276 : zCV "SunnyPansModel" 276 "SunnyPansModel" yX10_nextHour cX10_nextHour 2 none 1 := zCV_of wd_1738 wd_1740 wd_81 wd_111 wd_1741 (by decide +kernel)
theorem wd_1701 : Cond.code yX10_driesOne cX10_driesOne 3 none ∈ tbG := tw 1701 (by decide +kernel) rfl
theorem wd_1698 : Cond.methodLink "SunnyPansModel" 272 yX10_driesOne ∈ tbG := tw 1698 (by decide +kernel) rfl
theorem wd_1700 : Cond.instanceMethod yX10_driesOne ∈ tbG := tw 1700 (by decide +kernel) rfl
theorem wd_74 : Cond.selects "SunnyPansModel" yX10_driesOne yX10_driesOne ∈ tbG := tw 74 (by decide +kernel) rfl
theorem cv_SunnyPansModel_272 : zCV "SunnyPansModel" 272 "SunnyPansModel" yX10_driesOne cX10_driesOne 3 none 2 := zCV_of wd_1698 wd_1700 wd_74 wd_111 wd_1701 (by decide +kernel)
theorem wd_1672 : Cond.code yX10_isDry cX10_isDry 2 (some .boolean) ∈ tbG := tw 1672 (by decide +kernel) rfl
theorem wd_1670 : Cond.methodLink "SunnyPansModel" 280 yX10_isDry ∈ tbG := tw 1670 (by decide +kernel) rfl
theorem wd_1671 : Cond.static yX10_isDry ∈ tbG := tw 1671 (by decide +kernel) rfl
theorem cs_SunnyPansModel_280 : zCS "SunnyPansModel" 280 yX10_isDry cX10_isDry 2 (some .boolean) 2 := zCS_of wd_1670 wd_1671 wd_111 wd_1672 (by decide +kernel)
theorem wd_1683 : Cond.code yX10_isHere cX10_isHere 2 (some .boolean) ∈ tbG := tw 1683 (by decide +kernel) rfl
theorem wd_1680 : Cond.methodLink "SunnyPansModel" 284 yX10_isHere ∈ tbG := tw 1680 (by decide +kernel) rfl
theorem wd_1682 : Cond.instanceMethod yX10_isHere ∈ tbG := tw 1682 (by decide +kernel) rfl
theorem wd_71 : Cond.selects "SunnyPansModel" yX10_isHere yX10_isHere ∈ tbG := tw 71 (by decide +kernel) rfl
theorem cv_SunnyPansModel_284 : zCV "SunnyPansModel" 284 "SunnyPansModel" yX10_isHere cX10_isHere 2 (some .boolean) 1 := zCV_of wd_1680 wd_1682 wd_71 wd_111 wd_1683 (by decide +kernel)
theorem ks_194 : (Int16.ofInt (194)).toInt32 = (194 : Int32) := by decide +kernel
theorem wd_1697 : Cond.code yX10_hourEnds cX10_hourEnds 3 none ∈ tbG := tw 1697 (by decide +kernel) rfl
theorem wd_1694 : Cond.methodLink "SunnyPansModel" 299 yX10_hourEnds ∈ tbG := tw 1694 (by decide +kernel) rfl
theorem wd_1696 : Cond.instanceMethod yX10_hourEnds ∈ tbG := tw 1696 (by decide +kernel) rfl
theorem wd_73 : Cond.selects "SunnyPansModel" yX10_hourEnds yX10_hourEnds ∈ tbG := tw 73 (by decide +kernel) rfl
theorem cv_SunnyPansModel_299 : zCV "SunnyPansModel" 299 "SunnyPansModel" yX10_hourEnds cX10_hourEnds 3 none 1 := zCV_of wd_1694 wd_1696 wd_73 wd_111 wd_1697 (by decide +kernel)
theorem wd_1679 : Cond.code yX10_rains cX10_rains 4 none ∈ tbG := tw 1679 (by decide +kernel) rfl
theorem wd_1676 : Cond.methodLink "SunnyPansModel" 296 yX10_rains ∈ tbG := tw 1676 (by decide +kernel) rfl
theorem wd_1678 : Cond.instanceMethod yX10_rains ∈ tbG := tw 1678 (by decide +kernel) rfl
theorem wd_70 : Cond.selects "SunnyPansModel" yX10_rains yX10_rains ∈ tbG := tw 70 (by decide +kernel) rfl
theorem cv_SunnyPansModel_296 : zCV "SunnyPansModel" 296 "SunnyPansModel" yX10_rains cX10_rains 4 none 2 := zCV_of wd_1676 wd_1678 wd_70 wd_111 wd_1679 (by decide +kernel)
theorem wd_1675 : Cond.code yX10_carts cX10_carts 2 (some .boolean) ∈ tbG := tw 1675 (by decide +kernel) rfl
theorem wd_1673 : Cond.methodLink "SunnyPansModel" 293 yX10_carts ∈ tbG := tw 1673 (by decide +kernel) rfl
theorem wd_1674 : Cond.static yX10_carts ∈ tbG := tw 1674 (by decide +kernel) rfl
theorem cs_SunnyPansModel_293 : zCS "SunnyPansModel" 293 yX10_carts cX10_carts 2 (some .boolean) 2 := zCS_of wd_1673 wd_1674 wd_111 wd_1675 (by decide +kernel)
theorem wd_1669 : Cond.code yX10_canRake cX10_canRake 4 (some .boolean) ∈ tbG := tw 1669 (by decide +kernel) rfl
theorem wd_1666 : Cond.methodLink "SunnyPansModel" 290 yX10_canRake ∈ tbG := tw 1666 (by decide +kernel) rfl
theorem wd_1668 : Cond.instanceMethod yX10_canRake ∈ tbG := tw 1668 (by decide +kernel) rfl
theorem wd_69 : Cond.selects "SunnyPansModel" yX10_canRake yX10_canRake ∈ tbG := tw 69 (by decide +kernel) rfl
theorem cv_SunnyPansModel_290 : zCV "SunnyPansModel" 290 "SunnyPansModel" yX10_canRake cX10_canRake 4 (some .boolean) 3 := zCV_of wd_1666 wd_1668 wd_69 wd_111 wd_1669 (by decide +kernel)
theorem wd_1665 : Cond.code yX10_lets cX10_lets 3 (some .boolean) ∈ tbG := tw 1665 (by decide +kernel) rfl
theorem wd_1663 : Cond.methodLink "SunnyPansModel" 287 yX10_lets ∈ tbG := tw 1663 (by decide +kernel) rfl
theorem wd_1664 : Cond.static yX10_lets ∈ tbG := tw 1664 (by decide +kernel) rfl
theorem cs_SunnyPansModel_287 : zCS "SunnyPansModel" 287 yX10_lets cX10_lets 3 (some .boolean) 3 := zCS_of wd_1663 wd_1664 wd_111 wd_1665 (by decide +kernel)
theorem wd_1418 : Cond.fieldLink "SunnyPansModel" 55 "SunnyPansModel" "step" "[[I" ∈ tbG := tw 1418 (by decide +kernel) rfl
theorem fg_SunnyPansModel_55 : zGetR "SunnyPansModel" 55 10 11 24 370 := ⟨RX10, TX10, 40, rfl, by decide, uw_10, wd_1418, fun _ _ _ _ _ _ => ⟨_, rfl, rfl⟩⟩
theorem tfM_11_370 {n k : Nat} (h : zT shM n k 11) : zT shM n (k + 370) 34 := zT_off h (shM_f (by decide) (by decide +kernel)) (by decide) (by decide)
theorem za_34 : zArrR 34 80 4 1 1 := ⟨by decide, fun _ _ _ _ _ _ => rfl⟩
theorem teM_34 {n k : Nat} {i : Int32} (h : zT shM n k 34) (hi : vp_in i 80) : zT shM n (k + (1 + 1 * i.toNatClampNeg)) 35 := by
  have hlt : i.toNatClampNeg < 80 := Nat.not_le.mp fun q => hi (Or.inr q)
  have h2 : k + 81 ≤ n := h.2.2
  exact ⟨shM_e (by decide) (by decide +kernel) k h.1 _ hlt, by omega, by show _ + 1 ≤ n; omega⟩
theorem wd_1430 : Cond.fieldLink "SunnyPansModel" 312 "SunnyPansModel" "doneSteps" "I" ∈ tbG := tw 1430 (by decide +kernel) rfl
theorem fg_SunnyPansModel_312 : zGetI "SunnyPansModel" 312 10 11 36 := ⟨RX10, TX10, 40, rfl, by decide, uw_10, wd_1430, fun _ _ _ _ _ _ => ⟨_, rfl, rfl⟩⟩
theorem fp_SunnyPansModel_312 : zPutI "SunnyPansModel" 312 10 11 36 := ⟨zc_10, fg_SunnyPansModel_312, ⟨RX10, TX10, 40, rfl, rfl, by decide +kernel⟩, fun _ _ _ _ _ _ _ => ⟨_, rfl, Nat.le_of_ble_eq_true rfl, rfl⟩⟩
theorem wd_1429 : Cond.fieldLink "SunnyPansModel" 302 "SunnyPansModel" "begun" "I" ∈ tbG := tw 1429 (by decide +kernel) rfl
theorem fg_SunnyPansModel_302 : zGetI "SunnyPansModel" 302 10 11 35 := ⟨RX10, TX10, 40, rfl, by decide, uw_10, wd_1429, fun _ _ _ _ _ _ => ⟨_, rfl, rfl⟩⟩
theorem wd_1422 : Cond.fieldLink "SunnyPansModel" 64 "SunnyPansModel" "before" "[[I" ∈ tbG := tw 1422 (by decide +kernel) rfl
theorem fg_SunnyPansModel_64 : zGetR "SunnyPansModel" 64 10 11 28 453 := ⟨RX10, TX10, 40, rfl, by decide, uw_10, wd_1422, fun _ _ _ _ _ _ => ⟨_, rfl, rfl⟩⟩
theorem tfM_11_453 {n k : Nat} (h : zT shM n k 11) : zT shM n (k + 453) 37 := zT_off h (shM_f (by decide) (by decide +kernel)) (by decide) (by decide)
theorem za_37 : zArrR 37 16 4 1 1 := ⟨by decide, fun _ _ _ _ _ _ => rfl⟩
theorem teM_37 {n k : Nat} {i : Int32} (h : zT shM n k 37) (hi : vp_in i 16) : zT shM n (k + (1 + 1 * i.toNatClampNeg)) 36 := by
  have hlt : i.toNatClampNeg < 16 := Nat.not_le.mp fun q => hi (Or.inr q)
  have h2 : k + 17 ≤ n := h.2.2
  exact ⟨shM_e (by decide) (by decide +kernel) k h.1 _ hlt, by omega, by show _ + 1 ≤ n; omega⟩
theorem wd_1654 : Cond.code yX10_copies cX10_copies 3 none ∈ tbG := tw 1654 (by decide +kernel) rfl
theorem wd_1652 : Cond.methodLink "SunnyPansModel" 315 yX10_copies ∈ tbG := tw 1652 (by decide +kernel) rfl
theorem wd_1653 : Cond.static yX10_copies ∈ tbG := tw 1653 (by decide +kernel) rfl
theorem cs_SunnyPansModel_315 : zCS "SunnyPansModel" 315 yX10_copies cX10_copies 3 none 2 := zCS_of wd_1652 wd_1653 wd_111 wd_1654 (by decide +kernel)
theorem fp_SunnyPansModel_302 : zPutI "SunnyPansModel" 302 10 11 35 := ⟨zc_10, fg_SunnyPansModel_302, ⟨RX10, TX10, 40, rfl, rfl, by decide +kernel⟩, fun _ _ _ _ _ _ _ => ⟨_, rfl, Nat.le_of_ble_eq_true rfl, rfl⟩⟩
theorem wd_1760 : Cond.code yX10_dryOnes cX10_dryOnes 5 (some .int) ∈ tbG := tw 1760 (by decide +kernel) rfl
theorem wd_1757 : Cond.methodLink "SunnyPansModel" 326 yX10_dryOnes ∈ tbG := tw 1757 (by decide +kernel) rfl
theorem wd_1759 : Cond.instanceMethod yX10_dryOnes ∈ tbG := tw 1759 (by decide +kernel) rfl
theorem wd_83 : Cond.selects "SunnyPansModel" yX10_dryOnes yX10_dryOnes ∈ tbG := tw 83 (by decide +kernel) rfl
theorem cv_SunnyPansModel_326 : zCV "SunnyPansModel" 326 "SunnyPansModel" yX10_dryOnes cX10_dryOnes 5 (some .int) 2 := zCV_of wd_1757 wd_1759 wd_83 wd_111 wd_1760 (by decide +kernel)
theorem wd_1756 : Cond.code yX10_heaps cX10_heaps 3 (some .int) ∈ tbG := tw 1756 (by decide +kernel) rfl
theorem wd_1753 : Cond.methodLink "SunnyPansModel" 323 yX10_heaps ∈ tbG := tw 1753 (by decide +kernel) rfl
theorem wd_1755 : Cond.instanceMethod yX10_heaps ∈ tbG := tw 1755 (by decide +kernel) rfl
theorem wd_82 : Cond.selects "SunnyPansModel" yX10_heaps yX10_heaps ∈ tbG := tw 82 (by decide +kernel) rfl
theorem cv_SunnyPansModel_323 : zCV "SunnyPansModel" 323 "SunnyPansModel" yX10_heaps cX10_heaps 3 (some .int) 0 := zCV_of wd_1753 wd_1755 wd_82 wd_111 wd_1756 (by decide +kernel)
theorem wd_1752 : Cond.code yX10_together cX10_together 4 (some .int) ∈ tbG := tw 1752 (by decide +kernel) rfl
theorem wd_1750 : Cond.methodLink "SunnyPansModel" 319 yX10_together ∈ tbG := tw 1750 (by decide +kernel) rfl
theorem wd_1751 : Cond.static yX10_together ∈ tbG := tw 1751 (by decide +kernel) rfl
theorem cs_SunnyPansModel_319 : zCS "SunnyPansModel" 319 yX10_together cX10_together 4 (some .int) 2 := zCS_of wd_1750 wd_1751 wd_111 wd_1752 (by decide +kernel)
theorem wd_1533 : Cond.code yX10_bad cX10_bad 4 (some .boolean) ∈ tbG := tw 1533 (by decide +kernel) rfl
theorem wd_1530 : Cond.methodLink "SunnyPansModel" 155 yX10_bad ∈ tbG := tw 1530 (by decide +kernel) rfl
theorem wd_1532 : Cond.instanceMethod yX10_bad ∈ tbG := tw 1532 (by decide +kernel) rfl
theorem wd_43 : Cond.selects "SunnyPansModel" yX10_bad yX10_bad ∈ tbG := tw 43 (by decide +kernel) rfl
theorem cv_SunnyPansModel_155 : zCV "SunnyPansModel" 155 "SunnyPansModel" yX10_bad cX10_bad 4 (some .boolean) 3 := zCV_of wd_1530 wd_1532 wd_43 wd_111 wd_1533 (by decide +kernel)
theorem wd_1771 : Cond.code yX10_sunOf cX10_sunOf 4 (some .int) ∈ tbG := tw 1771 (by decide +kernel) rfl
theorem wd_1768 : Cond.methodLink "SunnyPansModel" 333 yX10_sunOf ∈ tbG := tw 1768 (by decide +kernel) rfl
theorem wd_1770 : Cond.instanceMethod yX10_sunOf ∈ tbG := tw 1770 (by decide +kernel) rfl
theorem wd_84 : Cond.selects "SunnyPansModel" yX10_sunOf yX10_sunOf ∈ tbG := tw 84 (by decide +kernel) rfl
theorem cv_SunnyPansModel_333 : zCV "SunnyPansModel" 333 "SunnyPansModel" yX10_sunOf cX10_sunOf 4 (some .int) 1 := zCV_of wd_1768 wd_1770 wd_84 wd_111 wd_1771 (by decide +kernel)
theorem wd_1767 : Cond.code yX10_strength cX10_strength 3 (some .int) ∈ tbG := tw 1767 (by decide +kernel) rfl
theorem wd_1765 : Cond.methodLink "SunnyPansModel" 330 yX10_strength ∈ tbG := tw 1765 (by decide +kernel) rfl
theorem wd_1766 : Cond.static yX10_strength ∈ tbG := tw 1766 (by decide +kernel) rfl
theorem cs_SunnyPansModel_330 : zCS "SunnyPansModel" 330 yX10_strength cX10_strength 3 (some .int) 2 := zCS_of wd_1765 wd_1766 wd_111 wd_1767 (by decide +kernel)
theorem wd_1779 : Cond.code yX10_isHour cX10_isHour 2 (some .boolean) ∈ tbG := tw 1779 (by decide +kernel) rfl
theorem wd_1776 : Cond.methodLink "SunnyPansModel" 336 yX10_isHour ∈ tbG := tw 1776 (by decide +kernel) rfl
theorem wd_1778 : Cond.instanceMethod yX10_isHour ∈ tbG := tw 1778 (by decide +kernel) rfl
theorem wd_85 : Cond.selects "SunnyPansModel" yX10_isHour yX10_isHour ∈ tbG := tw 85 (by decide +kernel) rfl
theorem cv_SunnyPansModel_336 : zCV "SunnyPansModel" 336 "SunnyPansModel" yX10_isHour cX10_isHour 2 (some .boolean) 1 := zCV_of wd_1776 wd_1778 wd_85 wd_111 wd_1779 (by decide +kernel)
theorem wd_1787 : Cond.code yX10_shadeBits cX10_shadeBits 5 (some .int) ∈ tbG := tw 1787 (by decide +kernel) rfl
theorem wd_1784 : Cond.methodLink "SunnyPansModel" 339 yX10_shadeBits ∈ tbG := tw 1784 (by decide +kernel) rfl
theorem wd_1786 : Cond.instanceMethod yX10_shadeBits ∈ tbG := tw 1786 (by decide +kernel) rfl
theorem wd_86 : Cond.selects "SunnyPansModel" yX10_shadeBits yX10_shadeBits ∈ tbG := tw 86 (by decide +kernel) rfl
theorem cv_SunnyPansModel_339 : zCV "SunnyPansModel" 339 "SunnyPansModel" yX10_shadeBits cX10_shadeBits 5 (some .int) 2 := zCV_of wd_1784 wd_1786 wd_86 wd_111 wd_1787 (by decide +kernel)
theorem wd_1421 : Cond.fieldLink "SunnyPansModel" 61 "SunnyPansModel" "trial" "[I" ∈ tbG := tw 1421 (by decide +kernel) rfl
theorem fg_SunnyPansModel_61 : zGetR "SunnyPansModel" 61 10 11 27 452 := ⟨RX10, TX10, 40, rfl, by decide, uw_10, wd_1421, fun _ _ _ _ _ _ => ⟨_, rfl, rfl⟩⟩
theorem tfM_11_452 {n k : Nat} (h : zT shM n k 11) : zT shM n (k + 452) 36 := zT_off h (shM_f (by decide) (by decide +kernel)) (by decide) (by decide)
theorem ks_500 : (Int16.ofInt (500)).toInt32 = (500 : Int32) := by decide +kernel
theorem wd_1807 : Cond.code yX10_dryingOf cX10_dryingOf 3 (some .int) ∈ tbG := tw 1807 (by decide +kernel) rfl
theorem wd_1804 : Cond.methodLink "SunnyPansModel" 342 yX10_dryingOf ∈ tbG := tw 1804 (by decide +kernel) rfl
theorem wd_1806 : Cond.instanceMethod yX10_dryingOf ∈ tbG := tw 1806 (by decide +kernel) rfl
theorem wd_87 : Cond.selects "SunnyPansModel" yX10_dryingOf yX10_dryingOf ∈ tbG := tw 87 (by decide +kernel) rfl
theorem cv_SunnyPansModel_342 : zCV "SunnyPansModel" 342 "SunnyPansModel" yX10_dryingOf cX10_dryingOf 3 (some .int) 1 := zCV_of wd_1804 wd_1806 wd_87 wd_111 wd_1807 (by decide +kernel)
theorem wd_1814 : Cond.code yX10_asTold cX10_asTold 1 (some .int) ∈ tbG := tw 1814 (by decide +kernel) rfl
theorem wd_1812 : Cond.methodLink "SunnyPansModel" 345 yX10_asTold ∈ tbG := tw 1812 (by decide +kernel) rfl
theorem wd_1813 : Cond.static yX10_asTold ∈ tbG := tw 1813 (by decide +kernel) rfl
theorem cs_SunnyPansModel_345 : zCS "SunnyPansModel" 345 yX10_asTold cX10_asTold 1 (some .int) 1 := zCS_of wd_1812 wd_1813 wd_111 wd_1814 (by decide +kernel)
theorem wd_1822 : Cond.code yX10_isFree cX10_isFree 2 (some .boolean) ∈ tbG := tw 1822 (by decide +kernel) rfl
theorem wd_1819 : Cond.methodLink "SunnyPansModel" 348 yX10_isFree ∈ tbG := tw 1819 (by decide +kernel) rfl
theorem wd_1821 : Cond.instanceMethod yX10_isFree ∈ tbG := tw 1821 (by decide +kernel) rfl
theorem wd_88 : Cond.selects "SunnyPansModel" yX10_isFree yX10_isFree ∈ tbG := tw 88 (by decide +kernel) rfl
theorem cv_SunnyPansModel_348 : zCV "SunnyPansModel" 348 "SunnyPansModel" yX10_isFree cX10_isFree 2 (some .boolean) 1 := zCV_of wd_1819 wd_1821 wd_88 wd_111 wd_1822 (by decide +kernel)
theorem wd_1826 : Cond.code yX10_shades cX10_shades 7 (some .int) ∈ tbG := tw 1826 (by decide +kernel) rfl
theorem wd_1823 : Cond.methodLink "SunnyPansModel" 351 yX10_shades ∈ tbG := tw 1823 (by decide +kernel) rfl
theorem wd_1825 : Cond.instanceMethod yX10_shades ∈ tbG := tw 1825 (by decide +kernel) rfl
theorem wd_89 : Cond.selects "SunnyPansModel" yX10_shades yX10_shades ∈ tbG := tw 89 (by decide +kernel) rfl
theorem cv_SunnyPansModel_351 : zCV "SunnyPansModel" 351 "SunnyPansModel" yX10_shades cX10_shades 7 (some .int) 3 := zCV_of wd_1823 wd_1825 wd_89 wd_111 wd_1826 (by decide +kernel)
theorem wd_1431 : Cond.fieldLink "SunnyPansModel" 70 "SunnyPansModel" "far" "[I" ∈ tbG := tw 1431 (by decide +kernel) rfl
theorem fg_SunnyPansModel_70 : zGetR "SunnyPansModel" 70 10 11 37 474 := ⟨RX10, TX10, 40, rfl, by decide, uw_10, wd_1431, fun _ _ _ _ _ _ => ⟨_, rfl, rfl⟩⟩
theorem tfM_11_474 {n k : Nat} (h : zT shM n k 11) : zT shM n (k + 474) 16 := zT_off h (shM_f (by decide) (by decide +kernel)) (by decide) (by decide)
theorem wd_1842 : Cond.code yX10_spreads cX10_spreads 8 none ∈ tbG := tw 1842 (by decide +kernel) rfl
theorem wd_1839 : Cond.methodLink "SunnyPansModel" 354 yX10_spreads ∈ tbG := tw 1839 (by decide +kernel) rfl
theorem wd_1841 : Cond.instanceMethod yX10_spreads ∈ tbG := tw 1841 (by decide +kernel) rfl
theorem wd_90 : Cond.selects "SunnyPansModel" yX10_spreads yX10_spreads ∈ tbG := tw 90 (by decide +kernel) rfl
theorem cv_SunnyPansModel_354 : zCV "SunnyPansModel" 354 "SunnyPansModel" yX10_spreads cX10_spreads 8 none 1 := zCV_of wd_1839 wd_1841 wd_90 wd_111 wd_1842 (by decide +kernel)
theorem za_32 : zArrR 32 8 4 1 1 := ⟨by decide, fun _ _ _ _ _ _ => rfl⟩
theorem teM_32 {n k : Nat} {i : Int32} (h : zT shM n k 32) (hi : vp_in i 8) : zT shM n (k + (1 + 1 * i.toNatClampNeg)) 27 := by
  have hlt : i.toNatClampNeg < 8 := Nat.not_le.mp fun q => hi (Or.inr q)
  have h2 : k + 9 ≤ n := h.2.2
  exact ⟨shM_e (by decide) (by decide +kernel) k h.1 _ hlt, by omega, by show _ + 1 ≤ n; omega⟩
theorem wd_1854 : Cond.code yX10_isSo cX10_isSo 4 (some .boolean) ∈ tbG := tw 1854 (by decide +kernel) rfl
theorem wd_1851 : Cond.methodLink "SunnyPansModel" 357 yX10_isSo ∈ tbG := tw 1851 (by decide +kernel) rfl
theorem wd_1853 : Cond.instanceMethod yX10_isSo ∈ tbG := tw 1853 (by decide +kernel) rfl
theorem wd_91 : Cond.selects "SunnyPansModel" yX10_isSo yX10_isSo ∈ tbG := tw 91 (by decide +kernel) rfl
theorem cv_SunnyPansModel_357 : zCV "SunnyPansModel" 357 "SunnyPansModel" yX10_isSo cX10_isSo 4 (some .boolean) 2 := zCV_of wd_1851 wd_1853 wd_91 wd_111 wd_1854 (by decide +kernel)
theorem wd_1432 : Cond.fieldLink "SunnyPansModel" 73 "SunnyPansModel" "then" "[[I" ∈ tbG := tw 1432 (by decide +kernel) rfl
theorem fg_SunnyPansModel_73 : zGetR "SunnyPansModel" 73 10 11 38 475 := ⟨RX10, TX10, 40, rfl, by decide, uw_10, wd_1432, fun _ _ _ _ _ _ => ⟨_, rfl, rfl⟩⟩
theorem tfM_11_475 {n k : Nat} (h : zT shM n k 11) : zT shM n (k + 475) 40 := zT_off h (shM_f (by decide) (by decide +kernel)) (by decide) (by decide)
theorem za_40 : zArrR 40 64 4 1 1 := ⟨by decide, fun _ _ _ _ _ _ => rfl⟩
theorem teM_40 {n k : Nat} {i : Int32} (h : zT shM n k 40) (hi : vp_in i 64) : zT shM n (k + (1 + 1 * i.toNatClampNeg)) 16 := by
  have hlt : i.toNatClampNeg < 64 := Nat.not_le.mp fun q => hi (Or.inr q)
  have h2 : k + 65 ≤ n := h.2.2
  exact ⟨shM_e (by decide) (by decide +kernel) k h.1 _ hlt, by omega, by show _ + 1 ≤ n; omega⟩
theorem wd_1862 : Cond.code yX10_isTold cX10_isTold 3 (some .boolean) ∈ tbG := tw 1862 (by decide +kernel) rfl
theorem wd_1859 : Cond.methodLink "SunnyPansModel" 360 yX10_isTold ∈ tbG := tw 1859 (by decide +kernel) rfl
theorem wd_1861 : Cond.instanceMethod yX10_isTold ∈ tbG := tw 1861 (by decide +kernel) rfl
theorem wd_92 : Cond.selects "SunnyPansModel" yX10_isTold yX10_isTold ∈ tbG := tw 92 (by decide +kernel) rfl
theorem cv_SunnyPansModel_360 : zCV "SunnyPansModel" 360 "SunnyPansModel" yX10_isTold cX10_isTold 3 (some .boolean) 1 := zCV_of wd_1859 wd_1861 wd_92 wd_111 wd_1862 (by decide +kernel)
theorem wd_1866 : Cond.code yX10_worstAt cX10_worstAt 7 (some .int) ∈ tbG := tw 1866 (by decide +kernel) rfl
theorem wd_1863 : Cond.methodLink "SunnyPansModel" 363 yX10_worstAt ∈ tbG := tw 1863 (by decide +kernel) rfl
theorem wd_1865 : Cond.instanceMethod yX10_worstAt ∈ tbG := tw 1865 (by decide +kernel) rfl
theorem wd_93 : Cond.selects "SunnyPansModel" yX10_worstAt yX10_worstAt ∈ tbG := tw 93 (by decide +kernel) rfl
theorem cv_SunnyPansModel_363 : zCV "SunnyPansModel" 363 "SunnyPansModel" yX10_worstAt cX10_worstAt 7 (some .int) 2 := zCV_of wd_1863 wd_1865 wd_93 wd_111 wd_1866 (by decide +kernel)
theorem wd_1878 : Cond.code yX10_has cX10_has 2 (some .boolean) ∈ tbG := tw 1878 (by decide +kernel) rfl
theorem wd_1876 : Cond.methodLink "SunnyPansModel" 366 yX10_has ∈ tbG := tw 1876 (by decide +kernel) rfl
theorem wd_1877 : Cond.static yX10_has ∈ tbG := tw 1877 (by decide +kernel) rfl
theorem cs_SunnyPansModel_366 : zCS "SunnyPansModel" 366 yX10_has cX10_has 2 (some .boolean) 2 := zCS_of wd_1876 wd_1877 wd_111 wd_1878 (by decide +kernel)
theorem wd_1875 : Cond.code yX10_givenBy cX10_givenBy 6 (some .int) ∈ tbG := tw 1875 (by decide +kernel) rfl
theorem wd_1872 : Cond.methodLink "SunnyPansModel" 370 yX10_givenBy ∈ tbG := tw 1872 (by decide +kernel) rfl
theorem wd_1874 : Cond.instanceMethod yX10_givenBy ∈ tbG := tw 1874 (by decide +kernel) rfl
theorem wd_94 : Cond.selects "SunnyPansModel" yX10_givenBy yX10_givenBy ∈ tbG := tw 94 (by decide +kernel) rfl
theorem cv_SunnyPansModel_370 : zCV "SunnyPansModel" 370 "SunnyPansModel" yX10_givenBy cX10_givenBy 6 (some .int) 3 := zCV_of wd_1872 wd_1874 wd_94 wd_111 wd_1875 (by decide +kernel)
theorem wd_1871 : Cond.constant "SunnyPansModel" 369 (99999) ∈ tbG := tw 1871 (by decide +kernel) rfl
theorem wd_1910 : Cond.code yX10_lossAt cX10_lossAt 4 (some .int) ∈ tbG := tw 1910 (by decide +kernel) rfl
theorem wd_1907 : Cond.methodLink "SunnyPansModel" 373 yX10_lossAt ∈ tbG := tw 1907 (by decide +kernel) rfl
theorem wd_1909 : Cond.instanceMethod yX10_lossAt ∈ tbG := tw 1909 (by decide +kernel) rfl
theorem wd_95 : Cond.selects "SunnyPansModel" yX10_lossAt yX10_lossAt ∈ tbG := tw 95 (by decide +kernel) rfl
theorem cv_SunnyPansModel_373 : zCV "SunnyPansModel" 373 "SunnyPansModel" yX10_lossAt cX10_lossAt 4 (some .int) 1 := zCV_of wd_1907 wd_1909 wd_95 wd_111 wd_1910 (by decide +kernel)
theorem wd_1433 : Cond.fieldLink "SunnyPansModel" 376 "SunnyPansModel" "lots" "I" ∈ tbG := tw 1433 (by decide +kernel) rfl
theorem fg_SunnyPansModel_376 : zGetI "SunnyPansModel" 376 10 11 39 := ⟨RX10, TX10, 40, rfl, by decide, uw_10, wd_1433, fun _ _ _ _ _ _ => ⟨_, rfl, rfl⟩⟩
theorem wd_1938 : Cond.constant "SunnyPansModel" 379 (1103515245) ∈ tbG := tw 1938 (by decide +kernel) rfl
theorem fp_SunnyPansModel_376 : zPutI "SunnyPansModel" 376 10 11 39 := ⟨zc_10, fg_SunnyPansModel_376, ⟨RX10, TX10, 40, rfl, rfl, by decide +kernel⟩, fun _ _ _ _ _ _ _ => ⟨_, rfl, Nat.le_of_ble_eq_true rfl, rfl⟩⟩
theorem wd_1937 : Cond.code yX10_draw cX10_draw 2 (some .int) ∈ tbG := tw 1937 (by decide +kernel) rfl
theorem wd_1934 : Cond.methodLink "SunnyPansModel" 380 yX10_draw ∈ tbG := tw 1934 (by decide +kernel) rfl
theorem wd_1936 : Cond.instanceMethod yX10_draw ∈ tbG := tw 1936 (by decide +kernel) rfl
theorem wd_97 : Cond.selects "SunnyPansModel" yX10_draw yX10_draw ∈ tbG := tw 97 (by decide +kernel) rfl
theorem cv_SunnyPansModel_380 : zCV "SunnyPansModel" 380 "SunnyPansModel" yX10_draw cX10_draw 2 (some .int) 1 := zCV_of wd_1934 wd_1936 wd_97 wd_111 wd_1937 (by decide +kernel)
theorem kb_96 : (Int8.ofInt (96)).toInt32 = (96 : Int32) := by decide +kernel
theorem wd_1933 : Cond.code yX10_summerBy cX10_summerBy 7 none ∈ tbG := tw 1933 (by decide +kernel) rfl
theorem wd_1930 : Cond.methodLink "SunnyPansModel" 386 yX10_summerBy ∈ tbG := tw 1930 (by decide +kernel) rfl
theorem wd_1932 : Cond.instanceMethod yX10_summerBy ∈ tbG := tw 1932 (by decide +kernel) rfl
theorem wd_96 : Cond.selects "SunnyPansModel" yX10_summerBy yX10_summerBy ∈ tbG := tw 96 (by decide +kernel) rfl
theorem cv_SunnyPansModel_386 : zCV "SunnyPansModel" 386 "SunnyPansModel" yX10_summerBy cX10_summerBy 7 none 3 := zCV_of wd_1930 wd_1932 wd_96 wd_111 wd_1933 (by decide +kernel)
theorem wd_1929 : Cond.code yX10_isSummer cX10_isSummer 2 (some .boolean) ∈ tbG := tw 1929 (by decide +kernel) rfl
theorem wd_1927 : Cond.methodLink "SunnyPansModel" 383 yX10_isSummer ∈ tbG := tw 1927 (by decide +kernel) rfl
theorem wd_1928 : Cond.static yX10_isSummer ∈ tbG := tw 1928 (by decide +kernel) rfl
theorem cs_SunnyPansModel_383 : zCS "SunnyPansModel" 383 yX10_isSummer cX10_isSummer 2 (some .boolean) 2 := zCS_of wd_1927 wd_1928 wd_111 wd_1929 (by decide +kernel)
theorem wd_1428 : Cond.fieldLink "SunnyPansModel" 390 "SunnyPansModel" "spot" "I" ∈ tbG := tw 1428 (by decide +kernel) rfl
theorem fg_SunnyPansModel_390 : zGetI "SunnyPansModel" 390 10 11 34 := ⟨RX10, TX10, 40, rfl, by decide, uw_10, wd_1428, fun _ _ _ _ _ _ => ⟨_, rfl, rfl⟩⟩
theorem fp_SunnyPansModel_390 : zPutI "SunnyPansModel" 390 10 11 34 := ⟨zc_10, fg_SunnyPansModel_390, ⟨RX10, TX10, 40, rfl, rfl, by decide +kernel⟩, fun _ _ _ _ _ _ _ => ⟨_, rfl, Nat.le_of_ble_eq_true rfl, rfl⟩⟩
theorem za_39 : zArrI 39 3316 := fun _ _ _ _ _ _ => rfl
theorem wd_1954 : Cond.code yX10_puts cX10_puts 4 (some .int) ∈ tbG := tw 1954 (by decide +kernel) rfl
theorem wd_1951 : Cond.methodLink "SunnyPansModel" 393 yX10_puts ∈ tbG := tw 1951 (by decide +kernel) rfl
theorem wd_1953 : Cond.instanceMethod yX10_puts ∈ tbG := tw 1953 (by decide +kernel) rfl
theorem wd_99 : Cond.selects "SunnyPansModel" yX10_puts yX10_puts ∈ tbG := tw 99 (by decide +kernel) rfl
theorem cv_SunnyPansModel_393 : zCV "SunnyPansModel" 393 "SunnyPansModel" yX10_puts cX10_puts 4 (some .int) 3 := zCV_of wd_1951 wd_1953 wd_99 wd_111 wd_1954 (by decide +kernel)
theorem wd_1423 : Cond.fieldLink "SunnyPansModel" 67 "SunnyPansModel" "kept" "[[I" ∈ tbG := tw 1423 (by decide +kernel) rfl
theorem fg_SunnyPansModel_67 : zGetR "SunnyPansModel" 67 10 11 29 470 := ⟨RX10, TX10, 40, rfl, by decide, uw_10, wd_1423, fun _ _ _ _ _ _ => ⟨_, rfl, rfl⟩⟩
theorem tfM_11_470 {n k : Nat} (h : zT shM n k 11) : zT shM n (k + 470) 38 := zT_off h (shM_f (by decide) (by decide +kernel)) (by decide) (by decide)
theorem za_38 : zArrR 38 3 4 1 1 := ⟨by decide, fun _ _ _ _ _ _ => rfl⟩
theorem teM_38 {n k : Nat} {i : Int32} (h : zT shM n k 38) (hi : vp_in i 3) : zT shM n (k + (1 + 1 * i.toNatClampNeg)) 39 := by
  have hlt : i.toNatClampNeg < 3 := Nat.not_le.mp fun q => hi (Or.inr q)
  have h2 : k + 4 ≤ n := h.2.2
  exact ⟨shM_e (by decide) (by decide +kernel) k h.1 _ hlt, by omega, by show _ + 1 ≤ n; omega⟩
theorem wd_1950 : Cond.code yX10_putsAll cX10_putsAll 5 none ∈ tbG := tw 1950 (by decide +kernel) rfl
theorem wd_1947 : Cond.methodLink "SunnyPansModel" 397 yX10_putsAll ∈ tbG := tw 1947 (by decide +kernel) rfl
theorem wd_1949 : Cond.instanceMethod yX10_putsAll ∈ tbG := tw 1949 (by decide +kernel) rfl
theorem wd_98 : Cond.selects "SunnyPansModel" yX10_putsAll yX10_putsAll ∈ tbG := tw 98 (by decide +kernel) rfl
theorem cv_SunnyPansModel_397 : zCV "SunnyPansModel" 397 "SunnyPansModel" yX10_putsAll cX10_putsAll 5 none 2 := zCV_of wd_1947 wd_1949 wd_98 wd_111 wd_1950 (by decide +kernel)
