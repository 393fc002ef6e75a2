/-! SunnyPansModel.law -/
theorem tfM_11_28 {n k : Nat} (h : zT shM n k 11) : zT shM n (k + 28) 31 := zT_off h (shM_f (by decide) (by decide +kernel)) (by decide) (by decide)
set_option maxRecDepth 100000 in
theorem wd_1413 : Cond.fieldLink "SunnyPansModel" 37 "SunnyPansModel" "law" "[[I" ∈ tbG := tw6 113 rfl rfl
theorem fg_SunnyPansModel_37 : zGetR "SunnyPansModel" 37 10 11 18 28 := ⟨RX10, TX10, 40, rfl, by decide, uw_10, wd_1413, fun _ _ _ _ _ _ => ⟨_, rfl, rfl⟩⟩
theorem d_X10_law_0 : decode cX10_law 0 = .ok (.aload_n 0, 1) := by decide +kernel
theorem d_X10_law_1 : decode cX10_law 1 = .ok (.iconst 0, 1) := by decide +kernel
theorem d_X10_law_2 : decode cX10_law 2 = .ok (.putfield 82, 3) := by decide +kernel
theorem d_X10_law_5 : decode cX10_law 5 = .ok (.aload_n 0, 1) := by decide +kernel
theorem d_X10_law_6 : decode cX10_law 6 = .ok (.iload_n 1, 1) := by decide +kernel
theorem d_X10_law_7 : decode cX10_law 7 = .ok (.iconst 0, 1) := by decide +kernel
theorem d_X10_law_8 : decode cX10_law 8 = .ok (.aload_n 0, 1) := by decide +kernel
theorem d_X10_law_9 : decode cX10_law 9 = .ok (.getfield 85, 3) := by decide +kernel
theorem d_X10_law_12 : decode cX10_law 12 = .ok (.invokestatic 116, 3) := by decide +kernel
theorem d_X10_law_15 : decode cX10_law 15 = .ok (.ifCond .eq 10, 3) := by decide +kernel
theorem d_X10_law_18 : decode cX10_law 18 = .ok (.iload_n 1, 1) := by decide +kernel
theorem d_X10_law_19 : decode cX10_law 19 = .ok (.sipush 150, 3) := by decide +kernel
theorem d_X10_law_22 : decode cX10_law 22 = .ok (.if_icmp .le 7, 3) := by decide +kernel
theorem d_X10_law_25 : decode cX10_law 25 = .ok (.iconst 1, 1) := by decide +kernel
theorem d_X10_law_26 : decode cX10_law 26 = .ok (.goto 4, 3) := by decide +kernel
theorem d_X10_law_29 : decode cX10_law 29 = .ok (.iconst 0, 1) := by decide +kernel
theorem d_X10_law_30 : decode cX10_law 30 = .ok (.iconst 1, 1) := by decide +kernel
theorem d_X10_law_31 : decode cX10_law 31 = .ok (.iconst 1, 1) := by decide +kernel
theorem d_X10_law_32 : decode cX10_law 32 = .ok (.invokevirtual 155, 3) := by decide +kernel
theorem d_X10_law_35 : decode cX10_law 35 = .ok (.ifCond .eq 5, 3) := by decide +kernel
theorem d_X10_law_38 : decode cX10_law 38 = .ok (.iconst 0, 1) := by decide +kernel
theorem d_X10_law_39 : decode cX10_law 39 = .ok (.ireturn, 1) := by decide +kernel
theorem d_X10_law_40 : decode cX10_law 40 = .ok (.aload_n 0, 1) := by decide +kernel
theorem d_X10_law_41 : decode cX10_law 41 = .ok (.iload_n 1, 1) := by decide +kernel
theorem d_X10_law_42 : decode cX10_law 42 = .ok (.invokevirtual 159, 3) := by decide +kernel
theorem d_X10_law_45 : decode cX10_law 45 = .ok (.aload_n 0, 1) := by decide +kernel
theorem d_X10_law_46 : decode cX10_law 46 = .ok (.iconst 0, 1) := by decide +kernel
theorem d_X10_law_47 : decode cX10_law 47 = .ok (.putfield 187, 3) := by decide +kernel
theorem d_X10_law_50 : decode cX10_law 50 = .ok (.aload_n 0, 1) := by decide +kernel
theorem d_X10_law_51 : decode cX10_law 51 = .ok (.invokevirtual 209, 3) := by decide +kernel
theorem d_X10_law_54 : decode cX10_law 54 = .ok (.aload_n 0, 1) := by decide +kernel
theorem d_X10_law_55 : decode cX10_law 55 = .ok (.invokevirtual 104, 3) := by decide +kernel
theorem d_X10_law_58 : decode cX10_law 58 = .ok (.aload_n 0, 1) := by decide +kernel
theorem d_X10_law_59 : decode cX10_law 59 = .ok (.getfield 98, 3) := by decide +kernel
theorem d_X10_law_62 : decode cX10_law 62 = .ok (.ifCond .ne 23, 3) := by decide +kernel
theorem d_X10_law_65 : decode cX10_law 65 = .ok (.aload_n 0, 1) := by decide +kernel
theorem d_X10_law_66 : decode cX10_law 66 = .ok (.getfield 91, 3) := by decide +kernel
theorem d_X10_law_69 : decode cX10_law 69 = .ok (.aload_n 0, 1) := by decide +kernel
theorem d_X10_law_70 : decode cX10_law 70 = .ok (.getfield 88, 3) := by decide +kernel
theorem d_X10_law_73 : decode cX10_law 73 = .ok (.if_icmp .ge 12, 3) := by decide +kernel
theorem d_X10_law_76 : decode cX10_law 76 = .ok (.aload_n 0, 1) := by decide +kernel
theorem d_X10_law_77 : decode cX10_law 77 = .ok (.iconst 1, 1) := by decide +kernel
theorem d_X10_law_78 : decode cX10_law 78 = .ok (.aload_n 0, 1) := by decide +kernel
theorem d_X10_law_79 : decode cX10_law 79 = .ok (.getfield 91, 3) := by decide +kernel
theorem d_X10_law_82 : decode cX10_law 82 = .ok (.invokevirtual 111, 3) := by decide +kernel
theorem d_X10_law_85 : decode cX10_law 85 = .ok (.aload_n 0, 1) := by decide +kernel
theorem d_X10_law_86 : decode cX10_law 86 = .ok (.getfield 98, 3) := by decide +kernel
theorem d_X10_law_89 : decode cX10_law 89 = .ok (.ifCond .eq 8, 3) := by decide +kernel
theorem d_X10_law_92 : decode cX10_law 92 = .ok (.aload_n 0, 1) := by decide +kernel
theorem d_X10_law_93 : decode cX10_law 93 = .ok (.invokevirtual 165, 3) := by decide +kernel
theorem d_X10_law_96 : decode cX10_law 96 = .ok (.ireturn, 1) := by decide +kernel
theorem d_X10_law_97 : decode cX10_law 97 = .ok (.aload_n 0, 1) := by decide +kernel
theorem d_X10_law_98 : decode cX10_law 98 = .ok (.iconst (-1), 1) := by decide +kernel
theorem d_X10_law_99 : decode cX10_law 99 = .ok (.putfield 9, 3) := by decide +kernel
theorem d_X10_law_102 : decode cX10_law 102 = .ok (.aload_n 0, 1) := by decide +kernel
theorem d_X10_law_103 : decode cX10_law 103 = .ok (.aload_n 0, 1) := by decide +kernel
theorem d_X10_law_104 : decode cX10_law 104 = .ok (.getfield 187, 3) := by decide +kernel
theorem d_X10_law_107 : decode cX10_law 107 = .ok (.putfield 172, 3) := by decide +kernel
theorem d_X10_law_110 : decode cX10_law 110 = .ok (.aload_n 0, 1) := by decide +kernel
theorem d_X10_law_111 : decode cX10_law 111 = .ok (.getfield 40, 3) := by decide +kernel
theorem d_X10_law_114 : decode cX10_law 114 = .ok (.aload_n 0, 1) := by decide +kernel
theorem d_X10_law_115 : decode cX10_law 115 = .ok (.getfield 37, 3) := by decide +kernel
theorem d_X10_law_118 : decode cX10_law 118 = .ok (.aload_n 0, 1) := by decide +kernel
theorem d_X10_law_119 : decode cX10_law 119 = .ok (.getfield 172, 3) := by decide +kernel
theorem d_X10_law_122 : decode cX10_law 122 = .ok (.invokestatic 168, 3) := by decide +kernel
theorem d_X10_law_125 : decode cX10_law 125 = .ok (.iconst 1, 1) := by decide +kernel
theorem d_X10_law_126 : decode cX10_law 126 = .ok (.ireturn, 1) := by decide +kernel
noncomputable def F_X10_law_85 (p0 : Int32) (M : zMem) : Option (Int32 × zMem) :=
  if (M.1 0 5) = 0 then
    zl (zI M 0 3 (-1 : Int32)) fun M1 =>
    zl (zI M1 0 16 (M1.1 0 17)) fun M2 =>
    zbv (F_X10_lays M2 189 160 28 160 (M2.1 0 16)) fun M3 =>
    some ((1 : Int32), M3)
  else
    zb (F_X10_ends M) fun v5 M4 =>
    some (v5, M4)
noncomputable def F_X10_law_30 (p0 : Int32) (b30_L1 : Int32) (b30_S1 : Int32) (M : zMem) : Option (Int32 × zMem) :=
  zb (F_X10_bad M b30_S1 (1 : Int32) (1 : Int32)) fun v7 M6 =>
  if v7 = 0 then
    zbv (F_X10_starts M6 b30_L1) fun M8 =>
    zl (zI M8 0 17 (0 : Int32)) fun M9 =>
    zbv (F_X10_sum M9) fun M10 =>
    zbv (F_X10_blanks M10) fun M11 =>
    if (M11.1 0 5) = 0 then
      if (M11.1 0 2) ≤ (M11.1 0 4) then
        F_X10_law_85 p0 M11
      else
        zbv (F_X10_wrong M11 (1 : Int32) (M11.1 0 4)) fun M12 =>
        F_X10_law_85 p0 M12
    else
      F_X10_law_85 p0 M11
  else
    some ((0 : Int32), M6)
noncomputable def F_X10_law (M : zMem) (p0 : Int32) : Option (Int32 × zMem) :=
  zl (zI M 0 0 (0 : Int32)) fun M13 =>
  zb (F_X10_in M13 p0 (0 : Int32) (M13.1 0 1)) fun v15 M14 =>
  if v15 = 0 then
    F_X10_law_30 p0 p0 (1 : Int32) M14
  else
    if p0 ≤ (150 : Int32) then
      F_X10_law_30 p0 p0 (0 : Int32) M14
    else
      F_X10_law_30 p0 p0 (1 : Int32) M14
def rm_X10_law : Room := { frames := 961, cells := 0, slots := 0, locals := 24021 }
set_option maxHeartbeats 4000000 in
set_option maxRecDepth 100000 in
theorem c_X10_law (l : Launch) {G : zG} {ad : Nat → Nat} {n : Nat} (hA : zInj ad n) (M : zMem) (p0 : Int32) (hT : zT shM n 0 11) {r9 : Int32} {M9 : zMem} (hF : F_X10_law M p0 = some (r9, M9)) : zM l yX10_law cX10_law 2 (some .int) rm_X10_law G shM ad n M [.ref (ad 0), .int p0] (some (.int r9)) M9 := by
  refine zM_of hA (by decide +kernel) (lv := [(0, .ref (ad 0)), (1, .int p0)]) (Nat.le_of_ble_eq_true rfl) rfl (fun p e s m args below meth c A cx hr => ?_)
  have hb85 : ∀ (M : zMem), F_X10_law_85 p0 M = some (r9, M9) → zJ p l e rm_X10_law s m args below meth c G shM ad n A 2 (MQ below (zQ G shM ad n M9 (some (.int r9)) A) args s 0 0 A) 0 0 M 85 [(0, .ref (ad 0))] [] := by
    intro M hF
    unfold F_X10_law_85 at hF
    refine z_aload_n cx d_X10_law_85 0 rfl ?_
    refine z_getI cx hT fg_SunnyPansModel_98 d_X10_law_86 ?_
    refine z_if_eq cx 97 d_X10_law_89 (by decide) hF (fun hF => ?_) (fun hF => ?_)
    · refine z_aload_n cx d_X10_law_97 0 rfl ?_
      refine z_iconst (v := -1) cx d_X10_law_98 ki_m1 ?_
      refine z_putI cx hT fp_SunnyPansModel_9 d_X10_law_99 ?_
      refine z_nmM hF (fun M1 hF => ?_)
      refine z_aload_n cx d_X10_law_102 0 rfl ?_
      refine z_aload_n cx d_X10_law_103 0 rfl ?_
      refine z_getI cx hT fg_SunnyPansModel_187 d_X10_law_104 ?_
      refine z_putI cx hT fp_SunnyPansModel_172 d_X10_law_107 ?_
      refine z_nmM hF (fun M2 hF => ?_)
      refine z_aload_n cx d_X10_law_110 0 rfl ?_
      refine z_getR cx hT fg_SunnyPansModel_40 189 rfl d_X10_law_111 ?_
      refine z_aload_n cx d_X10_law_114 0 rfl ?_
      refine z_getR cx hT fg_SunnyPansModel_37 28 rfl d_X10_law_115 ?_
      refine z_aload_n cx d_X10_law_118 0 rfl ?_
      refine z_getI cx hT fg_SunnyPansModel_172 d_X10_law_119 ?_
      obtain ⟨M3, hc, hF⟩ := zbv_inv hF
      refine z_callS cx (As := [.ref (ad 189), .ref (ad 28), .int (M2.1 0 16)]) (rest := []) (c_X10_lays l cx.2.2.2.1.1 M2 189 160 28 160 (M2.1 0 16) (tfM_11_189 hT) za_31 (fun i hi => teM_31 (tfM_11_189 hT) hi) (tfM_11_28 hT) za_31 (fun i hi => teM_31 (tfM_11_28 hT) hi) hc) cs_SunnyPansModel_168 ⟨rfl, rfl, Nat.le_of_ble_eq_true rfl, Nat.le_of_ble_eq_true rfl⟩ rfl rfl ⟨Nat.zero_le _, Nat.zero_le _⟩ (Nat.le_of_ble_eq_true rfl) d_X10_law_122 ?_
      refine z_iconst (v := 1) cx d_X10_law_125 ki_1 ?_
      exact z_iret cx hr rfl hF d_X10_law_126
    refine z_aload_n cx d_X10_law_92 0 rfl ?_
    obtain ⟨v5, M4, hc, hF⟩ := zb_inv hF
    refine z_callV cx (As := []) (rest := []) (c_X10_ends l cx.2.2.2.1.1 M hT hc) hT zo_11 cv_SunnyPansModel_165 ⟨rfl, rfl, Nat.le_of_ble_eq_true rfl, Nat.le_of_ble_eq_true rfl⟩ rfl rfl ⟨Nat.zero_le _, Nat.zero_le _⟩ (Nat.le_of_ble_eq_true rfl) d_X10_law_93 ?_
    exact z_iret cx hr rfl hF d_X10_law_96
  have hb30 : ∀ (b30_L1 : Int32) (b30_S1 : Int32) (M : zMem), F_X10_law_30 p0 b30_L1 b30_S1 M = some (r9, M9) → zJ p l e rm_X10_law s m args below meth c G shM ad n A 2 (MQ below (zQ G shM ad n M9 (some (.int r9)) A) args s 0 0 A) 0 0 M 30 [(0, .ref (ad 0)), (1, .int b30_L1)] [.int b30_S1, .ref (ad 0)] := by
    intro b30_L1 b30_S1 M hF
    unfold F_X10_law_30 at hF
    refine z_iconst (v := 1) cx d_X10_law_30 ki_1 ?_
    refine z_iconst (v := 1) cx d_X10_law_31 ki_1 ?_
    obtain ⟨v7, M6, hc, hF⟩ := zb_inv hF
    refine z_callV cx (As := [.int b30_S1, .int (1 : Int32), .int (1 : Int32)]) (rest := []) (c_X10_bad l cx.2.2.2.1.1 M b30_S1 (1 : Int32) (1 : Int32) hT hc) hT zo_11 cv_SunnyPansModel_155 ⟨rfl, rfl, Nat.le_of_ble_eq_true rfl, Nat.le_of_ble_eq_true rfl⟩ rfl rfl ⟨Nat.zero_le _, Nat.zero_le _⟩ (Nat.le_of_ble_eq_true rfl) d_X10_law_32 ?_
    refine z_if_eq cx 40 d_X10_law_35 (by decide) hF (fun hF => ?_) (fun hF => ?_)
    · refine z_aload_n cx d_X10_law_40 0 rfl ?_
      refine z_iload_n cx d_X10_law_41 1 rfl ?_
      obtain ⟨M8, hc, hF⟩ := zbv_inv hF
      refine z_callV cx (As := [.int b30_L1]) (rest := []) (c_X10_starts l cx.2.2.2.1.1 M6 b30_L1 hT hc) hT zo_11 cv_SunnyPansModel_159 ⟨rfl, rfl, Nat.le_of_ble_eq_true rfl, Nat.le_of_ble_eq_true rfl⟩ rfl rfl ⟨Nat.zero_le _, Nat.zero_le _⟩ (Nat.le_of_ble_eq_true rfl) d_X10_law_42 ?_
      refine z_aload_n cx d_X10_law_45 0 rfl ?_
      refine z_iconst (v := 0) cx d_X10_law_46 ki_0 ?_
      refine z_putI cx hT fp_SunnyPansModel_187 d_X10_law_47 ?_
      refine z_nmM hF (fun M9 hF => ?_)
      refine z_aload_n cx d_X10_law_50 0 rfl ?_
      obtain ⟨M10, hc, hF⟩ := zbv_inv hF
      refine z_callV cx (As := []) (rest := []) (c_X10_sum l cx.2.2.2.1.1 M9 hT hc) hT zo_11 cv_SunnyPansModel_209 ⟨rfl, rfl, Nat.le_of_ble_eq_true rfl, Nat.le_of_ble_eq_true rfl⟩ rfl rfl ⟨Nat.zero_le _, Nat.zero_le _⟩ (Nat.le_of_ble_eq_true rfl) d_X10_law_51 ?_
      refine z_aload_n cx d_X10_law_54 0 rfl ?_
      obtain ⟨M11, hc, hF⟩ := zbv_inv hF
      refine z_callV cx (As := []) (rest := []) (c_X10_blanks l cx.2.2.2.1.1 M10 hT hc) hT zo_11 cv_SunnyPansModel_104 ⟨rfl, rfl, Nat.le_of_ble_eq_true rfl, Nat.le_of_ble_eq_true rfl⟩ rfl rfl ⟨Nat.zero_le _, Nat.zero_le _⟩ (Nat.le_of_ble_eq_true rfl) d_X10_law_55 ?_
      refine z_aload_n cx d_X10_law_58 0 rfl ?_
      refine z_getI cx hT fg_SunnyPansModel_98 d_X10_law_59 ?_
      refine z_if_ne cx 85 d_X10_law_62 (by decide) hF (fun hF => ?_) (fun hF => ?_)
      · exact z_lv [0] _ rfl (hb85 M11 hF)
      refine z_aload_n cx d_X10_law_65 0 rfl ?_
      refine z_getI cx hT fg_SunnyPansModel_91 d_X10_law_66 ?_
      refine z_aload_n cx d_X10_law_69 0 rfl ?_
      refine z_getI cx hT fg_SunnyPansModel_88 d_X10_law_70 ?_
      refine z_icmp_ge cx 85 d_X10_law_73 (by decide) hF (fun hF => ?_) (fun hF => ?_)
      · exact z_lv [0] _ rfl (hb85 M11 hF)
      refine z_aload_n cx d_X10_law_76 0 rfl ?_
      refine z_iconst (v := 1) cx d_X10_law_77 ki_1 ?_
      refine z_aload_n cx d_X10_law_78 0 rfl ?_
      refine z_getI cx hT fg_SunnyPansModel_91 d_X10_law_79 ?_
      obtain ⟨M12, hc, hF⟩ := zbv_inv hF
      refine z_callV cx (As := [.int (1 : Int32), .int (M11.1 0 4)]) (rest := []) (c_X10_wrong l cx.2.2.2.1.1 M11 (1 : Int32) (M11.1 0 4) hT hc) hT zo_11 cv_SunnyPansModel_111 ⟨rfl, rfl, Nat.le_of_ble_eq_true rfl, Nat.le_of_ble_eq_true rfl⟩ rfl rfl ⟨Nat.zero_le _, Nat.zero_le _⟩ (Nat.le_of_ble_eq_true rfl) d_X10_law_82 ?_
      exact z_lv [0] _ rfl (hb85 M12 hF)
    refine z_iconst (v := 0) cx d_X10_law_38 ki_0 ?_
    exact z_iret cx hr rfl hF d_X10_law_39
  unfold F_X10_law at hF
  refine z_aload_n cx d_X10_law_0 0 rfl ?_
  refine z_iconst (v := 0) cx d_X10_law_1 ki_0 ?_
  refine z_putI cx hT fp_SunnyPansModel_82 d_X10_law_2 ?_
  refine z_nmM hF (fun M13 hF => ?_)
  refine z_aload_n cx d_X10_law_5 0 rfl ?_
  refine z_iload_n cx d_X10_law_6 1 rfl ?_
  refine z_iconst (v := 0) cx d_X10_law_7 ki_0 ?_
  refine z_aload_n cx d_X10_law_8 0 rfl ?_
  refine z_getI cx hT fg_SunnyPansModel_85 d_X10_law_9 ?_
  obtain ⟨v15, M14, hc, hF⟩ := zb_inv hF
  refine z_callS cx (As := [.int p0, .int (0 : Int32), .int (M13.1 0 1)]) (rest := [.ref (ad 0)]) (c_X10_in l cx.2.2.2.1.1 M13 p0 (0 : Int32) (M13.1 0 1)  hc) cs_SunnyPansModel_116 ⟨rfl, rfl, Nat.le_of_ble_eq_true rfl, Nat.le_of_ble_eq_true rfl⟩ rfl rfl ⟨Nat.zero_le _, Nat.zero_le _⟩ (Nat.le_of_ble_eq_true rfl) d_X10_law_12 ?_
  refine z_if_eq cx 25 d_X10_law_15 (by decide) hF (fun hF => ?_) (fun hF => ?_)
  · refine z_iconst (v := 1) cx d_X10_law_25 ki_1 ?_
    refine z_goto cx 30 d_X10_law_26 (by decide) ?_
    exact hb30 p0 (1 : Int32) M14 hF
  refine z_iload_n cx d_X10_law_18 1 rfl ?_
  refine z_sipush (v := 150) cx d_X10_law_19 ks_150 ?_
  refine z_icmp_le cx 29 d_X10_law_22 (by decide) hF (fun hF => ?_) (fun hF => ?_)
  · refine z_iconst (v := 0) cx d_X10_law_29 ki_0 ?_
    exact hb30 p0 (0 : Int32) M14 hF
  refine z_iconst (v := 1) cx d_X10_law_25 ki_1 ?_
  refine z_goto cx 30 d_X10_law_26 (by decide) ?_
  exact hb30 p0 (1 : Int32) M14 hF
/-! SunnyPansModel.by -/
set_option maxRecDepth 100000 in
theorem wd_1691 : Cond.code yX10_more cX10_more 2 (some .int) ∈ tbG := tw7 151 rfl rfl
set_option maxRecDepth 100000 in
theorem wd_1689 : Cond.methodLink "SunnyPansModel" 218 yX10_more ∈ tbG := tw7 149 rfl rfl
set_option maxRecDepth 100000 in
theorem wd_1690 : Cond.static yX10_more ∈ tbG := tw7 150 rfl rfl
theorem cs_SunnyPansModel_218 : zCS "SunnyPansModel" 218 yX10_more cX10_more 2 (some .int) 2 := zCS_of wd_1689 wd_1690 wd_111 wd_1691 (by decide +kernel)
set_option maxRecDepth 100000 in
theorem wd_1694 : Cond.code yX10_less cX10_less 2 (some .int) ∈ tbG := tw7 154 rfl rfl
set_option maxRecDepth 100000 in
theorem wd_1692 : Cond.methodLink "SunnyPansModel" 215 yX10_less ∈ tbG := tw7 152 rfl rfl
set_option maxRecDepth 100000 in
theorem wd_1693 : Cond.static yX10_less ∈ tbG := tw7 153 rfl rfl
theorem cs_SunnyPansModel_215 : zCS "SunnyPansModel" 215 yX10_less cX10_less 2 (some .int) 2 := zCS_of wd_1692 wd_1693 wd_111 wd_1694 (by decide +kernel)
theorem d_X10_by_0 : decode cX10_by 0 = .ok (.iload_n 0, 1) := by decide +kernel
theorem d_X10_by_1 : decode cX10_by 1 = .ok (.tableswitch 96 2 7 #[39, 43, 47, 51, 73, 90], 39) := by decide +kernel
theorem d_X10_by_40 : decode cX10_by 40 = .ok (.iload_n 1, 1) := by decide +kernel
theorem d_X10_by_41 : decode cX10_by 41 = .ok (.iload_n 2, 1) := by decide +kernel
theorem d_X10_by_42 : decode cX10_by 42 = .ok (.iadd, 1) := by decide +kernel
theorem d_X10_by_43 : decode cX10_by 43 = .ok (.ireturn, 1) := by decide +kernel
theorem d_X10_by_44 : decode cX10_by 44 = .ok (.iload_n 1, 1) := by decide +kernel
theorem d_X10_by_45 : decode cX10_by 45 = .ok (.iload_n 2, 1) := by decide +kernel
theorem d_X10_by_46 : decode cX10_by 46 = .ok (.isub, 1) := by decide +kernel
theorem d_X10_by_47 : decode cX10_by 47 = .ok (.ireturn, 1) := by decide +kernel
theorem d_X10_by_48 : decode cX10_by 48 = .ok (.iload_n 1, 1) := by decide +kernel
theorem d_X10_by_49 : decode cX10_by 49 = .ok (.iload_n 2, 1) := by decide +kernel
theorem d_X10_by_50 : decode cX10_by 50 = .ok (.imul, 1) := by decide +kernel
theorem d_X10_by_51 : decode cX10_by 51 = .ok (.ireturn, 1) := by decide +kernel
theorem d_X10_by_52 : decode cX10_by 52 = .ok (.iload_n 2, 1) := by decide +kernel
theorem d_X10_by_53 : decode cX10_by 53 = .ok (.ifCond .ne 7, 3) := by decide +kernel
theorem d_X10_by_56 : decode cX10_by 56 = .ok (.iconst 0, 1) := by decide +kernel
theorem d_X10_by_57 : decode cX10_by 57 = .ok (.goto 16, 3) := by decide +kernel
theorem d_X10_by_60 : decode cX10_by 60 = .ok (.iload_n 2, 1) := by decide +kernel
theorem d_X10_by_61 : decode cX10_by 61 = .ok (.iconst (-1), 1) := by decide +kernel
theorem d_X10_by_62 : decode cX10_by 62 = .ok (.if_icmp .ne 8, 3) := by decide +kernel
theorem d_X10_by_65 : decode cX10_by 65 = .ok (.iload_n 1, 1) := by decide +kernel
theorem d_X10_by_66 : decode cX10_by 66 = .ok (.ineg, 1) := by decide +kernel
theorem d_X10_by_67 : decode cX10_by 67 = .ok (.goto 6, 3) := by decide +kernel
theorem d_X10_by_70 : decode cX10_by 70 = .ok (.iload_n 1, 1) := by decide +kernel
theorem d_X10_by_71 : decode cX10_by 71 = .ok (.iload_n 2, 1) := by decide +kernel
theorem d_X10_by_72 : decode cX10_by 72 = .ok (.idiv, 1) := by decide +kernel
theorem d_X10_by_73 : decode cX10_by 73 = .ok (.ireturn, 1) := by decide +kernel
theorem d_X10_by_74 : decode cX10_by 74 = .ok (.iload_n 2, 1) := by decide +kernel
theorem d_X10_by_75 : decode cX10_by 75 = .ok (.ifCond .eq 8, 3) := by decide +kernel
theorem d_X10_by_78 : decode cX10_by 78 = .ok (.iload_n 2, 1) := by decide +kernel
theorem d_X10_by_79 : decode cX10_by 79 = .ok (.iconst (-1), 1) := by decide +kernel
theorem d_X10_by_80 : decode cX10_by 80 = .ok (.if_icmp .ne 7, 3) := by decide +kernel
theorem d_X10_by_83 : decode cX10_by 83 = .ok (.iconst 0, 1) := by decide +kernel
theorem d_X10_by_84 : decode cX10_by 84 = .ok (.goto 6, 3) := by decide +kernel
theorem d_X10_by_87 : decode cX10_by 87 = .ok (.iload_n 1, 1) := by decide +kernel
theorem d_X10_by_88 : decode cX10_by 88 = .ok (.iload_n 2, 1) := by decide +kernel
theorem d_X10_by_89 : decode cX10_by 89 = .ok (.irem, 1) := by decide +kernel
theorem d_X10_by_90 : decode cX10_by 90 = .ok (.ireturn, 1) := by decide +kernel
theorem d_X10_by_91 : decode cX10_by 91 = .ok (.iload_n 1, 1) := by decide +kernel
theorem d_X10_by_92 : decode cX10_by 92 = .ok (.iload_n 2, 1) := by decide +kernel
theorem d_X10_by_93 : decode cX10_by 93 = .ok (.invokestatic 215, 3) := by decide +kernel
theorem d_X10_by_96 : decode cX10_by 96 = .ok (.ireturn, 1) := by decide +kernel
theorem d_X10_by_97 : decode cX10_by 97 = .ok (.iload_n 1, 1) := by decide +kernel
theorem d_X10_by_98 : decode cX10_by 98 = .ok (.iload_n 2, 1) := by decide +kernel
theorem d_X10_by_99 : decode cX10_by 99 = .ok (.invokestatic 218, 3) := by decide +kernel
theorem d_X10_by_102 : decode cX10_by 102 = .ok (.ireturn, 1) := by decide +kernel
noncomputable def F_X10_by_97 (p0 : Int32) (p1 : Int32) (p2 : Int32) (b97_L1 : Int32) (b97_L2 : Int32) (M : zMem) : Option (Int32 × zMem) :=
  zb (F_X10_more M b97_L1 b97_L2) fun v2 M1 =>
  some (v2, M1)
noncomputable def F_X10_by_91 (p0 : Int32) (p1 : Int32) (p2 : Int32) (b91_L1 : Int32) (b91_L2 : Int32) (M : zMem) : Option (Int32 × zMem) :=
  zb (F_X10_less M b91_L1 b91_L2) fun v4 M3 =>
  some (v4, M3)
noncomputable def F_X10_by_74 (p0 : Int32) (p1 : Int32) (p2 : Int32) (b74_L1 : Int32) (b74_L2 : Int32) (M : zMem) : Option (Int32 × zMem) :=
  if b74_L2 = 0 then
    some ((0 : Int32), M)
  else
    if b74_L2 = (-1 : Int32) then
      some ((0 : Int32), M)
    else
      gd (!(b74_L2 == 0)) <|
      some ((b74_L1 - b74_L1 / b74_L2 * b74_L2), M)
noncomputable def F_X10_by_52 (p0 : Int32) (p1 : Int32) (p2 : Int32) (b52_L1 : Int32) (b52_L2 : Int32) (M : zMem) : Option (Int32 × zMem) :=
  if b52_L2 = 0 then
    some ((0 : Int32), M)
  else
    if b52_L2 = (-1 : Int32) then
      some ((-b52_L1), M)
    else
      gd (!(b52_L2 == 0)) <|
      some ((b52_L1 / b52_L2), M)
noncomputable def F_X10_by_48 (p0 : Int32) (p1 : Int32) (p2 : Int32) (b48_L1 : Int32) (b48_L2 : Int32) (M : zMem) : Option (Int32 × zMem) :=
  some ((b48_L1 * b48_L2), M)
noncomputable def F_X10_by_44 (p0 : Int32) (p1 : Int32) (p2 : Int32) (b44_L1 : Int32) (b44_L2 : Int32) (M : zMem) : Option (Int32 × zMem) :=
  some ((b44_L1 - b44_L2), M)
noncomputable def F_X10_by_40 (p0 : Int32) (p1 : Int32) (p2 : Int32) (b40_L1 : Int32) (b40_L2 : Int32) (M : zMem) : Option (Int32 × zMem) :=
  some ((b40_L1 + b40_L2), M)
noncomputable def F_X10_by (M : zMem) (p0 : Int32) (p1 : Int32) (p2 : Int32) : Option (Int32 × zMem) :=
  if p0 = 2 then
    F_X10_by_40 p0 p1 p2 p1 p2 M
  else
  if p0 = 3 then
    F_X10_by_44 p0 p1 p2 p1 p2 M
  else
  if p0 = 4 then
    F_X10_by_48 p0 p1 p2 p1 p2 M
  else
  if p0 = 5 then
    F_X10_by_52 p0 p1 p2 p1 p2 M
  else
  if p0 = 6 then
    F_X10_by_74 p0 p1 p2 p1 p2 M
  else
  if p0 = 7 then
    F_X10_by_91 p0 p1 p2 p1 p2 M
  else
  F_X10_by_97 p0 p1 p2 p1 p2 M
def rm_X10_by : Room := { frames := 3, cells := 0, slots := 0, locals := 101 }
set_option maxHeartbeats 4000000 in
set_option maxRecDepth 100000 in
theorem c_X10_by (l : Launch) {G : zG} {ad : Nat → Nat} {n : Nat} (hA : zInj ad n) (M : zMem) (p0 : Int32) (p1 : Int32) (p2 : Int32) {r9 : Int32} {M9 : zMem} (hF : F_X10_by M p0 p1 p2 = some (r9, M9)) : zM l yX10_by cX10_by 3 (some .int) rm_X10_by G shM ad n M [.int p0, .int p1, .int p2] (some (.int r9)) M9 := by
  refine zM_of hA (by decide +kernel) (lv := [(0, .int p0), (1, .int p1), (2, .int p2)]) (Nat.le_of_ble_eq_true rfl) rfl (fun p e s m args below meth c A cx hr => ?_)
  have hb97 : ∀ (b97_L1 : Int32) (b97_L2 : Int32) (M : zMem), F_X10_by_97 p0 p1 p2 b97_L1 b97_L2 M = some (r9, M9) → zJ p l e rm_X10_by s m args below meth c G shM ad n A 3 (MQ below (zQ G shM ad n M9 (some (.int r9)) A) args s 0 0 A) 0 0 M 97 [(1, .int b97_L1), (2, .int b97_L2)] [] := by
    intro b97_L1 b97_L2 M hF
    unfold F_X10_by_97 at hF
    refine z_iload_n cx d_X10_by_97 0 rfl ?_
    refine z_iload_n cx d_X10_by_98 1 rfl ?_
    obtain ⟨v2, M1, hc, hF⟩ := zb_inv hF
    refine z_callS cx (As := [.int b97_L1, .int b97_L2]) (rest := []) (c_X10_more l cx.2.2.2.1.1 M b97_L1 b97_L2  hc) cs_SunnyPansModel_218 ⟨rfl, rfl, Nat.le_of_ble_eq_true rfl, Nat.le_of_ble_eq_true rfl⟩ rfl rfl ⟨Nat.zero_le _, Nat.zero_le _⟩ (Nat.le_of_ble_eq_true rfl) d_X10_by_99 ?_
    exact z_iret cx hr rfl hF d_X10_by_102
  have hb91 : ∀ (b91_L1 : Int32) (b91_L2 : Int32) (M : zMem), F_X10_by_91 p0 p1 p2 b91_L1 b91_L2 M = some (r9, M9) → zJ p l e rm_X10_by s m args below meth c G shM ad n A 3 (MQ below (zQ G shM ad n M9 (some (.int r9)) A) args s 0 0 A) 0 0 M 91 [(1, .int b91_L1), (2, .int b91_L2)] [] := by
    intro b91_L1 b91_L2 M hF
    unfold F_X10_by_91 at hF
    refine z_iload_n cx d_X10_by_91 0 rfl ?_
    refine z_iload_n cx d_X10_by_92 1 rfl ?_
    obtain ⟨v4, M3, hc, hF⟩ := zb_inv hF
    refine z_callS cx (As := [.int b91_L1, .int b91_L2]) (rest := []) (c_X10_less l cx.2.2.2.1.1 M b91_L1 b91_L2  hc) cs_SunnyPansModel_215 ⟨rfl, rfl, Nat.le_of_ble_eq_true rfl, Nat.le_of_ble_eq_true rfl⟩ rfl rfl ⟨Nat.zero_le _, Nat.zero_le _⟩ (Nat.le_of_ble_eq_true rfl) d_X10_by_93 ?_
    exact z_iret cx hr rfl hF d_X10_by_96
  have hb74 : ∀ (b74_L1 : Int32) (b74_L2 : Int32) (M : zMem), F_X10_by_74 p0 p1 p2 b74_L1 b74_L2 M = some (r9, M9) → zJ p l e rm_X10_by s m args below meth c G shM ad n A 3 (MQ below (zQ G shM ad n M9 (some (.int r9)) A) args s 0 0 A) 0 0 M 74 [(1, .int b74_L1), (2, .int b74_L2)] [] := by
    intro b74_L1 b74_L2 M hF
    unfold F_X10_by_74 at hF
    refine z_iload_n cx d_X10_by_74 1 rfl ?_
    refine z_if_eq cx 83 d_X10_by_75 (by decide) hF (fun hF => ?_) (fun hF => ?_)
    · refine z_iconst (v := 0) cx d_X10_by_83 ki_0 ?_
      refine z_goto cx 90 d_X10_by_84 (by decide) ?_
      exact z_iret cx hr rfl hF d_X10_by_90
    refine z_iload_n cx d_X10_by_78 1 rfl ?_
    refine z_iconst (v := -1) cx d_X10_by_79 ki_m1 ?_
    refine z_icmp_ne cx 87 d_X10_by_80 (by decide) hF (fun hF => ?_) (fun hF => ?_)
    · refine z_iload_n cx d_X10_by_87 0 rfl ?_
      refine z_iload_n cx d_X10_by_88 1 rfl ?_
      obtain ⟨hz5, hF⟩ := gd_inv hF
      refine z_irem cx d_X10_by_89 (zne hz5) ?_
      exact z_iret cx hr rfl hF d_X10_by_90
    refine z_iconst (v := 0) cx d_X10_by_83 ki_0 ?_
    refine z_goto cx 90 d_X10_by_84 (by decide) ?_
    exact z_iret cx hr rfl hF d_X10_by_90
  have hb52 : ∀ (b52_L1 : Int32) (b52_L2 : Int32) (M : zMem), F_X10_by_52 p0 p1 p2 b52_L1 b52_L2 M = some (r9, M9) → zJ p l e rm_X10_by s m args below meth c G shM ad n A 3 (MQ below (zQ G shM ad n M9 (some (.int r9)) A) args s 0 0 A) 0 0 M 52 [(1, .int b52_L1), (2, .int b52_L2)] [] := by
    intro b52_L1 b52_L2 M hF
    unfold F_X10_by_52 at hF
    refine z_iload_n cx d_X10_by_52 1 rfl ?_
    refine z_if_ne cx 60 d_X10_by_53 (by decide) hF (fun hF => ?_) (fun hF => ?_)
    · refine z_iload_n cx d_X10_by_60 1 rfl ?_
      refine z_iconst (v := -1) cx d_X10_by_61 ki_m1 ?_
      refine z_icmp_ne cx 70 d_X10_by_62 (by decide) hF (fun hF => ?_) (fun hF => ?_)
      · refine z_iload_n cx d_X10_by_70 0 rfl ?_
        refine z_iload_n cx d_X10_by_71 1 rfl ?_
        obtain ⟨hz6, hF⟩ := gd_inv hF
        refine z_idiv cx d_X10_by_72 (zne hz6) ?_
        exact z_iret cx hr rfl hF d_X10_by_73
      refine z_iload_n cx d_X10_by_65 0 rfl ?_
      refine z_ineg cx d_X10_by_66 ?_
      refine z_goto cx 73 d_X10_by_67 (by decide) ?_
      exact z_iret cx hr rfl hF d_X10_by_73
    refine z_iconst (v := 0) cx d_X10_by_56 ki_0 ?_
    refine z_goto cx 73 d_X10_by_57 (by decide) ?_
    exact z_iret cx hr rfl hF d_X10_by_73
  have hb48 : ∀ (b48_L1 : Int32) (b48_L2 : Int32) (M : zMem), F_X10_by_48 p0 p1 p2 b48_L1 b48_L2 M = some (r9, M9) → zJ p l e rm_X10_by s m args below meth c G shM ad n A 3 (MQ below (zQ G shM ad n M9 (some (.int r9)) A) args s 0 0 A) 0 0 M 48 [(1, .int b48_L1), (2, .int b48_L2)] [] := by
    intro b48_L1 b48_L2 M hF
    unfold F_X10_by_48 at hF
    refine z_iload_n cx d_X10_by_48 0 rfl ?_
    refine z_iload_n cx d_X10_by_49 1 rfl ?_
    refine z_imul cx d_X10_by_50 ?_
    exact z_iret cx hr rfl hF d_X10_by_51
  have hb44 : ∀ (b44_L1 : Int32) (b44_L2 : Int32) (M : zMem), F_X10_by_44 p0 p1 p2 b44_L1 b44_L2 M = some (r9, M9) → zJ p l e rm_X10_by s m args below meth c G shM ad n A 3 (MQ below (zQ G shM ad n M9 (some (.int r9)) A) args s 0 0 A) 0 0 M 44 [(1, .int b44_L1), (2, .int b44_L2)] [] := by
    intro b44_L1 b44_L2 M hF
    unfold F_X10_by_44 at hF
    refine z_iload_n cx d_X10_by_44 0 rfl ?_
    refine z_iload_n cx d_X10_by_45 1 rfl ?_
    refine z_isub cx d_X10_by_46 ?_
    exact z_iret cx hr rfl hF d_X10_by_47
  have hb40 : ∀ (b40_L1 : Int32) (b40_L2 : Int32) (M : zMem), F_X10_by_40 p0 p1 p2 b40_L1 b40_L2 M = some (r9, M9) → zJ p l e rm_X10_by s m args below meth c G shM ad n A 3 (MQ below (zQ G shM ad n M9 (some (.int r9)) A) args s 0 0 A) 0 0 M 40 [(1, .int b40_L1), (2, .int b40_L2)] [] := by
    intro b40_L1 b40_L2 M hF
    unfold F_X10_by_40 at hF
    refine z_iload_n cx d_X10_by_40 0 rfl ?_
    refine z_iload_n cx d_X10_by_41 1 rfl ?_
    refine z_iadd cx d_X10_by_42 ?_
    exact z_iret cx hr rfl hF d_X10_by_43
  unfold F_X10_by at hF
  refine z_iload_n cx d_X10_by_0 0 rfl ?_
  by_cases q0 : p0 = 2
  · rw [if_pos q0] at hF
    refine z_tabIn cx 40 d_X10_by_1 (by rw [q0]; decide +kernel) (by rw [q0]; decide +kernel) (by rw [q0]; rfl) (by decide) ?_
    exact z_lv [1, 2] _ rfl (hb40 p1 p2 M hF)
  rw [if_neg q0] at hF
  by_cases q1 : p0 = 3
  · rw [if_pos q1] at hF
    refine z_tabIn cx 44 d_X10_by_1 (by rw [q1]; decide +kernel) (by rw [q1]; decide +kernel) (by rw [q1]; rfl) (by decide) ?_
    exact z_lv [1, 2] _ rfl (hb44 p1 p2 M hF)
  rw [if_neg q1] at hF
  by_cases q2 : p0 = 4
  · rw [if_pos q2] at hF
    refine z_tabIn cx 48 d_X10_by_1 (by rw [q2]; decide +kernel) (by rw [q2]; decide +kernel) (by rw [q2]; rfl) (by decide) ?_
    exact z_lv [1, 2] _ rfl (hb48 p1 p2 M hF)
  rw [if_neg q2] at hF
  by_cases q3 : p0 = 5
  · rw [if_pos q3] at hF
    refine z_tabIn cx 52 d_X10_by_1 (by rw [q3]; decide +kernel) (by rw [q3]; decide +kernel) (by rw [q3]; rfl) (by decide) ?_
    exact z_lv [1, 2] _ rfl (hb52 p1 p2 M hF)
  rw [if_neg q3] at hF
  by_cases q4 : p0 = 6
  · rw [if_pos q4] at hF
    refine z_tabIn cx 74 d_X10_by_1 (by rw [q4]; decide +kernel) (by rw [q4]; decide +kernel) (by rw [q4]; rfl) (by decide) ?_
    exact z_lv [1, 2] _ rfl (hb74 p1 p2 M hF)
  rw [if_neg q4] at hF
  by_cases q5 : p0 = 7
  · rw [if_pos q5] at hF
    refine z_tabIn cx 91 d_X10_by_1 (by rw [q5]; decide +kernel) (by rw [q5]; decide +kernel) (by rw [q5]; rfl) (by decide) ?_
    exact z_lv [1, 2] _ rfl (hb91 p1 p2 M hF)
  rw [if_neg q5] at hF
  refine z_tabOut cx 97 d_X10_by_1 (by have w0 := lv_neT q0 (a := 2) (by decide +kernel); have w1 := lv_neT q1 (a := 3) (by decide +kernel); have w2 := lv_neT q2 (a := 4) (by decide +kernel); have w3 := lv_neT q3 (a := 5) (by decide +kernel); have w4 := lv_neT q4 (a := 6) (by decide +kernel); have w5 := lv_neT q5 (a := 7) (by decide +kernel); omega) (by decide) ?_
  exact z_lv [1, 2] _ rfl (hb97 p1 p2 M hF)
/-! SunnyPansModel.byLaw -/
theorem tfM_11_368 {n k : Nat} (h : zT shM n k 11) : zT shM n (k + 368) 33 := zT_off h (shM_f (by decide) (by decide +kernel)) (by decide) (by decide)
theorem tfM_11_369 {n k : Nat} (h : zT shM n k 11) : zT shM n (k + 369) 26 := zT_off h (shM_f (by decide) (by decide +kernel)) (by decide) (by decide)
set_option maxRecDepth 100000 in
theorem wd_1417 : Cond.fieldLink "SunnyPansModel" 49 "SunnyPansModel" "stack" "[I" ∈ tbG := tw6 117 rfl rfl
theorem fg_SunnyPansModel_49 : zGetR "SunnyPansModel" 49 10 11 22 368 := ⟨RX10, TX10, 40, rfl, by decide, uw_10, wd_1417, fun _ _ _ _ _ _ => ⟨_, rfl, rfl⟩⟩
theorem za_33 : zArrI 33 160 := fun _ _ _ _ _ _ => rfl
set_option maxRecDepth 100000 in
theorem wd_1738 : Cond.code yX10_by cX10_by 3 (some .int) ∈ tbG := tw7 198 rfl rfl
set_option maxRecDepth 100000 in
theorem wd_1736 : Cond.methodLink "SunnyPansModel" 221 yX10_by ∈ tbG := tw7 196 rfl rfl
set_option maxRecDepth 100000 in
theorem wd_1737 : Cond.static yX10_by ∈ tbG := tw7 197 rfl rfl
theorem cs_SunnyPansModel_221 : zCS "SunnyPansModel" 221 yX10_by cX10_by 3 (some .int) 3 := zCS_of wd_1736 wd_1737 wd_111 wd_1738 (by decide +kernel)
set_option maxRecDepth 100000 in
theorem wd_1418 : Cond.fieldLink "SunnyPansModel" 52 "SunnyPansModel" "known" "[I" ∈ tbG := tw6 118 rfl rfl
theorem fg_SunnyPansModel_52 : zGetR "SunnyPansModel" 52 10 11 23 369 := ⟨RX10, TX10, 40, rfl, by decide, uw_10, wd_1418, fun _ _ _ _ _ _ => ⟨_, rfl, rfl⟩⟩
theorem d_X10_byLaw_0 : decode cX10_byLaw 0 = .ok (.iconst 0, 1) := by decide +kernel
theorem d_X10_byLaw_1 : decode cX10_byLaw 1 = .ok (.istore_n 1, 1) := by decide +kernel
theorem d_X10_byLaw_2 : decode cX10_byLaw 2 = .ok (.aload_n 0, 1) := by decide +kernel
theorem d_X10_byLaw_3 : decode cX10_byLaw 3 = .ok (.getfield 49, 3) := by decide +kernel
theorem d_X10_byLaw_6 : decode cX10_byLaw 6 = .ok (.iconst 0, 1) := by decide +kernel
theorem d_X10_byLaw_7 : decode cX10_byLaw 7 = .ok (.bipush 10, 2) := by decide +kernel
theorem d_X10_byLaw_9 : decode cX10_byLaw 9 = .ok (.aload_n 0, 1) := by decide +kernel
theorem d_X10_byLaw_10 : decode cX10_byLaw 10 = .ok (.getfield 52, 3) := by decide +kernel
theorem d_X10_byLaw_13 : decode cX10_byLaw 13 = .ok (.iconst 2, 1) := by decide +kernel
theorem d_X10_byLaw_14 : decode cX10_byLaw 14 = .ok (.iaload, 1) := by decide +kernel
theorem d_X10_byLaw_15 : decode cX10_byLaw 15 = .ok (.iconst 4, 1) := by decide +kernel
theorem d_X10_byLaw_16 : decode cX10_byLaw 16 = .ok (.idiv, 1) := by decide +kernel
theorem d_X10_byLaw_17 : decode cX10_byLaw 17 = .ok (.iadd, 1) := by decide +kernel
theorem d_X10_byLaw_18 : decode cX10_byLaw 18 = .ok (.iastore, 1) := by decide +kernel
theorem d_X10_byLaw_19 : decode cX10_byLaw 19 = .ok (.iconst 0, 1) := by decide +kernel
theorem d_X10_byLaw_20 : decode cX10_byLaw 20 = .ok (.istore_n 2, 1) := by decide +kernel
theorem d_X10_byLaw_21 : decode cX10_byLaw 21 = .ok (.iload_n 2, 1) := by decide +kernel
theorem d_X10_byLaw_22 : decode cX10_byLaw 22 = .ok (.aload_n 0, 1) := by decide +kernel
theorem d_X10_byLaw_23 : decode cX10_byLaw 23 = .ok (.getfield 172, 3) := by decide +kernel
theorem d_X10_byLaw_26 : decode cX10_byLaw 26 = .ok (.if_icmp .ge 104, 3) := by decide +kernel
theorem d_X10_byLaw_29 : decode cX10_byLaw 29 = .ok (.aload_n 0, 1) := by decide +kernel
theorem d_X10_byLaw_30 : decode cX10_byLaw 30 = .ok (.getfield 37, 3) := by decide +kernel
theorem d_X10_byLaw_33 : decode cX10_byLaw 33 = .ok (.iload_n 2, 1) := by decide +kernel
theorem d_X10_byLaw_34 : decode cX10_byLaw 34 = .ok (.aaload, 1) := by decide +kernel
theorem d_X10_byLaw_35 : decode cX10_byLaw 35 = .ok (.iconst 0, 1) := by decide +kernel
theorem d_X10_byLaw_36 : decode cX10_byLaw 36 = .ok (.iaload, 1) := by decide +kernel
theorem d_X10_byLaw_37 : decode cX10_byLaw 37 = .ok (.iconst 2, 1) := by decide +kernel
theorem d_X10_byLaw_38 : decode cX10_byLaw 38 = .ok (.if_icmp .ge 50, 3) := by decide +kernel
theorem d_X10_byLaw_41 : decode cX10_byLaw 41 = .ok (.aload_n 0, 1) := by decide +kernel
theorem d_X10_byLaw_42 : decode cX10_byLaw 42 = .ok (.getfield 49, 3) := by decide +kernel
theorem d_X10_byLaw_45 : decode cX10_byLaw 45 = .ok (.iload_n 1, 1) := by decide +kernel
theorem d_X10_byLaw_46 : decode cX10_byLaw 46 = .ok (.aload_n 0, 1) := by decide +kernel
theorem d_X10_byLaw_47 : decode cX10_byLaw 47 = .ok (.getfield 37, 3) := by decide +kernel
theorem d_X10_byLaw_50 : decode cX10_byLaw 50 = .ok (.iload_n 2, 1) := by decide +kernel
theorem d_X10_byLaw_51 : decode cX10_byLaw 51 = .ok (.aaload, 1) := by decide +kernel
theorem d_X10_byLaw_52 : decode cX10_byLaw 52 = .ok (.iconst 0, 1) := by decide +kernel
theorem d_X10_byLaw_53 : decode cX10_byLaw 53 = .ok (.iaload, 1) := by decide +kernel
theorem d_X10_byLaw_54 : decode cX10_byLaw 54 = .ok (.ifCond .ne 14, 3) := by decide +kernel
theorem d_X10_byLaw_57 : decode cX10_byLaw 57 = .ok (.aload_n 0, 1) := by decide +kernel
theorem d_X10_byLaw_58 : decode cX10_byLaw 58 = .ok (.getfield 37, 3) := by decide +kernel
theorem d_X10_byLaw_61 : decode cX10_byLaw 61 = .ok (.iload_n 2, 1) := by decide +kernel
theorem d_X10_byLaw_62 : decode cX10_byLaw 62 = .ok (.aaload, 1) := by decide +kernel
theorem d_X10_byLaw_63 : decode cX10_byLaw 63 = .ok (.iconst 1, 1) := by decide +kernel
theorem d_X10_byLaw_64 : decode cX10_byLaw 64 = .ok (.iaload, 1) := by decide +kernel
theorem d_X10_byLaw_65 : decode cX10_byLaw 65 = .ok (.goto 16, 3) := by decide +kernel
theorem d_X10_byLaw_68 : decode cX10_byLaw 68 = .ok (.aload_n 0, 1) := by decide +kernel
theorem d_X10_byLaw_69 : decode cX10_byLaw 69 = .ok (.getfield 52, 3) := by decide +kernel
theorem d_X10_byLaw_72 : decode cX10_byLaw 72 = .ok (.aload_n 0, 1) := by decide +kernel
theorem d_X10_byLaw_73 : decode cX10_byLaw 73 = .ok (.getfield 37, 3) := by decide +kernel
theorem d_X10_byLaw_76 : decode cX10_byLaw 76 = .ok (.iload_n 2, 1) := by decide +kernel
theorem d_X10_byLaw_77 : decode cX10_byLaw 77 = .ok (.aaload, 1) := by decide +kernel
theorem d_X10_byLaw_78 : decode cX10_byLaw 78 = .ok (.iconst 1, 1) := by decide +kernel
theorem d_X10_byLaw_79 : decode cX10_byLaw 79 = .ok (.iaload, 1) := by decide +kernel
theorem d_X10_byLaw_80 : decode cX10_byLaw 80 = .ok (.iaload, 1) := by decide +kernel
theorem d_X10_byLaw_81 : decode cX10_byLaw 81 = .ok (.iastore, 1) := by decide +kernel
theorem d_X10_byLaw_82 : decode cX10_byLaw 82 = .ok (.iinc 1 1, 3) := by decide +kernel
theorem d_X10_byLaw_85 : decode cX10_byLaw 85 = .ok (.goto 39, 3) := by decide +kernel
theorem d_X10_byLaw_88 : decode cX10_byLaw 88 = .ok (.iinc 1 (-1), 3) := by decide +kernel
theorem d_X10_byLaw_91 : decode cX10_byLaw 91 = .ok (.aload_n 0, 1) := by decide +kernel
theorem d_X10_byLaw_92 : decode cX10_byLaw 92 = .ok (.getfield 49, 3) := by decide +kernel
theorem d_X10_byLaw_95 : decode cX10_byLaw 95 = .ok (.iload_n 1, 1) := by decide +kernel
theorem d_X10_byLaw_96 : decode cX10_byLaw 96 = .ok (.iconst 1, 1) := by decide +kernel
theorem d_X10_byLaw_97 : decode cX10_byLaw 97 = .ok (.isub, 1) := by decide +kernel
theorem d_X10_byLaw_98 : decode cX10_byLaw 98 = .ok (.aload_n 0, 1) := by decide +kernel
theorem d_X10_byLaw_99 : decode cX10_byLaw 99 = .ok (.getfield 37, 3) := by decide +kernel
theorem d_X10_byLaw_102 : decode cX10_byLaw 102 = .ok (.iload_n 2, 1) := by decide +kernel
theorem d_X10_byLaw_103 : decode cX10_byLaw 103 = .ok (.aaload, 1) := by decide +kernel
theorem d_X10_byLaw_104 : decode cX10_byLaw 104 = .ok (.iconst 0, 1) := by decide +kernel
theorem d_X10_byLaw_105 : decode cX10_byLaw 105 = .ok (.iaload, 1) := by decide +kernel
theorem d_X10_byLaw_106 : decode cX10_byLaw 106 = .ok (.aload_n 0, 1) := by decide +kernel
theorem d_X10_byLaw_107 : decode cX10_byLaw 107 = .ok (.getfield 49, 3) := by decide +kernel
theorem d_X10_byLaw_110 : decode cX10_byLaw 110 = .ok (.iload_n 1, 1) := by decide +kernel
theorem d_X10_byLaw_111 : decode cX10_byLaw 111 = .ok (.iconst 1, 1) := by decide +kernel
theorem d_X10_byLaw_112 : decode cX10_byLaw 112 = .ok (.isub, 1) := by decide +kernel
theorem d_X10_byLaw_113 : decode cX10_byLaw 113 = .ok (.iaload, 1) := by decide +kernel
theorem d_X10_byLaw_114 : decode cX10_byLaw 114 = .ok (.aload_n 0, 1) := by decide +kernel
theorem d_X10_byLaw_115 : decode cX10_byLaw 115 = .ok (.getfield 49, 3) := by decide +kernel
theorem d_X10_byLaw_118 : decode cX10_byLaw 118 = .ok (.iload_n 1, 1) := by decide +kernel
theorem d_X10_byLaw_119 : decode cX10_byLaw 119 = .ok (.iaload, 1) := by decide +kernel
theorem d_X10_byLaw_120 : decode cX10_byLaw 120 = .ok (.invokestatic 221, 3) := by decide +kernel
theorem d_X10_byLaw_123 : decode cX10_byLaw 123 = .ok (.iastore, 1) := by decide +kernel
theorem d_X10_byLaw_124 : decode cX10_byLaw 124 = .ok (.iinc 2 1, 3) := by decide +kernel
theorem d_X10_byLaw_127 : decode cX10_byLaw 127 = .ok (.goto (-106), 3) := by decide +kernel
theorem d_X10_byLaw_130 : decode cX10_byLaw 130 = .ok (.bipush 99, 2) := by decide +kernel
theorem d_X10_byLaw_132 : decode cX10_byLaw 132 = .ok (.iconst 0, 1) := by decide +kernel
theorem d_X10_byLaw_133 : decode cX10_byLaw 133 = .ok (.aload_n 0, 1) := by decide +kernel
theorem d_X10_byLaw_134 : decode cX10_byLaw 134 = .ok (.getfield 49, 3) := by decide +kernel
theorem d_X10_byLaw_137 : decode cX10_byLaw 137 = .ok (.iconst 0, 1) := by decide +kernel
theorem d_X10_byLaw_138 : decode cX10_byLaw 138 = .ok (.iaload, 1) := by decide +kernel
theorem d_X10_byLaw_139 : decode cX10_byLaw 139 = .ok (.invokestatic 218, 3) := by decide +kernel
theorem d_X10_byLaw_142 : decode cX10_byLaw 142 = .ok (.invokestatic 215, 3) := by decide +kernel
theorem d_X10_byLaw_145 : decode cX10_byLaw 145 = .ok (.ireturn, 1) := by decide +kernel
noncomputable def F_X10_byLaw_124 (self21 : Int32 → Int32 → zMem → Option (Int32 × zMem)) (b124_L1 : Int32) (b124_L2 : Int32) (M : zMem) : Option (Int32 × zMem) :=
  self21 b124_L1 (b124_L2 + 1) M
noncomputable def F_X10_byLaw_21 (self21 : Int32 → Int32 → zMem → Option (Int32 × zMem)) (b21_L1 : Int32) (b21_L2 : Int32) (M : zMem) : Option (Int32 × zMem) :=
  if (M.1 0 16) ≤ b21_L2 then
    zb (F_X10_more M (0 : Int32) (M.1 368 0)) fun v2 M1 =>
    zb (F_X10_less M1 (99 : Int32) v2) fun v4 M3 =>
    some (v4, M3)
  else
    gin b21_L2 160 <|
    if (2 : Int32) ≤ (M.1 (28 + (1 + 1 * b21_L2.toNatClampNeg)) 0) then
      gin ((b21_L1 + (-1)) - (1 : Int32)) 160 <|
      gin (b21_L1 + (-1)) 160 <|
      zb (F_X10_by M (M.1 (28 + (1 + 1 * b21_L2.toNatClampNeg)) 0) (M.1 368 ((b21_L1 + (-1)) - (1 : Int32)).toNatClampNeg) (M.1 368 (b21_L1 + (-1)).toNatClampNeg)) fun v9 M8 =>
      zl (zI M8 368 (((b21_L1 + (-1)) - (1 : Int32)).toNatClampNeg) v9) fun M10 =>
      F_X10_byLaw_124 self21 (b21_L1 + (-1)) b21_L2 M10
    else
      if (M.1 (28 + (1 + 1 * b21_L2.toNatClampNeg)) 0) = 0 then
        gin b21_L1 160 <|
        zl (zI M 368 b21_L1.toNatClampNeg (M.1 (28 + (1 + 1 * b21_L2.toNatClampNeg)) 1)) fun M15 =>
        F_X10_byLaw_124 self21 (b21_L1 + 1) b21_L2 M15
      else
        gin (M.1 (28 + (1 + 1 * b21_L2.toNatClampNeg)) 1) 8 <|
        gin b21_L1 160 <|
        zl (zI M 368 b21_L1.toNatClampNeg (M.1 369 (M.1 (28 + (1 + 1 * b21_L2.toNatClampNeg)) 1).toNatClampNeg)) fun M13 =>
        F_X10_byLaw_124 self21 (b21_L1 + 1) b21_L2 M13
noncomputable def F_X10_byLaw (M : zMem)  : Option (Int32 × zMem) :=
  zl (zI M 368 0 ((10 : Int32) + ((M.1 369 2) / (4 : Int32)))) fun M16 =>
  itF (fun _ _ _ => none) (F_X10_byLaw_21) zFuel (0 : Int32) (0 : Int32) M16
def rm_X10_byLaw : Room := { frames := 4, cells := 0, slots := 0, locals := 123 }
set_option maxHeartbeats 4000000 in
set_option maxRecDepth 100000 in
theorem c_X10_byLaw (l : Launch) {G : zG} {ad : Nat → Nat} {n : Nat} (hA : zInj ad n) (M : zMem)  (hT : zT shM n 0 11) {r9 : Int32} {M9 : zMem} (hF : F_X10_byLaw M  = some (r9, M9)) : zM l yX10_byLaw cX10_byLaw 3 (some .int) rm_X10_byLaw G shM ad n M [.ref (ad 0)] (some (.int r9)) M9 := by
  refine zM_of hA (by decide +kernel) (lv := [(0, .ref (ad 0))]) (Nat.le_of_ble_eq_true rfl) rfl (fun p e s m args below meth c A cx hr => ?_)
  have hb124 : ∀ (self21 : Int32 → Int32 → zMem → Option (Int32 × zMem)) (hs21 : ∀ (b21_L1 : Int32) (b21_L2 : Int32) (M : zMem), self21 b21_L1 b21_L2 M = some (r9, M9) → zJ p l e rm_X10_byLaw s m args below meth c G shM ad n A 3 (MQ below (zQ G shM ad n M9 (some (.int r9)) A) args s 0 0 A) 0 0 M 21 [(0, .ref (ad 0)), (1, .int b21_L1), (2, .int b21_L2)] []), ∀ (b124_L1 : Int32) (b124_L2 : Int32) (M : zMem), F_X10_byLaw_124 self21 b124_L1 b124_L2 M = some (r9, M9) → zJ p l e rm_X10_byLaw s m args below meth c G shM ad n A 3 (MQ below (zQ G shM ad n M9 (some (.int r9)) A) args s 0 0 A) 0 0 M 124 [(0, .ref (ad 0)), (1, .int b124_L1), (2, .int b124_L2)] [] := by
    intro self21 hs21 b124_L1 b124_L2 M hF
    unfold F_X10_byLaw_124 at hF
    refine z_iinc cx 2 1 [(2, .int (b124_L2 + 1)), (0, .ref (ad 0)), (1, .int b124_L1)] d_X10_byLaw_124 2 rfl ki_1 (by decide) rfl ?_
    refine z_goto cx 21 d_X10_byLaw_127 (by decide) ?_
    exact z_lv [1, 2, 0] _ rfl (hs21 b124_L1 (b124_L2 + 1) M hF)
  have hL21 : ∀ (fuel : Nat), ∀ (b21_L1 : Int32) (b21_L2 : Int32) (M : zMem), itF (fun _ _ _ => none) (F_X10_byLaw_21) fuel b21_L1 b21_L2 M = some (r9, M9) → zJ p l e rm_X10_byLaw s m args below meth c G shM ad n A 3 (MQ below (zQ G shM ad n M9 (some (.int r9)) A) args s 0 0 A) 0 0 M 21 [(0, .ref (ad 0)), (1, .int b21_L1), (2, .int b21_L2)] [] := by
    intro fuel
    induction fuel with
    | zero => intro b21_L1 b21_L2 M hF; cases hF
    | succ fuel hs21 =>
      intro b21_L1 b21_L2 M hF
      have hF : F_X10_byLaw_21 (itF (fun _ _ _ => none) (F_X10_byLaw_21) fuel) b21_L1 b21_L2 M = some (r9, M9) := hF
      generalize itF (fun _ _ _ => none) (F_X10_byLaw_21) fuel = self21 at hs21 hF
      unfold F_X10_byLaw_21 at hF
      refine z_iload_n cx d_X10_byLaw_21 2 rfl ?_
      refine z_aload_n cx d_X10_byLaw_22 0 rfl ?_
      refine z_getI cx hT fg_SunnyPansModel_172 d_X10_byLaw_23 ?_
      refine z_icmp_ge cx 130 d_X10_byLaw_26 (by decide) hF (fun hF => ?_) (fun hF => ?_)
      · refine z_bipush (v := 99) cx d_X10_byLaw_130 kb_99 ?_
        refine z_iconst (v := 0) cx d_X10_byLaw_132 ki_0 ?_
        refine z_aload_n cx d_X10_byLaw_133 0 rfl ?_
        refine z_getR cx hT fg_SunnyPansModel_49 368 rfl d_X10_byLaw_134 ?_
        refine z_iconst (v := 0) cx d_X10_byLaw_137 ki_0 ?_
        refine z_iald cx (tfM_11_368 hT) za_33 (zvp (by decide +kernel)) 0 rfl d_X10_byLaw_138 ?_
        obtain ⟨v2, M1, hc, hF⟩ := zb_inv hF
        refine z_callS cx (As := [.int (0 : Int32), .int (M.1 368 0)]) (rest := [.int (99 : Int32)]) (c_X10_more l cx.2.2.2.1.1 M (0 : Int32) (M.1 368 0)  hc) cs_SunnyPansModel_218 ⟨rfl, rfl, Nat.le_of_ble_eq_true rfl, Nat.le_of_ble_eq_true rfl⟩ rfl rfl ⟨Nat.zero_le _, Nat.zero_le _⟩ (Nat.le_of_ble_eq_true rfl) d_X10_byLaw_139 ?_
        obtain ⟨v4, M3, hc, hF⟩ := zb_inv hF
        refine z_callS cx (As := [.int (99 : Int32), .int v2]) (rest := []) (c_X10_less l cx.2.2.2.1.1 M1 (99 : Int32) v2  hc) cs_SunnyPansModel_215 ⟨rfl, rfl, Nat.le_of_ble_eq_true rfl, Nat.le_of_ble_eq_true rfl⟩ rfl rfl ⟨Nat.zero_le _, Nat.zero_le _⟩ (Nat.le_of_ble_eq_true rfl) d_X10_byLaw_142 ?_
        exact z_iret cx hr rfl hF d_X10_byLaw_145
      refine z_aload_n cx d_X10_byLaw_29 0 rfl ?_
      refine z_getR cx hT fg_SunnyPansModel_37 28 rfl d_X10_byLaw_30 ?_
      refine z_iload_n cx d_X10_byLaw_33 2 rfl ?_
      obtain ⟨hi5, hF⟩ := gin_inv hF
      refine z_aald cx (tfM_11_28 hT) za_31 hi5 (28 + (1 + 1 * b21_L2.toNatClampNeg)) rfl d_X10_byLaw_34 ?_
      refine z_iconst (v := 0) cx d_X10_byLaw_35 ki_0 ?_
      refine z_iald cx (teM_31 (tfM_11_28 hT) hi5) za_27 (zvp (by decide +kernel)) 0 rfl d_X10_byLaw_36 ?_
      refine z_iconst (v := 2) cx d_X10_byLaw_37 ki_2 ?_
      refine z_icmp_ge cx 88 d_X10_byLaw_38 (by decide) hF (fun hF => ?_) (fun hF => ?_)
      · refine z_iinc cx 1 (-1) [(1, .int (b21_L1 + (-1))), (0, .ref (ad 0)), (2, .int b21_L2)] d_X10_byLaw_88 1 rfl ki_m1 (by decide) rfl ?_
        refine z_aload_n cx d_X10_byLaw_91 1 rfl ?_
        refine z_getR cx hT fg_SunnyPansModel_49 368 rfl d_X10_byLaw_92 ?_
        refine z_iload_n cx d_X10_byLaw_95 0 rfl ?_
        refine z_iconst (v := 1) cx d_X10_byLaw_96 ki_1 ?_
        refine z_isub cx d_X10_byLaw_97 ?_
        refine z_aload_n cx d_X10_byLaw_98 1 rfl ?_
        refine z_getR cx hT fg_SunnyPansModel_37 28 rfl d_X10_byLaw_99 ?_
        refine z_iload_n cx d_X10_byLaw_102 2 rfl ?_
        refine z_aald cx (tfM_11_28 hT) za_31 hi5 (28 + (1 + 1 * b21_L2.toNatClampNeg)) rfl d_X10_byLaw_103 ?_
        refine z_iconst (v := 0) cx d_X10_byLaw_104 ki_0 ?_
        refine z_iald cx (teM_31 (tfM_11_28 hT) hi5) za_27 (zvp (by decide +kernel)) 0 rfl d_X10_byLaw_105 ?_
        refine z_aload_n cx d_X10_byLaw_106 1 rfl ?_
        refine z_getR cx hT fg_SunnyPansModel_49 368 rfl d_X10_byLaw_107 ?_
        refine z_iload_n cx d_X10_byLaw_110 0 rfl ?_
        refine z_iconst (v := 1) cx d_X10_byLaw_111 ki_1 ?_
        refine z_isub cx d_X10_byLaw_112 ?_
        obtain ⟨hi6, hF⟩ := gin_inv hF
        refine z_iald cx (tfM_11_368 hT) za_33 hi6 (((b21_L1 + (-1)) - (1 : Int32)).toNatClampNeg) rfl d_X10_byLaw_113 ?_
        refine z_aload_n cx d_X10_byLaw_114 1 rfl ?_
        refine z_getR cx hT fg_SunnyPansModel_49 368 rfl d_X10_byLaw_115 ?_
        refine z_iload_n cx d_X10_byLaw_118 0 rfl ?_
        obtain ⟨hi7, hF⟩ := gin_inv hF
        refine z_iald cx (tfM_11_368 hT) za_33 hi7 ((b21_L1 + (-1)).toNatClampNeg) rfl d_X10_byLaw_119 ?_
        obtain ⟨v9, M8, hc, hF⟩ := zb_inv hF
        refine z_callS cx (As := [.int (M.1 (28 + (1 + 1 * b21_L2.toNatClampNeg)) 0), .int (M.1 368 ((b21_L1 + (-1)) - (1 : Int32)).toNatClampNeg), .int (M.1 368 (b21_L1 + (-1)).toNatClampNeg)]) (rest := [.int ((b21_L1 + (-1)) - (1 : Int32)), .ref (ad 368)]) (c_X10_by l cx.2.2.2.1.1 M (M.1 (28 + (1 + 1 * b21_L2.toNatClampNeg)) 0) (M.1 368 ((b21_L1 + (-1)) - (1 : Int32)).toNatClampNeg) (M.1 368 (b21_L1 + (-1)).toNatClampNeg)  hc) cs_SunnyPansModel_221 ⟨rfl, rfl, Nat.le_of_ble_eq_true rfl, Nat.le_of_ble_eq_true rfl⟩ rfl rfl ⟨Nat.zero_le _, Nat.zero_le _⟩ (Nat.le_of_ble_eq_true rfl) d_X10_byLaw_120 ?_
        refine z_iast cx (tfM_11_368 hT) za_33 hi6 (((b21_L1 + (-1)) - (1 : Int32)).toNatClampNeg) rfl d_X10_byLaw_123 ?_
        refine z_nmM hF (fun M10 hF => ?_)
        exact z_lv [1, 0, 2] _ rfl (hb124 self21 hs21 (b21_L1 + (-1)) b21_L2 M10 hF)
      refine z_aload_n cx d_X10_byLaw_41 0 rfl ?_
      refine z_getR cx hT fg_SunnyPansModel_49 368 rfl d_X10_byLaw_42 ?_
      refine z_iload_n cx d_X10_byLaw_45 1 rfl ?_
      refine z_aload_n cx d_X10_byLaw_46 0 rfl ?_
      refine z_getR cx hT fg_SunnyPansModel_37 28 rfl d_X10_byLaw_47 ?_
      refine z_iload_n cx d_X10_byLaw_50 2 rfl ?_
      refine z_aald cx (tfM_11_28 hT) za_31 hi5 (28 + (1 + 1 * b21_L2.toNatClampNeg)) rfl d_X10_byLaw_51 ?_
      refine z_iconst (v := 0) cx d_X10_byLaw_52 ki_0 ?_
      refine z_iald cx (teM_31 (tfM_11_28 hT) hi5) za_27 (zvp (by decide +kernel)) 0 rfl d_X10_byLaw_53 ?_
      refine z_if_ne cx 68 d_X10_byLaw_54 (by decide) hF (fun hF => ?_) (fun hF => ?_)
      · refine z_aload_n cx d_X10_byLaw_68 0 rfl ?_
        refine z_getR cx hT fg_SunnyPansModel_52 369 rfl d_X10_byLaw_69 ?_
        refine z_aload_n cx d_X10_byLaw_72 0 rfl ?_
        refine z_getR cx hT fg_SunnyPansModel_37 28 rfl d_X10_byLaw_73 ?_
        refine z_iload_n cx d_X10_byLaw_76 2 rfl ?_
        refine z_aald cx (tfM_11_28 hT) za_31 hi5 (28 + (1 + 1 * b21_L2.toNatClampNeg)) rfl d_X10_byLaw_77 ?_
        refine z_iconst (v := 1) cx d_X10_byLaw_78 ki_1 ?_
        refine z_iald cx (teM_31 (tfM_11_28 hT) hi5) za_27 (zvp (by decide +kernel)) 1 rfl d_X10_byLaw_79 ?_
        obtain ⟨hi11, hF⟩ := gin_inv hF
        refine z_iald cx (tfM_11_369 hT) za_26 hi11 ((M.1 (28 + (1 + 1 * b21_L2.toNatClampNeg)) 1).toNatClampNeg) rfl d_X10_byLaw_80 ?_
        obtain ⟨hi12, hF⟩ := gin_inv hF
        refine z_iast cx (tfM_11_368 hT) za_33 hi12 b21_L1.toNatClampNeg rfl d_X10_byLaw_81 ?_
        refine z_nmM hF (fun M13 hF => ?_)
        refine z_iinc cx 1 1 [(1, .int (b21_L1 + 1)), (0, .ref (ad 0)), (2, .int b21_L2)] d_X10_byLaw_82 1 rfl ki_1 (by decide) rfl ?_
        refine z_goto cx 124 d_X10_byLaw_85 (by decide) ?_
        exact z_lv [1, 0, 2] _ rfl (hb124 self21 hs21 (b21_L1 + 1) b21_L2 M13 hF)
      refine z_aload_n cx d_X10_byLaw_57 0 rfl ?_
      refine z_getR cx hT fg_SunnyPansModel_37 28 rfl d_X10_byLaw_58 ?_
      refine z_iload_n cx d_X10_byLaw_61 2 rfl ?_
      refine z_aald cx (tfM_11_28 hT) za_31 hi5 (28 + (1 + 1 * b21_L2.toNatClampNeg)) rfl d_X10_byLaw_62 ?_
      refine z_iconst (v := 1) cx d_X10_byLaw_63 ki_1 ?_
      refine z_iald cx (teM_31 (tfM_11_28 hT) hi5) za_27 (zvp (by decide +kernel)) 1 rfl d_X10_byLaw_64 ?_
      refine z_goto cx 81 d_X10_byLaw_65 (by decide) ?_
      obtain ⟨hi14, hF⟩ := gin_inv hF
      refine z_iast cx (tfM_11_368 hT) za_33 hi14 b21_L1.toNatClampNeg rfl d_X10_byLaw_81 ?_
      refine z_nmM hF (fun M15 hF => ?_)
      refine z_iinc cx 1 1 [(1, .int (b21_L1 + 1)), (0, .ref (ad 0)), (2, .int b21_L2)] d_X10_byLaw_82 1 rfl ki_1 (by decide) rfl ?_
      refine z_goto cx 124 d_X10_byLaw_85 (by decide) ?_
      exact z_lv [1, 0, 2] _ rfl (hb124 self21 hs21 (b21_L1 + 1) b21_L2 M15 hF)
  unfold F_X10_byLaw at hF
  refine z_iconst (v := 0) cx d_X10_byLaw_0 ki_0 ?_
  refine z_istore_n cx 1 [(1, .int (0 : Int32)), (0, .ref (ad 0))] d_X10_byLaw_1 rfl (by decide) rfl ?_
  refine z_aload_n cx d_X10_byLaw_2 1 rfl ?_
  refine z_getR cx hT fg_SunnyPansModel_49 368 rfl d_X10_byLaw_3 ?_
  refine z_iconst (v := 0) cx d_X10_byLaw_6 ki_0 ?_
  refine z_bipush (v := 10) cx d_X10_byLaw_7 kb_10 ?_
  refine z_aload_n cx d_X10_byLaw_9 1 rfl ?_
  refine z_getR cx hT fg_SunnyPansModel_52 369 rfl d_X10_byLaw_10 ?_
  refine z_iconst (v := 2) cx d_X10_byLaw_13 ki_2 ?_
  refine z_iald cx (tfM_11_369 hT) za_26 (zvp (by decide +kernel)) 2 rfl d_X10_byLaw_14 ?_
  refine z_iconst (v := 4) cx d_X10_byLaw_15 ki_4 ?_
  refine z_idiv cx d_X10_byLaw_16 (by decide) ?_
  refine z_iadd cx d_X10_byLaw_17 ?_
  refine z_iast cx (tfM_11_368 hT) za_33 (zvp (by decide +kernel)) 0 rfl d_X10_byLaw_18 ?_
  refine z_nmM hF (fun M16 hF => ?_)
  refine z_iconst (v := 0) cx d_X10_byLaw_19 ki_0 ?_
  refine z_istore_n cx 2 [(2, .int (0 : Int32)), (1, .int (0 : Int32)), (0, .ref (ad 0))] d_X10_byLaw_20 rfl (by decide) rfl ?_
  exact z_lv [2, 1, 0] _ rfl (hL21 zFuel (0 : Int32) (0 : Int32) M16 hF)
/-! SunnyPansModel.stepHere -/
theorem kb_11 : (Int8.ofInt (11)).toInt32 = (11 : Int32) := by decide +kernel
theorem d_X10_stepHere_0 : decode cX10_stepHere 0 = .ok (.aload_n 0, 1) := by decide +kernel
theorem d_X10_stepHere_1 : decode cX10_stepHere 1 = .ok (.bipush 12, 2) := by decide +kernel
theorem d_X10_stepHere_3 : decode cX10_stepHere 3 = .ok (.iconst 5, 1) := by decide +kernel
theorem d_X10_stepHere_4 : decode cX10_stepHere 4 = .ok (.bipush 20, 2) := by decide +kernel
theorem d_X10_stepHere_6 : decode cX10_stepHere 6 = .ok (.iconst 0, 1) := by decide +kernel
theorem d_X10_stepHere_7 : decode cX10_stepHere 7 = .ok (.iconst 0, 1) := by decide +kernel
theorem d_X10_stepHere_8 : decode cX10_stepHere 8 = .ok (.iconst 0, 1) := by decide +kernel
theorem d_X10_stepHere_9 : decode cX10_stepHere 9 = .ok (.invokevirtual 131, 3) := by decide +kernel
theorem d_X10_stepHere_12 : decode cX10_stepHere 12 = .ok (.ifCond .eq 5, 3) := by decide +kernel
theorem d_X10_stepHere_15 : decode cX10_stepHere 15 = .ok (.iconst 0, 1) := by decide +kernel
theorem d_X10_stepHere_16 : decode cX10_stepHere 16 = .ok (.ireturn, 1) := by decide +kernel
theorem d_X10_stepHere_17 : decode cX10_stepHere 17 = .ok (.aload_n 0, 1) := by decide +kernel
theorem d_X10_stepHere_18 : decode cX10_stepHere 18 = .ok (.bipush 18, 2) := by decide +kernel
theorem d_X10_stepHere_20 : decode cX10_stepHere 20 = .ok (.iconst 1, 1) := by decide +kernel
theorem d_X10_stepHere_21 : decode cX10_stepHere 21 = .ok (.bipush 11, 2) := by decide +kernel
theorem d_X10_stepHere_23 : decode cX10_stepHere 23 = .ok (.iconst 5, 1) := by decide +kernel
theorem d_X10_stepHere_24 : decode cX10_stepHere 24 = .ok (.iconst 0, 1) := by decide +kernel
theorem d_X10_stepHere_25 : decode cX10_stepHere 25 = .ok (.iconst 0, 1) := by decide +kernel
theorem d_X10_stepHere_26 : decode cX10_stepHere 26 = .ok (.invokevirtual 131, 3) := by decide +kernel
theorem d_X10_stepHere_29 : decode cX10_stepHere 29 = .ok (.ifCond .eq 5, 3) := by decide +kernel
theorem d_X10_stepHere_32 : decode cX10_stepHere 32 = .ok (.iconst 1, 1) := by decide +kernel
theorem d_X10_stepHere_33 : decode cX10_stepHere 33 = .ok (.ireturn, 1) := by decide +kernel
theorem d_X10_stepHere_34 : decode cX10_stepHere 34 = .ok (.aload_n 0, 1) := by decide +kernel
theorem d_X10_stepHere_35 : decode cX10_stepHere 35 = .ok (.iconst 3, 1) := by decide +kernel
theorem d_X10_stepHere_36 : decode cX10_stepHere 36 = .ok (.iconst 1, 1) := by decide +kernel
theorem d_X10_stepHere_37 : decode cX10_stepHere 37 = .ok (.bipush 18, 2) := by decide +kernel
theorem d_X10_stepHere_39 : decode cX10_stepHere 39 = .ok (.bipush 20, 2) := by decide +kernel
theorem d_X10_stepHere_41 : decode cX10_stepHere 41 = .ok (.iconst 0, 1) := by decide +kernel
theorem d_X10_stepHere_42 : decode cX10_stepHere 42 = .ok (.iconst 0, 1) := by decide +kernel
theorem d_X10_stepHere_43 : decode cX10_stepHere 43 = .ok (.invokevirtual 131, 3) := by decide +kernel
theorem d_X10_stepHere_46 : decode cX10_stepHere 46 = .ok (.ifCond .eq 5, 3) := by decide +kernel
theorem d_X10_stepHere_49 : decode cX10_stepHere 49 = .ok (.iconst 2, 1) := by decide +kernel
theorem d_X10_stepHere_50 : decode cX10_stepHere 50 = .ok (.ireturn, 1) := by decide +kernel
theorem d_X10_stepHere_51 : decode cX10_stepHere 51 = .ok (.aload_n 0, 1) := by decide +kernel
theorem d_X10_stepHere_52 : decode cX10_stepHere 52 = .ok (.bipush 18, 2) := by decide +kernel
theorem d_X10_stepHere_54 : decode cX10_stepHere 54 = .ok (.iconst 1, 1) := by decide +kernel
theorem d_X10_stepHere_55 : decode cX10_stepHere 55 = .ok (.bipush 9, 2) := by decide +kernel
theorem d_X10_stepHere_57 : decode cX10_stepHere 57 = .ok (.bipush 14, 2) := by decide +kernel
theorem d_X10_stepHere_59 : decode cX10_stepHere 59 = .ok (.iconst 0, 1) := by decide +kernel
theorem d_X10_stepHere_60 : decode cX10_stepHere 60 = .ok (.iconst 0, 1) := by decide +kernel
theorem d_X10_stepHere_61 : decode cX10_stepHere 61 = .ok (.invokevirtual 131, 3) := by decide +kernel
theorem d_X10_stepHere_64 : decode cX10_stepHere 64 = .ok (.ifCond .eq 5, 3) := by decide +kernel
theorem d_X10_stepHere_67 : decode cX10_stepHere 67 = .ok (.iconst 3, 1) := by decide +kernel
theorem d_X10_stepHere_68 : decode cX10_stepHere 68 = .ok (.ireturn, 1) := by decide +kernel
theorem d_X10_stepHere_69 : decode cX10_stepHere 69 = .ok (.aload_n 0, 1) := by decide +kernel
theorem d_X10_stepHere_70 : decode cX10_stepHere 70 = .ok (.bipush 8, 2) := by decide +kernel
theorem d_X10_stepHere_72 : decode cX10_stepHere 72 = .ok (.bipush 15, 2) := by decide +kernel
theorem d_X10_stepHere_74 : decode cX10_stepHere 74 = .ok (.bipush 21, 2) := by decide +kernel
theorem d_X10_stepHere_76 : decode cX10_stepHere 76 = .ok (.bipush 18, 2) := by decide +kernel
theorem d_X10_stepHere_78 : decode cX10_stepHere 78 = .ok (.iconst 0, 1) := by decide +kernel
theorem d_X10_stepHere_79 : decode cX10_stepHere 79 = .ok (.iconst 0, 1) := by decide +kernel
theorem d_X10_stepHere_80 : decode cX10_stepHere 80 = .ok (.invokevirtual 131, 3) := by decide +kernel
theorem d_X10_stepHere_83 : decode cX10_stepHere 83 = .ok (.ifCond .eq 5, 3) := by decide +kernel
theorem d_X10_stepHere_86 : decode cX10_stepHere 86 = .ok (.iconst 4, 1) := by decide +kernel
theorem d_X10_stepHere_87 : decode cX10_stepHere 87 = .ok (.ireturn, 1) := by decide +kernel
theorem d_X10_stepHere_88 : decode cX10_stepHere 88 = .ok (.aload_n 0, 1) := by decide +kernel
theorem d_X10_stepHere_89 : decode cX10_stepHere 89 = .ok (.iconst 1, 1) := by decide +kernel
theorem d_X10_stepHere_90 : decode cX10_stepHere 90 = .ok (.bipush 7, 2) := by decide +kernel
theorem d_X10_stepHere_92 : decode cX10_stepHere 92 = .ok (.iconst 1, 1) := by decide +kernel
theorem d_X10_stepHere_93 : decode cX10_stepHere 93 = .ok (.bipush 9, 2) := by decide +kernel
theorem d_X10_stepHere_95 : decode cX10_stepHere 95 = .ok (.bipush 14, 2) := by decide +kernel
theorem d_X10_stepHere_97 : decode cX10_stepHere 97 = .ok (.iconst 0, 1) := by decide +kernel
theorem d_X10_stepHere_98 : decode cX10_stepHere 98 = .ok (.invokevirtual 131, 3) := by decide +kernel
theorem d_X10_stepHere_101 : decode cX10_stepHere 101 = .ok (.ifCond .eq 7, 3) := by decide +kernel
theorem d_X10_stepHere_104 : decode cX10_stepHere 104 = .ok (.iconst 5, 1) := by decide +kernel
theorem d_X10_stepHere_105 : decode cX10_stepHere 105 = .ok (.goto 4, 3) := by decide +kernel
theorem d_X10_stepHere_108 : decode cX10_stepHere 108 = .ok (.iconst (-1), 1) := by decide +kernel
theorem d_X10_stepHere_109 : decode cX10_stepHere 109 = .ok (.ireturn, 1) := by decide +kernel
noncomputable def F_X10_stepHere (M : zMem)  : Option (Int32 × zMem) :=
  zb (F_X10_isWord M (12 : Int32) (5 : Int32) (20 : Int32) (0 : Int32) (0 : Int32) (0 : Int32)) fun v2 M1 =>
  if v2 = 0 then
    zb (F_X10_isWord M1 (18 : Int32) (1 : Int32) (11 : Int32) (5 : Int32) (0 : Int32) (0 : Int32)) fun v4 M3 =>
    if v4 = 0 then
      zb (F_X10_isWord M3 (3 : Int32) (1 : Int32) (18 : Int32) (20 : Int32) (0 : Int32) (0 : Int32)) fun v6 M5 =>
      if v6 = 0 then
        zb (F_X10_isWord M5 (18 : Int32) (1 : Int32) (9 : Int32) (14 : Int32) (0 : Int32) (0 : Int32)) fun v8 M7 =>
        if v8 = 0 then
          zb (F_X10_isWord M7 (8 : Int32) (15 : Int32) (21 : Int32) (18 : Int32) (0 : Int32) (0 : Int32)) fun v10 M9 =>
          if v10 = 0 then
            zb (F_X10_isWord M9 (1 : Int32) (7 : Int32) (1 : Int32) (9 : Int32) (14 : Int32) (0 : Int32)) fun v12 M11 =>
            if v12 = 0 then
              some ((-1 : Int32), M11)
            else
              some ((5 : Int32), M11)
          else
            some ((4 : Int32), M9)
        else
          some ((3 : Int32), M7)
      else
        some ((2 : Int32), M5)
    else
      some ((1 : Int32), M3)
  else
    some ((0 : Int32), M1)
def rm_X10_stepHere : Room := { frames := 6, cells := 0, slots := 0, locals := 169 }
set_option maxHeartbeats 4000000 in
set_option maxRecDepth 100000 in
theorem c_X10_stepHere (l : Launch) {G : zG} {ad : Nat → Nat} {n : Nat} (hA : zInj ad n) (M : zMem)  (hT : zT shM n 0 11) {r9 : Int32} {M9 : zMem} (hF : F_X10_stepHere M  = some (r9, M9)) : zM l yX10_stepHere cX10_stepHere 1 (some .int) rm_X10_stepHere G shM ad n M [.ref (ad 0)] (some (.int r9)) M9 := by
  refine zM_of hA (by decide +kernel) (lv := [(0, .ref (ad 0))]) (Nat.le_of_ble_eq_true rfl) rfl (fun p e s m args below meth c A cx hr => ?_)
  unfold F_X10_stepHere at hF
  refine z_aload_n cx d_X10_stepHere_0 0 rfl ?_
  refine z_bipush (v := 12) cx d_X10_stepHere_1 kb_12 ?_
  refine z_iconst (v := 5) cx d_X10_stepHere_3 ki_5 ?_
  refine z_bipush (v := 20) cx d_X10_stepHere_4 kb_20 ?_
  refine z_iconst (v := 0) cx d_X10_stepHere_6 ki_0 ?_
  refine z_iconst (v := 0) cx d_X10_stepHere_7 ki_0 ?_
  refine z_iconst (v := 0) cx d_X10_stepHere_8 ki_0 ?_
  obtain ⟨v2, M1, hc, hF⟩ := zb_inv hF
  refine z_callV cx (As := [.int (12 : Int32), .int (5 : Int32), .int (20 : Int32), .int (0 : Int32), .int (0 : Int32), .int (0 : Int32)]) (rest := []) (c_X10_isWord l cx.2.2.2.1.1 M (12 : Int32) (5 : Int32) (20 : Int32) (0 : Int32) (0 : Int32) (0 : Int32) hT hc) hT zo_11 cv_SunnyPansModel_131 ⟨rfl, rfl, Nat.le_of_ble_eq_true rfl, Nat.le_of_ble_eq_true rfl⟩ rfl rfl ⟨Nat.zero_le _, Nat.zero_le _⟩ (Nat.le_of_ble_eq_true rfl) d_X10_stepHere_9 ?_
  refine z_if_eq cx 17 d_X10_stepHere_12 (by decide) hF (fun hF => ?_) (fun hF => ?_)
  · refine z_aload_n cx d_X10_stepHere_17 0 rfl ?_
    refine z_bipush (v := 18) cx d_X10_stepHere_18 kb_18 ?_
    refine z_iconst (v := 1) cx d_X10_stepHere_20 ki_1 ?_
    refine z_bipush (v := 11) cx d_X10_stepHere_21 kb_11 ?_
    refine z_iconst (v := 5) cx d_X10_stepHere_23 ki_5 ?_
    refine z_iconst (v := 0) cx d_X10_stepHere_24 ki_0 ?_
    refine z_iconst (v := 0) cx d_X10_stepHere_25 ki_0 ?_
    obtain ⟨v4, M3, hc, hF⟩ := zb_inv hF
    refine z_callV cx (As := [.int (18 : Int32), .int (1 : Int32), .int (11 : Int32), .int (5 : Int32), .int (0 : Int32), .int (0 : Int32)]) (rest := []) (c_X10_isWord l cx.2.2.2.1.1 M1 (18 : Int32) (1 : Int32) (11 : Int32) (5 : Int32) (0 : Int32) (0 : Int32) hT hc) hT zo_11 cv_SunnyPansModel_131 ⟨rfl, rfl, Nat.le_of_ble_eq_true rfl, Nat.le_of_ble_eq_true rfl⟩ rfl rfl ⟨Nat.zero_le _, Nat.zero_le _⟩ (Nat.le_of_ble_eq_true rfl) d_X10_stepHere_26 ?_
    refine z_if_eq cx 34 d_X10_stepHere_29 (by decide) hF (fun hF => ?_) (fun hF => ?_)
    · refine z_aload_n cx d_X10_stepHere_34 0 rfl ?_
      refine z_iconst (v := 3) cx d_X10_stepHere_35 ki_3 ?_
      refine z_iconst (v := 1) cx d_X10_stepHere_36 ki_1 ?_
      refine z_bipush (v := 18) cx d_X10_stepHere_37 kb_18 ?_
      refine z_bipush (v := 20) cx d_X10_stepHere_39 kb_20 ?_
      refine z_iconst (v := 0) cx d_X10_stepHere_41 ki_0 ?_
      refine z_iconst (v := 0) cx d_X10_stepHere_42 ki_0 ?_
      obtain ⟨v6, M5, hc, hF⟩ := zb_inv hF
      refine z_callV cx (As := [.int (3 : Int32), .int (1 : Int32), .int (18 : Int32), .int (20 : Int32), .int (0 : Int32), .int (0 : Int32)]) (rest := []) (c_X10_isWord l cx.2.2.2.1.1 M3 (3 : Int32) (1 : Int32) (18 : Int32) (20 : Int32) (0 : Int32) (0 : Int32) hT hc) hT zo_11 cv_SunnyPansModel_131 ⟨rfl, rfl, Nat.le_of_ble_eq_true rfl, Nat.le_of_ble_eq_true rfl⟩ rfl rfl ⟨Nat.zero_le _, Nat.zero_le _⟩ (Nat.le_of_ble_eq_true rfl) d_X10_stepHere_43 ?_
      refine z_if_eq cx 51 d_X10_stepHere_46 (by decide) hF (fun hF => ?_) (fun hF => ?_)
      · refine z_aload_n cx d_X10_stepHere_51 0 rfl ?_
        refine z_bipush (v := 18) cx d_X10_stepHere_52 kb_18 ?_
        refine z_iconst (v := 1) cx d_X10_stepHere_54 ki_1 ?_
        refine z_bipush (v := 9) cx d_X10_stepHere_55 kb_9 ?_
        refine z_bipush (v := 14) cx d_X10_stepHere_57 kb_14 ?_
        refine z_iconst (v := 0) cx d_X10_stepHere_59 ki_0 ?_
        refine z_iconst (v := 0) cx d_X10_stepHere_60 ki_0 ?_
        obtain ⟨v8, M7, hc, hF⟩ := zb_inv hF
        refine z_callV cx (As := [.int (18 : Int32), .int (1 : Int32), .int (9 : Int32), .int (14 : Int32), .int (0 : Int32), .int (0 : Int32)]) (rest := []) (c_X10_isWord l cx.2.2.2.1.1 M5 (18 : Int32) (1 : Int32) (9 : Int32) (14 : Int32) (0 : Int32) (0 : Int32) hT hc) hT zo_11 cv_SunnyPansModel_131 ⟨rfl, rfl, Nat.le_of_ble_eq_true rfl, Nat.le_of_ble_eq_true rfl⟩ rfl rfl ⟨Nat.zero_le _, Nat.zero_le _⟩ (Nat.le_of_ble_eq_true rfl) d_X10_stepHere_61 ?_
        refine z_if_eq cx 69 d_X10_stepHere_64 (by decide) hF (fun hF => ?_) (fun hF => ?_)
        · refine z_aload_n cx d_X10_stepHere_69 0 rfl ?_
          refine z_bipush (v := 8) cx d_X10_stepHere_70 kb_8 ?_
          refine z_bipush (v := 15) cx d_X10_stepHere_72 kb_15 ?_
          refine z_bipush (v := 21) cx d_X10_stepHere_74 kb_21 ?_
          refine z_bipush (v := 18) cx d_X10_stepHere_76 kb_18 ?_
          refine z_iconst (v := 0) cx d_X10_stepHere_78 ki_0 ?_
          refine z_iconst (v := 0) cx d_X10_stepHere_79 ki_0 ?_
          obtain ⟨v10, M9, hc, hF⟩ := zb_inv hF
          refine z_callV cx (As := [.int (8 : Int32), .int (15 : Int32), .int (21 : Int32), .int (18 : Int32), .int (0 : Int32), .int (0 : Int32)]) (rest := []) (c_X10_isWord l cx.2.2.2.1.1 M7 (8 : Int32) (15 : Int32) (21 : Int32) (18 : Int32) (0 : Int32) (0 : Int32) hT hc) hT zo_11 cv_SunnyPansModel_131 ⟨rfl, rfl, Nat.le_of_ble_eq_true rfl, Nat.le_of_ble_eq_true rfl⟩ rfl rfl ⟨Nat.zero_le _, Nat.zero_le _⟩ (Nat.le_of_ble_eq_true rfl) d_X10_stepHere_80 ?_
          refine z_if_eq cx 88 d_X10_stepHere_83 (by decide) hF (fun hF => ?_) (fun hF => ?_)
          · refine z_aload_n cx d_X10_stepHere_88 0 rfl ?_
            refine z_iconst (v := 1) cx d_X10_stepHere_89 ki_1 ?_
            refine z_bipush (v := 7) cx d_X10_stepHere_90 kb_7 ?_
            refine z_iconst (v := 1) cx d_X10_stepHere_92 ki_1 ?_
            refine z_bipush (v := 9) cx d_X10_stepHere_93 kb_9 ?_
            refine z_bipush (v := 14) cx d_X10_stepHere_95 kb_14 ?_
            refine z_iconst (v := 0) cx d_X10_stepHere_97 ki_0 ?_
            obtain ⟨v12, M11, hc, hF⟩ := zb_inv hF
            refine z_callV cx (As := [.int (1 : Int32), .int (7 : Int32), .int (1 : Int32), .int (9 : Int32), .int (14 : Int32), .int (0 : Int32)]) (rest := []) (c_X10_isWord l cx.2.2.2.1.1 M9 (1 : Int32) (7 : Int32) (1 : Int32) (9 : Int32) (14 : Int32) (0 : Int32) hT hc) hT zo_11 cv_SunnyPansModel_131 ⟨rfl, rfl, Nat.le_of_ble_eq_true rfl, Nat.le_of_ble_eq_true rfl⟩ rfl rfl ⟨Nat.zero_le _, Nat.zero_le _⟩ (Nat.le_of_ble_eq_true rfl) d_X10_stepHere_98 ?_
            refine z_if_eq cx 108 d_X10_stepHere_101 (by decide) hF (fun hF => ?_) (fun hF => ?_)
            · refine z_iconst (v := -1) cx d_X10_stepHere_108 ki_m1 ?_
              exact z_iret cx hr rfl hF d_X10_stepHere_109
            refine z_iconst (v := 5) cx d_X10_stepHere_104 ki_5 ?_
            refine z_goto cx 109 d_X10_stepHere_105 (by decide) ?_
            exact z_iret cx hr rfl hF d_X10_stepHere_109
          refine z_iconst (v := 4) cx d_X10_stepHere_86 ki_4 ?_
          exact z_iret cx hr rfl hF d_X10_stepHere_87
        refine z_iconst (v := 3) cx d_X10_stepHere_67 ki_3 ?_
        exact z_iret cx hr rfl hF d_X10_stepHere_68
      refine z_iconst (v := 2) cx d_X10_stepHere_49 ki_2 ?_
      exact z_iret cx hr rfl hF d_X10_stepHere_50
    refine z_iconst (v := 1) cx d_X10_stepHere_32 ki_1 ?_
    exact z_iret cx hr rfl hF d_X10_stepHere_33
  refine z_iconst (v := 0) cx d_X10_stepHere_15 ki_0 ?_
  exact z_iret cx hr rfl hF d_X10_stepHere_16
/-! SunnyPansModel.placeHere -/
theorem d_X10_placeHere_0 : decode cX10_placeHere 0 = .ok (.aload_n 0, 1) := by decide +kernel
theorem d_X10_placeHere_1 : decode cX10_placeHere 1 = .ok (.iconst 0, 1) := by decide +kernel
theorem d_X10_placeHere_2 : decode cX10_placeHere 2 = .ok (.aload_n 0, 1) := by decide +kernel
theorem d_X10_placeHere_3 : decode cX10_placeHere 3 = .ok (.getfield 23, 3) := by decide +kernel
theorem d_X10_placeHere_6 : decode cX10_placeHere 6 = .ok (.iconst 0, 1) := by decide +kernel
theorem d_X10_placeHere_7 : decode cX10_placeHere 7 = .ok (.iaload, 1) := by decide +kernel
theorem d_X10_placeHere_8 : decode cX10_placeHere 8 = .ok (.iconst 1, 1) := by decide +kernel
theorem d_X10_placeHere_9 : decode cX10_placeHere 9 = .ok (.isub, 1) := by decide +kernel
theorem d_X10_placeHere_10 : decode cX10_placeHere 10 = .ok (.invokevirtual 147, 3) := by decide +kernel
theorem d_X10_placeHere_13 : decode cX10_placeHere 13 = .ok (.istore_n 1, 1) := by decide +kernel
theorem d_X10_placeHere_14 : decode cX10_placeHere 14 = .ok (.aload_n 0, 1) := by decide +kernel
theorem d_X10_placeHere_15 : decode cX10_placeHere 15 = .ok (.iconst 0, 1) := by decide +kernel
theorem d_X10_placeHere_16 : decode cX10_placeHere 16 = .ok (.aload_n 0, 1) := by decide +kernel
theorem d_X10_placeHere_17 : decode cX10_placeHere 17 = .ok (.getfield 23, 3) := by decide +kernel
theorem d_X10_placeHere_20 : decode cX10_placeHere 20 = .ok (.iconst 1, 1) := by decide +kernel
theorem d_X10_placeHere_21 : decode cX10_placeHere 21 = .ok (.iaload, 1) := by decide +kernel
theorem d_X10_placeHere_22 : decode cX10_placeHere 22 = .ok (.iconst 1, 1) := by decide +kernel
theorem d_X10_placeHere_23 : decode cX10_placeHere 23 = .ok (.isub, 1) := by decide +kernel
theorem d_X10_placeHere_24 : decode cX10_placeHere 24 = .ok (.invokevirtual 147, 3) := by decide +kernel
theorem d_X10_placeHere_27 : decode cX10_placeHere 27 = .ok (.istore_n 2, 1) := by decide +kernel
theorem d_X10_placeHere_28 : decode cX10_placeHere 28 = .ok (.bipush 8, 2) := by decide +kernel
theorem d_X10_placeHere_30 : decode cX10_placeHere 30 = .ok (.iload_n 2, 1) := by decide +kernel
theorem d_X10_placeHere_31 : decode cX10_placeHere 31 = .ok (.imul, 1) := by decide +kernel
theorem d_X10_placeHere_32 : decode cX10_placeHere 32 = .ok (.iload_n 1, 1) := by decide +kernel
theorem d_X10_placeHere_33 : decode cX10_placeHere 33 = .ok (.iadd, 1) := by decide +kernel
theorem d_X10_placeHere_34 : decode cX10_placeHere 34 = .ok (.ireturn, 1) := by decide +kernel
noncomputable def F_X10_placeHere (M : zMem)  : Option (Int32 × zMem) :=
  zb (F_X10_number M (0 : Int32) ((M.1 4 0) - (1 : Int32))) fun v2 M1 =>
  zb (F_X10_number M1 (0 : Int32) ((M1.1 4 1) - (1 : Int32))) fun v4 M3 =>
  some ((((8 : Int32) * v4) + v2), M3)
def rm_X10_placeHere : Room := { frames := 5, cells := 0, slots := 0, locals := 145 }
set_option maxHeartbeats 4000000 in
set_option maxRecDepth 100000 in
theorem c_X10_placeHere (l : Launch) {G : zG} {ad : Nat → Nat} {n : Nat} (hA : zInj ad n) (M : zMem)  (hT : zT shM n 0 11) {r9 : Int32} {M9 : zMem} (hF : F_X10_placeHere M  = some (r9, M9)) : zM l yX10_placeHere cX10_placeHere 3 (some .int) rm_X10_placeHere G shM ad n M [.ref (ad 0)] (some (.int r9)) M9 := by
  refine zM_of hA (by decide +kernel) (lv := [(0, .ref (ad 0))]) (Nat.le_of_ble_eq_true rfl) rfl (fun p e s m args below meth c A cx hr => ?_)
  unfold F_X10_placeHere at hF
  refine z_aload_n cx d_X10_placeHere_0 0 rfl ?_
  refine z_iconst (v := 0) cx d_X10_placeHere_1 ki_0 ?_
  refine z_aload_n cx d_X10_placeHere_2 0 rfl ?_
  refine z_getR cx hT fg_SunnyPansModel_23 4 rfl d_X10_placeHere_3 ?_
  refine z_iconst (v := 0) cx d_X10_placeHere_6 ki_0 ?_
  refine z_iald cx (tfM_11_4 hT) za_28 (zvp (by decide +kernel)) 0 rfl d_X10_placeHere_7 ?_
  refine z_iconst (v := 1) cx d_X10_placeHere_8 ki_1 ?_
  refine z_isub cx d_X10_placeHere_9 ?_
  obtain ⟨v2, M1, hc, hF⟩ := zb_inv hF
  refine z_callV cx (As := [.int (0 : Int32), .int ((M.1 4 0) - (1 : Int32))]) (rest := []) (c_X10_number l cx.2.2.2.1.1 M (0 : Int32) ((M.1 4 0) - (1 : Int32)) hT hc) hT zo_11 cv_SunnyPansModel_147 ⟨rfl, rfl, Nat.le_of_ble_eq_true rfl, Nat.le_of_ble_eq_true rfl⟩ rfl rfl ⟨Nat.zero_le _, Nat.zero_le _⟩ (Nat.le_of_ble_eq_true rfl) d_X10_placeHere_10 ?_
  refine z_istore_n cx 1 [(1, .int v2), (0, .ref (ad 0))] d_X10_placeHere_13 rfl (by decide) rfl ?_
  refine z_aload_n cx d_X10_placeHere_14 1 rfl ?_
  refine z_iconst (v := 0) cx d_X10_placeHere_15 ki_0 ?_
  refine z_aload_n cx d_X10_placeHere_16 1 rfl ?_
  refine z_getR cx hT fg_SunnyPansModel_23 4 rfl d_X10_placeHere_17 ?_
  refine z_iconst (v := 1) cx d_X10_placeHere_20 ki_1 ?_
  refine z_iald cx (tfM_11_4 hT) za_28 (zvp (by decide +kernel)) 1 rfl d_X10_placeHere_21 ?_
  refine z_iconst (v := 1) cx d_X10_placeHere_22 ki_1 ?_
  refine z_isub cx d_X10_placeHere_23 ?_
  obtain ⟨v4, M3, hc, hF⟩ := zb_inv hF
  refine z_callV cx (As := [.int (0 : Int32), .int ((M1.1 4 1) - (1 : Int32))]) (rest := []) (c_X10_number l cx.2.2.2.1.1 M1 (0 : Int32) ((M1.1 4 1) - (1 : Int32)) hT hc) hT zo_11 cv_SunnyPansModel_147 ⟨rfl, rfl, Nat.le_of_ble_eq_true rfl, Nat.le_of_ble_eq_true rfl⟩ rfl rfl ⟨Nat.zero_le _, Nat.zero_le _⟩ (Nat.le_of_ble_eq_true rfl) d_X10_placeHere_24 ?_
  refine z_istore_n cx 2 [(2, .int v4), (1, .int v2), (0, .ref (ad 0))] d_X10_placeHere_27 rfl (by decide) rfl ?_
  refine z_bipush (v := 8) cx d_X10_placeHere_28 kb_8 ?_
  refine z_iload_n cx d_X10_placeHere_30 0 rfl ?_
  refine z_imul cx d_X10_placeHere_31 ?_
  refine z_iload_n cx d_X10_placeHere_32 1 rfl ?_
  refine z_iadd cx d_X10_placeHere_33 ?_
  exact z_iret cx hr rfl hF d_X10_placeHere_34
/-! SunnyPansModel.readsStep, its calls of its own kind as parameters -/
theorem tfM_11_370 {n k : Nat} (h : zT shM n k 11) : zT shM n (k + 370) 34 := zT_off h (shM_f (by decide) (by decide +kernel)) (by decide) (by decide)
set_option maxRecDepth 100000 in
theorem wd_1420 : Cond.fieldLink "SunnyPansModel" 228 "SunnyPansModel" "steps" "I" ∈ tbG := tw6 120 rfl rfl
theorem fg_SunnyPansModel_228 : zGetI "SunnyPansModel" 228 10 11 25 := ⟨RX10, TX10, 40, rfl, by decide, uw_10, wd_1420, fun _ _ _ _ _ _ => ⟨_, rfl, rfl⟩⟩
theorem za_35 : zArrI 35 4 := fun _ _ _ _ _ _ => rfl
set_option maxRecDepth 100000 in
theorem wd_1644 : Cond.code yX10_readsStep cX10_readsStep 3 none ∈ tbG := tw7 104 rfl rfl
set_option maxRecDepth 100000 in
theorem wd_1641 : Cond.methodLink "SunnyPansModel" 234 yX10_readsStep ∈ tbG := tw7 101 rfl rfl
set_option maxRecDepth 100000 in
theorem wd_1643 : Cond.instanceMethod yX10_readsStep ∈ tbG := tw7 103 rfl rfl
theorem wd_64 : Cond.selects "SunnyPansModel" yX10_readsStep yX10_readsStep ∈ tbG := tw 64 (by decide +kernel) rfl
theorem cv_SunnyPansModel_234 : zCV "SunnyPansModel" 234 "SunnyPansModel" yX10_readsStep cX10_readsStep 3 none 0 := zCV_of wd_1641 wd_1643 wd_64 wd_111 wd_1644 (by decide +kernel)
set_option maxRecDepth 100000 in
theorem wd_1652 : Cond.code yX10_placeHere cX10_placeHere 3 (some .int) ∈ tbG := tw7 112 rfl rfl
set_option maxRecDepth 100000 in
theorem wd_1649 : Cond.methodLink "SunnyPansModel" 231 yX10_placeHere ∈ tbG := tw7 109 rfl rfl
set_option maxRecDepth 100000 in
theorem wd_1651 : Cond.instanceMethod yX10_placeHere ∈ tbG := tw7 111 rfl rfl
theorem wd_66 : Cond.selects "SunnyPansModel" yX10_placeHere yX10_placeHere ∈ tbG := tw 66 (by decide +kernel) rfl
theorem cv_SunnyPansModel_231 : zCV "SunnyPansModel" 231 "SunnyPansModel" yX10_placeHere cX10_placeHere 3 (some .int) 0 := zCV_of wd_1649 wd_1651 wd_66 wd_111 wd_1652 (by decide +kernel)
set_option maxRecDepth 100000 in
theorem wd_1419 : Cond.fieldLink "SunnyPansModel" 55 "SunnyPansModel" "step" "[[I" ∈ tbG := tw6 119 rfl rfl
theorem fg_SunnyPansModel_55 : zGetR "SunnyPansModel" 55 10 11 24 370 := ⟨RX10, TX10, 40, rfl, by decide, uw_10, wd_1419, fun _ _ _ _ _ _ => ⟨_, rfl, rfl⟩⟩
theorem za_34 : zArrR 34 80 4 1 1 := ⟨by decide, fun _ _ _ _ _ _ => rfl⟩
theorem teM_34 {n k : Nat} {i : Int32} (h : zT shM n k 34) (hi : vp_in i 80) : zT shM n (k + (1 + 1 * i.toNatClampNeg)) 35 := by
  have hlt : i.toNatClampNeg < 80 := Nat.not_le.mp fun q => hi (Or.inr q)
  have h2 : k + 81 ≤ n := h.2.2
  exact ⟨shM_e (by decide) (by decide +kernel) k h.1 _ hlt, by omega, by show _ + 1 ≤ n; omega⟩
theorem fp_SunnyPansModel_228 : zPutI "SunnyPansModel" 228 10 11 25 := ⟨zc_10, fg_SunnyPansModel_228, ⟨RX10, TX10, 40, rfl, rfl, by decide +kernel⟩, fun _ _ _ _ _ _ _ => ⟨_, rfl, Nat.le_of_ble_eq_true rfl, rfl⟩⟩
set_option maxRecDepth 100000 in
theorem wd_1648 : Cond.code yX10_stepHere cX10_stepHere 1 (some .int) ∈ tbG := tw7 108 rfl rfl
set_option maxRecDepth 100000 in
theorem wd_1645 : Cond.methodLink "SunnyPansModel" 225 yX10_stepHere ∈ tbG := tw7 105 rfl rfl
set_option maxRecDepth 100000 in
theorem wd_1647 : Cond.instanceMethod yX10_stepHere ∈ tbG := tw7 107 rfl rfl
theorem wd_65 : Cond.selects "SunnyPansModel" yX10_stepHere yX10_stepHere ∈ tbG := tw 65 (by decide +kernel) rfl
theorem cv_SunnyPansModel_225 : zCV "SunnyPansModel" 225 "SunnyPansModel" yX10_stepHere cX10_stepHere 1 (some .int) 0 := zCV_of wd_1645 wd_1647 wd_65 wd_111 wd_1648 (by decide +kernel)
theorem d_X10_readsStep_0 : decode cX10_readsStep 0 = .ok (.aload_n 0, 1) := by decide +kernel
theorem d_X10_readsStep_1 : decode cX10_readsStep 1 = .ok (.invokevirtual 225, 3) := by decide +kernel
theorem d_X10_readsStep_4 : decode cX10_readsStep 4 = .ok (.istore_n 1, 1) := by decide +kernel
theorem d_X10_readsStep_5 : decode cX10_readsStep 5 = .ok (.iload_n 1, 1) := by decide +kernel
theorem d_X10_readsStep_6 : decode cX10_readsStep 6 = .ok (.iconst (-1), 1) := by decide +kernel
theorem d_X10_readsStep_7 : decode cX10_readsStep 7 = .ok (.if_icmp .ne 12, 3) := by decide +kernel
theorem d_X10_readsStep_10 : decode cX10_readsStep 10 = .ok (.aload_n 0, 1) := by decide +kernel
theorem d_X10_readsStep_11 : decode cX10_readsStep 11 = .ok (.iconst 1, 1) := by decide +kernel
theorem d_X10_readsStep_12 : decode cX10_readsStep 12 = .ok (.aload_n 0, 1) := by decide +kernel
theorem d_X10_readsStep_13 : decode cX10_readsStep 13 = .ok (.getfield 91, 3) := by decide +kernel
theorem d_X10_readsStep_16 : decode cX10_readsStep 16 = .ok (.invokevirtual 111, 3) := by decide +kernel
theorem d_X10_readsStep_19 : decode cX10_readsStep 19 = .ok (.iload_n 1, 1) := by decide +kernel
theorem d_X10_readsStep_20 : decode cX10_readsStep 20 = .ok (.iconst 5, 1) := by decide +kernel
theorem d_X10_readsStep_21 : decode cX10_readsStep 21 = .ok (.if_icmp .ne 11, 3) := by decide +kernel
theorem d_X10_readsStep_24 : decode cX10_readsStep 24 = .ok (.aload_n 0, 1) := by decide +kernel
theorem d_X10_readsStep_25 : decode cX10_readsStep 25 = .ok (.invokevirtual 205, 3) := by decide +kernel
theorem d_X10_readsStep_28 : decode cX10_readsStep 28 = .ok (.ifCond .ne 4, 3) := by decide +kernel
theorem d_X10_readsStep_31 : decode cX10_readsStep 31 = .ok (.return_, 1) := by decide +kernel
theorem d_X10_readsStep_32 : decode cX10_readsStep 32 = .ok (.aload_n 0, 1) := by decide +kernel
theorem d_X10_readsStep_33 : decode cX10_readsStep 33 = .ok (.getfield 98, 3) := by decide +kernel
theorem d_X10_readsStep_36 : decode cX10_readsStep 36 = .ok (.ifCond .eq 4, 3) := by decide +kernel
theorem d_X10_readsStep_39 : decode cX10_readsStep 39 = .ok (.return_, 1) := by decide +kernel
theorem d_X10_readsStep_40 : decode cX10_readsStep 40 = .ok (.aload_n 0, 1) := by decide +kernel
theorem d_X10_readsStep_41 : decode cX10_readsStep 41 = .ok (.invokevirtual 135, 3) := by decide +kernel
theorem d_X10_readsStep_44 : decode cX10_readsStep 44 = .ok (.aload_n 0, 1) := by decide +kernel
theorem d_X10_readsStep_45 : decode cX10_readsStep 45 = .ok (.getfield 55, 3) := by decide +kernel
theorem d_X10_readsStep_48 : decode cX10_readsStep 48 = .ok (.aload_n 0, 1) := by decide +kernel
theorem d_X10_readsStep_49 : decode cX10_readsStep 49 = .ok (.getfield 228, 3) := by decide +kernel
theorem d_X10_readsStep_52 : decode cX10_readsStep 52 = .ok (.aaload, 1) := by decide +kernel
theorem d_X10_readsStep_53 : decode cX10_readsStep 53 = .ok (.astore_n 2, 1) := by decide +kernel
theorem d_X10_readsStep_54 : decode cX10_readsStep 54 = .ok (.aload_n 0, 1) := by decide +kernel
theorem d_X10_readsStep_55 : decode cX10_readsStep 55 = .ok (.dup, 1) := by decide +kernel
theorem d_X10_readsStep_56 : decode cX10_readsStep 56 = .ok (.getfield 228, 3) := by decide +kernel
theorem d_X10_readsStep_59 : decode cX10_readsStep 59 = .ok (.iconst 1, 1) := by decide +kernel
theorem d_X10_readsStep_60 : decode cX10_readsStep 60 = .ok (.iadd, 1) := by decide +kernel
theorem d_X10_readsStep_61 : decode cX10_readsStep 61 = .ok (.putfield 228, 3) := by decide +kernel
theorem d_X10_readsStep_64 : decode cX10_readsStep 64 = .ok (.aload_n 2, 1) := by decide +kernel
theorem d_X10_readsStep_65 : decode cX10_readsStep 65 = .ok (.iconst 0, 1) := by decide +kernel
theorem d_X10_readsStep_66 : decode cX10_readsStep 66 = .ok (.iload_n 1, 1) := by decide +kernel
theorem d_X10_readsStep_67 : decode cX10_readsStep 67 = .ok (.iastore, 1) := by decide +kernel
theorem d_X10_readsStep_68 : decode cX10_readsStep 68 = .ok (.iload_n 1, 1) := by decide +kernel
theorem d_X10_readsStep_69 : decode cX10_readsStep 69 = .ok (.iconst 3, 1) := by decide +kernel
theorem d_X10_readsStep_70 : decode cX10_readsStep 70 = .ok (.if_icmp .ge 10, 3) := by decide +kernel
theorem d_X10_readsStep_73 : decode cX10_readsStep 73 = .ok (.aload_n 2, 1) := by decide +kernel
theorem d_X10_readsStep_74 : decode cX10_readsStep 74 = .ok (.iconst 1, 1) := by decide +kernel
theorem d_X10_readsStep_75 : decode cX10_readsStep 75 = .ok (.aload_n 0, 1) := by decide +kernel
theorem d_X10_readsStep_76 : decode cX10_readsStep 76 = .ok (.invokevirtual 231, 3) := by decide +kernel
theorem d_X10_readsStep_79 : decode cX10_readsStep 79 = .ok (.iastore, 1) := by decide +kernel
theorem d_X10_readsStep_80 : decode cX10_readsStep 80 = .ok (.iload_n 1, 1) := by decide +kernel
theorem d_X10_readsStep_81 : decode cX10_readsStep 81 = .ok (.ifCond .ne 14, 3) := by decide +kernel
theorem d_X10_readsStep_84 : decode cX10_readsStep 84 = .ok (.aload_n 2, 1) := by decide +kernel
theorem d_X10_readsStep_85 : decode cX10_readsStep 85 = .ok (.iconst 2, 1) := by decide +kernel
theorem d_X10_readsStep_86 : decode cX10_readsStep 86 = .ok (.aload_n 0, 1) := by decide +kernel
theorem d_X10_readsStep_87 : decode cX10_readsStep 87 = .ok (.iconst 1, 1) := by decide +kernel
theorem d_X10_readsStep_88 : decode cX10_readsStep 88 = .ok (.sipush 999, 3) := by decide +kernel
theorem d_X10_readsStep_91 : decode cX10_readsStep 91 = .ok (.invokevirtual 147, 3) := by decide +kernel
theorem d_X10_readsStep_94 : decode cX10_readsStep 94 = .ok (.iastore, 1) := by decide +kernel
theorem d_X10_readsStep_95 : decode cX10_readsStep 95 = .ok (.iload_n 1, 1) := by decide +kernel
theorem d_X10_readsStep_96 : decode cX10_readsStep 96 = .ok (.iconst 1, 1) := by decide +kernel
theorem d_X10_readsStep_97 : decode cX10_readsStep 97 = .ok (.if_icmp .ne 10, 3) := by decide +kernel
theorem d_X10_readsStep_100 : decode cX10_readsStep 100 = .ok (.aload_n 2, 1) := by decide +kernel
theorem d_X10_readsStep_101 : decode cX10_readsStep 101 = .ok (.iconst 2, 1) := by decide +kernel
theorem d_X10_readsStep_102 : decode cX10_readsStep 102 = .ok (.aload_n 0, 1) := by decide +kernel
theorem d_X10_readsStep_103 : decode cX10_readsStep 103 = .ok (.invokevirtual 231, 3) := by decide +kernel
theorem d_X10_readsStep_106 : decode cX10_readsStep 106 = .ok (.iastore, 1) := by decide +kernel
theorem d_X10_readsStep_107 : decode cX10_readsStep 107 = .ok (.iload_n 1, 1) := by decide +kernel
theorem d_X10_readsStep_108 : decode cX10_readsStep 108 = .ok (.iconst 3, 1) := by decide +kernel
theorem d_X10_readsStep_109 : decode cX10_readsStep 109 = .ok (.if_icmp .ne 13, 3) := by decide +kernel
theorem d_X10_readsStep_112 : decode cX10_readsStep 112 = .ok (.aload_n 2, 1) := by decide +kernel
theorem d_X10_readsStep_113 : decode cX10_readsStep 113 = .ok (.iconst 1, 1) := by decide +kernel
theorem d_X10_readsStep_114 : decode cX10_readsStep 114 = .ok (.aload_n 0, 1) := by decide +kernel
theorem d_X10_readsStep_115 : decode cX10_readsStep 115 = .ok (.iconst 1, 1) := by decide +kernel
theorem d_X10_readsStep_116 : decode cX10_readsStep 116 = .ok (.bipush 99, 2) := by decide +kernel
theorem d_X10_readsStep_118 : decode cX10_readsStep 118 = .ok (.invokevirtual 147, 3) := by decide +kernel
theorem d_X10_readsStep_121 : decode cX10_readsStep 121 = .ok (.iastore, 1) := by decide +kernel
theorem d_X10_readsStep_122 : decode cX10_readsStep 122 = .ok (.iload_n 1, 1) := by decide +kernel
theorem d_X10_readsStep_123 : decode cX10_readsStep 123 = .ok (.iconst 5, 1) := by decide +kernel
theorem d_X10_readsStep_124 : decode cX10_readsStep 124 = .ok (.if_icmp .ne 70, 3) := by decide +kernel
theorem d_X10_readsStep_127 : decode cX10_readsStep 127 = .ok (.aload_n 2, 1) := by decide +kernel
theorem d_X10_readsStep_128 : decode cX10_readsStep 128 = .ok (.iconst 1, 1) := by decide +kernel
theorem d_X10_readsStep_129 : decode cX10_readsStep 129 = .ok (.aload_n 0, 1) := by decide +kernel
theorem d_X10_readsStep_130 : decode cX10_readsStep 130 = .ok (.iconst 0, 1) := by decide +kernel
theorem d_X10_readsStep_131 : decode cX10_readsStep 131 = .ok (.bipush 60, 2) := by decide +kernel
theorem d_X10_readsStep_133 : decode cX10_readsStep 133 = .ok (.invokevirtual 147, 3) := by decide +kernel
theorem d_X10_readsStep_136 : decode cX10_readsStep 136 = .ok (.iastore, 1) := by decide +kernel
theorem d_X10_readsStep_137 : decode cX10_readsStep 137 = .ok (.aload_n 0, 1) := by decide +kernel
theorem d_X10_readsStep_138 : decode cX10_readsStep 138 = .ok (.bipush 91, 2) := by decide +kernel
theorem d_X10_readsStep_140 : decode cX10_readsStep 140 = .ok (.invokevirtual 151, 3) := by decide +kernel
theorem d_X10_readsStep_143 : decode cX10_readsStep 143 = .ok (.aload_n 0, 1) := by decide +kernel
theorem d_X10_readsStep_144 : decode cX10_readsStep 144 = .ok (.invokevirtual 104, 3) := by decide +kernel
theorem d_X10_readsStep_147 : decode cX10_readsStep 147 = .ok (.aload_n 0, 1) := by decide +kernel
theorem d_X10_readsStep_148 : decode cX10_readsStep 148 = .ok (.getfield 98, 3) := by decide +kernel
theorem d_X10_readsStep_151 : decode cX10_readsStep 151 = .ok (.ifCond .ne 27, 3) := by decide +kernel
theorem d_X10_readsStep_154 : decode cX10_readsStep 154 = .ok (.aload_n 0, 1) := by decide +kernel
theorem d_X10_readsStep_155 : decode cX10_readsStep 155 = .ok (.aload_n 0, 1) := by decide +kernel
theorem d_X10_readsStep_156 : decode cX10_readsStep 156 = .ok (.getfield 91, 3) := by decide +kernel
theorem d_X10_readsStep_159 : decode cX10_readsStep 159 = .ok (.invokevirtual 94, 3) := by decide +kernel
theorem d_X10_readsStep_162 : decode cX10_readsStep 162 = .ok (.bipush 93, 2) := by decide +kernel
theorem d_X10_readsStep_164 : decode cX10_readsStep 164 = .ok (.if_icmp .eq 14, 3) := by decide +kernel
theorem d_X10_readsStep_167 : decode cX10_readsStep 167 = .ok (.aload_n 0, 1) := by decide +kernel
theorem d_X10_readsStep_168 : decode cX10_readsStep 168 = .ok (.invokevirtual 234, 3) := by decide +kernel
theorem d_X10_readsStep_171 : decode cX10_readsStep 171 = .ok (.aload_n 0, 1) := by decide +kernel
theorem d_X10_readsStep_172 : decode cX10_readsStep 172 = .ok (.invokevirtual 104, 3) := by decide +kernel
theorem d_X10_readsStep_175 : decode cX10_readsStep 175 = .ok (.goto (-28), 3) := by decide +kernel
theorem d_X10_readsStep_178 : decode cX10_readsStep 178 = .ok (.aload_n 0, 1) := by decide +kernel
theorem d_X10_readsStep_179 : decode cX10_readsStep 179 = .ok (.bipush 93, 2) := by decide +kernel
theorem d_X10_readsStep_181 : decode cX10_readsStep 181 = .ok (.invokevirtual 151, 3) := by decide +kernel
theorem d_X10_readsStep_184 : decode cX10_readsStep 184 = .ok (.aload_n 0, 1) := by decide +kernel
theorem d_X10_readsStep_185 : decode cX10_readsStep 185 = .ok (.dup, 1) := by decide +kernel
theorem d_X10_readsStep_186 : decode cX10_readsStep 186 = .ok (.getfield 141, 3) := by decide +kernel
theorem d_X10_readsStep_189 : decode cX10_readsStep 189 = .ok (.iconst 1, 1) := by decide +kernel
theorem d_X10_readsStep_190 : decode cX10_readsStep 190 = .ok (.isub, 1) := by decide +kernel
theorem d_X10_readsStep_191 : decode cX10_readsStep 191 = .ok (.putfield 141, 3) := by decide +kernel
theorem d_X10_readsStep_194 : decode cX10_readsStep 194 = .ok (.aload_n 2, 1) := by decide +kernel
theorem d_X10_readsStep_195 : decode cX10_readsStep 195 = .ok (.iconst 3, 1) := by decide +kernel
theorem d_X10_readsStep_196 : decode cX10_readsStep 196 = .ok (.aload_n 0, 1) := by decide +kernel
theorem d_X10_readsStep_197 : decode cX10_readsStep 197 = .ok (.getfield 228, 3) := by decide +kernel
theorem d_X10_readsStep_200 : decode cX10_readsStep 200 = .ok (.iastore, 1) := by decide +kernel
theorem d_X10_readsStep_201 : decode cX10_readsStep 201 = .ok (.aload_n 0, 1) := by decide +kernel
theorem d_X10_readsStep_202 : decode cX10_readsStep 202 = .ok (.bipush 59, 2) := by decide +kernel
theorem d_X10_readsStep_204 : decode cX10_readsStep 204 = .ok (.invokevirtual 151, 3) := by decide +kernel
theorem d_X10_readsStep_207 : decode cX10_readsStep 207 = .ok (.return_, 1) := by decide +kernel
noncomputable def F_X10_readsStep_194 (r_X10_readsStep : zMem → Option (zMem)) (b194_L2 : Nat) (M : zMem) : Option (zMem) :=
  zl (zI M b194_L2 3 (M.1 0 25)) fun M1 =>
  zbv (F_X10_sign M1 (59 : Int32)) fun M2 =>
  some M2
noncomputable def F_X10_readsStep_178 (r_X10_readsStep : zMem → Option (zMem)) (b178_L2 : Nat) (M : zMem) : Option (zMem) :=
  zbv (F_X10_sign M (93 : Int32)) fun M3 =>
  zl (zI M3 0 8 ((M3.1 0 8) - (1 : Int32))) fun M4 =>
  F_X10_readsStep_194 r_X10_readsStep b178_L2 M4
noncomputable def F_X10_readsStep_147 (r_X10_readsStep : zMem → Option (zMem)) (self147 : Nat → zMem → Option (zMem)) (b147_L2 : Nat) (M : zMem) : Option (zMem) :=
  if (M.1 0 5) = 0 then
    zb (F_X10_byteAt M (M.1 0 4)) fun v6 M5 =>
    if v6 = (93 : Int32) then
      F_X10_readsStep_178 r_X10_readsStep b147_L2 M5
    else
      zbv (r_X10_readsStep M5) fun M7 =>
      zbv (F_X10_blanks M7) fun M8 =>
      self147 b147_L2 M8
  else
    F_X10_readsStep_178 r_X10_readsStep b147_L2 M
noncomputable def F_X10_readsStep_122 (r_X10_readsStep : zMem → Option (zMem)) (b122_L1 : Int32) (b122_L2 : Nat) (M : zMem) : Option (zMem) :=
  if b122_L1 = (5 : Int32) then
    zb (F_X10_number M (0 : Int32) (60 : Int32)) fun v10 M9 =>
    zl (zI M9 b122_L2 1 v10) fun M11 =>
    zbv (F_X10_sign M11 (91 : Int32)) fun M12 =>
    zbv (F_X10_blanks M12) fun M13 =>
    itF (fun _ _ => none) (F_X10_readsStep_147 r_X10_readsStep) zFuel b122_L2 M13
  else
    F_X10_readsStep_194 r_X10_readsStep b122_L2 M
noncomputable def F_X10_readsStep_107 (r_X10_readsStep : zMem → Option (zMem)) (b107_L1 : Int32) (b107_L2 : Nat) (M : zMem) : Option (zMem) :=
  if b107_L1 = (3 : Int32) then
    zb (F_X10_number M (1 : Int32) (99 : Int32)) fun v15 M14 =>
    zl (zI M14 b107_L2 1 v15) fun M16 =>
    F_X10_readsStep_122 r_X10_readsStep b107_L1 b107_L2 M16
  else
    F_X10_readsStep_122 r_X10_readsStep b107_L1 b107_L2 M
noncomputable def F_X10_readsStep_95 (r_X10_readsStep : zMem → Option (zMem)) (b95_L1 : Int32) (b95_L2 : Nat) (M : zMem) : Option (zMem) :=
  if b95_L1 = (1 : Int32) then
    zb (F_X10_placeHere M) fun v18 M17 =>
    zl (zI M17 b95_L2 2 v18) fun M19 =>
    F_X10_readsStep_107 r_X10_readsStep b95_L1 b95_L2 M19
  else
    F_X10_readsStep_107 r_X10_readsStep b95_L1 b95_L2 M
noncomputable def F_X10_readsStep_80 (r_X10_readsStep : zMem → Option (zMem)) (b80_L1 : Int32) (b80_L2 : Nat) (M : zMem) : Option (zMem) :=
  if b80_L1 = 0 then
    zb (F_X10_number M (1 : Int32) (999 : Int32)) fun v21 M20 =>
    zl (zI M20 b80_L2 2 v21) fun M22 =>
    F_X10_readsStep_95 r_X10_readsStep b80_L1 b80_L2 M22
  else
    F_X10_readsStep_95 r_X10_readsStep b80_L1 b80_L2 M
noncomputable def F_X10_readsStep_32 (r_X10_readsStep : zMem → Option (zMem)) (b32_L1 : Int32) (M : zMem) : Option (zMem) :=
  if (M.1 0 5) = 0 then
    zbv (F_X10_skipWord M) fun M23 =>
    gin (M23.1 0 25) 80 <|
    zl (zI M23 0 25 ((M23.1 0 25) + (1 : Int32))) fun M25 =>
    zl (zI M25 (370 + (1 + 1 * (M23.1 0 25).toNatClampNeg)) 0 b32_L1) fun M26 =>
    if (3 : Int32) ≤ b32_L1 then
      F_X10_readsStep_80 r_X10_readsStep b32_L1 (370 + (1 + 1 * (M23.1 0 25).toNatClampNeg)) M26
    else
      zb (F_X10_placeHere M26) fun v28 M27 =>
      zl (zI M27 (370 + (1 + 1 * (M23.1 0 25).toNatClampNeg)) 1 v28) fun M29 =>
      F_X10_readsStep_80 r_X10_readsStep b32_L1 (370 + (1 + 1 * (M23.1 0 25).toNatClampNeg)) M29
  else
    some M
noncomputable def F_X10_readsStep_19 (r_X10_readsStep : zMem → Option (zMem)) (b19_L1 : Int32) (M : zMem) : Option (zMem) :=
  if b19_L1 = (5 : Int32) then
    zb (F_X10_opensOne M) fun v31 M30 =>
    if v31 = 0 then
      some M30
    else
      F_X10_readsStep_32 r_X10_readsStep b19_L1 M30
  else
    F_X10_readsStep_32 r_X10_readsStep b19_L1 M
noncomputable def F_X10_readsStep_r (M : zMem) (r_X10_readsStep : zMem → Option (zMem)) : Option (zMem) :=
  zb (F_X10_stepHere M) fun v33 M32 =>
  if v33 = (-1 : Int32) then
    zbv (F_X10_wrong M32 (1 : Int32) (M32.1 0 4)) fun M34 =>
    F_X10_readsStep_19 r_X10_readsStep v33 M34
  else
    F_X10_readsStep_19 r_X10_readsStep v33 M32
set_option maxHeartbeats 4000000 in
set_option maxRecDepth 100000 in
theorem co_X10_readsStep (l : Launch) {G : zG} {ad : Nat → Nat} {n : Nat} (hA : zInj ad n) (M : zMem) (r_X10_readsStep : zMem → Option (zMem)) {rr : Room} (hrr : rr.cells = 0 ∧ rr.slots = 0) (hr_X10_readsStep : ∀ (M : zMem)  (M9 : zMem), zT shM n 0 11 → r_X10_readsStep M = some M9 → zM l yX10_readsStep cX10_readsStep 3 none rr G shM ad n M [.ref (ad 0)] none M9) (hT : zT shM n 0 11) {M9 : zMem} (hF : F_X10_readsStep_r M r_X10_readsStep = some M9) : zM l yX10_readsStep cX10_readsStep 3 none (zRmS rr) G shM ad n M [.ref (ad 0)] none M9 := by
  refine zM_of hA (by decide +kernel) (lv := [(0, .ref (ad 0))]) (Nat.le_of_ble_eq_true rfl) rfl (fun p e s m args below meth c A cx hr => ?_)
  have hb194 : ∀ (b194_L2 : Nat) (M : zMem), zT shM n b194_L2 35 → F_X10_readsStep_194 r_X10_readsStep b194_L2 M = some M9 → zJ p l e (zRmS rr) s m args below meth c G shM ad n A 3 (MQ below (zQ G shM ad n M9 none A) args s 0 0 A) 0 0 M 194 [(0, .ref (ad 0)), (2, .ref (ad b194_L2))] [] := by
    intro b194_L2 M hb194_L2 hF
    unfold F_X10_readsStep_194 at hF
    refine z_aload_n cx d_X10_readsStep_194 1 rfl ?_
    refine z_iconst (v := 3) cx d_X10_readsStep_195 ki_3 ?_
    refine z_aload_n cx d_X10_readsStep_196 0 rfl ?_
    refine z_getI cx hT fg_SunnyPansModel_228 d_X10_readsStep_197 ?_
    refine z_iast cx hb194_L2 za_35 (zvp (by decide +kernel)) 3 rfl d_X10_readsStep_200 ?_
    refine z_nmM hF (fun M1 hF => ?_)
    refine z_aload_n cx d_X10_readsStep_201 0 rfl ?_
    refine z_bipush (v := 59) cx d_X10_readsStep_202 kb_59 ?_
    obtain ⟨M2, hc, hF⟩ := zbv_inv hF
    refine z_callV cx (As := [.int (59 : Int32)]) (rest := []) (c_X10_sign l cx.2.2.2.1.1 M1 (59 : Int32) hT hc) hT zo_11 cv_SunnyPansModel_151 (zRmS_c rfl rfl (Nat.le_of_ble_eq_true rfl) (Nat.le_of_ble_eq_true rfl)) rfl rfl ⟨Nat.zero_le _, Nat.zero_le _⟩ (Nat.le_of_ble_eq_true rfl) d_X10_readsStep_204 ?_
    exact z_vret cx hr hF d_X10_readsStep_207
  have hb178 : ∀ (b178_L2 : Nat) (M : zMem), zT shM n b178_L2 35 → F_X10_readsStep_178 r_X10_readsStep b178_L2 M = some M9 → zJ p l e (zRmS rr) s m args below meth c G shM ad n A 3 (MQ below (zQ G shM ad n M9 none A) args s 0 0 A) 0 0 M 178 [(0, .ref (ad 0)), (2, .ref (ad b178_L2))] [] := by
    intro b178_L2 M hb178_L2 hF
    unfold F_X10_readsStep_178 at hF
    refine z_aload_n cx d_X10_readsStep_178 0 rfl ?_
    refine z_bipush (v := 93) cx d_X10_readsStep_179 kb_93 ?_
    obtain ⟨M3, hc, hF⟩ := zbv_inv hF
    refine z_callV cx (As := [.int (93 : Int32)]) (rest := []) (c_X10_sign l cx.2.2.2.1.1 M (93 : Int32) hT hc) hT zo_11 cv_SunnyPansModel_151 (zRmS_c rfl rfl (Nat.le_of_ble_eq_true rfl) (Nat.le_of_ble_eq_true rfl)) rfl rfl ⟨Nat.zero_le _, Nat.zero_le _⟩ (Nat.le_of_ble_eq_true rfl) d_X10_readsStep_181 ?_
    refine z_aload_n cx d_X10_readsStep_184 0 rfl ?_
    refine z_dup cx d_X10_readsStep_185 rfl ?_
    refine z_getI cx hT fg_SunnyPansModel_141 d_X10_readsStep_186 ?_
    refine z_iconst (v := 1) cx d_X10_readsStep_189 ki_1 ?_
    refine z_isub cx d_X10_readsStep_190 ?_
    refine z_putI cx hT fp_SunnyPansModel_141 d_X10_readsStep_191 ?_
    refine z_nmM hF (fun M4 hF => ?_)
    exact hb194 b178_L2 M4 hb178_L2 hF
  have hL147 : ∀ (fuel : Nat), ∀ (b147_L2 : Nat) (M : zMem), zT shM n b147_L2 35 → itF (fun _ _ => none) (F_X10_readsStep_147 r_X10_readsStep) fuel b147_L2 M = some M9 → zJ p l e (zRmS rr) s m args below meth c G shM ad n A 3 (MQ below (zQ G shM ad n M9 none A) args s 0 0 A) 0 0 M 147 [(0, .ref (ad 0)), (2, .ref (ad b147_L2))] [] := by
    intro fuel
    induction fuel with
    | zero => intro b147_L2 M hb147_L2 hF; cases hF
    | succ fuel hs147 =>
      intro b147_L2 M hb147_L2 hF
      have hF : F_X10_readsStep_147 r_X10_readsStep (itF (fun _ _ => none) (F_X10_readsStep_147 r_X10_readsStep) fuel) b147_L2 M = some M9 := hF
      generalize itF (fun _ _ => none) (F_X10_readsStep_147 r_X10_readsStep) fuel = self147 at hs147 hF
      unfold F_X10_readsStep_147 at hF
      refine z_aload_n cx d_X10_readsStep_147 0 rfl ?_
      refine z_getI cx hT fg_SunnyPansModel_98 d_X10_readsStep_148 ?_
      refine z_if_ne cx 178 d_X10_readsStep_151 (by decide) hF (fun hF => ?_) (fun hF => ?_)
      · exact hb178 b147_L2 M hb147_L2 hF
      refine z_aload_n cx d_X10_readsStep_154 0 rfl ?_
      refine z_aload_n cx d_X10_readsStep_155 0 rfl ?_
      refine z_getI cx hT fg_SunnyPansModel_91 d_X10_readsStep_156 ?_
      obtain ⟨v6, M5, hc, hF⟩ := zb_inv hF
      refine z_callV cx (As := [.int (M.1 0 4)]) (rest := []) (c_X10_byteAt l cx.2.2.2.1.1 M (M.1 0 4) hT hc) hT zo_11 cv_SunnyPansModel_94 (zRmS_c rfl rfl (Nat.le_of_ble_eq_true rfl) (Nat.le_of_ble_eq_true rfl)) rfl rfl ⟨Nat.zero_le _, Nat.zero_le _⟩ (Nat.le_of_ble_eq_true rfl) d_X10_readsStep_159 ?_
      refine z_bipush (v := 93) cx d_X10_readsStep_162 kb_93 ?_
      refine z_icmp_eq cx 178 d_X10_readsStep_164 (by decide) hF (fun hF => ?_) (fun hF => ?_)
      · exact hb178 b147_L2 M5 hb147_L2 hF
      refine z_aload_n cx d_X10_readsStep_167 0 rfl ?_
      obtain ⟨M7, hc, hF⟩ := zbv_inv hF
      refine z_callV cx (As := []) (rest := []) (hr_X10_readsStep M5 _ hT hc) hT zo_11 cv_SunnyPansModel_234 (zRmS_r hrr (by decide)) rfl rfl ⟨Nat.zero_le _, Nat.zero_le _⟩ (Nat.le_of_ble_eq_true rfl) d_X10_readsStep_168 ?_
      refine z_aload_n cx d_X10_readsStep_171 0 rfl ?_
      obtain ⟨M8, hc, hF⟩ := zbv_inv hF
      refine z_callV cx (As := []) (rest := []) (c_X10_blanks l cx.2.2.2.1.1 M7 hT hc) hT zo_11 cv_SunnyPansModel_104 (zRmS_c rfl rfl (Nat.le_of_ble_eq_true rfl) (Nat.le_of_ble_eq_true rfl)) rfl rfl ⟨Nat.zero_le _, Nat.zero_le _⟩ (Nat.le_of_ble_eq_true rfl) d_X10_readsStep_172 ?_
      refine z_goto cx 147 d_X10_readsStep_175 (by decide) ?_
      exact hs147 b147_L2 M8 hb147_L2 hF
  have hb122 : ∀ (b122_L1 : Int32) (b122_L2 : Nat) (M : zMem), zT shM n b122_L2 35 → F_X10_readsStep_122 r_X10_readsStep b122_L1 b122_L2 M = some M9 → zJ p l e (zRmS rr) s m args below meth c G shM ad n A 3 (MQ below (zQ G shM ad n M9 none A) args s 0 0 A) 0 0 M 122 [(0, .ref (ad 0)), (1, .int b122_L1), (2, .ref (ad b122_L2))] [] := by
    intro b122_L1 b122_L2 M hb122_L2 hF
    unfold F_X10_readsStep_122 at hF
    refine z_iload_n cx d_X10_readsStep_122 1 rfl ?_
    refine z_iconst (v := 5) cx d_X10_readsStep_123 ki_5 ?_
    refine z_icmp_ne cx 194 d_X10_readsStep_124 (by decide) hF (fun hF => ?_) (fun hF => ?_)
    · exact z_lv [0, 2] _ rfl (hb194 b122_L2 M hb122_L2 hF)
    refine z_aload_n cx d_X10_readsStep_127 2 rfl ?_
    refine z_iconst (v := 1) cx d_X10_readsStep_128 ki_1 ?_
    refine z_aload_n cx d_X10_readsStep_129 0 rfl ?_
    refine z_iconst (v := 0) cx d_X10_readsStep_130 ki_0 ?_
    refine z_bipush (v := 60) cx d_X10_readsStep_131 kb_60 ?_
    obtain ⟨v10, M9, hc, hF⟩ := zb_inv hF
    refine z_callV cx (As := [.int (0 : Int32), .int (60 : Int32)]) (rest := [.int (1 : Int32), .ref (ad b122_L2)]) (c_X10_number l cx.2.2.2.1.1 M (0 : Int32) (60 : Int32) hT hc) hT zo_11 cv_SunnyPansModel_147 (zRmS_c rfl rfl (Nat.le_of_ble_eq_true rfl) (Nat.le_of_ble_eq_true rfl)) rfl rfl ⟨Nat.zero_le _, Nat.zero_le _⟩ (Nat.le_of_ble_eq_true rfl) d_X10_readsStep_133 ?_
    refine z_iast cx hb122_L2 za_35 (zvp (by decide +kernel)) 1 rfl d_X10_readsStep_136 ?_
    refine z_nmM hF (fun M11 hF => ?_)
    refine z_aload_n cx d_X10_readsStep_137 0 rfl ?_
    refine z_bipush (v := 91) cx d_X10_readsStep_138 kb_91 ?_
    obtain ⟨M12, hc, hF⟩ := zbv_inv hF
    refine z_callV cx (As := [.int (91 : Int32)]) (rest := []) (c_X10_sign l cx.2.2.2.1.1 M11 (91 : Int32) hT hc) hT zo_11 cv_SunnyPansModel_151 (zRmS_c rfl rfl (Nat.le_of_ble_eq_true rfl) (Nat.le_of_ble_eq_true rfl)) rfl rfl ⟨Nat.zero_le _, Nat.zero_le _⟩ (Nat.le_of_ble_eq_true rfl) d_X10_readsStep_140 ?_
    refine z_aload_n cx d_X10_readsStep_143 0 rfl ?_
    obtain ⟨M13, hc, hF⟩ := zbv_inv hF
    refine z_callV cx (As := []) (rest := []) (c_X10_blanks l cx.2.2.2.1.1 M12 hT hc) hT zo_11 cv_SunnyPansModel_104 (zRmS_c rfl rfl (Nat.le_of_ble_eq_true rfl) (Nat.le_of_ble_eq_true rfl)) rfl rfl ⟨Nat.zero_le _, Nat.zero_le _⟩ (Nat.le_of_ble_eq_true rfl) d_X10_readsStep_144 ?_
    exact z_lv [0, 2] _ rfl (hL147 zFuel b122_L2 M13 hb122_L2 hF)
  have hb107 : ∀ (b107_L1 : Int32) (b107_L2 : Nat) (M : zMem), zT shM n b107_L2 35 → F_X10_readsStep_107 r_X10_readsStep b107_L1 b107_L2 M = some M9 → zJ p l e (zRmS rr) s m args below meth c G shM ad n A 3 (MQ below (zQ G shM ad n M9 none A) args s 0 0 A) 0 0 M 107 [(0, .ref (ad 0)), (1, .int b107_L1), (2, .ref (ad b107_L2))] [] := by
    intro b107_L1 b107_L2 M hb107_L2 hF
    unfold F_X10_readsStep_107 at hF
    refine z_iload_n cx d_X10_readsStep_107 1 rfl ?_
    refine z_iconst (v := 3) cx d_X10_readsStep_108 ki_3 ?_
    refine z_icmp_ne cx 122 d_X10_readsStep_109 (by decide) hF (fun hF => ?_) (fun hF => ?_)
    · exact hb122 b107_L1 b107_L2 M hb107_L2 hF
    refine z_aload_n cx d_X10_readsStep_112 2 rfl ?_
    refine z_iconst (v := 1) cx d_X10_readsStep_113 ki_1 ?_
    refine z_aload_n cx d_X10_readsStep_114 0 rfl ?_
    refine z_iconst (v := 1) cx d_X10_readsStep_115 ki_1 ?_
    refine z_bipush (v := 99) cx d_X10_readsStep_116 kb_99 ?_
    obtain ⟨v15, M14, hc, hF⟩ := zb_inv hF
    refine z_callV cx (As := [.int (1 : Int32), .int (99 : Int32)]) (rest := [.int (1 : Int32), .ref (ad b107_L2)]) (c_X10_number l cx.2.2.2.1.1 M (1 : Int32) (99 : Int32) hT hc) hT zo_11 cv_SunnyPansModel_147 (zRmS_c rfl rfl (Nat.le_of_ble_eq_true rfl) (Nat.le_of_ble_eq_true rfl)) rfl rfl ⟨Nat.zero_le _, Nat.zero_le _⟩ (Nat.le_of_ble_eq_true rfl) d_X10_readsStep_118 ?_
    refine z_iast cx hb107_L2 za_35 (zvp (by decide +kernel)) 1 rfl d_X10_readsStep_121 ?_
    refine z_nmM hF (fun M16 hF => ?_)
    exact hb122 b107_L1 b107_L2 M16 hb107_L2 hF
  have hb95 : ∀ (b95_L1 : Int32) (b95_L2 : Nat) (M : zMem), zT shM n b95_L2 35 → F_X10_readsStep_95 r_X10_readsStep b95_L1 b95_L2 M = some M9 → zJ p l e (zRmS rr) s m args below meth c G shM ad n A 3 (MQ below (zQ G shM ad n M9 none A) args s 0 0 A) 0 0 M 95 [(0, .ref (ad 0)), (1, .int b95_L1), (2, .ref (ad b95_L2))] [] := by
    intro b95_L1 b95_L2 M hb95_L2 hF
    unfold F_X10_readsStep_95 at hF
    refine z_iload_n cx d_X10_readsStep_95 1 rfl ?_
    refine z_iconst (v := 1) cx d_X10_readsStep_96 ki_1 ?_
    refine z_icmp_ne cx 107 d_X10_readsStep_97 (by decide) hF (fun hF => ?_) (fun hF => ?_)
    · exact hb107 b95_L1 b95_L2 M hb95_L2 hF
    refine z_aload_n cx d_X10_readsStep_100 2 rfl ?_
    refine z_iconst (v := 2) cx d_X10_readsStep_101 ki_2 ?_
    refine z_aload_n cx d_X10_readsStep_102 0 rfl ?_
    obtain ⟨v18, M17, hc, hF⟩ := zb_inv hF
    refine z_callV cx (As := []) (rest := [.int (2 : Int32), .ref (ad b95_L2)]) (c_X10_placeHere l cx.2.2.2.1.1 M hT hc) hT zo_11 cv_SunnyPansModel_231 (zRmS_c rfl rfl (Nat.le_of_ble_eq_true rfl) (Nat.le_of_ble_eq_true rfl)) rfl rfl ⟨Nat.zero_le _, Nat.zero_le _⟩ (Nat.le_of_ble_eq_true rfl) d_X10_readsStep_103 ?_
    refine z_iast cx hb95_L2 za_35 (zvp (by decide +kernel)) 2 rfl d_X10_readsStep_106 ?_
    refine z_nmM hF (fun M19 hF => ?_)
    exact hb107 b95_L1 b95_L2 M19 hb95_L2 hF
  have hb80 : ∀ (b80_L1 : Int32) (b80_L2 : Nat) (M : zMem), zT shM n b80_L2 35 → F_X10_readsStep_80 r_X10_readsStep b80_L1 b80_L2 M = some M9 → zJ p l e (zRmS rr) s m args below meth c G shM ad n A 3 (MQ below (zQ G shM ad n M9 none A) args s 0 0 A) 0 0 M 80 [(0, .ref (ad 0)), (1, .int b80_L1), (2, .ref (ad b80_L2))] [] := by
    intro b80_L1 b80_L2 M hb80_L2 hF
    unfold F_X10_readsStep_80 at hF
    refine z_iload_n cx d_X10_readsStep_80 1 rfl ?_
    refine z_if_ne cx 95 d_X10_readsStep_81 (by decide) hF (fun hF => ?_) (fun hF => ?_)
    · exact hb95 b80_L1 b80_L2 M hb80_L2 hF
    refine z_aload_n cx d_X10_readsStep_84 2 rfl ?_
    refine z_iconst (v := 2) cx d_X10_readsStep_85 ki_2 ?_
    refine z_aload_n cx d_X10_readsStep_86 0 rfl ?_
    refine z_iconst (v := 1) cx d_X10_readsStep_87 ki_1 ?_
    refine z_sipush (v := 999) cx d_X10_readsStep_88 ks_999 ?_
    obtain ⟨v21, M20, hc, hF⟩ := zb_inv hF
    refine z_callV cx (As := [.int (1 : Int32), .int (999 : Int32)]) (rest := [.int (2 : Int32), .ref (ad b80_L2)]) (c_X10_number l cx.2.2.2.1.1 M (1 : Int32) (999 : Int32) hT hc) hT zo_11 cv_SunnyPansModel_147 (zRmS_c rfl rfl (Nat.le_of_ble_eq_true rfl) (Nat.le_of_ble_eq_true rfl)) rfl rfl ⟨Nat.zero_le _, Nat.zero_le _⟩ (Nat.le_of_ble_eq_true rfl) d_X10_readsStep_91 ?_
    refine z_iast cx hb80_L2 za_35 (zvp (by decide +kernel)) 2 rfl d_X10_readsStep_94 ?_
    refine z_nmM hF (fun M22 hF => ?_)
    exact hb95 b80_L1 b80_L2 M22 hb80_L2 hF
  have hb32 : ∀ (b32_L1 : Int32) (M : zMem), F_X10_readsStep_32 r_X10_readsStep b32_L1 M = some M9 → zJ p l e (zRmS rr) s m args below meth c G shM ad n A 3 (MQ below (zQ G shM ad n M9 none A) args s 0 0 A) 0 0 M 32 [(0, .ref (ad 0)), (1, .int b32_L1)] [] := by
    intro b32_L1 M hF
    unfold F_X10_readsStep_32 at hF
    refine z_aload_n cx d_X10_readsStep_32 0 rfl ?_
    refine z_getI cx hT fg_SunnyPansModel_98 d_X10_readsStep_33 ?_
    refine z_if_eq cx 40 d_X10_readsStep_36 (by decide) hF (fun hF => ?_) (fun hF => ?_)
    · refine z_aload_n cx d_X10_readsStep_40 0 rfl ?_
      obtain ⟨M23, hc, hF⟩ := zbv_inv hF
      refine z_callV cx (As := []) (rest := []) (c_X10_skipWord l cx.2.2.2.1.1 M hT hc) hT zo_11 cv_SunnyPansModel_135 (zRmS_c rfl rfl (Nat.le_of_ble_eq_true rfl) (Nat.le_of_ble_eq_true rfl)) rfl rfl ⟨Nat.zero_le _, Nat.zero_le _⟩ (Nat.le_of_ble_eq_true rfl) d_X10_readsStep_41 ?_
      refine z_aload_n cx d_X10_readsStep_44 0 rfl ?_
      refine z_getR cx hT fg_SunnyPansModel_55 370 rfl d_X10_readsStep_45 ?_
      refine z_aload_n cx d_X10_readsStep_48 0 rfl ?_
      refine z_getI cx hT fg_SunnyPansModel_228 d_X10_readsStep_49 ?_
      obtain ⟨hi24, hF⟩ := gin_inv hF
      refine z_aald cx (tfM_11_370 hT) za_34 hi24 (370 + (1 + 1 * (M23.1 0 25).toNatClampNeg)) rfl d_X10_readsStep_52 ?_
      refine z_astore_n cx 2 [(2, .ref (ad (370 + (1 + 1 * (M23.1 0 25).toNatClampNeg)))), (0, .ref (ad 0)), (1, .int b32_L1)] d_X10_readsStep_53 rfl (by decide) rfl ?_
      refine z_aload_n cx d_X10_readsStep_54 1 rfl ?_
      refine z_dup cx d_X10_readsStep_55 rfl ?_
      refine z_getI cx hT fg_SunnyPansModel_228 d_X10_readsStep_56 ?_
      refine z_iconst (v := 1) cx d_X10_readsStep_59 ki_1 ?_
      refine z_iadd cx d_X10_readsStep_60 ?_
      refine z_putI cx hT fp_SunnyPansModel_228 d_X10_readsStep_61 ?_
      refine z_nmM hF (fun M25 hF => ?_)
      refine z_aload_n cx d_X10_readsStep_64 0 rfl ?_
      refine z_iconst (v := 0) cx d_X10_readsStep_65 ki_0 ?_
      refine z_iload_n cx d_X10_readsStep_66 2 rfl ?_
      refine z_iast cx (teM_34 (tfM_11_370 hT) hi24) za_35 (zvp (by decide +kernel)) 0 rfl d_X10_readsStep_67 ?_
      refine z_nmM hF (fun M26 hF => ?_)
      refine z_iload_n cx d_X10_readsStep_68 2 rfl ?_
      refine z_iconst (v := 3) cx d_X10_readsStep_69 ki_3 ?_
      refine z_icmp_ge cx 80 d_X10_readsStep_70 (by decide) hF (fun hF => ?_) (fun hF => ?_)
      · exact z_lv [1, 2, 0] _ rfl (hb80 b32_L1 (370 + (1 + 1 * (M23.1 0 25).toNatClampNeg)) M26 (teM_34 (tfM_11_370 hT) hi24) hF)
      refine z_aload_n cx d_X10_readsStep_73 0 rfl ?_
      refine z_iconst (v := 1) cx d_X10_readsStep_74 ki_1 ?_
      refine z_aload_n cx d_X10_readsStep_75 1 rfl ?_
      obtain ⟨v28, M27, hc, hF⟩ := zb_inv hF
      refine z_callV cx (As := []) (rest := [.int (1 : Int32), .ref (ad (370 + (1 + 1 * (M23.1 0 25).toNatClampNeg)))]) (c_X10_placeHere l cx.2.2.2.1.1 M26 hT hc) hT zo_11 cv_SunnyPansModel_231 (zRmS_c rfl rfl (Nat.le_of_ble_eq_true rfl) (Nat.le_of_ble_eq_true rfl)) rfl rfl ⟨Nat.zero_le _, Nat.zero_le _⟩ (Nat.le_of_ble_eq_true rfl) d_X10_readsStep_76 ?_
      refine z_iast cx (teM_34 (tfM_11_370 hT) hi24) za_35 (zvp (by decide +kernel)) 1 rfl d_X10_readsStep_79 ?_
      refine z_nmM hF (fun M29 hF => ?_)
      exact z_lv [1, 2, 0] _ rfl (hb80 b32_L1 (370 + (1 + 1 * (M23.1 0 25).toNatClampNeg)) M29 (teM_34 (tfM_11_370 hT) hi24) hF)
    exact z_vret cx hr hF d_X10_readsStep_39
  have hb19 : ∀ (b19_L1 : Int32) (M : zMem), F_X10_readsStep_19 r_X10_readsStep b19_L1 M = some M9 → zJ p l e (zRmS rr) s m args below meth c G shM ad n A 3 (MQ below (zQ G shM ad n M9 none A) args s 0 0 A) 0 0 M 19 [(0, .ref (ad 0)), (1, .int b19_L1)] [] := by
    intro b19_L1 M hF
    unfold F_X10_readsStep_19 at hF
    refine z_iload_n cx d_X10_readsStep_19 1 rfl ?_
    refine z_iconst (v := 5) cx d_X10_readsStep_20 ki_5 ?_
    refine z_icmp_ne cx 32 d_X10_readsStep_21 (by decide) hF (fun hF => ?_) (fun hF => ?_)
    · exact hb32 b19_L1 M hF
    refine z_aload_n cx d_X10_readsStep_24 0 rfl ?_
    obtain ⟨v31, M30, hc, hF⟩ := zb_inv hF
    refine z_callV cx (As := []) (rest := []) (c_X10_opensOne l cx.2.2.2.1.1 M hT hc) hT zo_11 cv_SunnyPansModel_205 (zRmS_c rfl rfl (Nat.le_of_ble_eq_true rfl) (Nat.le_of_ble_eq_true rfl)) rfl rfl ⟨Nat.zero_le _, Nat.zero_le _⟩ (Nat.le_of_ble_eq_true rfl) d_X10_readsStep_25 ?_
    refine z_if_ne cx 32 d_X10_readsStep_28 (by decide) hF (fun hF => ?_) (fun hF => ?_)
    · exact hb32 b19_L1 M30 hF
    exact z_vret cx hr hF d_X10_readsStep_31
  unfold F_X10_readsStep_r at hF
  refine z_aload_n cx d_X10_readsStep_0 0 rfl ?_
  obtain ⟨v33, M32, hc, hF⟩ := zb_inv hF
  refine z_callV cx (As := []) (rest := []) (c_X10_stepHere l cx.2.2.2.1.1 M hT hc) hT zo_11 cv_SunnyPansModel_225 (zRmS_c rfl rfl (Nat.le_of_ble_eq_true rfl) (Nat.le_of_ble_eq_true rfl)) rfl rfl ⟨Nat.zero_le _, Nat.zero_le _⟩ (Nat.le_of_ble_eq_true rfl) d_X10_readsStep_1 ?_
  refine z_istore_n cx 1 [(1, .int v33), (0, .ref (ad 0))] d_X10_readsStep_4 rfl (by decide) rfl ?_
  refine z_iload_n cx d_X10_readsStep_5 0 rfl ?_
  refine z_iconst (v := -1) cx d_X10_readsStep_6 ki_m1 ?_
  refine z_icmp_ne cx 19 d_X10_readsStep_7 (by decide) hF (fun hF => ?_) (fun hF => ?_)
  · exact z_lv [1, 0] _ rfl (hb19 v33 M32 hF)
  refine z_aload_n cx d_X10_readsStep_10 1 rfl ?_
  refine z_iconst (v := 1) cx d_X10_readsStep_11 ki_1 ?_
  refine z_aload_n cx d_X10_readsStep_12 1 rfl ?_
  refine z_getI cx hT fg_SunnyPansModel_91 d_X10_readsStep_13 ?_
  obtain ⟨M34, hc, hF⟩ := zbv_inv hF
  refine z_callV cx (As := [.int (1 : Int32), .int (M32.1 0 4)]) (rest := []) (c_X10_wrong l cx.2.2.2.1.1 M32 (1 : Int32) (M32.1 0 4) hT hc) hT zo_11 cv_SunnyPansModel_111 (zRmS_c rfl rfl (Nat.le_of_ble_eq_true rfl) (Nat.le_of_ble_eq_true rfl)) rfl rfl ⟨Nat.zero_le _, Nat.zero_le _⟩ (Nat.le_of_ble_eq_true rfl) d_X10_readsStep_16 ?_
  exact z_lv [1, 0] _ rfl (hb19 v33 M34 hF)
noncomputable def FG_X10_readsStep : Nat → (zMem → Option (zMem)) := itF ((fun _ => none)) (fun r => ((fun M  => F_X10_readsStep_r M (r))))
theorem FGs_X10_readsStep (d : Nat) : FG_X10_readsStep (d + 1) = ((fun M  => F_X10_readsStep_r M ((FG_X10_readsStep d)))) := rfl
noncomputable def F_X10_readsStep (M : zMem)  : Option (zMem) := (FG_X10_readsStep 48) M 
set_option maxHeartbeats 4000000 in
theorem cg_X10_readsStep (l : Launch) {G : zG} {ad : Nat → Nat} {n : Nat} (hA : zInj ad n) : ∀ d : Nat, (∀ (M : zMem)  (M9 : zMem), zT shM n 0 11 → (FG_X10_readsStep d) M = some M9 → zM l yX10_readsStep cX10_readsStep 3 none (zRmG d) G shM ad n M [.ref (ad 0)] none M9) := by
  intro d
  induction d with
  | zero => exact (fun M M9 hT hF => by cases hF)
  | succ d ih =>
    exact fun M M9 hT hF => co_X10_readsStep l hA M _ (zRmG_0 d) (ih) hT (by rw [FGs_X10_readsStep] at hF; exact hF)
def rm_X10_readsStep : Room := zRmG 48
theorem c_X10_readsStep (l : Launch) {G : zG} {ad : Nat → Nat} {n : Nat} (hA : zInj ad n) (M : zMem)  (hT : zT shM n 0 11) {M9 : zMem} (hF : F_X10_readsStep M  = some M9) : zM l yX10_readsStep cX10_readsStep 3 none rm_X10_readsStep G shM ad n M [.ref (ad 0)] none M9 := (cg_X10_readsStep l hA 48) M  M9 hT hF
/-! SunnyPansModel.book -/
theorem tfM_11_359 {n k : Nat} (h : zT shM n k 11) : zT shM n (k + 359) 32 := zT_off h (shM_f (by decide) (by decide +kernel)) (by decide) (by decide)
theorem tfM_11_350 {n k : Nat} (h : zT shM n k 11) : zT shM n (k + 350) 32 := zT_off h (shM_f (by decide) (by decide +kernel)) (by decide) (by decide)
set_option maxRecDepth 100000 in
theorem wd_1416 : Cond.fieldLink "SunnyPansModel" 46 "SunnyPansModel" "readLine" "[[I" ∈ tbG := tw6 116 rfl rfl
theorem fg_SunnyPansModel_46 : zGetR "SunnyPansModel" 46 10 11 21 359 := ⟨RX10, TX10, 40, rfl, by decide, uw_10, wd_1416, fun _ _ _ _ _ _ => ⟨_, rfl, rfl⟩⟩
set_option maxRecDepth 100000 in
theorem wd_1415 : Cond.fieldLink "SunnyPansModel" 43 "SunnyPansModel" "line" "[[I" ∈ tbG := tw6 115 rfl rfl
theorem fg_SunnyPansModel_43 : zGetR "SunnyPansModel" 43 10 11 20 350 := ⟨RX10, TX10, 40, rfl, by decide, uw_10, wd_1415, fun _ _ _ _ _ _ => ⟨_, rfl, rfl⟩⟩
theorem za_32 : zArrR 32 8 4 1 1 := ⟨by decide, fun _ _ _ _ _ _ => rfl⟩
theorem teM_32 {n k : Nat} {i : Int32} (h : zT shM n k 32) (hi : vp_in i 8) : zT shM n (k + (1 + 1 * i.toNatClampNeg)) 27 := by
  have hlt : i.toNatClampNeg < 8 := Nat.not_le.mp fun q => hi (Or.inr q)
  have h2 : k + 9 ≤ n := h.2.2
  exact ⟨shM_e (by decide) (by decide +kernel) k h.1 _ hlt, by omega, by show _ + 1 ≤ n; omega⟩
theorem d_X10_book_0 : decode cX10_book 0 = .ok (.aload_n 0, 1) := by decide +kernel
theorem d_X10_book_1 : decode cX10_book 1 = .ok (.iconst 0, 1) := by decide +kernel
theorem d_X10_book_2 : decode cX10_book 2 = .ok (.putfield 82, 3) := by decide +kernel
theorem d_X10_book_5 : decode cX10_book 5 = .ok (.aload_n 0, 1) := by decide +kernel
theorem d_X10_book_6 : decode cX10_book 6 = .ok (.iload_n 1, 1) := by decide +kernel
theorem d_X10_book_7 : decode cX10_book 7 = .ok (.iconst 0, 1) := by decide +kernel
theorem d_X10_book_8 : decode cX10_book 8 = .ok (.aload_n 0, 1) := by decide +kernel
theorem d_X10_book_9 : decode cX10_book 9 = .ok (.getfield 85, 3) := by decide +kernel
theorem d_X10_book_12 : decode cX10_book 12 = .ok (.invokestatic 116, 3) := by decide +kernel
theorem d_X10_book_15 : decode cX10_book 15 = .ok (.ifCond .eq 9, 3) := by decide +kernel
theorem d_X10_book_18 : decode cX10_book 18 = .ok (.iload_n 1, 1) := by decide +kernel
theorem d_X10_book_19 : decode cX10_book 19 = .ok (.bipush 60, 2) := by decide +kernel
theorem d_X10_book_21 : decode cX10_book 21 = .ok (.if_icmp .le 7, 3) := by decide +kernel
theorem d_X10_book_24 : decode cX10_book 24 = .ok (.iconst 1, 1) := by decide +kernel
theorem d_X10_book_25 : decode cX10_book 25 = .ok (.goto 4, 3) := by decide +kernel
theorem d_X10_book_28 : decode cX10_book 28 = .ok (.iconst 0, 1) := by decide +kernel
theorem d_X10_book_29 : decode cX10_book 29 = .ok (.iconst 1, 1) := by decide +kernel
theorem d_X10_book_30 : decode cX10_book 30 = .ok (.iconst 1, 1) := by decide +kernel
theorem d_X10_book_31 : decode cX10_book 31 = .ok (.invokevirtual 155, 3) := by decide +kernel
theorem d_X10_book_34 : decode cX10_book 34 = .ok (.ifCond .eq 5, 3) := by decide +kernel
theorem d_X10_book_37 : decode cX10_book 37 = .ok (.iconst 0, 1) := by decide +kernel
theorem d_X10_book_38 : decode cX10_book 38 = .ok (.ireturn, 1) := by decide +kernel
theorem d_X10_book_39 : decode cX10_book 39 = .ok (.aload_n 0, 1) := by decide +kernel
theorem d_X10_book_40 : decode cX10_book 40 = .ok (.iload_n 1, 1) := by decide +kernel
theorem d_X10_book_41 : decode cX10_book 41 = .ok (.invokevirtual 159, 3) := by decide +kernel
theorem d_X10_book_44 : decode cX10_book 44 = .ok (.iconst 0, 1) := by decide +kernel
theorem d_X10_book_45 : decode cX10_book 45 = .ok (.istore_n 2, 1) := by decide +kernel
theorem d_X10_book_46 : decode cX10_book 46 = .ok (.aload_n 0, 1) := by decide +kernel
theorem d_X10_book_47 : decode cX10_book 47 = .ok (.getfield 98, 3) := by decide +kernel
theorem d_X10_book_50 : decode cX10_book 50 = .ok (.ifCond .ne 190, 3) := by decide +kernel
theorem d_X10_book_53 : decode cX10_book 53 = .ok (.aload_n 0, 1) := by decide +kernel
theorem d_X10_book_54 : decode cX10_book 54 = .ok (.getfield 91, 3) := by decide +kernel
theorem d_X10_book_57 : decode cX10_book 57 = .ok (.aload_n 0, 1) := by decide +kernel
theorem d_X10_book_58 : decode cX10_book 58 = .ok (.getfield 88, 3) := by decide +kernel
theorem d_X10_book_61 : decode cX10_book 61 = .ok (.if_icmp .ge 179, 3) := by decide +kernel
theorem d_X10_book_64 : decode cX10_book 64 = .ok (.aload_n 0, 1) := by decide +kernel
theorem d_X10_book_65 : decode cX10_book 65 = .ok (.invokevirtual 104, 3) := by decide +kernel
theorem d_X10_book_68 : decode cX10_book 68 = .ok (.aload_n 0, 1) := by decide +kernel
theorem d_X10_book_69 : decode cX10_book 69 = .ok (.getfield 91, 3) := by decide +kernel
theorem d_X10_book_72 : decode cX10_book 72 = .ok (.istore_n 3, 1) := by decide +kernel
theorem d_X10_book_73 : decode cX10_book 73 = .ok (.aload_n 0, 1) := by decide +kernel
theorem d_X10_book_74 : decode cX10_book 74 = .ok (.iconst 0, 1) := by decide +kernel
theorem d_X10_book_75 : decode cX10_book 75 = .ok (.aload_n 0, 1) := by decide +kernel
theorem d_X10_book_76 : decode cX10_book 76 = .ok (.getfield 23, 3) := by decide +kernel
theorem d_X10_book_79 : decode cX10_book 79 = .ok (.iconst 0, 1) := by decide +kernel
theorem d_X10_book_80 : decode cX10_book 80 = .ok (.iaload, 1) := by decide +kernel
theorem d_X10_book_81 : decode cX10_book 81 = .ok (.iconst 1, 1) := by decide +kernel
theorem d_X10_book_82 : decode cX10_book 82 = .ok (.isub, 1) := by decide +kernel
theorem d_X10_book_83 : decode cX10_book 83 = .ok (.invokevirtual 147, 3) := by decide +kernel
theorem d_X10_book_86 : decode cX10_book 86 = .ok (.istore 4, 2) := by decide +kernel
theorem d_X10_book_88 : decode cX10_book 88 = .ok (.aload_n 0, 1) := by decide +kernel
theorem d_X10_book_89 : decode cX10_book 89 = .ok (.getfield 98, 3) := by decide +kernel
theorem d_X10_book_92 : decode cX10_book 92 = .ok (.ifCond .ne 15, 3) := by decide +kernel
theorem d_X10_book_95 : decode cX10_book 95 = .ok (.iload_n 2, 1) := by decide +kernel
theorem d_X10_book_96 : decode cX10_book 96 = .ok (.bipush 8, 2) := by decide +kernel
theorem d_X10_book_98 : decode cX10_book 98 = .ok (.if_icmp .ne 9, 3) := by decide +kernel
theorem d_X10_book_101 : decode cX10_book 101 = .ok (.aload_n 0, 1) := by decide +kernel
theorem d_X10_book_102 : decode cX10_book 102 = .ok (.iconst 3, 1) := by decide +kernel
theorem d_X10_book_103 : decode cX10_book 103 = .ok (.iload_n 3, 1) := by decide +kernel
theorem d_X10_book_104 : decode cX10_book 104 = .ok (.invokevirtual 111, 3) := by decide +kernel
theorem d_X10_book_107 : decode cX10_book 107 = .ok (.aload_n 0, 1) := by decide +kernel
theorem d_X10_book_108 : decode cX10_book 108 = .ok (.invokevirtual 104, 3) := by decide +kernel
theorem d_X10_book_111 : decode cX10_book 111 = .ok (.aload_n 0, 1) := by decide +kernel
theorem d_X10_book_112 : decode cX10_book 112 = .ok (.getfield 91, 3) := by decide +kernel
theorem d_X10_book_115 : decode cX10_book 115 = .ok (.istore 5, 2) := by decide +kernel
theorem d_X10_book_117 : decode cX10_book 117 = .ok (.aload_n 0, 1) := by decide +kernel
theorem d_X10_book_118 : decode cX10_book 118 = .ok (.iconst 0, 1) := by decide +kernel
theorem d_X10_book_119 : decode cX10_book 119 = .ok (.aload_n 0, 1) := by decide +kernel
theorem d_X10_book_120 : decode cX10_book 120 = .ok (.getfield 23, 3) := by decide +kernel
theorem d_X10_book_123 : decode cX10_book 123 = .ok (.iconst 1, 1) := by decide +kernel
theorem d_X10_book_124 : decode cX10_book 124 = .ok (.iaload, 1) := by decide +kernel
theorem d_X10_book_125 : decode cX10_book 125 = .ok (.iconst 1, 1) := by decide +kernel
theorem d_X10_book_126 : decode cX10_book 126 = .ok (.isub, 1) := by decide +kernel
theorem d_X10_book_127 : decode cX10_book 127 = .ok (.invokevirtual 147, 3) := by decide +kernel
theorem d_X10_book_130 : decode cX10_book 130 = .ok (.istore 6, 2) := by decide +kernel
theorem d_X10_book_132 : decode cX10_book 132 = .ok (.iconst 0, 1) := by decide +kernel
theorem d_X10_book_133 : decode cX10_book 133 = .ok (.istore 7, 2) := by decide +kernel
theorem d_X10_book_135 : decode cX10_book 135 = .ok (.iload 7, 2) := by decide +kernel
theorem d_X10_book_137 : decode cX10_book 137 = .ok (.iload_n 2, 1) := by decide +kernel
theorem d_X10_book_138 : decode cX10_book 138 = .ok (.if_icmp .ge 43, 3) := by decide +kernel
theorem d_X10_book_141 : decode cX10_book 141 = .ok (.aload_n 0, 1) := by decide +kernel
theorem d_X10_book_142 : decode cX10_book 142 = .ok (.getfield 98, 3) := by decide +kernel
theorem d_X10_book_145 : decode cX10_book 145 = .ok (.ifCond .ne 36, 3) := by decide +kernel
theorem d_X10_book_148 : decode cX10_book 148 = .ok (.aload_n 0, 1) := by decide +kernel
theorem d_X10_book_149 : decode cX10_book 149 = .ok (.getfield 46, 3) := by decide +kernel
theorem d_X10_book_152 : decode cX10_book 152 = .ok (.iload 7, 2) := by decide +kernel
theorem d_X10_book_154 : decode cX10_book 154 = .ok (.aaload, 1) := by decide +kernel
theorem d_X10_book_155 : decode cX10_book 155 = .ok (.iconst 0, 1) := by decide +kernel
theorem d_X10_book_156 : decode cX10_book 156 = .ok (.iaload, 1) := by decide +kernel
theorem d_X10_book_157 : decode cX10_book 157 = .ok (.bipush 8, 2) := by decide +kernel
theorem d_X10_book_159 : decode cX10_book 159 = .ok (.iload 6, 2) := by decide +kernel
theorem d_X10_book_161 : decode cX10_book 161 = .ok (.imul, 1) := by decide +kernel
theorem d_X10_book_162 : decode cX10_book 162 = .ok (.iload 4, 2) := by decide +kernel
theorem d_X10_book_164 : decode cX10_book 164 = .ok (.iadd, 1) := by decide +kernel
theorem d_X10_book_165 : decode cX10_book 165 = .ok (.if_icmp .ne 10, 3) := by decide +kernel
theorem d_X10_book_168 : decode cX10_book 168 = .ok (.aload_n 0, 1) := by decide +kernel
theorem d_X10_book_169 : decode cX10_book 169 = .ok (.iconst 2, 1) := by decide +kernel
theorem d_X10_book_170 : decode cX10_book 170 = .ok (.iload 5, 2) := by decide +kernel
theorem d_X10_book_172 : decode cX10_book 172 = .ok (.invokevirtual 111, 3) := by decide +kernel
theorem d_X10_book_175 : decode cX10_book 175 = .ok (.iinc 7 1, 3) := by decide +kernel
theorem d_X10_book_178 : decode cX10_book 178 = .ok (.goto (-43), 3) := by decide +kernel
theorem d_X10_book_181 : decode cX10_book 181 = .ok (.aload_n 0, 1) := by decide +kernel
theorem d_X10_book_182 : decode cX10_book 182 = .ok (.iconst 0, 1) := by decide +kernel
theorem d_X10_book_183 : decode cX10_book 183 = .ok (.sipush 9999, 3) := by decide +kernel
theorem d_X10_book_186 : decode cX10_book 186 = .ok (.invokevirtual 147, 3) := by decide +kernel
theorem d_X10_book_189 : decode cX10_book 189 = .ok (.istore 7, 2) := by decide +kernel
theorem d_X10_book_191 : decode cX10_book 191 = .ok (.aload_n 0, 1) := by decide +kernel
theorem d_X10_book_192 : decode cX10_book 192 = .ok (.bipush 59, 2) := by decide +kernel
theorem d_X10_book_194 : decode cX10_book 194 = .ok (.invokevirtual 151, 3) := by decide +kernel
theorem d_X10_book_197 : decode cX10_book 197 = .ok (.aload_n 0, 1) := by decide +kernel
theorem d_X10_book_198 : decode cX10_book 198 = .ok (.getfield 98, 3) := by decide +kernel
theorem d_X10_book_201 : decode cX10_book 201 = .ok (.ifCond .ne 32, 3) := by decide +kernel
theorem d_X10_book_204 : decode cX10_book 204 = .ok (.aload_n 0, 1) := by decide +kernel
theorem d_X10_book_205 : decode cX10_book 205 = .ok (.getfield 46, 3) := by decide +kernel
theorem d_X10_book_208 : decode cX10_book 208 = .ok (.iload_n 2, 1) := by decide +kernel
theorem d_X10_book_209 : decode cX10_book 209 = .ok (.aaload, 1) := by decide +kernel
theorem d_X10_book_210 : decode cX10_book 210 = .ok (.iconst 0, 1) := by decide +kernel
theorem d_X10_book_211 : decode cX10_book 211 = .ok (.bipush 8, 2) := by decide +kernel
theorem d_X10_book_213 : decode cX10_book 213 = .ok (.iload 6, 2) := by decide +kernel
theorem d_X10_book_215 : decode cX10_book 215 = .ok (.imul, 1) := by decide +kernel
theorem d_X10_book_216 : decode cX10_book 216 = .ok (.iload 4, 2) := by decide +kernel
theorem d_X10_book_218 : decode cX10_book 218 = .ok (.iadd, 1) := by decide +kernel
theorem d_X10_book_219 : decode cX10_book 219 = .ok (.iastore, 1) := by decide +kernel
theorem d_X10_book_220 : decode cX10_book 220 = .ok (.aload_n 0, 1) := by decide +kernel
theorem d_X10_book_221 : decode cX10_book 221 = .ok (.getfield 46, 3) := by decide +kernel
theorem d_X10_book_224 : decode cX10_book 224 = .ok (.iload_n 2, 1) := by decide +kernel
theorem d_X10_book_225 : decode cX10_book 225 = .ok (.aaload, 1) := by decide +kernel
theorem d_X10_book_226 : decode cX10_book 226 = .ok (.iconst 1, 1) := by decide +kernel
theorem d_X10_book_227 : decode cX10_book 227 = .ok (.iload 7, 2) := by decide +kernel
theorem d_X10_book_229 : decode cX10_book 229 = .ok (.iastore, 1) := by decide +kernel
theorem d_X10_book_230 : decode cX10_book 230 = .ok (.iinc 2 1, 3) := by decide +kernel
theorem d_X10_book_233 : decode cX10_book 233 = .ok (.aload_n 0, 1) := by decide +kernel
theorem d_X10_book_234 : decode cX10_book 234 = .ok (.invokevirtual 104, 3) := by decide +kernel
theorem d_X10_book_237 : decode cX10_book 237 = .ok (.goto (-191), 3) := by decide +kernel
theorem d_X10_book_240 : decode cX10_book 240 = .ok (.aload_n 0, 1) := by decide +kernel
theorem d_X10_book_241 : decode cX10_book 241 = .ok (.getfield 98, 3) := by decide +kernel
theorem d_X10_book_244 : decode cX10_book 244 = .ok (.ifCond .eq 8, 3) := by decide +kernel
theorem d_X10_book_247 : decode cX10_book 247 = .ok (.aload_n 0, 1) := by decide +kernel
theorem d_X10_book_248 : decode cX10_book 248 = .ok (.invokevirtual 165, 3) := by decide +kernel
theorem d_X10_book_251 : decode cX10_book 251 = .ok (.ireturn, 1) := by decide +kernel
theorem d_X10_book_252 : decode cX10_book 252 = .ok (.aload_n 0, 1) := by decide +kernel
theorem d_X10_book_253 : decode cX10_book 253 = .ok (.iconst (-1), 1) := by decide +kernel
theorem d_X10_book_254 : decode cX10_book 254 = .ok (.putfield 9, 3) := by decide +kernel
theorem d_X10_book_257 : decode cX10_book 257 = .ok (.aload_n 0, 1) := by decide +kernel
theorem d_X10_book_258 : decode cX10_book 258 = .ok (.iload_n 2, 1) := by decide +kernel
theorem d_X10_book_259 : decode cX10_book 259 = .ok (.putfield 175, 3) := by decide +kernel
theorem d_X10_book_262 : decode cX10_book 262 = .ok (.aload_n 0, 1) := by decide +kernel
theorem d_X10_book_263 : decode cX10_book 263 = .ok (.getfield 46, 3) := by decide +kernel
theorem d_X10_book_266 : decode cX10_book 266 = .ok (.aload_n 0, 1) := by decide +kernel
theorem d_X10_book_267 : decode cX10_book 267 = .ok (.getfield 43, 3) := by decide +kernel
theorem d_X10_book_270 : decode cX10_book 270 = .ok (.iload_n 2, 1) := by decide +kernel
theorem d_X10_book_271 : decode cX10_book 271 = .ok (.invokestatic 168, 3) := by decide +kernel
theorem d_X10_book_274 : decode cX10_book 274 = .ok (.iload_n 2, 1) := by decide +kernel
theorem d_X10_book_275 : decode cX10_book 275 = .ok (.ireturn, 1) := by decide +kernel
noncomputable def F_X10_book_240 (p0 : Int32) (b240_L2 : Int32) (M : zMem) : Option (Int32 × zMem) :=
  if (M.1 0 5) = 0 then
    zl (zI M 0 3 (-1 : Int32)) fun M1 =>
    zl (zI M1 0 30 b240_L2) fun M2 =>
    zbv (F_X10_lays M2 359 8 350 8 b240_L2) fun M3 =>
    some (b240_L2, M3)
  else
    zb (F_X10_ends M) fun v5 M4 =>
    some (v5, M4)
noncomputable def F_X10_book_233 (p0 : Int32) (self46 : Int32 → zMem → Option (Int32 × zMem)) (b233_L2 : Int32) (M : zMem) : Option (Int32 × zMem) :=
  zbv (F_X10_blanks M) fun M6 =>
  self46 b233_L2 M6
noncomputable def F_X10_book_181 (p0 : Int32) (self46 : Int32 → zMem → Option (Int32 × zMem)) (b181_L2 : Int32) (b181_L4 : Int32) (b181_L6 : Int32) (M : zMem) : Option (Int32 × zMem) :=
  zb (F_X10_number M (0 : Int32) (9999 : Int32)) fun v8 M7 =>
  zbv (F_X10_sign M7 (59 : Int32)) fun M9 =>
  if (M9.1 0 5) = 0 then
    gin b181_L2 8 <|
    zl (zI M9 (359 + (1 + 1 * b181_L2.toNatClampNeg)) 0 (((8 : Int32) * b181_L6) + b181_L4)) fun M11 =>
    zl (zI M11 (359 + (1 + 1 * b181_L2.toNatClampNeg)) 1 v8) fun M12 =>
    F_X10_book_233 p0 self46 (b181_L2 + 1) M12
  else
    F_X10_book_233 p0 self46 b181_L2 M9
noncomputable def F_X10_book_175 (p0 : Int32) (self46 : Int32 → zMem → Option (Int32 × zMem)) (self135 : Int32 → Int32 → Int32 → Int32 → Int32 → zMem → Option (Int32 × zMem)) (b175_L2 : Int32) (b175_L4 : Int32) (b175_L5 : Int32) (b175_L6 : Int32) (b175_L7 : Int32) (M : zMem) : Option (Int32 × zMem) :=
  self135 b175_L2 b175_L4 b175_L5 b175_L6 (b175_L7 + 1) M
noncomputable def F_X10_book_135 (p0 : Int32) (self46 : Int32 → zMem → Option (Int32 × zMem)) (self135 : Int32 → Int32 → Int32 → Int32 → Int32 → zMem → Option (Int32 × zMem)) (b135_L2 : Int32) (b135_L4 : Int32) (b135_L5 : Int32) (b135_L6 : Int32) (b135_L7 : Int32) (M : zMem) : Option (Int32 × zMem) :=
  if b135_L2 ≤ b135_L7 then
    F_X10_book_181 p0 self46 b135_L2 b135_L4 b135_L6 M
  else
    if (M.1 0 5) = 0 then
      gin b135_L7 8 <|
      if (M.1 (359 + (1 + 1 * b135_L7.toNatClampNeg)) 0) = (((8 : Int32) * b135_L6) + b135_L4) then
        zbv (F_X10_wrong M (2 : Int32) b135_L5) fun M14 =>
        F_X10_book_175 p0 self46 self135 b135_L2 b135_L4 b135_L5 b135_L6 b135_L7 M14
      else
        F_X10_book_175 p0 self46 self135 b135_L2 b135_L4 b135_L5 b135_L6 b135_L7 M
    else
      F_X10_book_181 p0 self46 b135_L2 b135_L4 b135_L6 M
noncomputable def F_X10_book_107 (p0 : Int32) (self46 : Int32 → zMem → Option (Int32 × zMem)) (b107_L2 : Int32) (b107_L4 : Int32) (M : zMem) : Option (Int32 × zMem) :=
  zbv (F_X10_blanks M) fun M15 =>
  zl (M15.1 0 4) fun v16 =>
  zb (F_X10_number M15 (0 : Int32) ((M15.1 4 1) - (1 : Int32))) fun v18 M17 =>
  itF (fun _ _ _ _ _ _ => none) (F_X10_book_135 p0 self46) zFuel b107_L2 b107_L4 v16 v18 (0 : Int32) M17
noncomputable def F_X10_book_46 (p0 : Int32) (self46 : Int32 → zMem → Option (Int32 × zMem)) (b46_L2 : Int32) (M : zMem) : Option (Int32 × zMem) :=
  if (M.1 0 5) = 0 then
    if (M.1 0 2) ≤ (M.1 0 4) then
      F_X10_book_240 p0 b46_L2 M
    else
      zbv (F_X10_blanks M) fun M19 =>
      zl (M19.1 0 4) fun v20 =>
      zb (F_X10_number M19 (0 : Int32) ((M19.1 4 0) - (1 : Int32))) fun v22 M21 =>
      if (M21.1 0 5) = 0 then
        if b46_L2 = (8 : Int32) then
          zbv (F_X10_wrong M21 (3 : Int32) v20) fun M23 =>
          F_X10_book_107 p0 self46 b46_L2 v22 M23
        else
          F_X10_book_107 p0 self46 b46_L2 v22 M21
      else
        F_X10_book_107 p0 self46 b46_L2 v22 M21
  else
    F_X10_book_240 p0 b46_L2 M
noncomputable def F_X10_book_29 (p0 : Int32) (b29_L1 : Int32) (b29_S1 : Int32) (M : zMem) : Option (Int32 × zMem) :=
  zb (F_X10_bad M b29_S1 (1 : Int32) (1 : Int32)) fun v25 M24 =>
  if v25 = 0 then
    zbv (F_X10_starts M24 b29_L1) fun M26 =>
    itF (fun _ _ => none) (F_X10_book_46 p0) zFuel (0 : Int32) M26
  else
    some ((0 : Int32), M24)
noncomputable def F_X10_book (M : zMem) (p0 : Int32) : Option (Int32 × zMem) :=
  zl (zI M 0 0 (0 : Int32)) fun M27 =>
  zb (F_X10_in M27 p0 (0 : Int32) (M27.1 0 1)) fun v29 M28 =>
  if v29 = 0 then
    F_X10_book_29 p0 p0 (1 : Int32) M28
  else
    if p0 ≤ (60 : Int32) then
      F_X10_book_29 p0 p0 (0 : Int32) M28
    else
      F_X10_book_29 p0 p0 (1 : Int32) M28
def rm_X10_book : Room := { frames := 5, cells := 0, slots := 0, locals := 145 }
set_option maxHeartbeats 4000000 in
set_option maxRecDepth 100000 in
theorem c_X10_book (l : Launch) {G : zG} {ad : Nat → Nat} {n : Nat} (hA : zInj ad n) (M : zMem) (p0 : Int32) (hT : zT shM n 0 11) {r9 : Int32} {M9 : zMem} (hF : F_X10_book M p0 = some (r9, M9)) : zM l yX10_book cX10_book 8 (some .int) rm_X10_book G shM ad n M [.ref (ad 0), .int p0] (some (.int r9)) M9 := by
  refine zM_of hA (by decide +kernel) (lv := [(0, .ref (ad 0)), (1, .int p0)]) (Nat.le_of_ble_eq_true rfl) rfl (fun p e s m args below meth c A cx hr => ?_)
  have hb240 : ∀ (b240_L2 : Int32) (M : zMem), F_X10_book_240 p0 b240_L2 M = some (r9, M9) → zJ p l e rm_X10_book s m args below meth c G shM ad n A 8 (MQ below (zQ G shM ad n M9 (some (.int r9)) A) args s 0 0 A) 0 0 M 240 [(0, .ref (ad 0)), (2, .int b240_L2)] [] := by
    intro b240_L2 M hF
    unfold F_X10_book_240 at hF
    refine z_aload_n cx d_X10_book_240 0 rfl ?_
    refine z_getI cx hT fg_SunnyPansModel_98 d_X10_book_241 ?_
    refine z_if_eq cx 252 d_X10_book_244 (by decide) hF (fun hF => ?_) (fun hF => ?_)
    · refine z_aload_n cx d_X10_book_252 0 rfl ?_
      refine z_iconst (v := -1) cx d_X10_book_253 ki_m1 ?_
      refine z_putI cx hT fp_SunnyPansModel_9 d_X10_book_254 ?_
      refine z_nmM hF (fun M1 hF => ?_)
      refine z_aload_n cx d_X10_book_257 0 rfl ?_
      refine z_iload_n cx d_X10_book_258 1 rfl ?_
      refine z_putI cx hT fp_SunnyPansModel_175 d_X10_book_259 ?_
      refine z_nmM hF (fun M2 hF => ?_)
      refine z_aload_n cx d_X10_book_262 0 rfl ?_
      refine z_getR cx hT fg_SunnyPansModel_46 359 rfl d_X10_book_263 ?_
      refine z_aload_n cx d_X10_book_266 0 rfl ?_
      refine z_getR cx hT fg_SunnyPansModel_43 350 rfl d_X10_book_267 ?_
      refine z_iload_n cx d_X10_book_270 1 rfl ?_
      obtain ⟨M3, hc, hF⟩ := zbv_inv hF
      refine z_callS cx (As := [.ref (ad 359), .ref (ad 350), .int b240_L2]) (rest := []) (c_X10_lays l cx.2.2.2.1.1 M2 359 8 350 8 b240_L2 (tfM_11_359 hT) za_32 (fun i hi => teM_32 (tfM_11_359 hT) hi) (tfM_11_350 hT) za_32 (fun i hi => teM_32 (tfM_11_350 hT) hi) hc) cs_SunnyPansModel_168 ⟨rfl, rfl, Nat.le_of_ble_eq_true rfl, Nat.le_of_ble_eq_true rfl⟩ rfl rfl ⟨Nat.zero_le _, Nat.zero_le _⟩ (Nat.le_of_ble_eq_true rfl) d_X10_book_271 ?_
      refine z_iload_n cx d_X10_book_274 1 rfl ?_
      exact z_iret cx hr rfl hF d_X10_book_275
    refine z_aload_n cx d_X10_book_247 0 rfl ?_
    obtain ⟨v5, M4, hc, hF⟩ := zb_inv hF
    refine z_callV cx (As := []) (rest := []) (c_X10_ends l cx.2.2.2.1.1 M hT hc) hT zo_11 cv_SunnyPansModel_165 ⟨rfl, rfl, Nat.le_of_ble_eq_true rfl, Nat.le_of_ble_eq_true rfl⟩ rfl rfl ⟨Nat.zero_le _, Nat.zero_le _⟩ (Nat.le_of_ble_eq_true rfl) d_X10_book_248 ?_
    exact z_iret cx hr rfl hF d_X10_book_251
  have hb233 : ∀ (self46 : Int32 → zMem → Option (Int32 × zMem)) (hs46 : ∀ (b46_L2 : Int32) (M : zMem), self46 b46_L2 M = some (r9, M9) → zJ p l e rm_X10_book s m args below meth c G shM ad n A 8 (MQ below (zQ G shM ad n M9 (some (.int r9)) A) args s 0 0 A) 0 0 M 46 [(0, .ref (ad 0)), (2, .int b46_L2)] []), ∀ (b233_L2 : Int32) (M : zMem), F_X10_book_233 p0 self46 b233_L2 M = some (r9, M9) → zJ p l e rm_X10_book s m args below meth c G shM ad n A 8 (MQ below (zQ G shM ad n M9 (some (.int r9)) A) args s 0 0 A) 0 0 M 233 [(0, .ref (ad 0)), (2, .int b233_L2)] [] := by
    intro self46 hs46 b233_L2 M hF
    unfold F_X10_book_233 at hF
    refine z_aload_n cx d_X10_book_233 0 rfl ?_
    obtain ⟨M6, hc, hF⟩ := zbv_inv hF
    refine z_callV cx (As := []) (rest := []) (c_X10_blanks l cx.2.2.2.1.1 M hT hc) hT zo_11 cv_SunnyPansModel_104 ⟨rfl, rfl, Nat.le_of_ble_eq_true rfl, Nat.le_of_ble_eq_true rfl⟩ rfl rfl ⟨Nat.zero_le _, Nat.zero_le _⟩ (Nat.le_of_ble_eq_true rfl) d_X10_book_234 ?_
    refine z_goto cx 46 d_X10_book_237 (by decide) ?_
    exact hs46 b233_L2 M6 hF
  have hb181 : ∀ (self46 : Int32 → zMem → Option (Int32 × zMem)) (hs46 : ∀ (b46_L2 : Int32) (M : zMem), self46 b46_L2 M = some (r9, M9) → zJ p l e rm_X10_book s m args below meth c G shM ad n A 8 (MQ below (zQ G shM ad n M9 (some (.int r9)) A) args s 0 0 A) 0 0 M 46 [(0, .ref (ad 0)), (2, .int b46_L2)] []), ∀ (b181_L2 : Int32) (b181_L4 : Int32) (b181_L6 : Int32) (M : zMem), F_X10_book_181 p0 self46 b181_L2 b181_L4 b181_L6 M = some (r9, M9) → zJ p l e rm_X10_book s m args below meth c G shM ad n A 8 (MQ below (zQ G shM ad n M9 (some (.int r9)) A) args s 0 0 A) 0 0 M 181 [(0, .ref (ad 0)), (2, .int b181_L2), (4, .int b181_L4), (6, .int b181_L6)] [] := by
    intro self46 hs46 b181_L2 b181_L4 b181_L6 M hF
    unfold F_X10_book_181 at hF
    refine z_aload_n cx d_X10_book_181 0 rfl ?_
    refine z_iconst (v := 0) cx d_X10_book_182 ki_0 ?_
    refine z_sipush (v := 9999) cx d_X10_book_183 ks_9999 ?_
    obtain ⟨v8, M7, hc, hF⟩ := zb_inv hF
    refine z_callV cx (As := [.int (0 : Int32), .int (9999 : Int32)]) (rest := []) (c_X10_number l cx.2.2.2.1.1 M (0 : Int32) (9999 : Int32) hT hc) hT zo_11 cv_SunnyPansModel_147 ⟨rfl, rfl, Nat.le_of_ble_eq_true rfl, Nat.le_of_ble_eq_true rfl⟩ rfl rfl ⟨Nat.zero_le _, Nat.zero_le _⟩ (Nat.le_of_ble_eq_true rfl) d_X10_book_186 ?_
    refine z_istore cx 7 [(7, .int v8), (0, .ref (ad 0)), (2, .int b181_L2), (4, .int b181_L4), (6, .int b181_L6)] d_X10_book_189 (by decide) rfl ?_
    refine z_aload_n cx d_X10_book_191 1 rfl ?_
    refine z_bipush (v := 59) cx d_X10_book_192 kb_59 ?_
    obtain ⟨M9, hc, hF⟩ := zbv_inv hF
    refine z_callV cx (As := [.int (59 : Int32)]) (rest := []) (c_X10_sign l cx.2.2.2.1.1 M7 (59 : Int32) hT hc) hT zo_11 cv_SunnyPansModel_151 ⟨rfl, rfl, Nat.le_of_ble_eq_true rfl, Nat.le_of_ble_eq_true rfl⟩ rfl rfl ⟨Nat.zero_le _, Nat.zero_le _⟩ (Nat.le_of_ble_eq_true rfl) d_X10_book_194 ?_
    refine z_aload_n cx d_X10_book_197 1 rfl ?_
    refine z_getI cx hT fg_SunnyPansModel_98 d_X10_book_198 ?_
    refine z_if_ne cx 233 d_X10_book_201 (by decide) hF (fun hF => ?_) (fun hF => ?_)
    · exact z_lv [1, 2] _ rfl (hb233 self46 hs46 b181_L2 M9 hF)
    refine z_aload_n cx d_X10_book_204 1 rfl ?_
    refine z_getR cx hT fg_SunnyPansModel_46 359 rfl d_X10_book_205 ?_
    refine z_iload_n cx d_X10_book_208 2 rfl ?_
    obtain ⟨hi10, hF⟩ := gin_inv hF
    refine z_aald cx (tfM_11_359 hT) za_32 hi10 (359 + (1 + 1 * b181_L2.toNatClampNeg)) rfl d_X10_book_209 ?_
    refine z_iconst (v := 0) cx d_X10_book_210 ki_0 ?_
    refine z_bipush (v := 8) cx d_X10_book_211 kb_8 ?_
    refine z_iload cx d_X10_book_213 4 rfl ?_
    refine z_imul cx d_X10_book_215 ?_
    refine z_iload cx d_X10_book_216 3 rfl ?_
    refine z_iadd cx d_X10_book_218 ?_
    refine z_iast cx (teM_32 (tfM_11_359 hT) hi10) za_27 (zvp (by decide +kernel)) 0 rfl d_X10_book_219 ?_
    refine z_nmM hF (fun M11 hF => ?_)
    refine z_aload_n cx d_X10_book_220 1 rfl ?_
    refine z_getR cx hT fg_SunnyPansModel_46 359 rfl d_X10_book_221 ?_
    refine z_iload_n cx d_X10_book_224 2 rfl ?_
    refine z_aald cx (tfM_11_359 hT) za_32 hi10 (359 + (1 + 1 * b181_L2.toNatClampNeg)) rfl d_X10_book_225 ?_
    refine z_iconst (v := 1) cx d_X10_book_226 ki_1 ?_
    refine z_iload cx d_X10_book_227 0 rfl ?_
    refine z_iast cx (teM_32 (tfM_11_359 hT) hi10) za_27 (zvp (by decide +kernel)) 1 rfl d_X10_book_229 ?_
    refine z_nmM hF (fun M12 hF => ?_)
    refine z_iinc cx 2 1 [(2, .int (b181_L2 + 1)), (7, .int v8), (0, .ref (ad 0)), (4, .int b181_L4), (6, .int b181_L6)] d_X10_book_230 2 rfl ki_1 (by decide) rfl ?_
    exact z_lv [2, 0] _ rfl (hb233 self46 hs46 (b181_L2 + 1) M12 hF)
  have hb175 : ∀ (self46 : Int32 → zMem → Option (Int32 × zMem)) (hs46 : ∀ (b46_L2 : Int32) (M : zMem), self46 b46_L2 M = some (r9, M9) → zJ p l e rm_X10_book s m args below meth c G shM ad n A 8 (MQ below (zQ G shM ad n M9 (some (.int r9)) A) args s 0 0 A) 0 0 M 46 [(0, .ref (ad 0)), (2, .int b46_L2)] []) (self135 : Int32 → Int32 → Int32 → Int32 → Int32 → zMem → Option (Int32 × zMem)) (hs135 : ∀ (b135_L2 : Int32) (b135_L4 : Int32) (b135_L5 : Int32) (b135_L6 : Int32) (b135_L7 : Int32) (M : zMem), self135 b135_L2 b135_L4 b135_L5 b135_L6 b135_L7 M = some (r9, M9) → zJ p l e rm_X10_book s m args below meth c G shM ad n A 8 (MQ below (zQ G shM ad n M9 (some (.int r9)) A) args s 0 0 A) 0 0 M 135 [(0, .ref (ad 0)), (2, .int b135_L2), (4, .int b135_L4), (5, .int b135_L5), (6, .int b135_L6), (7, .int b135_L7)] []), ∀ (b175_L2 : Int32) (b175_L4 : Int32) (b175_L5 : Int32) (b175_L6 : Int32) (b175_L7 : Int32) (M : zMem), F_X10_book_175 p0 self46 self135 b175_L2 b175_L4 b175_L5 b175_L6 b175_L7 M = some (r9, M9) → zJ p l e rm_X10_book s m args below meth c G shM ad n A 8 (MQ below (zQ G shM ad n M9 (some (.int r9)) A) args s 0 0 A) 0 0 M 175 [(0, .ref (ad 0)), (2, .int b175_L2), (4, .int b175_L4), (5, .int b175_L5), (6, .int b175_L6), (7, .int b175_L7)] [] := by
    intro self46 hs46 self135 hs135 b175_L2 b175_L4 b175_L5 b175_L6 b175_L7 M hF
    unfold F_X10_book_175 at hF
    refine z_iinc cx 7 1 [(7, .int (b175_L7 + 1)), (0, .ref (ad 0)), (2, .int b175_L2), (4, .int b175_L4), (5, .int b175_L5), (6, .int b175_L6)] d_X10_book_175 5 rfl ki_1 (by decide) rfl ?_
    refine z_goto cx 135 d_X10_book_178 (by decide) ?_
    exact z_lv [1, 2, 3, 4, 5, 0] _ rfl (hs135 b175_L2 b175_L4 b175_L5 b175_L6 (b175_L7 + 1) M hF)
  have hL135 : ∀ (self46 : Int32 → zMem → Option (Int32 × zMem)) (hs46 : ∀ (b46_L2 : Int32) (M : zMem), self46 b46_L2 M = some (r9, M9) → zJ p l e rm_X10_book s m args below meth c G shM ad n A 8 (MQ below (zQ G shM ad n M9 (some (.int r9)) A) args s 0 0 A) 0 0 M 46 [(0, .ref (ad 0)), (2, .int b46_L2)] []) (fuel : Nat), ∀ (b135_L2 : Int32) (b135_L4 : Int32) (b135_L5 : Int32) (b135_L6 : Int32) (b135_L7 : Int32) (M : zMem), itF (fun _ _ _ _ _ _ => none) (F_X10_book_135 p0 self46) fuel b135_L2 b135_L4 b135_L5 b135_L6 b135_L7 M = some (r9, M9) → zJ p l e rm_X10_book s m args below meth c G shM ad n A 8 (MQ below (zQ G shM ad n M9 (some (.int r9)) A) args s 0 0 A) 0 0 M 135 [(0, .ref (ad 0)), (2, .int b135_L2), (4, .int b135_L4), (5, .int b135_L5), (6, .int b135_L6), (7, .int b135_L7)] [] := by
    intro self46 hs46 fuel
    induction fuel with
    | zero => intro b135_L2 b135_L4 b135_L5 b135_L6 b135_L7 M hF; cases hF
    | succ fuel hs135 =>
      intro b135_L2 b135_L4 b135_L5 b135_L6 b135_L7 M hF
      have hF : F_X10_book_135 p0 self46 (itF (fun _ _ _ _ _ _ => none) (F_X10_book_135 p0 self46) fuel) b135_L2 b135_L4 b135_L5 b135_L6 b135_L7 M = some (r9, M9) := hF
      generalize itF (fun _ _ _ _ _ _ => none) (F_X10_book_135 p0 self46) fuel = self135 at hs135 hF
      unfold F_X10_book_135 at hF
      refine z_iload cx d_X10_book_135 5 rfl ?_
      refine z_iload_n cx d_X10_book_137 1 rfl ?_
      refine z_icmp_ge cx 181 d_X10_book_138 (by decide) hF (fun hF => ?_) (fun hF => ?_)
      · exact z_lv [0, 1, 2, 4] _ rfl (hb181 self46 hs46 b135_L2 b135_L4 b135_L6 M hF)
      refine z_aload_n cx d_X10_book_141 0 rfl ?_
      refine z_getI cx hT fg_SunnyPansModel_98 d_X10_book_142 ?_
      refine z_if_ne cx 181 d_X10_book_145 (by decide) hF (fun hF => ?_) (fun hF => ?_)
      · exact z_lv [0, 1, 2, 4] _ rfl (hb181 self46 hs46 b135_L2 b135_L4 b135_L6 M hF)
      refine z_aload_n cx d_X10_book_148 0 rfl ?_
      refine z_getR cx hT fg_SunnyPansModel_46 359 rfl d_X10_book_149 ?_
      refine z_iload cx d_X10_book_152 5 rfl ?_
      obtain ⟨hi13, hF⟩ := gin_inv hF
      refine z_aald cx (tfM_11_359 hT) za_32 hi13 (359 + (1 + 1 * b135_L7.toNatClampNeg)) rfl d_X10_book_154 ?_
      refine z_iconst (v := 0) cx d_X10_book_155 ki_0 ?_
      refine z_iald cx (teM_32 (tfM_11_359 hT) hi13) za_27 (zvp (by decide +kernel)) 0 rfl d_X10_book_156 ?_
      refine z_bipush (v := 8) cx d_X10_book_157 kb_8 ?_
      refine z_iload cx d_X10_book_159 4 rfl ?_
      refine z_imul cx d_X10_book_161 ?_
      refine z_iload cx d_X10_book_162 2 rfl ?_
      refine z_iadd cx d_X10_book_164 ?_
      refine z_icmp_ne cx 175 d_X10_book_165 (by decide) hF (fun hF => ?_) (fun hF => ?_)
      · exact hb175 self46 hs46 self135 hs135 b135_L2 b135_L4 b135_L5 b135_L6 b135_L7 M hF
      refine z_aload_n cx d_X10_book_168 0 rfl ?_
      refine z_iconst (v := 2) cx d_X10_book_169 ki_2 ?_
      refine z_iload cx d_X10_book_170 3 rfl ?_
      obtain ⟨M14, hc, hF⟩ := zbv_inv hF
      refine z_callV cx (As := [.int (2 : Int32), .int b135_L5]) (rest := []) (c_X10_wrong l cx.2.2.2.1.1 M (2 : Int32) b135_L5 hT hc) hT zo_11 cv_SunnyPansModel_111 ⟨rfl, rfl, Nat.le_of_ble_eq_true rfl, Nat.le_of_ble_eq_true rfl⟩ rfl rfl ⟨Nat.zero_le _, Nat.zero_le _⟩ (Nat.le_of_ble_eq_true rfl) d_X10_book_172 ?_
      exact hb175 self46 hs46 self135 hs135 b135_L2 b135_L4 b135_L5 b135_L6 b135_L7 M14 hF
  have hb107 : ∀ (self46 : Int32 → zMem → Option (Int32 × zMem)) (hs46 : ∀ (b46_L2 : Int32) (M : zMem), self46 b46_L2 M = some (r9, M9) → zJ p l e rm_X10_book s m args below meth c G shM ad n A 8 (MQ below (zQ G shM ad n M9 (some (.int r9)) A) args s 0 0 A) 0 0 M 46 [(0, .ref (ad 0)), (2, .int b46_L2)] []), ∀ (b107_L2 : Int32) (b107_L4 : Int32) (M : zMem), F_X10_book_107 p0 self46 b107_L2 b107_L4 M = some (r9, M9) → zJ p l e rm_X10_book s m args below meth c G shM ad n A 8 (MQ below (zQ G shM ad n M9 (some (.int r9)) A) args s 0 0 A) 0 0 M 107 [(0, .ref (ad 0)), (2, .int b107_L2), (4, .int b107_L4)] [] := by
    intro self46 hs46 b107_L2 b107_L4 M hF
    unfold F_X10_book_107 at hF
    refine z_aload_n cx d_X10_book_107 0 rfl ?_
    obtain ⟨M15, hc, hF⟩ := zbv_inv hF
    refine z_callV cx (As := []) (rest := []) (c_X10_blanks l cx.2.2.2.1.1 M hT hc) hT zo_11 cv_SunnyPansModel_104 ⟨rfl, rfl, Nat.le_of_ble_eq_true rfl, Nat.le_of_ble_eq_true rfl⟩ rfl rfl ⟨Nat.zero_le _, Nat.zero_le _⟩ (Nat.le_of_ble_eq_true rfl) d_X10_book_108 ?_
    refine z_aload_n cx d_X10_book_111 0 rfl ?_
    refine z_getI cx hT fg_SunnyPansModel_91 d_X10_book_112 ?_
    refine z_nm hF (fun v16 hF => ?_)
    refine z_istore cx 5 [(5, .int v16), (0, .ref (ad 0)), (2, .int b107_L2), (4, .int b107_L4)] d_X10_book_115 (by decide) rfl ?_
    refine z_aload_n cx d_X10_book_117 1 rfl ?_
    refine z_iconst (v := 0) cx d_X10_book_118 ki_0 ?_
    refine z_aload_n cx d_X10_book_119 1 rfl ?_
    refine z_getR cx hT fg_SunnyPansModel_23 4 rfl d_X10_book_120 ?_
    refine z_iconst (v := 1) cx d_X10_book_123 ki_1 ?_
    refine z_iald cx (tfM_11_4 hT) za_28 (zvp (by decide +kernel)) 1 rfl d_X10_book_124 ?_
    refine z_iconst (v := 1) cx d_X10_book_125 ki_1 ?_
    refine z_isub cx d_X10_book_126 ?_
    obtain ⟨v18, M17, hc, hF⟩ := zb_inv hF
    refine z_callV cx (As := [.int (0 : Int32), .int ((M15.1 4 1) - (1 : Int32))]) (rest := []) (c_X10_number l cx.2.2.2.1.1 M15 (0 : Int32) ((M15.1 4 1) - (1 : Int32)) hT hc) hT zo_11 cv_SunnyPansModel_147 ⟨rfl, rfl, Nat.le_of_ble_eq_true rfl, Nat.le_of_ble_eq_true rfl⟩ rfl rfl ⟨Nat.zero_le _, Nat.zero_le _⟩ (Nat.le_of_ble_eq_true rfl) d_X10_book_127 ?_
    refine z_istore cx 6 [(6, .int v18), (5, .int v16), (0, .ref (ad 0)), (2, .int b107_L2), (4, .int b107_L4)] d_X10_book_130 (by decide) rfl ?_
    refine z_iconst (v := 0) cx d_X10_book_132 ki_0 ?_
    refine z_istore cx 7 [(7, .int (0 : Int32)), (6, .int v18), (5, .int v16), (0, .ref (ad 0)), (2, .int b107_L2), (4, .int b107_L4)] d_X10_book_133 (by decide) rfl ?_
    exact z_lv [3, 4, 5, 2, 1, 0] _ rfl (hL135 self46 hs46 zFuel b107_L2 b107_L4 v16 v18 (0 : Int32) M17 hF)
  have hL46 : ∀ (fuel : Nat), ∀ (b46_L2 : Int32) (M : zMem), itF (fun _ _ => none) (F_X10_book_46 p0) fuel b46_L2 M = some (r9, M9) → zJ p l e rm_X10_book s m args below meth c G shM ad n A 8 (MQ below (zQ G shM ad n M9 (some (.int r9)) A) args s 0 0 A) 0 0 M 46 [(0, .ref (ad 0)), (2, .int b46_L2)] [] := by
    intro fuel
    induction fuel with
    | zero => intro b46_L2 M hF; cases hF
    | succ fuel hs46 =>
      intro b46_L2 M hF
      have hF : F_X10_book_46 p0 (itF (fun _ _ => none) (F_X10_book_46 p0) fuel) b46_L2 M = some (r9, M9) := hF
      generalize itF (fun _ _ => none) (F_X10_book_46 p0) fuel = self46 at hs46 hF
      unfold F_X10_book_46 at hF
      refine z_aload_n cx d_X10_book_46 0 rfl ?_
      refine z_getI cx hT fg_SunnyPansModel_98 d_X10_book_47 ?_
      refine z_if_ne cx 240 d_X10_book_50 (by decide) hF (fun hF => ?_) (fun hF => ?_)
      · exact hb240 b46_L2 M hF
      refine z_aload_n cx d_X10_book_53 0 rfl ?_
      refine z_getI cx hT fg_SunnyPansModel_91 d_X10_book_54 ?_
      refine z_aload_n cx d_X10_book_57 0 rfl ?_
      refine z_getI cx hT fg_SunnyPansModel_88 d_X10_book_58 ?_
      refine z_icmp_ge cx 240 d_X10_book_61 (by decide) hF (fun hF => ?_) (fun hF => ?_)
      · exact hb240 b46_L2 M hF
      refine z_aload_n cx d_X10_book_64 0 rfl ?_
      obtain ⟨M19, hc, hF⟩ := zbv_inv hF
      refine z_callV cx (As := []) (rest := []) (c_X10_blanks l cx.2.2.2.1.1 M hT hc) hT zo_11 cv_SunnyPansModel_104 ⟨rfl, rfl, Nat.le_of_ble_eq_true rfl, Nat.le_of_ble_eq_true rfl⟩ rfl rfl ⟨Nat.zero_le _, Nat.zero_le _⟩ (Nat.le_of_ble_eq_true rfl) d_X10_book_65 ?_
      refine z_aload_n cx d_X10_book_68 0 rfl ?_
      refine z_getI cx hT fg_SunnyPansModel_91 d_X10_book_69 ?_
      refine z_nm hF (fun v20 hF => ?_)
      refine z_istore_n cx 3 [(3, .int v20), (0, .ref (ad 0)), (2, .int b46_L2)] d_X10_book_72 rfl (by decide) rfl ?_
      refine z_aload_n cx d_X10_book_73 1 rfl ?_
      refine z_iconst (v := 0) cx d_X10_book_74 ki_0 ?_
      refine z_aload_n cx d_X10_book_75 1 rfl ?_
      refine z_getR cx hT fg_SunnyPansModel_23 4 rfl d_X10_book_76 ?_
      refine z_iconst (v := 0) cx d_X10_book_79 ki_0 ?_
      refine z_iald cx (tfM_11_4 hT) za_28 (zvp (by decide +kernel)) 0 rfl d_X10_book_80 ?_
      refine z_iconst (v := 1) cx d_X10_book_81 ki_1 ?_
      refine z_isub cx d_X10_book_82 ?_
      obtain ⟨v22, M21, hc, hF⟩ := zb_inv hF
      refine z_callV cx (As := [.int (0 : Int32), .int ((M19.1 4 0) - (1 : Int32))]) (rest := []) (c_X10_number l cx.2.2.2.1.1 M19 (0 : Int32) ((M19.1 4 0) - (1 : Int32)) hT hc) hT zo_11 cv_SunnyPansModel_147 ⟨rfl, rfl, Nat.le_of_ble_eq_true rfl, Nat.le_of_ble_eq_true rfl⟩ rfl rfl ⟨Nat.zero_le _, Nat.zero_le _⟩ (Nat.le_of_ble_eq_true rfl) d_X10_book_83 ?_
      refine z_istore cx 4 [(4, .int v22), (3, .int v20), (0, .ref (ad 0)), (2, .int b46_L2)] d_X10_book_86 (by decide) rfl ?_
      refine z_aload_n cx d_X10_book_88 2 rfl ?_
      refine z_getI cx hT fg_SunnyPansModel_98 d_X10_book_89 ?_
      refine z_if_ne cx 107 d_X10_book_92 (by decide) hF (fun hF => ?_) (fun hF => ?_)
      · exact z_lv [2, 3, 0] _ rfl (hb107 self46 hs46 b46_L2 v22 M21 hF)
      refine z_iload_n cx d_X10_book_95 3 rfl ?_
      refine z_bipush (v := 8) cx d_X10_book_96 kb_8 ?_
      refine z_icmp_ne cx 107 d_X10_book_98 (by decide) hF (fun hF => ?_) (fun hF => ?_)
      · exact z_lv [2, 3, 0] _ rfl (hb107 self46 hs46 b46_L2 v22 M21 hF)
      refine z_aload_n cx d_X10_book_101 2 rfl ?_
      refine z_iconst (v := 3) cx d_X10_book_102 ki_3 ?_
      refine z_iload_n cx d_X10_book_103 1 rfl ?_
      obtain ⟨M23, hc, hF⟩ := zbv_inv hF
      refine z_callV cx (As := [.int (3 : Int32), .int v20]) (rest := []) (c_X10_wrong l cx.2.2.2.1.1 M21 (3 : Int32) v20 hT hc) hT zo_11 cv_SunnyPansModel_111 ⟨rfl, rfl, Nat.le_of_ble_eq_true rfl, Nat.le_of_ble_eq_true rfl⟩ rfl rfl ⟨Nat.zero_le _, Nat.zero_le _⟩ (Nat.le_of_ble_eq_true rfl) d_X10_book_104 ?_
      exact z_lv [2, 3, 0] _ rfl (hb107 self46 hs46 b46_L2 v22 M23 hF)
  have hb29 : ∀ (b29_L1 : Int32) (b29_S1 : Int32) (M : zMem), F_X10_book_29 p0 b29_L1 b29_S1 M = some (r9, M9) → zJ p l e rm_X10_book s m args below meth c G shM ad n A 8 (MQ below (zQ G shM ad n M9 (some (.int r9)) A) args s 0 0 A) 0 0 M 29 [(0, .ref (ad 0)), (1, .int b29_L1)] [.int b29_S1, .ref (ad 0)] := by
    intro b29_L1 b29_S1 M hF
    unfold F_X10_book_29 at hF
    refine z_iconst (v := 1) cx d_X10_book_29 ki_1 ?_
    refine z_iconst (v := 1) cx d_X10_book_30 ki_1 ?_
    obtain ⟨v25, M24, hc, hF⟩ := zb_inv hF
    refine z_callV cx (As := [.int b29_S1, .int (1 : Int32), .int (1 : Int32)]) (rest := []) (c_X10_bad l cx.2.2.2.1.1 M b29_S1 (1 : Int32) (1 : Int32) hT hc) hT zo_11 cv_SunnyPansModel_155 ⟨rfl, rfl, Nat.le_of_ble_eq_true rfl, Nat.le_of_ble_eq_true rfl⟩ rfl rfl ⟨Nat.zero_le _, Nat.zero_le _⟩ (Nat.le_of_ble_eq_true rfl) d_X10_book_31 ?_
    refine z_if_eq cx 39 d_X10_book_34 (by decide) hF (fun hF => ?_) (fun hF => ?_)
    · refine z_aload_n cx d_X10_book_39 0 rfl ?_
      refine z_iload_n cx d_X10_book_40 1 rfl ?_
      obtain ⟨M26, hc, hF⟩ := zbv_inv hF
      refine z_callV cx (As := [.int b29_L1]) (rest := []) (c_X10_starts l cx.2.2.2.1.1 M24 b29_L1 hT hc) hT zo_11 cv_SunnyPansModel_159 ⟨rfl, rfl, Nat.le_of_ble_eq_true rfl, Nat.le_of_ble_eq_true rfl⟩ rfl rfl ⟨Nat.zero_le _, Nat.zero_le _⟩ (Nat.le_of_ble_eq_true rfl) d_X10_book_41 ?_
      refine z_iconst (v := 0) cx d_X10_book_44 ki_0 ?_
      refine z_istore_n cx 2 [(2, .int (0 : Int32)), (0, .ref (ad 0)), (1, .int b29_L1)] d_X10_book_45 rfl (by decide) rfl ?_
      exact z_lv [1, 0] _ rfl (hL46 zFuel (0 : Int32) M26 hF)
    refine z_iconst (v := 0) cx d_X10_book_37 ki_0 ?_
    exact z_iret cx hr rfl hF d_X10_book_38
  unfold F_X10_book at hF
  refine z_aload_n cx d_X10_book_0 0 rfl ?_
  refine z_iconst (v := 0) cx d_X10_book_1 ki_0 ?_
  refine z_putI cx hT fp_SunnyPansModel_82 d_X10_book_2 ?_
  refine z_nmM hF (fun M27 hF => ?_)
  refine z_aload_n cx d_X10_book_5 0 rfl ?_
  refine z_iload_n cx d_X10_book_6 1 rfl ?_
  refine z_iconst (v := 0) cx d_X10_book_7 ki_0 ?_
  refine z_aload_n cx d_X10_book_8 0 rfl ?_
  refine z_getI cx hT fg_SunnyPansModel_85 d_X10_book_9 ?_
  obtain ⟨v29, M28, hc, hF⟩ := zb_inv hF
  refine z_callS cx (As := [.int p0, .int (0 : Int32), .int (M27.1 0 1)]) (rest := [.ref (ad 0)]) (c_X10_in l cx.2.2.2.1.1 M27 p0 (0 : Int32) (M27.1 0 1)  hc) cs_SunnyPansModel_116 ⟨rfl, rfl, Nat.le_of_ble_eq_true rfl, Nat.le_of_ble_eq_true rfl⟩ rfl rfl ⟨Nat.zero_le _, Nat.zero_le _⟩ (Nat.le_of_ble_eq_true rfl) d_X10_book_12 ?_
  refine z_if_eq cx 24 d_X10_book_15 (by decide) hF (fun hF => ?_) (fun hF => ?_)
  · refine z_iconst (v := 1) cx d_X10_book_24 ki_1 ?_
    refine z_goto cx 29 d_X10_book_25 (by decide) ?_
    exact hb29 p0 (1 : Int32) M28 hF
  refine z_iload_n cx d_X10_book_18 1 rfl ?_
  refine z_bipush (v := 60) cx d_X10_book_19 kb_60 ?_
  refine z_icmp_le cx 28 d_X10_book_21 (by decide) hF (fun hF => ?_) (fun hF => ?_)
  · refine z_iconst (v := 0) cx d_X10_book_28 ki_0 ?_
    exact hb29 p0 (0 : Int32) M28 hF
  refine z_iconst (v := 1) cx d_X10_book_24 ki_1 ?_
  refine z_goto cx 29 d_X10_book_25 (by decide) ?_
  exact hb29 p0 (1 : Int32) M28 hF
/-! SunnyPansModel.fault -/
theorem d_X10_fault_0 : decode cX10_fault 0 = .ok (.aload_n 0, 1) := by decide +kernel
theorem d_X10_fault_1 : decode cX10_fault 1 = .ok (.iconst 0, 1) := by decide +kernel
theorem d_X10_fault_2 : decode cX10_fault 2 = .ok (.putfield 82, 3) := by decide +kernel
theorem d_X10_fault_5 : decode cX10_fault 5 = .ok (.aload_n 0, 1) := by decide +kernel
theorem d_X10_fault_6 : decode cX10_fault 6 = .ok (.getfield 9, 3) := by decide +kernel
theorem d_X10_fault_9 : decode cX10_fault 9 = .ok (.ireturn, 1) := by decide +kernel
noncomputable def F_X10_fault (M : zMem)  : Option (Int32 × zMem) :=
  zl (zI M 0 0 (0 : Int32)) fun M1 =>
  some ((M1.1 0 3), M1)
def rm_X10_fault : Room := { frames := 2, cells := 0, slots := 0, locals := 80 }
set_option maxHeartbeats 4000000 in
set_option maxRecDepth 100000 in
theorem c_X10_fault (l : Launch) {G : zG} {ad : Nat → Nat} {n : Nat} (hA : zInj ad n) (M : zMem)  (hT : zT shM n 0 11) {r9 : Int32} {M9 : zMem} (hF : F_X10_fault M  = some (r9, M9)) : zM l yX10_fault cX10_fault 1 (some .int) rm_X10_fault G shM ad n M [.ref (ad 0)] (some (.int r9)) M9 := by
  refine zM_of hA (by decide +kernel) (lv := [(0, .ref (ad 0))]) (Nat.le_of_ble_eq_true rfl) rfl (fun p e s m args below meth c A cx hr => ?_)
  unfold F_X10_fault at hF
  refine z_aload_n cx d_X10_fault_0 0 rfl ?_
  refine z_iconst (v := 0) cx d_X10_fault_1 ki_0 ?_
  refine z_putI cx hT fp_SunnyPansModel_82 d_X10_fault_2 ?_
  refine z_nmM hF (fun M1 hF => ?_)
  refine z_aload_n cx d_X10_fault_5 0 rfl ?_
  refine z_getI cx hT fg_SunnyPansModel_9 d_X10_fault_6 ?_
  exact z_iret cx hr rfl hF d_X10_fault_9
/-! SunnyPansModel.isWithin -/
theorem d_X10_isWithin_0 : decode cX10_isWithin 0 = .ok (.iload_n 1, 1) := by decide +kernel
theorem d_X10_isWithin_1 : decode cX10_isWithin 1 = .ok (.iconst 0, 1) := by decide +kernel
theorem d_X10_isWithin_2 : decode cX10_isWithin 2 = .ok (.aload_n 0, 1) := by decide +kernel
theorem d_X10_isWithin_3 : decode cX10_isWithin 3 = .ok (.getfield 23, 3) := by decide +kernel
theorem d_X10_isWithin_6 : decode cX10_isWithin 6 = .ok (.iconst 0, 1) := by decide +kernel
theorem d_X10_isWithin_7 : decode cX10_isWithin 7 = .ok (.iaload, 1) := by decide +kernel
theorem d_X10_isWithin_8 : decode cX10_isWithin 8 = .ok (.iconst 1, 1) := by decide +kernel
theorem d_X10_isWithin_9 : decode cX10_isWithin 9 = .ok (.isub, 1) := by decide +kernel
theorem d_X10_isWithin_10 : decode cX10_isWithin 10 = .ok (.invokestatic 116, 3) := by decide +kernel
theorem d_X10_isWithin_13 : decode cX10_isWithin 13 = .ok (.ifCond .eq 23, 3) := by decide +kernel
theorem d_X10_isWithin_16 : decode cX10_isWithin 16 = .ok (.iload_n 2, 1) := by decide +kernel
theorem d_X10_isWithin_17 : decode cX10_isWithin 17 = .ok (.iconst 0, 1) := by decide +kernel
theorem d_X10_isWithin_18 : decode cX10_isWithin 18 = .ok (.aload_n 0, 1) := by decide +kernel
theorem d_X10_isWithin_19 : decode cX10_isWithin 19 = .ok (.getfield 23, 3) := by decide +kernel
theorem d_X10_isWithin_22 : decode cX10_isWithin 22 = .ok (.iconst 1, 1) := by decide +kernel
theorem d_X10_isWithin_23 : decode cX10_isWithin 23 = .ok (.iaload, 1) := by decide +kernel
theorem d_X10_isWithin_24 : decode cX10_isWithin 24 = .ok (.iconst 1, 1) := by decide +kernel
theorem d_X10_isWithin_25 : decode cX10_isWithin 25 = .ok (.isub, 1) := by decide +kernel
theorem d_X10_isWithin_26 : decode cX10_isWithin 26 = .ok (.invokestatic 116, 3) := by decide +kernel
theorem d_X10_isWithin_29 : decode cX10_isWithin 29 = .ok (.ifCond .eq 7, 3) := by decide +kernel
theorem d_X10_isWithin_32 : decode cX10_isWithin 32 = .ok (.iconst 1, 1) := by decide +kernel
theorem d_X10_isWithin_33 : decode cX10_isWithin 33 = .ok (.goto 4, 3) := by decide +kernel
theorem d_X10_isWithin_36 : decode cX10_isWithin 36 = .ok (.iconst 0, 1) := by decide +kernel
theorem d_X10_isWithin_37 : decode cX10_isWithin 37 = .ok (.ireturn, 1) := by decide +kernel
noncomputable def F_X10_isWithin (M : zMem) (p0 : Int32) (p1 : Int32) : Option (Int32 × zMem) :=
  zb (F_X10_in M p0 (0 : Int32) ((M.1 4 0) - (1 : Int32))) fun v2 M1 =>
  if v2 = 0 then
    some ((0 : Int32), M1)
  else
    zb (F_X10_in M1 p1 (0 : Int32) ((M1.1 4 1) - (1 : Int32))) fun v4 M3 =>
    if v4 = 0 then
      some ((0 : Int32), M3)
    else
      some ((1 : Int32), M3)
def rm_X10_isWithin : Room := { frames := 3, cells := 0, slots := 0, locals := 102 }
set_option maxHeartbeats 4000000 in
set_option maxRecDepth 100000 in
theorem c_X10_isWithin (l : Launch) {G : zG} {ad : Nat → Nat} {n : Nat} (hA : zInj ad n) (M : zMem) (p0 : Int32) (p1 : Int32) (hT : zT shM n 0 11) {r9 : Int32} {M9 : zMem} (hF : F_X10_isWithin M p0 p1 = some (r9, M9)) : zM l yX10_isWithin cX10_isWithin 3 (some .boolean) rm_X10_isWithin G shM ad n M [.ref (ad 0), .int p0, .int p1] (some (.int r9)) M9 := by
  refine zM_of hA (by decide +kernel) (lv := [(0, .ref (ad 0)), (1, .int p0), (2, .int p1)]) (Nat.le_of_ble_eq_true rfl) rfl (fun p e s m args below meth c A cx hr => ?_)
  unfold F_X10_isWithin at hF
  refine z_iload_n cx d_X10_isWithin_0 1 rfl ?_
  refine z_iconst (v := 0) cx d_X10_isWithin_1 ki_0 ?_
  refine z_aload_n cx d_X10_isWithin_2 0 rfl ?_
  refine z_getR cx hT fg_SunnyPansModel_23 4 rfl d_X10_isWithin_3 ?_
  refine z_iconst (v := 0) cx d_X10_isWithin_6 ki_0 ?_
  refine z_iald cx (tfM_11_4 hT) za_28 (zvp (by decide +kernel)) 0 rfl d_X10_isWithin_7 ?_
  refine z_iconst (v := 1) cx d_X10_isWithin_8 ki_1 ?_
  refine z_isub cx d_X10_isWithin_9 ?_
  obtain ⟨v2, M1, hc, hF⟩ := zb_inv hF
  refine z_callS cx (As := [.int p0, .int (0 : Int32), .int ((M.1 4 0) - (1 : Int32))]) (rest := []) (c_X10_in l cx.2.2.2.1.1 M p0 (0 : Int32) ((M.1 4 0) - (1 : Int32))  hc) cs_SunnyPansModel_116 ⟨rfl, rfl, Nat.le_of_ble_eq_true rfl, Nat.le_of_ble_eq_true rfl⟩ rfl rfl ⟨Nat.zero_le _, Nat.zero_le _⟩ (Nat.le_of_ble_eq_true rfl) d_X10_isWithin_10 ?_
  refine z_if_eq cx 36 d_X10_isWithin_13 (by decide) hF (fun hF => ?_) (fun hF => ?_)
  · refine z_iconst (v := 0) cx d_X10_isWithin_36 ki_0 ?_
    exact z_iret cx hr nb0 hF d_X10_isWithin_37
  refine z_iload_n cx d_X10_isWithin_16 2 rfl ?_
  refine z_iconst (v := 0) cx d_X10_isWithin_17 ki_0 ?_
  refine z_aload_n cx d_X10_isWithin_18 0 rfl ?_
  refine z_getR cx hT fg_SunnyPansModel_23 4 rfl d_X10_isWithin_19 ?_
  refine z_iconst (v := 1) cx d_X10_isWithin_22 ki_1 ?_
  refine z_iald cx (tfM_11_4 hT) za_28 (zvp (by decide +kernel)) 1 rfl d_X10_isWithin_23 ?_
  refine z_iconst (v := 1) cx d_X10_isWithin_24 ki_1 ?_
  refine z_isub cx d_X10_isWithin_25 ?_
  obtain ⟨v4, M3, hc, hF⟩ := zb_inv hF
  refine z_callS cx (As := [.int p1, .int (0 : Int32), .int ((M1.1 4 1) - (1 : Int32))]) (rest := []) (c_X10_in l cx.2.2.2.1.1 M1 p1 (0 : Int32) ((M1.1 4 1) - (1 : Int32))  hc) cs_SunnyPansModel_116 ⟨rfl, rfl, Nat.le_of_ble_eq_true rfl, Nat.le_of_ble_eq_true rfl⟩ rfl rfl ⟨Nat.zero_le _, Nat.zero_le _⟩ (Nat.le_of_ble_eq_true rfl) d_X10_isWithin_26 ?_
  refine z_if_eq cx 36 d_X10_isWithin_29 (by decide) hF (fun hF => ?_) (fun hF => ?_)
  · refine z_iconst (v := 0) cx d_X10_isWithin_36 ki_0 ?_
    exact z_iret cx hr nb0 hF d_X10_isWithin_37
  refine z_iconst (v := 1) cx d_X10_isWithin_32 ki_1 ?_
  refine z_goto cx 37 d_X10_isWithin_33 (by decide) ?_
  exact z_iret cx hr nb1 hF d_X10_isWithin_37
/-! SunnyPansModel.isHere -/
set_option maxRecDepth 100000 in
theorem wd_1688 : Cond.code yX10_isWithin cX10_isWithin 3 (some .boolean) ∈ tbG := tw7 148 rfl rfl
set_option maxRecDepth 100000 in
theorem wd_1685 : Cond.methodLink "SunnyPansModel" 237 yX10_isWithin ∈ tbG := tw7 145 rfl rfl
set_option maxRecDepth 100000 in
theorem wd_1687 : Cond.instanceMethod yX10_isWithin ∈ tbG := tw7 147 rfl rfl
theorem wd_72 : Cond.selects "SunnyPansModel" yX10_isWithin yX10_isWithin ∈ tbG := tw 72 (by decide +kernel) rfl
theorem cv_SunnyPansModel_237 : zCV "SunnyPansModel" 237 "SunnyPansModel" yX10_isWithin cX10_isWithin 3 (some .boolean) 2 := zCV_of wd_1685 wd_1687 wd_72 wd_111 wd_1688 (by decide +kernel)
theorem d_X10_isHere_0 : decode cX10_isHere 0 = .ok (.aload_n 0, 1) := by decide +kernel
theorem d_X10_isHere_1 : decode cX10_isHere 1 = .ok (.iload_n 1, 1) := by decide +kernel
theorem d_X10_isHere_2 : decode cX10_isHere 2 = .ok (.bipush 8, 2) := by decide +kernel
theorem d_X10_isHere_4 : decode cX10_isHere 4 = .ok (.irem, 1) := by decide +kernel
theorem d_X10_isHere_5 : decode cX10_isHere 5 = .ok (.iload_n 1, 1) := by decide +kernel
theorem d_X10_isHere_6 : decode cX10_isHere 6 = .ok (.bipush 8, 2) := by decide +kernel
theorem d_X10_isHere_8 : decode cX10_isHere 8 = .ok (.idiv, 1) := by decide +kernel
theorem d_X10_isHere_9 : decode cX10_isHere 9 = .ok (.invokevirtual 237, 3) := by decide +kernel
theorem d_X10_isHere_12 : decode cX10_isHere 12 = .ok (.ireturn, 1) := by decide +kernel
noncomputable def F_X10_isHere (M : zMem) (p0 : Int32) : Option (Int32 × zMem) :=
  zb (F_X10_isWithin M (p0 - p0 / (8 : Int32) * (8 : Int32)) (p0 / (8 : Int32))) fun v2 M1 =>
  gd (v2 == 0 || v2 == 1) <|
  some (v2, M1)
def rm_X10_isHere : Room := { frames := 4, cells := 0, slots := 0, locals := 124 }
set_option maxHeartbeats 4000000 in
set_option maxRecDepth 100000 in
theorem c_X10_isHere (l : Launch) {G : zG} {ad : Nat → Nat} {n : Nat} (hA : zInj ad n) (M : zMem) (p0 : Int32) (hT : zT shM n 0 11) {r9 : Int32} {M9 : zMem} (hF : F_X10_isHere M p0 = some (r9, M9)) : zM l yX10_isHere cX10_isHere 2 (some .boolean) rm_X10_isHere G shM ad n M [.ref (ad 0), .int p0] (some (.int r9)) M9 := by
  refine zM_of hA (by decide +kernel) (lv := [(0, .ref (ad 0)), (1, .int p0)]) (Nat.le_of_ble_eq_true rfl) rfl (fun p e s m args below meth c A cx hr => ?_)
  unfold F_X10_isHere at hF
  refine z_aload_n cx d_X10_isHere_0 0 rfl ?_
  refine z_iload_n cx d_X10_isHere_1 1 rfl ?_
  refine z_bipush (v := 8) cx d_X10_isHere_2 kb_8 ?_
  refine z_irem cx d_X10_isHere_4 (by decide) ?_
  refine z_iload_n cx d_X10_isHere_5 1 rfl ?_
  refine z_bipush (v := 8) cx d_X10_isHere_6 kb_8 ?_
  refine z_idiv cx d_X10_isHere_8 (by decide) ?_
  obtain ⟨v2, M1, hc, hF⟩ := zb_inv hF
  refine z_callV cx (As := [.int (p0 - p0 / (8 : Int32) * (8 : Int32)), .int (p0 / (8 : Int32))]) (rest := []) (c_X10_isWithin l cx.2.2.2.1.1 M (p0 - p0 / (8 : Int32) * (8 : Int32)) (p0 / (8 : Int32)) hT hc) hT zo_11 cv_SunnyPansModel_237 ⟨rfl, rfl, Nat.le_of_ble_eq_true rfl, Nat.le_of_ble_eq_true rfl⟩ rfl rfl ⟨Nat.zero_le _, Nat.zero_le _⟩ (Nat.le_of_ble_eq_true rfl) d_X10_isHere_9 ?_
  obtain ⟨hn3, hF⟩ := gd_inv hF
  exact z_iret cx hr (nbx hn3) hF d_X10_isHere_12
/-! SunnyPansModel.eastOf -/
theorem d_X10_eastOf_0 : decode cX10_eastOf 0 = .ok (.iload_n 0, 1) := by decide +kernel
theorem d_X10_eastOf_1 : decode cX10_eastOf 1 = .ok (.ifCond .eq 8, 3) := by decide +kernel
theorem d_X10_eastOf_4 : decode cX10_eastOf 4 = .ok (.iload_n 0, 1) := by decide +kernel
theorem d_X10_eastOf_5 : decode cX10_eastOf 5 = .ok (.iconst 4, 1) := by decide +kernel
theorem d_X10_eastOf_6 : decode cX10_eastOf 6 = .ok (.if_icmp .ne 7, 3) := by decide +kernel
theorem d_X10_eastOf_9 : decode cX10_eastOf 9 = .ok (.iconst 0, 1) := by decide +kernel
theorem d_X10_eastOf_10 : decode cX10_eastOf 10 = .ok (.goto 13, 3) := by decide +kernel
theorem d_X10_eastOf_13 : decode cX10_eastOf 13 = .ok (.iload_n 0, 1) := by decide +kernel
theorem d_X10_eastOf_14 : decode cX10_eastOf 14 = .ok (.iconst 4, 1) := by decide +kernel
theorem d_X10_eastOf_15 : decode cX10_eastOf 15 = .ok (.if_icmp .ge 7, 3) := by decide +kernel
theorem d_X10_eastOf_18 : decode cX10_eastOf 18 = .ok (.iconst (-1), 1) := by decide +kernel
theorem d_X10_eastOf_19 : decode cX10_eastOf 19 = .ok (.goto 4, 3) := by decide +kernel
theorem d_X10_eastOf_22 : decode cX10_eastOf 22 = .ok (.iconst 1, 1) := by decide +kernel
theorem d_X10_eastOf_23 : decode cX10_eastOf 23 = .ok (.ireturn, 1) := by decide +kernel
noncomputable def F_X10_eastOf (M : zMem) (p0 : Int32) : Option (Int32 × zMem) :=
  if p0 = 0 then
    some ((0 : Int32), M)
  else
    if p0 = (4 : Int32) then
      some ((0 : Int32), M)
    else
      if (4 : Int32) ≤ p0 then
        some ((1 : Int32), M)
      else
        some ((-1 : Int32), M)
def rm_X10_eastOf : Room := { frames := 2, cells := 0, slots := 0, locals := 80 }
set_option maxHeartbeats 4000000 in
set_option maxRecDepth 100000 in
theorem c_X10_eastOf (l : Launch) {G : zG} {ad : Nat → Nat} {n : Nat} (hA : zInj ad n) (M : zMem) (p0 : Int32) {r9 : Int32} {M9 : zMem} (hF : F_X10_eastOf M p0 = some (r9, M9)) : zM l yX10_eastOf cX10_eastOf 1 (some .int) rm_X10_eastOf G shM ad n M [.int p0] (some (.int r9)) M9 := by
  refine zM_of hA (by decide +kernel) (lv := [(0, .int p0)]) (Nat.le_of_ble_eq_true rfl) rfl (fun p e s m args below meth c A cx hr => ?_)
  unfold F_X10_eastOf at hF
  refine z_iload_n cx d_X10_eastOf_0 0 rfl ?_
  refine z_if_eq cx 9 d_X10_eastOf_1 (by decide) hF (fun hF => ?_) (fun hF => ?_)
  · refine z_iconst (v := 0) cx d_X10_eastOf_9 ki_0 ?_
    refine z_goto cx 23 d_X10_eastOf_10 (by decide) ?_
    exact z_iret cx hr rfl hF d_X10_eastOf_23
  refine z_iload_n cx d_X10_eastOf_4 0 rfl ?_
  refine z_iconst (v := 4) cx d_X10_eastOf_5 ki_4 ?_
  refine z_icmp_ne cx 13 d_X10_eastOf_6 (by decide) hF (fun hF => ?_) (fun hF => ?_)
  · refine z_iload_n cx d_X10_eastOf_13 0 rfl ?_
    refine z_iconst (v := 4) cx d_X10_eastOf_14 ki_4 ?_
    refine z_icmp_ge cx 22 d_X10_eastOf_15 (by decide) hF (fun hF => ?_) (fun hF => ?_)
    · refine z_iconst (v := 1) cx d_X10_eastOf_22 ki_1 ?_
      exact z_iret cx hr rfl hF d_X10_eastOf_23
    refine z_iconst (v := -1) cx d_X10_eastOf_18 ki_m1 ?_
    refine z_goto cx 23 d_X10_eastOf_19 (by decide) ?_
    exact z_iret cx hr rfl hF d_X10_eastOf_23
  refine z_iconst (v := 0) cx d_X10_eastOf_9 ki_0 ?_
  refine z_goto cx 23 d_X10_eastOf_10 (by decide) ?_
  exact z_iret cx hr rfl hF d_X10_eastOf_23
/-! SunnyPansModel.southOf -/
theorem d_X10_southOf_0 : decode cX10_southOf 0 = .ok (.iload_n 0, 1) := by decide +kernel
theorem d_X10_southOf_1 : decode cX10_southOf 1 = .ok (.iconst 2, 1) := by decide +kernel
theorem d_X10_southOf_2 : decode cX10_southOf 2 = .ok (.if_icmp .eq 9, 3) := by decide +kernel
theorem d_X10_southOf_5 : decode cX10_southOf 5 = .ok (.iload_n 0, 1) := by decide +kernel
theorem d_X10_southOf_6 : decode cX10_southOf 6 = .ok (.bipush 6, 2) := by decide +kernel
theorem d_X10_southOf_8 : decode cX10_southOf 8 = .ok (.if_icmp .ne 7, 3) := by decide +kernel
theorem d_X10_southOf_11 : decode cX10_southOf 11 = .ok (.iconst 0, 1) := by decide +kernel
theorem d_X10_southOf_12 : decode cX10_southOf 12 = .ok (.goto 19, 3) := by decide +kernel
theorem d_X10_southOf_15 : decode cX10_southOf 15 = .ok (.iload_n 0, 1) := by decide +kernel
theorem d_X10_southOf_16 : decode cX10_southOf 16 = .ok (.iconst 2, 1) := by decide +kernel
theorem d_X10_southOf_17 : decode cX10_southOf 17 = .ok (.if_icmp .le 13, 3) := by decide +kernel
theorem d_X10_southOf_20 : decode cX10_southOf 20 = .ok (.iload_n 0, 1) := by decide +kernel
theorem d_X10_southOf_21 : decode cX10_southOf 21 = .ok (.bipush 6, 2) := by decide +kernel
theorem d_X10_southOf_23 : decode cX10_southOf 23 = .ok (.if_icmp .ge 7, 3) := by decide +kernel
theorem d_X10_southOf_26 : decode cX10_southOf 26 = .ok (.iconst (-1), 1) := by decide +kernel
theorem d_X10_southOf_27 : decode cX10_southOf 27 = .ok (.goto 4, 3) := by decide +kernel
theorem d_X10_southOf_30 : decode cX10_southOf 30 = .ok (.iconst 1, 1) := by decide +kernel
theorem d_X10_southOf_31 : decode cX10_southOf 31 = .ok (.ireturn, 1) := by decide +kernel
noncomputable def F_X10_southOf (M : zMem) (p0 : Int32) : Option (Int32 × zMem) :=
  if p0 = (2 : Int32) then
    some ((0 : Int32), M)
  else
    if p0 = (6 : Int32) then
      some ((0 : Int32), M)
    else
      if p0 ≤ (2 : Int32) then
        some ((1 : Int32), M)
      else
        if (6 : Int32) ≤ p0 then
          some ((1 : Int32), M)
        else
          some ((-1 : Int32), M)
def rm_X10_southOf : Room := { frames := 2, cells := 0, slots := 0, locals := 80 }
set_option maxHeartbeats 4000000 in
set_option maxRecDepth 100000 in
theorem c_X10_southOf (l : Launch) {G : zG} {ad : Nat → Nat} {n : Nat} (hA : zInj ad n) (M : zMem) (p0 : Int32) {r9 : Int32} {M9 : zMem} (hF : F_X10_southOf M p0 = some (r9, M9)) : zM l yX10_southOf cX10_southOf 1 (some .int) rm_X10_southOf G shM ad n M [.int p0] (some (.int r9)) M9 := by
  refine zM_of hA (by decide +kernel) (lv := [(0, .int p0)]) (Nat.le_of_ble_eq_true rfl) rfl (fun p e s m args below meth c A cx hr => ?_)
  unfold F_X10_southOf at hF
  refine z_iload_n cx d_X10_southOf_0 0 rfl ?_
  refine z_iconst (v := 2) cx d_X10_southOf_1 ki_2 ?_
  refine z_icmp_eq cx 11 d_X10_southOf_2 (by decide) hF (fun hF => ?_) (fun hF => ?_)
  · refine z_iconst (v := 0) cx d_X10_southOf_11 ki_0 ?_
    refine z_goto cx 31 d_X10_southOf_12 (by decide) ?_
    exact z_iret cx hr rfl hF d_X10_southOf_31
  refine z_iload_n cx d_X10_southOf_5 0 rfl ?_
  refine z_bipush (v := 6) cx d_X10_southOf_6 kb_6 ?_
  refine z_icmp_ne cx 15 d_X10_southOf_8 (by decide) hF (fun hF => ?_) (fun hF => ?_)
  · refine z_iload_n cx d_X10_southOf_15 0 rfl ?_
    refine z_iconst (v := 2) cx d_X10_southOf_16 ki_2 ?_
    refine z_icmp_le cx 30 d_X10_southOf_17 (by decide) hF (fun hF => ?_) (fun hF => ?_)
    · refine z_iconst (v := 1) cx d_X10_southOf_30 ki_1 ?_
      exact z_iret cx hr rfl hF d_X10_southOf_31
    refine z_iload_n cx d_X10_southOf_20 0 rfl ?_
    refine z_bipush (v := 6) cx d_X10_southOf_21 kb_6 ?_
    refine z_icmp_ge cx 30 d_X10_southOf_23 (by decide) hF (fun hF => ?_) (fun hF => ?_)
    · refine z_iconst (v := 1) cx d_X10_southOf_30 ki_1 ?_
      exact z_iret cx hr rfl hF d_X10_southOf_31
    refine z_iconst (v := -1) cx d_X10_southOf_26 ki_m1 ?_
    refine z_goto cx 31 d_X10_southOf_27 (by decide) ?_
    exact z_iret cx hr rfl hF d_X10_southOf_31
  refine z_iconst (v := 0) cx d_X10_southOf_11 ki_0 ?_
  refine z_goto cx 31 d_X10_southOf_12 (by decide) ?_
  exact z_iret cx hr rfl hF d_X10_southOf_31
/-! SunnyPansModel.high -/
theorem d_X10_high_0 : decode cX10_high 0 = .ok (.iload_n 0, 1) := by decide +kernel
theorem d_X10_high_1 : decode cX10_high 1 = .ok (.ifCond .ne 7, 3) := by decide +kernel
theorem d_X10_high_4 : decode cX10_high 4 = .ok (.iconst 0, 1) := by decide +kernel
theorem d_X10_high_5 : decode cX10_high 5 = .ok (.goto 9, 3) := by decide +kernel
theorem d_X10_high_8 : decode cX10_high 8 = .ok (.iload_n 0, 1) := by decide +kernel
theorem d_X10_high_9 : decode cX10_high 9 = .ok (.bipush 50, 2) := by decide +kernel
theorem d_X10_high_11 : decode cX10_high 11 = .ok (.idiv, 1) := by decide +kernel
theorem d_X10_high_12 : decode cX10_high 12 = .ok (.iconst 1, 1) := by decide +kernel
theorem d_X10_high_13 : decode cX10_high 13 = .ok (.iadd, 1) := by decide +kernel
theorem d_X10_high_14 : decode cX10_high 14 = .ok (.ireturn, 1) := by decide +kernel
noncomputable def F_X10_high (M : zMem) (p0 : Int32) : Option (Int32 × zMem) :=
  if p0 = 0 then
    some ((0 : Int32), M)
  else
    some (((p0 / (50 : Int32)) + (1 : Int32)), M)
def rm_X10_high : Room := { frames := 2, cells := 0, slots := 0, locals := 80 }
set_option maxHeartbeats 4000000 in
set_option maxRecDepth 100000 in
theorem c_X10_high (l : Launch) {G : zG} {ad : Nat → Nat} {n : Nat} (hA : zInj ad n) (M : zMem) (p0 : Int32) {r9 : Int32} {M9 : zMem} (hF : F_X10_high M p0 = some (r9, M9)) : zM l yX10_high cX10_high 1 (some .int) rm_X10_high G shM ad n M [.int p0] (some (.int r9)) M9 := by
  refine zM_of hA (by decide +kernel) (lv := [(0, .int p0)]) (Nat.le_of_ble_eq_true rfl) rfl (fun p e s m args below meth c A cx hr => ?_)
  unfold F_X10_high at hF
  refine z_iload_n cx d_X10_high_0 0 rfl ?_
  refine z_if_ne cx 8 d_X10_high_1 (by decide) hF (fun hF => ?_) (fun hF => ?_)
  · refine z_iload_n cx d_X10_high_8 0 rfl ?_
    refine z_bipush (v := 50) cx d_X10_high_9 kb_50 ?_
    refine z_idiv cx d_X10_high_11 (by decide) ?_
    refine z_iconst (v := 1) cx d_X10_high_12 ki_1 ?_
    refine z_iadd cx d_X10_high_13 ?_
    exact z_iret cx hr rfl hF d_X10_high_14
  refine z_iconst (v := 0) cx d_X10_high_4 ki_0 ?_
  refine z_goto cx 14 d_X10_high_5 (by decide) ?_
  exact z_iret cx hr rfl hF d_X10_high_14
/-! SunnyPansModel.lengthOf -/
set_option maxRecDepth 100000 in
theorem wd_1717 : Cond.code yX10_high cX10_high 1 (some .int) ∈ tbG := tw7 177 rfl rfl
set_option maxRecDepth 100000 in
theorem wd_1715 : Cond.methodLink "SunnyPansModel" 241 yX10_high ∈ tbG := tw7 175 rfl rfl
set_option maxRecDepth 100000 in
theorem wd_1716 : Cond.static yX10_high ∈ tbG := tw7 176 rfl rfl
theorem cs_SunnyPansModel_241 : zCS "SunnyPansModel" 241 yX10_high cX10_high 1 (some .int) 1 := zCS_of wd_1715 wd_1716 wd_111 wd_1717 (by decide +kernel)
theorem d_X10_lengthOf_0 : decode cX10_lengthOf 0 = .ok (.iload_n 1, 1) := by decide +kernel
theorem d_X10_lengthOf_1 : decode cX10_lengthOf 1 = .ok (.invokestatic 241, 3) := by decide +kernel
theorem d_X10_lengthOf_4 : decode cX10_lengthOf 4 = .ok (.aload_n 0, 1) := by decide +kernel
theorem d_X10_lengthOf_5 : decode cX10_lengthOf 5 = .ok (.getfield 34, 3) := by decide +kernel
theorem d_X10_lengthOf_8 : decode cX10_lengthOf 8 = .ok (.iload_n 2, 1) := by decide +kernel
theorem d_X10_lengthOf_9 : decode cX10_lengthOf 9 = .ok (.aaload, 1) := by decide +kernel
theorem d_X10_lengthOf_10 : decode cX10_lengthOf 10 = .ok (.iconst 1, 1) := by decide +kernel
theorem d_X10_lengthOf_11 : decode cX10_lengthOf 11 = .ok (.iaload, 1) := by decide +kernel
theorem d_X10_lengthOf_12 : decode cX10_lengthOf 12 = .ok (.imul, 1) := by decide +kernel
theorem d_X10_lengthOf_13 : decode cX10_lengthOf 13 = .ok (.bipush 10, 2) := by decide +kernel
theorem d_X10_lengthOf_15 : decode cX10_lengthOf 15 = .ok (.idiv, 1) := by decide +kernel
theorem d_X10_lengthOf_16 : decode cX10_lengthOf 16 = .ok (.ireturn, 1) := by decide +kernel
noncomputable def F_X10_lengthOf (M : zMem) (p0 : Int32) (p1 : Int32) : Option (Int32 × zMem) :=
  zb (F_X10_high M p0) fun v2 M1 =>
  gin p1 10 <|
  some (((v2 * (M1.1 (17 + (1 + 1 * p1.toNatClampNeg)) 1)) / (10 : Int32)), M1)
def rm_X10_lengthOf : Room := { frames := 3, cells := 0, slots := 0, locals := 100 }
set_option maxHeartbeats 4000000 in
set_option maxRecDepth 100000 in
theorem c_X10_lengthOf (l : Launch) {G : zG} {ad : Nat → Nat} {n : Nat} (hA : zInj ad n) (M : zMem) (p0 : Int32) (p1 : Int32) (hT : zT shM n 0 11) {r9 : Int32} {M9 : zMem} (hF : F_X10_lengthOf M p0 p1 = some (r9, M9)) : zM l yX10_lengthOf cX10_lengthOf 3 (some .int) rm_X10_lengthOf G shM ad n M [.ref (ad 0), .int p0, .int p1] (some (.int r9)) M9 := by
  refine zM_of hA (by decide +kernel) (lv := [(0, .ref (ad 0)), (1, .int p0), (2, .int p1)]) (Nat.le_of_ble_eq_true rfl) rfl (fun p e s m args below meth c A cx hr => ?_)
  unfold F_X10_lengthOf at hF
  refine z_iload_n cx d_X10_lengthOf_0 1 rfl ?_
  obtain ⟨v2, M1, hc, hF⟩ := zb_inv hF
  refine z_callS cx (As := [.int p0]) (rest := []) (c_X10_high l cx.2.2.2.1.1 M p0  hc) cs_SunnyPansModel_241 ⟨rfl, rfl, Nat.le_of_ble_eq_true rfl, Nat.le_of_ble_eq_true rfl⟩ rfl rfl ⟨Nat.zero_le _, Nat.zero_le _⟩ (Nat.le_of_ble_eq_true rfl) d_X10_lengthOf_1 ?_
  refine z_aload_n cx d_X10_lengthOf_4 0 rfl ?_
  refine z_getR cx hT fg_SunnyPansModel_34 17 rfl d_X10_lengthOf_5 ?_
  refine z_iload_n cx d_X10_lengthOf_8 2 rfl ?_
  obtain ⟨hi3, hF⟩ := gin_inv hF
  refine z_aald cx (tfM_11_17 hT) za_30 hi3 (17 + (1 + 1 * p1.toNatClampNeg)) rfl d_X10_lengthOf_9 ?_
  refine z_iconst (v := 1) cx d_X10_lengthOf_10 ki_1 ?_
  refine z_iald cx (teM_30 (tfM_11_17 hT) hi3) za_27 (zvp (by decide +kernel)) 1 rfl d_X10_lengthOf_11 ?_
  refine z_imul cx d_X10_lengthOf_12 ?_
  refine z_bipush (v := 10) cx d_X10_lengthOf_13 kb_10 ?_
  refine z_idiv cx d_X10_lengthOf_15 (by decide) ?_
  exact z_iret cx hr rfl hF d_X10_lengthOf_16
/-! SunnyPansModel.covers -/
set_option maxRecDepth 100000 in
theorem wd_1714 : Cond.code yX10_lengthOf cX10_lengthOf 3 (some .int) ∈ tbG := tw7 174 rfl rfl
set_option maxRecDepth 100000 in
theorem wd_1711 : Cond.methodLink "SunnyPansModel" 244 yX10_lengthOf ∈ tbG := tw7 171 rfl rfl
set_option maxRecDepth 100000 in
theorem wd_1713 : Cond.instanceMethod yX10_lengthOf ∈ tbG := tw7 173 rfl rfl
theorem wd_77 : Cond.selects "SunnyPansModel" yX10_lengthOf yX10_lengthOf ∈ tbG := tw 77 (by decide +kernel) rfl
theorem cv_SunnyPansModel_244 : zCV "SunnyPansModel" 244 "SunnyPansModel" yX10_lengthOf cX10_lengthOf 3 (some .int) 2 := zCV_of wd_1711 wd_1713 wd_77 wd_111 wd_1714 (by decide +kernel)
set_option maxRecDepth 100000 in
theorem wd_1720 : Cond.code yX10_eastOf cX10_eastOf 1 (some .int) ∈ tbG := tw7 180 rfl rfl
set_option maxRecDepth 100000 in
theorem wd_1718 : Cond.methodLink "SunnyPansModel" 247 yX10_eastOf ∈ tbG := tw7 178 rfl rfl
set_option maxRecDepth 100000 in
theorem wd_1719 : Cond.static yX10_eastOf ∈ tbG := tw7 179 rfl rfl
theorem cs_SunnyPansModel_247 : zCS "SunnyPansModel" 247 yX10_eastOf cX10_eastOf 1 (some .int) 1 := zCS_of wd_1718 wd_1719 wd_111 wd_1720 (by decide +kernel)
set_option maxRecDepth 100000 in
theorem wd_1723 : Cond.code yX10_southOf cX10_southOf 1 (some .int) ∈ tbG := tw7 183 rfl rfl
set_option maxRecDepth 100000 in
theorem wd_1721 : Cond.methodLink "SunnyPansModel" 250 yX10_southOf ∈ tbG := tw7 181 rfl rfl
set_option maxRecDepth 100000 in
theorem wd_1722 : Cond.static yX10_southOf ∈ tbG := tw7 182 rfl rfl
theorem cs_SunnyPansModel_250 : zCS "SunnyPansModel" 250 yX10_southOf cX10_southOf 1 (some .int) 1 := zCS_of wd_1721 wd_1722 wd_111 wd_1723 (by decide +kernel)
theorem d_X10_covers_0 : decode cX10_covers 0 = .ok (.iload_n 2, 1) := by decide +kernel
theorem d_X10_covers_1 : decode cX10_covers 1 = .ok (.ifCond .ne 5, 3) := by decide +kernel
theorem d_X10_covers_4 : decode cX10_covers 4 = .ok (.iconst 0, 1) := by decide +kernel
theorem d_X10_covers_5 : decode cX10_covers 5 = .ok (.ireturn, 1) := by decide +kernel
theorem d_X10_covers_6 : decode cX10_covers 6 = .ok (.iload_n 1, 1) := by decide +kernel
theorem d_X10_covers_7 : decode cX10_covers 7 = .ok (.iload_n 3, 1) := by decide +kernel
theorem d_X10_covers_8 : decode cX10_covers 8 = .ok (.if_icmp .ne 5, 3) := by decide +kernel
theorem d_X10_covers_11 : decode cX10_covers 11 = .ok (.iconst 1, 1) := by decide +kernel
theorem d_X10_covers_12 : decode cX10_covers 12 = .ok (.ireturn, 1) := by decide +kernel
theorem d_X10_covers_13 : decode cX10_covers 13 = .ok (.iload_n 3, 1) := by decide +kernel
theorem d_X10_covers_14 : decode cX10_covers 14 = .ok (.bipush 8, 2) := by decide +kernel
theorem d_X10_covers_16 : decode cX10_covers 16 = .ok (.irem, 1) := by decide +kernel
theorem d_X10_covers_17 : decode cX10_covers 17 = .ok (.iload_n 1, 1) := by decide +kernel
theorem d_X10_covers_18 : decode cX10_covers 18 = .ok (.bipush 8, 2) := by decide +kernel
theorem d_X10_covers_20 : decode cX10_covers 20 = .ok (.irem, 1) := by decide +kernel
theorem d_X10_covers_21 : decode cX10_covers 21 = .ok (.isub, 1) := by decide +kernel
theorem d_X10_covers_22 : decode cX10_covers 22 = .ok (.istore 5, 2) := by decide +kernel
theorem d_X10_covers_24 : decode cX10_covers 24 = .ok (.iload_n 3, 1) := by decide +kernel
theorem d_X10_covers_25 : decode cX10_covers 25 = .ok (.bipush 8, 2) := by decide +kernel
theorem d_X10_covers_27 : decode cX10_covers 27 = .ok (.idiv, 1) := by decide +kernel
theorem d_X10_covers_28 : decode cX10_covers 28 = .ok (.iload_n 1, 1) := by decide +kernel
theorem d_X10_covers_29 : decode cX10_covers 29 = .ok (.bipush 8, 2) := by decide +kernel
theorem d_X10_covers_31 : decode cX10_covers 31 = .ok (.idiv, 1) := by decide +kernel
theorem d_X10_covers_32 : decode cX10_covers 32 = .ok (.isub, 1) := by decide +kernel
theorem d_X10_covers_33 : decode cX10_covers 33 = .ok (.istore 6, 2) := by decide +kernel
theorem d_X10_covers_35 : decode cX10_covers 35 = .ok (.iload 5, 2) := by decide +kernel
theorem d_X10_covers_37 : decode cX10_covers 37 = .ok (.iload 5, 2) := by decide +kernel
theorem d_X10_covers_39 : decode cX10_covers 39 = .ok (.ineg, 1) := by decide +kernel
theorem d_X10_covers_40 : decode cX10_covers 40 = .ok (.invokestatic 218, 3) := by decide +kernel
theorem d_X10_covers_43 : decode cX10_covers 43 = .ok (.iload 6, 2) := by decide +kernel
theorem d_X10_covers_45 : decode cX10_covers 45 = .ok (.iload 6, 2) := by decide +kernel
theorem d_X10_covers_47 : decode cX10_covers 47 = .ok (.ineg, 1) := by decide +kernel
theorem d_X10_covers_48 : decode cX10_covers 48 = .ok (.invokestatic 218, 3) := by decide +kernel
theorem d_X10_covers_51 : decode cX10_covers 51 = .ok (.invokestatic 218, 3) := by decide +kernel
theorem d_X10_covers_54 : decode cX10_covers 54 = .ok (.istore 7, 2) := by decide +kernel
theorem d_X10_covers_56 : decode cX10_covers 56 = .ok (.iload 7, 2) := by decide +kernel
theorem d_X10_covers_58 : decode cX10_covers 58 = .ok (.aload_n 0, 1) := by decide +kernel
theorem d_X10_covers_59 : decode cX10_covers 59 = .ok (.iload_n 2, 1) := by decide +kernel
theorem d_X10_covers_60 : decode cX10_covers 60 = .ok (.iload 4, 2) := by decide +kernel
theorem d_X10_covers_62 : decode cX10_covers 62 = .ok (.invokevirtual 244, 3) := by decide +kernel
theorem d_X10_covers_65 : decode cX10_covers 65 = .ok (.if_icmp .gt 47, 3) := by decide +kernel
theorem d_X10_covers_68 : decode cX10_covers 68 = .ok (.iload 5, 2) := by decide +kernel
theorem d_X10_covers_70 : decode cX10_covers 70 = .ok (.iload 7, 2) := by decide +kernel
theorem d_X10_covers_72 : decode cX10_covers 72 = .ok (.aload_n 0, 1) := by decide +kernel
theorem d_X10_covers_73 : decode cX10_covers 73 = .ok (.getfield 34, 3) := by decide +kernel
theorem d_X10_covers_76 : decode cX10_covers 76 = .ok (.iload 4, 2) := by decide +kernel
theorem d_X10_covers_78 : decode cX10_covers 78 = .ok (.aaload, 1) := by decide +kernel
theorem d_X10_covers_79 : decode cX10_covers 79 = .ok (.iconst 0, 1) := by decide +kernel
theorem d_X10_covers_80 : decode cX10_covers 80 = .ok (.iaload, 1) := by decide +kernel
theorem d_X10_covers_81 : decode cX10_covers 81 = .ok (.invokestatic 247, 3) := by decide +kernel
theorem d_X10_covers_84 : decode cX10_covers 84 = .ok (.imul, 1) := by decide +kernel
theorem d_X10_covers_85 : decode cX10_covers 85 = .ok (.if_icmp .ne 27, 3) := by decide +kernel
theorem d_X10_covers_88 : decode cX10_covers 88 = .ok (.iload 6, 2) := by decide +kernel
theorem d_X10_covers_90 : decode cX10_covers 90 = .ok (.iload 7, 2) := by decide +kernel
theorem d_X10_covers_92 : decode cX10_covers 92 = .ok (.aload_n 0, 1) := by decide +kernel
theorem d_X10_covers_93 : decode cX10_covers 93 = .ok (.getfield 34, 3) := by decide +kernel
theorem d_X10_covers_96 : decode cX10_covers 96 = .ok (.iload 4, 2) := by decide +kernel
theorem d_X10_covers_98 : decode cX10_covers 98 = .ok (.aaload, 1) := by decide +kernel
theorem d_X10_covers_99 : decode cX10_covers 99 = .ok (.iconst 0, 1) := by decide +kernel
theorem d_X10_covers_100 : decode cX10_covers 100 = .ok (.iaload, 1) := by decide +kernel
theorem d_X10_covers_101 : decode cX10_covers 101 = .ok (.invokestatic 250, 3) := by decide +kernel
theorem d_X10_covers_104 : decode cX10_covers 104 = .ok (.imul, 1) := by decide +kernel
theorem d_X10_covers_105 : decode cX10_covers 105 = .ok (.if_icmp .ne 7, 3) := by decide +kernel
theorem d_X10_covers_108 : decode cX10_covers 108 = .ok (.iconst 1, 1) := by decide +kernel
theorem d_X10_covers_109 : decode cX10_covers 109 = .ok (.goto 4, 3) := by decide +kernel
theorem d_X10_covers_112 : decode cX10_covers 112 = .ok (.iconst 0, 1) := by decide +kernel
theorem d_X10_covers_113 : decode cX10_covers 113 = .ok (.ireturn, 1) := by decide +kernel
noncomputable def F_X10_covers (M : zMem) (p0 : Int32) (p1 : Int32) (p2 : Int32) (p3 : Int32) : Option (Int32 × zMem) :=
  if p1 = 0 then
    some ((0 : Int32), M)
  else
    if p0 = p2 then
      some ((1 : Int32), M)
    else
      zl ((p2 - p2 / (8 : Int32) * (8 : Int32)) - (p0 - p0 / (8 : Int32) * (8 : Int32))) fun v1 =>
      zl ((p2 / (8 : Int32)) - (p0 / (8 : Int32))) fun v2 =>
      zb (F_X10_more M v1 (-v1)) fun v4 M3 =>
      zb (F_X10_more M3 v2 (-v2)) fun v6 M5 =>
      zb (F_X10_more M5 v4 v6) fun v8 M7 =>
      zb (F_X10_lengthOf M7 p1 p3) fun v10 M9 =>
      if v10 < v8 then
        some ((0 : Int32), M9)
      else
        gin p3 10 <|
        zb (F_X10_eastOf M9 (M9.1 (17 + (1 + 1 * p3.toNatClampNeg)) 0)) fun v13 M12 =>
        if v1 = (v8 * v13) then
          zb (F_X10_southOf M12 (M12.1 (17 + (1 + 1 * p3.toNatClampNeg)) 0)) fun v15 M14 =>
          if v2 = (v8 * v15) then
            some ((1 : Int32), M14)
          else
            some ((0 : Int32), M14)
        else
          some ((0 : Int32), M12)
def rm_X10_covers : Room := { frames := 4, cells := 0, slots := 0, locals := 122 }
set_option maxHeartbeats 4000000 in
set_option maxRecDepth 100000 in
theorem c_X10_covers (l : Launch) {G : zG} {ad : Nat → Nat} {n : Nat} (hA : zInj ad n) (M : zMem) (p0 : Int32) (p1 : Int32) (p2 : Int32) (p3 : Int32) (hT : zT shM n 0 11) {r9 : Int32} {M9 : zMem} (hF : F_X10_covers M p0 p1 p2 p3 = some (r9, M9)) : zM l yX10_covers cX10_covers 8 (some .boolean) rm_X10_covers G shM ad n M [.ref (ad 0), .int p0, .int p1, .int p2, .int p3] (some (.int r9)) M9 := by
  refine zM_of hA (by decide +kernel) (lv := [(0, .ref (ad 0)), (1, .int p0), (2, .int p1), (3, .int p2), (4, .int p3)]) (Nat.le_of_ble_eq_true rfl) rfl (fun p e s m args below meth c A cx hr => ?_)
  unfold F_X10_covers at hF
  refine z_iload_n cx d_X10_covers_0 2 rfl ?_
  refine z_if_ne cx 6 d_X10_covers_1 (by decide) hF (fun hF => ?_) (fun hF => ?_)
  · refine z_iload_n cx d_X10_covers_6 1 rfl ?_
    refine z_iload_n cx d_X10_covers_7 3 rfl ?_
    refine z_icmp_ne cx 13 d_X10_covers_8 (by decide) hF (fun hF => ?_) (fun hF => ?_)
    · refine z_iload_n cx d_X10_covers_13 3 rfl ?_
      refine z_bipush (v := 8) cx d_X10_covers_14 kb_8 ?_
      refine z_irem cx d_X10_covers_16 (by decide) ?_
      refine z_iload_n cx d_X10_covers_17 1 rfl ?_
      refine z_bipush (v := 8) cx d_X10_covers_18 kb_8 ?_
      refine z_irem cx d_X10_covers_20 (by decide) ?_
      refine z_isub cx d_X10_covers_21 ?_
      refine z_nm hF (fun v1 hF => ?_)
      refine z_istore cx 5 [(5, .int v1), (0, .ref (ad 0)), (1, .int p0), (2, .int p1), (3, .int p2), (4, .int p3)] d_X10_covers_22 (by decide) rfl ?_
      refine z_iload_n cx d_X10_covers_24 4 rfl ?_
      refine z_bipush (v := 8) cx d_X10_covers_25 kb_8 ?_
      refine z_idiv cx d_X10_covers_27 (by decide) ?_
      refine z_iload_n cx d_X10_covers_28 2 rfl ?_
      refine z_bipush (v := 8) cx d_X10_covers_29 kb_8 ?_
      refine z_idiv cx d_X10_covers_31 (by decide) ?_
      refine z_isub cx d_X10_covers_32 ?_
      refine z_nm hF (fun v2 hF => ?_)
      refine z_istore cx 6 [(6, .int v2), (5, .int v1), (0, .ref (ad 0)), (1, .int p0), (2, .int p1), (3, .int p2), (4, .int p3)] d_X10_covers_33 (by decide) rfl ?_
      refine z_iload cx d_X10_covers_35 1 rfl ?_
      refine z_iload cx d_X10_covers_37 1 rfl ?_
      refine z_ineg cx d_X10_covers_39 ?_
      obtain ⟨v4, M3, hc, hF⟩ := zb_inv hF
      refine z_callS cx (As := [.int v1, .int (-v1)]) (rest := []) (c_X10_more l cx.2.2.2.1.1 M v1 (-v1)  hc) cs_SunnyPansModel_218 ⟨rfl, rfl, Nat.le_of_ble_eq_true rfl, Nat.le_of_ble_eq_true rfl⟩ rfl rfl ⟨Nat.zero_le _, Nat.zero_le _⟩ (Nat.le_of_ble_eq_true rfl) d_X10_covers_40 ?_
      refine z_iload cx d_X10_covers_43 0 rfl ?_
      refine z_iload cx d_X10_covers_45 0 rfl ?_
      refine z_ineg cx d_X10_covers_47 ?_
      obtain ⟨v6, M5, hc, hF⟩ := zb_inv hF
      refine z_callS cx (As := [.int v2, .int (-v2)]) (rest := [.int v4]) (c_X10_more l cx.2.2.2.1.1 M3 v2 (-v2)  hc) cs_SunnyPansModel_218 ⟨rfl, rfl, Nat.le_of_ble_eq_true rfl, Nat.le_of_ble_eq_true rfl⟩ rfl rfl ⟨Nat.zero_le _, Nat.zero_le _⟩ (Nat.le_of_ble_eq_true rfl) d_X10_covers_48 ?_
      obtain ⟨v8, M7, hc, hF⟩ := zb_inv hF
      refine z_callS cx (As := [.int v4, .int v6]) (rest := []) (c_X10_more l cx.2.2.2.1.1 M5 v4 v6  hc) cs_SunnyPansModel_218 ⟨rfl, rfl, Nat.le_of_ble_eq_true rfl, Nat.le_of_ble_eq_true rfl⟩ rfl rfl ⟨Nat.zero_le _, Nat.zero_le _⟩ (Nat.le_of_ble_eq_true rfl) d_X10_covers_51 ?_
      refine z_istore cx 7 [(7, .int v8), (6, .int v2), (5, .int v1), (0, .ref (ad 0)), (1, .int p0), (2, .int p1), (3, .int p2), (4, .int p3)] d_X10_covers_54 (by decide) rfl ?_
      refine z_iload cx d_X10_covers_56 0 rfl ?_
      refine z_aload_n cx d_X10_covers_58 3 rfl ?_
      refine z_iload_n cx d_X10_covers_59 5 rfl ?_
      refine z_iload cx d_X10_covers_60 7 rfl ?_
      obtain ⟨v10, M9, hc, hF⟩ := zb_inv hF
      refine z_callV cx (As := [.int p1, .int p3]) (rest := [.int v8]) (c_X10_lengthOf l cx.2.2.2.1.1 M7 p1 p3 hT hc) hT zo_11 cv_SunnyPansModel_244 ⟨rfl, rfl, Nat.le_of_ble_eq_true rfl, Nat.le_of_ble_eq_true rfl⟩ rfl rfl ⟨Nat.zero_le _, Nat.zero_le _⟩ (Nat.le_of_ble_eq_true rfl) d_X10_covers_62 ?_
      refine z_icmp_gt cx 112 d_X10_covers_65 (by decide) hF (fun hF => ?_) (fun hF => ?_)
      · refine z_iconst (v := 0) cx d_X10_covers_112 ki_0 ?_
        exact z_iret cx hr nb0 hF d_X10_covers_113
      refine z_iload cx d_X10_covers_68 2 rfl ?_
      refine z_iload cx d_X10_covers_70 0 rfl ?_
      refine z_aload_n cx d_X10_covers_72 3 rfl ?_
      refine z_getR cx hT fg_SunnyPansModel_34 17 rfl d_X10_covers_73 ?_
      refine z_iload cx d_X10_covers_76 7 rfl ?_
      obtain ⟨hi11, hF⟩ := gin_inv hF
      refine z_aald cx (tfM_11_17 hT) za_30 hi11 (17 + (1 + 1 * p3.toNatClampNeg)) rfl d_X10_covers_78 ?_
      refine z_iconst (v := 0) cx d_X10_covers_79 ki_0 ?_
      refine z_iald cx (teM_30 (tfM_11_17 hT) hi11) za_27 (zvp (by decide +kernel)) 0 rfl d_X10_covers_80 ?_
      obtain ⟨v13, M12, hc, hF⟩ := zb_inv hF
      refine z_callS cx (As := [.int (M9.1 (17 + (1 + 1 * p3.toNatClampNeg)) 0)]) (rest := [.int v8, .int v1]) (c_X10_eastOf l cx.2.2.2.1.1 M9 (M9.1 (17 + (1 + 1 * p3.toNatClampNeg)) 0)  hc) cs_SunnyPansModel_247 ⟨rfl, rfl, Nat.le_of_ble_eq_true rfl, Nat.le_of_ble_eq_true rfl⟩ rfl rfl ⟨Nat.zero_le _, Nat.zero_le _⟩ (Nat.le_of_ble_eq_true rfl) d_X10_covers_81 ?_
      refine z_imul cx d_X10_covers_84 ?_
      refine z_icmp_ne cx 112 d_X10_covers_85 (by decide) hF (fun hF => ?_) (fun hF => ?_)
      · refine z_iconst (v := 0) cx d_X10_covers_112 ki_0 ?_
        exact z_iret cx hr nb0 hF d_X10_covers_113
      refine z_iload cx d_X10_covers_88 1 rfl ?_
      refine z_iload cx d_X10_covers_90 0 rfl ?_
      refine z_aload_n cx d_X10_covers_92 3 rfl ?_
      refine z_getR cx hT fg_SunnyPansModel_34 17 rfl d_X10_covers_93 ?_
      refine z_iload cx d_X10_covers_96 7 rfl ?_
      refine z_aald cx (tfM_11_17 hT) za_30 hi11 (17 + (1 + 1 * p3.toNatClampNeg)) rfl d_X10_covers_98 ?_
      refine z_iconst (v := 0) cx d_X10_covers_99 ki_0 ?_
      refine z_iald cx (teM_30 (tfM_11_17 hT) hi11) za_27 (zvp (by decide +kernel)) 0 rfl d_X10_covers_100 ?_
      obtain ⟨v15, M14, hc, hF⟩ := zb_inv hF
      refine z_callS cx (As := [.int (M12.1 (17 + (1 + 1 * p3.toNatClampNeg)) 0)]) (rest := [.int v8, .int v2]) (c_X10_southOf l cx.2.2.2.1.1 M12 (M12.1 (17 + (1 + 1 * p3.toNatClampNeg)) 0)  hc) cs_SunnyPansModel_250 ⟨rfl, rfl, Nat.le_of_ble_eq_true rfl, Nat.le_of_ble_eq_true rfl⟩ rfl rfl ⟨Nat.zero_le _, Nat.zero_le _⟩ (Nat.le_of_ble_eq_true rfl) d_X10_covers_101 ?_
      refine z_imul cx d_X10_covers_104 ?_
      refine z_icmp_ne cx 112 d_X10_covers_105 (by decide) hF (fun hF => ?_) (fun hF => ?_)
      · refine z_iconst (v := 0) cx d_X10_covers_112 ki_0 ?_
        exact z_iret cx hr nb0 hF d_X10_covers_113
      refine z_iconst (v := 1) cx d_X10_covers_108 ki_1 ?_
      refine z_goto cx 113 d_X10_covers_109 (by decide) ?_
      exact z_iret cx hr nb1 hF d_X10_covers_113
    refine z_iconst (v := 1) cx d_X10_covers_11 ki_1 ?_
    exact z_iret cx hr nb1 hF d_X10_covers_12
  refine z_iconst (v := 0) cx d_X10_covers_4 ki_0 ?_
  exact z_iret cx hr nb0 hF d_X10_covers_5
/-! SunnyPansModel.isShade -/
set_option maxRecDepth 100000 in
theorem wd_1710 : Cond.code yX10_covers cX10_covers 8 (some .boolean) ∈ tbG := tw7 170 rfl rfl
set_option maxRecDepth 100000 in
theorem wd_1707 : Cond.methodLink "SunnyPansModel" 253 yX10_covers ∈ tbG := tw7 167 rfl rfl
set_option maxRecDepth 100000 in
theorem wd_1709 : Cond.instanceMethod yX10_covers ∈ tbG := tw7 169 rfl rfl
theorem wd_76 : Cond.selects "SunnyPansModel" yX10_covers yX10_covers ∈ tbG := tw 76 (by decide +kernel) rfl
theorem cv_SunnyPansModel_253 : zCV "SunnyPansModel" 253 "SunnyPansModel" yX10_covers cX10_covers 8 (some .boolean) 4 := zCV_of wd_1707 wd_1709 wd_76 wd_111 wd_1710 (by decide +kernel)
theorem d_X10_isShade_0 : decode cX10_isShade 0 = .ok (.iconst 0, 1) := by decide +kernel
theorem d_X10_isShade_1 : decode cX10_isShade 1 = .ok (.istore 4, 2) := by decide +kernel
theorem d_X10_isShade_3 : decode cX10_isShade 3 = .ok (.iload 4, 2) := by decide +kernel
theorem d_X10_isShade_5 : decode cX10_isShade 5 = .ok (.bipush 64, 2) := by decide +kernel
theorem d_X10_isShade_7 : decode cX10_isShade 7 = .ok (.if_icmp .ge 30, 3) := by decide +kernel
theorem d_X10_isShade_10 : decode cX10_isShade 10 = .ok (.aload_n 0, 1) := by decide +kernel
theorem d_X10_isShade_11 : decode cX10_isShade 11 = .ok (.iload 4, 2) := by decide +kernel
theorem d_X10_isShade_13 : decode cX10_isShade 13 = .ok (.aload_n 1, 1) := by decide +kernel
theorem d_X10_isShade_14 : decode cX10_isShade 14 = .ok (.sipush 128, 3) := by decide +kernel
theorem d_X10_isShade_17 : decode cX10_isShade 17 = .ok (.iload 4, 2) := by decide +kernel
theorem d_X10_isShade_19 : decode cX10_isShade 19 = .ok (.iadd, 1) := by decide +kernel
theorem d_X10_isShade_20 : decode cX10_isShade 20 = .ok (.iaload, 1) := by decide +kernel
theorem d_X10_isShade_21 : decode cX10_isShade 21 = .ok (.iload_n 2, 1) := by decide +kernel
theorem d_X10_isShade_22 : decode cX10_isShade 22 = .ok (.iload_n 3, 1) := by decide +kernel
theorem d_X10_isShade_23 : decode cX10_isShade 23 = .ok (.invokevirtual 253, 3) := by decide +kernel
theorem d_X10_isShade_26 : decode cX10_isShade 26 = .ok (.ifCond .eq 5, 3) := by decide +kernel
theorem d_X10_isShade_29 : decode cX10_isShade 29 = .ok (.iconst 1, 1) := by decide +kernel
theorem d_X10_isShade_30 : decode cX10_isShade 30 = .ok (.ireturn, 1) := by decide +kernel
theorem d_X10_isShade_31 : decode cX10_isShade 31 = .ok (.iinc 4 1, 3) := by decide +kernel
theorem d_X10_isShade_34 : decode cX10_isShade 34 = .ok (.goto (-31), 3) := by decide +kernel
theorem d_X10_isShade_37 : decode cX10_isShade 37 = .ok (.iconst 0, 1) := by decide +kernel
theorem d_X10_isShade_38 : decode cX10_isShade 38 = .ok (.ireturn, 1) := by decide +kernel
noncomputable def F_X10_isShade_3 (p0 : Nat) (p1 : Int32) (p2 : Int32) (self3 : Int32 → Int32 → Int32 → zMem → Option (Int32 × zMem)) (b3_L2 : Int32) (b3_L3 : Int32) (b3_L4 : Int32) (M : zMem) : Option (Int32 × zMem) :=
  if (64 : Int32) ≤ b3_L4 then
    some ((0 : Int32), M)
  else
    gin ((128 : Int32) + b3_L4) 195 <|
    zb (F_X10_covers M b3_L4 (M.1 p0 ((128 : Int32) + b3_L4).toNatClampNeg) b3_L2 b3_L3) fun v3 M2 =>
    if v3 = 0 then
      self3 b3_L2 b3_L3 (b3_L4 + 1) M2
    else
      some ((1 : Int32), M2)
noncomputable def F_X10_isShade (M : zMem) (p0 : Nat) (p1 : Int32) (p2 : Int32) : Option (Int32 × zMem) :=
  itF (fun _ _ _ _ => none) (F_X10_isShade_3 p0 p1 p2) zFuel p1 p2 (0 : Int32) M
def rm_X10_isShade : Room := { frames := 5, cells := 0, slots := 0, locals := 149 }
set_option maxHeartbeats 4000000 in
set_option maxRecDepth 100000 in
theorem c_X10_isShade (l : Launch) {G : zG} {ad : Nat → Nat} {n : Nat} (hA : zInj ad n) (M : zMem) (p0 : Nat) (p1 : Int32) (p2 : Int32) (hT : zT shM n 0 11) (hT_p0 : zT shM n p0 36) {r9 : Int32} {M9 : zMem} (hF : F_X10_isShade M p0 p1 p2 = some (r9, M9)) : zM l yX10_isShade cX10_isShade 5 (some .boolean) rm_X10_isShade G shM ad n M [.ref (ad 0), .ref (ad p0), .int p1, .int p2] (some (.int r9)) M9 := by
  refine zM_of hA (by decide +kernel) (lv := [(0, .ref (ad 0)), (1, .ref (ad p0)), (2, .int p1), (3, .int p2)]) (Nat.le_of_ble_eq_true rfl) rfl (fun p e s m args below meth c A cx hr => ?_)
  have hL3 : ∀ (fuel : Nat), ∀ (b3_L2 : Int32) (b3_L3 : Int32) (b3_L4 : Int32) (M : zMem), itF (fun _ _ _ _ => none) (F_X10_isShade_3 p0 p1 p2) fuel b3_L2 b3_L3 b3_L4 M = some (r9, M9) → zJ p l e rm_X10_isShade s m args below meth c G shM ad n A 5 (MQ below (zQ G shM ad n M9 (some (.int r9)) A) args s 0 0 A) 0 0 M 3 [(0, .ref (ad 0)), (1, .ref (ad p0)), (2, .int b3_L2), (3, .int b3_L3), (4, .int b3_L4)] [] := by
    intro fuel
    induction fuel with
    | zero => intro b3_L2 b3_L3 b3_L4 M hF; cases hF
    | succ fuel hs3 =>
      intro b3_L2 b3_L3 b3_L4 M hF
      have hF : F_X10_isShade_3 p0 p1 p2 (itF (fun _ _ _ _ => none) (F_X10_isShade_3 p0 p1 p2) fuel) b3_L2 b3_L3 b3_L4 M = some (r9, M9) := hF
      generalize itF (fun _ _ _ _ => none) (F_X10_isShade_3 p0 p1 p2) fuel = self3 at hs3 hF
      unfold F_X10_isShade_3 at hF
      refine z_iload cx d_X10_isShade_3 4 rfl ?_
      refine z_bipush (v := 64) cx d_X10_isShade_5 kb_64 ?_
      refine z_icmp_ge cx 37 d_X10_isShade_7 (by decide) hF (fun hF => ?_) (fun hF => ?_)
      · refine z_iconst (v := 0) cx d_X10_isShade_37 ki_0 ?_
        exact z_iret cx hr nb0 hF d_X10_isShade_38
      refine z_aload_n cx d_X10_isShade_10 0 rfl ?_
      refine z_iload cx d_X10_isShade_11 4 rfl ?_
      refine z_aload_n cx d_X10_isShade_13 1 rfl ?_
      refine z_sipush (v := 128) cx d_X10_isShade_14 ks_128 ?_
      refine z_iload cx d_X10_isShade_17 4 rfl ?_
      refine z_iadd cx d_X10_isShade_19 ?_
      obtain ⟨hi1, hF⟩ := gin_inv hF
      refine z_iald cx hT_p0 za_36 hi1 (((128 : Int32) + b3_L4).toNatClampNeg) rfl d_X10_isShade_20 ?_
      refine z_iload_n cx d_X10_isShade_21 2 rfl ?_
      refine z_iload_n cx d_X10_isShade_22 3 rfl ?_
      obtain ⟨v3, M2, hc, hF⟩ := zb_inv hF
      refine z_callV cx (As := [.int b3_L4, .int (M.1 p0 ((128 : Int32) + b3_L4).toNatClampNeg), .int b3_L2, .int b3_L3]) (rest := []) (c_X10_covers l cx.2.2.2.1.1 M b3_L4 (M.1 p0 ((128 : Int32) + b3_L4).toNatClampNeg) b3_L2 b3_L3 hT hc) hT zo_11 cv_SunnyPansModel_253 ⟨rfl, rfl, Nat.le_of_ble_eq_true rfl, Nat.le_of_ble_eq_true rfl⟩ rfl rfl ⟨Nat.zero_le _, Nat.zero_le _⟩ (Nat.le_of_ble_eq_true rfl) d_X10_isShade_23 ?_
      refine z_if_eq cx 31 d_X10_isShade_26 (by decide) hF (fun hF => ?_) (fun hF => ?_)
      · refine z_iinc cx 4 1 [(4, .int (b3_L4 + 1)), (0, .ref (ad 0)), (1, .ref (ad p0)), (2, .int b3_L2), (3, .int b3_L3)] d_X10_isShade_31 4 rfl ki_1 (by decide) rfl ?_
        refine z_goto cx 3 d_X10_isShade_34 (by decide) ?_
        exact z_lv [1, 2, 3, 4, 0] _ rfl (hs3 b3_L2 b3_L3 (b3_L4 + 1) M2 hF)
      refine z_iconst (v := 1) cx d_X10_isShade_29 ki_1 ?_
      exact z_iret cx hr nb1 hF d_X10_isShade_30
  unfold F_X10_isShade at hF
  refine z_iconst (v := 0) cx d_X10_isShade_0 ki_0 ?_
  refine z_istore cx 4 [(4, .int (0 : Int32)), (0, .ref (ad 0)), (1, .ref (ad p0)), (2, .int p1), (3, .int p2)] d_X10_isShade_1 (by decide) rfl ?_
  exact z_lv [1, 2, 3, 4, 0] _ rfl (hL3 zFuel p1 p2 (0 : Int32) M hF)
/-! SunnyPansModel.driesBy -/
set_option maxRecDepth 100000 in
theorem wd_1735 : Cond.code yX10_byLaw cX10_byLaw 3 (some .int) ∈ tbG := tw7 195 rfl rfl
set_option maxRecDepth 100000 in
theorem wd_1732 : Cond.methodLink "SunnyPansModel" 257 yX10_byLaw ∈ tbG := tw7 192 rfl rfl
set_option maxRecDepth 100000 in
theorem wd_1734 : Cond.instanceMethod yX10_byLaw ∈ tbG := tw7 194 rfl rfl
theorem wd_80 : Cond.selects "SunnyPansModel" yX10_byLaw yX10_byLaw ∈ tbG := tw 80 (by decide +kernel) rfl
theorem cv_SunnyPansModel_257 : zCV "SunnyPansModel" 257 "SunnyPansModel" yX10_byLaw cX10_byLaw 3 (some .int) 0 := zCV_of wd_1732 wd_1734 wd_80 wd_111 wd_1735 (by decide +kernel)
theorem d_X10_driesBy_0 : decode cX10_driesBy 0 = .ok (.aload_n 0, 1) := by decide +kernel
theorem d_X10_driesBy_1 : decode cX10_driesBy 1 = .ok (.getfield 52, 3) := by decide +kernel
theorem d_X10_driesBy_4 : decode cX10_driesBy 4 = .ok (.iconst 0, 1) := by decide +kernel
theorem d_X10_driesBy_5 : decode cX10_driesBy 5 = .ok (.iload_n 1, 1) := by decide +kernel
theorem d_X10_driesBy_6 : decode cX10_driesBy 6 = .ok (.iastore, 1) := by decide +kernel
theorem d_X10_driesBy_7 : decode cX10_driesBy 7 = .ok (.aload_n 0, 1) := by decide +kernel
theorem d_X10_driesBy_8 : decode cX10_driesBy 8 = .ok (.getfield 52, 3) := by decide +kernel
theorem d_X10_driesBy_11 : decode cX10_driesBy 11 = .ok (.iconst 1, 1) := by decide +kernel
theorem d_X10_driesBy_12 : decode cX10_driesBy 12 = .ok (.iload_n 2, 1) := by decide +kernel
theorem d_X10_driesBy_13 : decode cX10_driesBy 13 = .ok (.iastore, 1) := by decide +kernel
theorem d_X10_driesBy_14 : decode cX10_driesBy 14 = .ok (.aload_n 0, 1) := by decide +kernel
theorem d_X10_driesBy_15 : decode cX10_driesBy 15 = .ok (.getfield 52, 3) := by decide +kernel
theorem d_X10_driesBy_18 : decode cX10_driesBy 18 = .ok (.iconst 2, 1) := by decide +kernel
theorem d_X10_driesBy_19 : decode cX10_driesBy 19 = .ok (.iload_n 3, 1) := by decide +kernel
theorem d_X10_driesBy_20 : decode cX10_driesBy 20 = .ok (.iastore, 1) := by decide +kernel
theorem d_X10_driesBy_21 : decode cX10_driesBy 21 = .ok (.aload_n 0, 1) := by decide +kernel
theorem d_X10_driesBy_22 : decode cX10_driesBy 22 = .ok (.getfield 52, 3) := by decide +kernel
theorem d_X10_driesBy_25 : decode cX10_driesBy 25 = .ok (.iconst 3, 1) := by decide +kernel
theorem d_X10_driesBy_26 : decode cX10_driesBy 26 = .ok (.iload 4, 2) := by decide +kernel
theorem d_X10_driesBy_28 : decode cX10_driesBy 28 = .ok (.iastore, 1) := by decide +kernel
theorem d_X10_driesBy_29 : decode cX10_driesBy 29 = .ok (.aload_n 0, 1) := by decide +kernel
theorem d_X10_driesBy_30 : decode cX10_driesBy 30 = .ok (.getfield 52, 3) := by decide +kernel
theorem d_X10_driesBy_33 : decode cX10_driesBy 33 = .ok (.iconst 4, 1) := by decide +kernel
theorem d_X10_driesBy_34 : decode cX10_driesBy 34 = .ok (.iload 5, 2) := by decide +kernel
theorem d_X10_driesBy_36 : decode cX10_driesBy 36 = .ok (.iastore, 1) := by decide +kernel
theorem d_X10_driesBy_37 : decode cX10_driesBy 37 = .ok (.aload_n 0, 1) := by decide +kernel
theorem d_X10_driesBy_38 : decode cX10_driesBy 38 = .ok (.getfield 52, 3) := by decide +kernel
theorem d_X10_driesBy_41 : decode cX10_driesBy 41 = .ok (.iconst 5, 1) := by decide +kernel
theorem d_X10_driesBy_42 : decode cX10_driesBy 42 = .ok (.iload 6, 2) := by decide +kernel
theorem d_X10_driesBy_44 : decode cX10_driesBy 44 = .ok (.iastore, 1) := by decide +kernel
theorem d_X10_driesBy_45 : decode cX10_driesBy 45 = .ok (.aload_n 0, 1) := by decide +kernel
theorem d_X10_driesBy_46 : decode cX10_driesBy 46 = .ok (.getfield 52, 3) := by decide +kernel
theorem d_X10_driesBy_49 : decode cX10_driesBy 49 = .ok (.bipush 6, 2) := by decide +kernel
theorem d_X10_driesBy_51 : decode cX10_driesBy 51 = .ok (.iload 7, 2) := by decide +kernel
theorem d_X10_driesBy_53 : decode cX10_driesBy 53 = .ok (.iastore, 1) := by decide +kernel
theorem d_X10_driesBy_54 : decode cX10_driesBy 54 = .ok (.aload_n 0, 1) := by decide +kernel
theorem d_X10_driesBy_55 : decode cX10_driesBy 55 = .ok (.getfield 52, 3) := by decide +kernel
theorem d_X10_driesBy_58 : decode cX10_driesBy 58 = .ok (.bipush 7, 2) := by decide +kernel
theorem d_X10_driesBy_60 : decode cX10_driesBy 60 = .ok (.iload 8, 2) := by decide +kernel
theorem d_X10_driesBy_62 : decode cX10_driesBy 62 = .ok (.iastore, 1) := by decide +kernel
theorem d_X10_driesBy_63 : decode cX10_driesBy 63 = .ok (.aload_n 0, 1) := by decide +kernel
theorem d_X10_driesBy_64 : decode cX10_driesBy 64 = .ok (.invokevirtual 257, 3) := by decide +kernel
theorem d_X10_driesBy_67 : decode cX10_driesBy 67 = .ok (.ireturn, 1) := by decide +kernel
noncomputable def F_X10_driesBy (M : zMem) (p0 : Int32) (p1 : Int32) (p2 : Int32) (p3 : Int32) (p4 : Int32) (p5 : Int32) (p6 : Int32) (p7 : Int32) : Option (Int32 × zMem) :=
  zl (zI M 369 0 p0) fun M1 =>
  zl (zI M1 369 1 p1) fun M2 =>
  zl (zI M2 369 2 p2) fun M3 =>
  zl (zI M3 369 3 p3) fun M4 =>
  zl (zI M4 369 4 p4) fun M5 =>
  zl (zI M5 369 5 p5) fun M6 =>
  zl (zI M6 369 6 p6) fun M7 =>
  zl (zI M7 369 7 p7) fun M8 =>
  zb (F_X10_byLaw M8) fun v10 M9 =>
  some (v10, M9)
def rm_X10_driesBy : Room := { frames := 5, cells := 0, slots := 0, locals := 145 }
set_option maxHeartbeats 4000000 in
set_option maxRecDepth 100000 in
theorem c_X10_driesBy (l : Launch) {G : zG} {ad : Nat → Nat} {n : Nat} (hA : zInj ad n) (M : zMem) (p0 : Int32) (p1 : Int32) (p2 : Int32) (p3 : Int32) (p4 : Int32) (p5 : Int32) (p6 : Int32) (p7 : Int32) (hT : zT shM n 0 11) {r9 : Int32} {M9 : zMem} (hF : F_X10_driesBy M p0 p1 p2 p3 p4 p5 p6 p7 = some (r9, M9)) : zM l yX10_driesBy cX10_driesBy 9 (some .int) rm_X10_driesBy G shM ad n M [.ref (ad 0), .int p0, .int p1, .int p2, .int p3, .int p4, .int p5, .int p6, .int p7] (some (.int r9)) M9 := by
  refine zM_of hA (by decide +kernel) (lv := [(0, .ref (ad 0)), (1, .int p0), (2, .int p1), (3, .int p2), (4, .int p3), (5, .int p4), (6, .int p5), (7, .int p6), (8, .int p7)]) (Nat.le_of_ble_eq_true rfl) rfl (fun p e s m args below meth c A cx hr => ?_)
  unfold F_X10_driesBy at hF
  refine z_aload_n cx d_X10_driesBy_0 0 rfl ?_
  refine z_getR cx hT fg_SunnyPansModel_52 369 rfl d_X10_driesBy_1 ?_
  refine z_iconst (v := 0) cx d_X10_driesBy_4 ki_0 ?_
  refine z_iload_n cx d_X10_driesBy_5 1 rfl ?_
  refine z_iast cx (tfM_11_369 hT) za_26 (zvp (by decide +kernel)) 0 rfl d_X10_driesBy_6 ?_
  refine z_nmM hF (fun M1 hF => ?_)
  refine z_aload_n cx d_X10_driesBy_7 0 rfl ?_
  refine z_getR cx hT fg_SunnyPansModel_52 369 rfl d_X10_driesBy_8 ?_
  refine z_iconst (v := 1) cx d_X10_driesBy_11 ki_1 ?_
  refine z_iload_n cx d_X10_driesBy_12 2 rfl ?_
  refine z_iast cx (tfM_11_369 hT) za_26 (zvp (by decide +kernel)) 1 rfl d_X10_driesBy_13 ?_
  refine z_nmM hF (fun M2 hF => ?_)
  refine z_aload_n cx d_X10_driesBy_14 0 rfl ?_
  refine z_getR cx hT fg_SunnyPansModel_52 369 rfl d_X10_driesBy_15 ?_
  refine z_iconst (v := 2) cx d_X10_driesBy_18 ki_2 ?_
  refine z_iload_n cx d_X10_driesBy_19 3 rfl ?_
  refine z_iast cx (tfM_11_369 hT) za_26 (zvp (by decide +kernel)) 2 rfl d_X10_driesBy_20 ?_
  refine z_nmM hF (fun M3 hF => ?_)
  refine z_aload_n cx d_X10_driesBy_21 0 rfl ?_
  refine z_getR cx hT fg_SunnyPansModel_52 369 rfl d_X10_driesBy_22 ?_
  refine z_iconst (v := 3) cx d_X10_driesBy_25 ki_3 ?_
  refine z_iload cx d_X10_driesBy_26 4 rfl ?_
  refine z_iast cx (tfM_11_369 hT) za_26 (zvp (by decide +kernel)) 3 rfl d_X10_driesBy_28 ?_
  refine z_nmM hF (fun M4 hF => ?_)
  refine z_aload_n cx d_X10_driesBy_29 0 rfl ?_
  refine z_getR cx hT fg_SunnyPansModel_52 369 rfl d_X10_driesBy_30 ?_
  refine z_iconst (v := 4) cx d_X10_driesBy_33 ki_4 ?_
  refine z_iload cx d_X10_driesBy_34 5 rfl ?_
  refine z_iast cx (tfM_11_369 hT) za_26 (zvp (by decide +kernel)) 4 rfl d_X10_driesBy_36 ?_
  refine z_nmM hF (fun M5 hF => ?_)
  refine z_aload_n cx d_X10_driesBy_37 0 rfl ?_
  refine z_getR cx hT fg_SunnyPansModel_52 369 rfl d_X10_driesBy_38 ?_
  refine z_iconst (v := 5) cx d_X10_driesBy_41 ki_5 ?_
  refine z_iload cx d_X10_driesBy_42 6 rfl ?_
  refine z_iast cx (tfM_11_369 hT) za_26 (zvp (by decide +kernel)) 5 rfl d_X10_driesBy_44 ?_
  refine z_nmM hF (fun M6 hF => ?_)
  refine z_aload_n cx d_X10_driesBy_45 0 rfl ?_
  refine z_getR cx hT fg_SunnyPansModel_52 369 rfl d_X10_driesBy_46 ?_
  refine z_bipush (v := 6) cx d_X10_driesBy_49 kb_6 ?_
  refine z_iload cx d_X10_driesBy_51 7 rfl ?_
  refine z_iast cx (tfM_11_369 hT) za_26 (zvp (by decide +kernel)) 6 rfl d_X10_driesBy_53 ?_
  refine z_nmM hF (fun M7 hF => ?_)
  refine z_aload_n cx d_X10_driesBy_54 0 rfl ?_
  refine z_getR cx hT fg_SunnyPansModel_52 369 rfl d_X10_driesBy_55 ?_
  refine z_bipush (v := 7) cx d_X10_driesBy_58 kb_7 ?_
  refine z_iload cx d_X10_driesBy_60 8 rfl ?_
  refine z_iast cx (tfM_11_369 hT) za_26 (zvp (by decide +kernel)) 7 rfl d_X10_driesBy_62 ?_
  refine z_nmM hF (fun M8 hF => ?_)
  refine z_aload_n cx d_X10_driesBy_63 0 rfl ?_
  obtain ⟨v10, M9, hc, hF⟩ := zb_inv hF
  refine z_callV cx (As := []) (rest := []) (c_X10_byLaw l cx.2.2.2.1.1 M8 hT hc) hT zo_11 cv_SunnyPansModel_257 ⟨rfl, rfl, Nat.le_of_ble_eq_true rfl, Nat.le_of_ble_eq_true rfl⟩ rfl rfl ⟨Nat.zero_le _, Nat.zero_le _⟩ (Nat.le_of_ble_eq_true rfl) d_X10_driesBy_64 ?_
  exact z_iret cx hr rfl hF d_X10_driesBy_67
/-! SunnyPansModel.driesOf -/
set_option maxRecDepth 100000 in
theorem wd_1731 : Cond.code yX10_driesBy cX10_driesBy 9 (some .int) ∈ tbG := tw7 191 rfl rfl
set_option maxRecDepth 100000 in
theorem wd_1728 : Cond.methodLink "SunnyPansModel" 260 yX10_driesBy ∈ tbG := tw7 188 rfl rfl
set_option maxRecDepth 100000 in
theorem wd_1730 : Cond.instanceMethod yX10_driesBy ∈ tbG := tw7 190 rfl rfl
theorem wd_79 : Cond.selects "SunnyPansModel" yX10_driesBy yX10_driesBy ∈ tbG := tw 79 (by decide +kernel) rfl
theorem cv_SunnyPansModel_260 : zCV "SunnyPansModel" 260 "SunnyPansModel" yX10_driesBy cX10_driesBy 9 (some .int) 8 := zCV_of wd_1728 wd_1730 wd_79 wd_111 wd_1731 (by decide +kernel)
theorem d_X10_driesOf_0 : decode cX10_driesOf 0 = .ok (.aload_n 0, 1) := by decide +kernel
theorem d_X10_driesOf_1 : decode cX10_driesOf 1 = .ok (.aload_n 1, 1) := by decide +kernel
theorem d_X10_driesOf_2 : decode cX10_driesOf 2 = .ok (.iconst 0, 1) := by decide +kernel
theorem d_X10_driesOf_3 : decode cX10_driesOf 3 = .ok (.iload_n 2, 1) := by decide +kernel
theorem d_X10_driesOf_4 : decode cX10_driesOf 4 = .ok (.iadd, 1) := by decide +kernel
theorem d_X10_driesOf_5 : decode cX10_driesOf 5 = .ok (.iaload, 1) := by decide +kernel
theorem d_X10_driesOf_6 : decode cX10_driesOf 6 = .ok (.aload_n 1, 1) := by decide +kernel
theorem d_X10_driesOf_7 : decode cX10_driesOf 7 = .ok (.bipush 64, 2) := by decide +kernel
theorem d_X10_driesOf_9 : decode cX10_driesOf 9 = .ok (.iload_n 2, 1) := by decide +kernel
theorem d_X10_driesOf_10 : decode cX10_driesOf 10 = .ok (.iadd, 1) := by decide +kernel
theorem d_X10_driesOf_11 : decode cX10_driesOf 11 = .ok (.iaload, 1) := by decide +kernel
theorem d_X10_driesOf_12 : decode cX10_driesOf 12 = .ok (.aload_n 0, 1) := by decide +kernel
theorem d_X10_driesOf_13 : decode cX10_driesOf 13 = .ok (.getfield 34, 3) := by decide +kernel
theorem d_X10_driesOf_16 : decode cX10_driesOf 16 = .ok (.iload_n 3, 1) := by decide +kernel
theorem d_X10_driesOf_17 : decode cX10_driesOf 17 = .ok (.aaload, 1) := by decide +kernel
theorem d_X10_driesOf_18 : decode cX10_driesOf 18 = .ok (.iconst 1, 1) := by decide +kernel
theorem d_X10_driesOf_19 : decode cX10_driesOf 19 = .ok (.iaload, 1) := by decide +kernel
theorem d_X10_driesOf_20 : decode cX10_driesOf 20 = .ok (.aload_n 0, 1) := by decide +kernel
theorem d_X10_driesOf_21 : decode cX10_driesOf 21 = .ok (.getfield 34, 3) := by decide +kernel
theorem d_X10_driesOf_24 : decode cX10_driesOf 24 = .ok (.iload_n 3, 1) := by decide +kernel
theorem d_X10_driesOf_25 : decode cX10_driesOf 25 = .ok (.aaload, 1) := by decide +kernel
theorem d_X10_driesOf_26 : decode cX10_driesOf 26 = .ok (.iconst 0, 1) := by decide +kernel
theorem d_X10_driesOf_27 : decode cX10_driesOf 27 = .ok (.iaload, 1) := by decide +kernel
theorem d_X10_driesOf_28 : decode cX10_driesOf 28 = .ok (.iload_n 3, 1) := by decide +kernel
theorem d_X10_driesOf_29 : decode cX10_driesOf 29 = .ok (.aload_n 1, 1) := by decide +kernel
theorem d_X10_driesOf_30 : decode cX10_driesOf 30 = .ok (.sipush 192, 3) := by decide +kernel
theorem d_X10_driesOf_33 : decode cX10_driesOf 33 = .ok (.iaload, 1) := by decide +kernel
theorem d_X10_driesOf_34 : decode cX10_driesOf 34 = .ok (.iload_n 2, 1) := by decide +kernel
theorem d_X10_driesOf_35 : decode cX10_driesOf 35 = .ok (.bipush 8, 2) := by decide +kernel
theorem d_X10_driesOf_37 : decode cX10_driesOf 37 = .ok (.irem, 1) := by decide +kernel
theorem d_X10_driesOf_38 : decode cX10_driesOf 38 = .ok (.iload_n 2, 1) := by decide +kernel
theorem d_X10_driesOf_39 : decode cX10_driesOf 39 = .ok (.bipush 8, 2) := by decide +kernel
theorem d_X10_driesOf_41 : decode cX10_driesOf 41 = .ok (.idiv, 1) := by decide +kernel
theorem d_X10_driesOf_42 : decode cX10_driesOf 42 = .ok (.invokevirtual 260, 3) := by decide +kernel
theorem d_X10_driesOf_45 : decode cX10_driesOf 45 = .ok (.ireturn, 1) := by decide +kernel
noncomputable def F_X10_driesOf (M : zMem) (p0 : Nat) (p1 : Int32) (p2 : Int32) : Option (Int32 × zMem) :=
  gin ((0 : Int32) + p1) 195 <|
  gin ((64 : Int32) + p1) 195 <|
  gin p2 10 <|
  zb (F_X10_driesBy M (M.1 p0 ((0 : Int32) + p1).toNatClampNeg) (M.1 p0 ((64 : Int32) + p1).toNatClampNeg) (M.1 (17 + (1 + 1 * p2.toNatClampNeg)) 1) (M.1 (17 + (1 + 1 * p2.toNatClampNeg)) 0) p2 (M.1 p0 192) (p1 - p1 / (8 : Int32) * (8 : Int32)) (p1 / (8 : Int32))) fun v5 M4 =>
  some (v5, M4)
def rm_X10_driesOf : Room := { frames := 6, cells := 0, slots := 0, locals := 173 }
set_option maxHeartbeats 4000000 in
set_option maxRecDepth 100000 in
theorem c_X10_driesOf (l : Launch) {G : zG} {ad : Nat → Nat} {n : Nat} (hA : zInj ad n) (M : zMem) (p0 : Nat) (p1 : Int32) (p2 : Int32) (hT : zT shM n 0 11) (hT_p0 : zT shM n p0 36) {r9 : Int32} {M9 : zMem} (hF : F_X10_driesOf M p0 p1 p2 = some (r9, M9)) : zM l yX10_driesOf cX10_driesOf 4 (some .int) rm_X10_driesOf G shM ad n M [.ref (ad 0), .ref (ad p0), .int p1, .int p2] (some (.int r9)) M9 := by
  refine zM_of hA (by decide +kernel) (lv := [(0, .ref (ad 0)), (1, .ref (ad p0)), (2, .int p1), (3, .int p2)]) (Nat.le_of_ble_eq_true rfl) rfl (fun p e s m args below meth c A cx hr => ?_)
  unfold F_X10_driesOf at hF
  refine z_aload_n cx d_X10_driesOf_0 0 rfl ?_
  refine z_aload_n cx d_X10_driesOf_1 1 rfl ?_
  refine z_iconst (v := 0) cx d_X10_driesOf_2 ki_0 ?_
  refine z_iload_n cx d_X10_driesOf_3 2 rfl ?_
  refine z_iadd cx d_X10_driesOf_4 ?_
  obtain ⟨hi1, hF⟩ := gin_inv hF
  refine z_iald cx hT_p0 za_36 hi1 (((0 : Int32) + p1).toNatClampNeg) rfl d_X10_driesOf_5 ?_
  refine z_aload_n cx d_X10_driesOf_6 1 rfl ?_
  refine z_bipush (v := 64) cx d_X10_driesOf_7 kb_64 ?_
  refine z_iload_n cx d_X10_driesOf_9 2 rfl ?_
  refine z_iadd cx d_X10_driesOf_10 ?_
  obtain ⟨hi2, hF⟩ := gin_inv hF
  refine z_iald cx hT_p0 za_36 hi2 (((64 : Int32) + p1).toNatClampNeg) rfl d_X10_driesOf_11 ?_
  refine z_aload_n cx d_X10_driesOf_12 0 rfl ?_
  refine z_getR cx hT fg_SunnyPansModel_34 17 rfl d_X10_driesOf_13 ?_
  refine z_iload_n cx d_X10_driesOf_16 3 rfl ?_
  obtain ⟨hi3, hF⟩ := gin_inv hF
  refine z_aald cx (tfM_11_17 hT) za_30 hi3 (17 + (1 + 1 * p2.toNatClampNeg)) rfl d_X10_driesOf_17 ?_
  refine z_iconst (v := 1) cx d_X10_driesOf_18 ki_1 ?_
  refine z_iald cx (teM_30 (tfM_11_17 hT) hi3) za_27 (zvp (by decide +kernel)) 1 rfl d_X10_driesOf_19 ?_
  refine z_aload_n cx d_X10_driesOf_20 0 rfl ?_
  refine z_getR cx hT fg_SunnyPansModel_34 17 rfl d_X10_driesOf_21 ?_
  refine z_iload_n cx d_X10_driesOf_24 3 rfl ?_
  refine z_aald cx (tfM_11_17 hT) za_30 hi3 (17 + (1 + 1 * p2.toNatClampNeg)) rfl d_X10_driesOf_25 ?_
  refine z_iconst (v := 0) cx d_X10_driesOf_26 ki_0 ?_
  refine z_iald cx (teM_30 (tfM_11_17 hT) hi3) za_27 (zvp (by decide +kernel)) 0 rfl d_X10_driesOf_27 ?_
  refine z_iload_n cx d_X10_driesOf_28 3 rfl ?_
  refine z_aload_n cx d_X10_driesOf_29 1 rfl ?_
  refine z_sipush (v := 192) cx d_X10_driesOf_30 ks_192 ?_
  refine z_iald cx hT_p0 za_36 (zvp (by decide +kernel)) 192 rfl d_X10_driesOf_33 ?_
  refine z_iload_n cx d_X10_driesOf_34 2 rfl ?_
  refine z_bipush (v := 8) cx d_X10_driesOf_35 kb_8 ?_
  refine z_irem cx d_X10_driesOf_37 (by decide) ?_
  refine z_iload_n cx d_X10_driesOf_38 2 rfl ?_
  refine z_bipush (v := 8) cx d_X10_driesOf_39 kb_8 ?_
  refine z_idiv cx d_X10_driesOf_41 (by decide) ?_
  obtain ⟨v5, M4, hc, hF⟩ := zb_inv hF
  refine z_callV cx (As := [.int (M.1 p0 ((0 : Int32) + p1).toNatClampNeg), .int (M.1 p0 ((64 : Int32) + p1).toNatClampNeg), .int (M.1 (17 + (1 + 1 * p2.toNatClampNeg)) 1), .int (M.1 (17 + (1 + 1 * p2.toNatClampNeg)) 0), .int p2, .int (M.1 p0 192), .int (p1 - p1 / (8 : Int32) * (8 : Int32)), .int (p1 / (8 : Int32))]) (rest := []) (c_X10_driesBy l cx.2.2.2.1.1 M (M.1 p0 ((0 : Int32) + p1).toNatClampNeg) (M.1 p0 ((64 : Int32) + p1).toNatClampNeg) (M.1 (17 + (1 + 1 * p2.toNatClampNeg)) 1) (M.1 (17 + (1 + 1 * p2.toNatClampNeg)) 0) p2 (M.1 p0 192) (p1 - p1 / (8 : Int32) * (8 : Int32)) (p1 / (8 : Int32)) hT hc) hT zo_11 cv_SunnyPansModel_260 ⟨rfl, rfl, Nat.le_of_ble_eq_true rfl, Nat.le_of_ble_eq_true rfl⟩ rfl rfl ⟨Nat.zero_le _, Nat.zero_le _⟩ (Nat.le_of_ble_eq_true rfl) d_X10_driesOf_42 ?_
  exact z_iret cx hr rfl hF d_X10_driesOf_45
/-! SunnyPansModel.nextHour -/
theorem ks_193 : (Int16.ofInt (193)).toInt32 = (193 : Int32) := by decide +kernel
theorem d_X10_nextHour_0 : decode cX10_nextHour 0 = .ok (.aload_n 1, 1) := by decide +kernel
theorem d_X10_nextHour_1 : decode cX10_nextHour 1 = .ok (.sipush 193, 3) := by decide +kernel
theorem d_X10_nextHour_4 : decode cX10_nextHour 4 = .ok (.dup2, 1) := by decide +kernel
theorem d_X10_nextHour_5 : decode cX10_nextHour 5 = .ok (.iaload, 1) := by decide +kernel
theorem d_X10_nextHour_6 : decode cX10_nextHour 6 = .ok (.iconst 1, 1) := by decide +kernel
theorem d_X10_nextHour_7 : decode cX10_nextHour 7 = .ok (.iadd, 1) := by decide +kernel
theorem d_X10_nextHour_8 : decode cX10_nextHour 8 = .ok (.iastore, 1) := by decide +kernel
theorem d_X10_nextHour_9 : decode cX10_nextHour 9 = .ok (.aload_n 1, 1) := by decide +kernel
theorem d_X10_nextHour_10 : decode cX10_nextHour 10 = .ok (.sipush 193, 3) := by decide +kernel
theorem d_X10_nextHour_13 : decode cX10_nextHour 13 = .ok (.iaload, 1) := by decide +kernel
theorem d_X10_nextHour_14 : decode cX10_nextHour 14 = .ok (.aload_n 0, 1) := by decide +kernel
theorem d_X10_nextHour_15 : decode cX10_nextHour 15 = .ok (.getfield 23, 3) := by decide +kernel
theorem d_X10_nextHour_18 : decode cX10_nextHour 18 = .ok (.iconst 2, 1) := by decide +kernel
theorem d_X10_nextHour_19 : decode cX10_nextHour 19 = .ok (.iaload, 1) := by decide +kernel
theorem d_X10_nextHour_20 : decode cX10_nextHour 20 = .ok (.if_icmp .ge 4, 3) := by decide +kernel
theorem d_X10_nextHour_23 : decode cX10_nextHour 23 = .ok (.return_, 1) := by decide +kernel
theorem d_X10_nextHour_24 : decode cX10_nextHour 24 = .ok (.aload_n 1, 1) := by decide +kernel
theorem d_X10_nextHour_25 : decode cX10_nextHour 25 = .ok (.sipush 193, 3) := by decide +kernel
theorem d_X10_nextHour_28 : decode cX10_nextHour 28 = .ok (.iconst 0, 1) := by decide +kernel
theorem d_X10_nextHour_29 : decode cX10_nextHour 29 = .ok (.iastore, 1) := by decide +kernel
theorem d_X10_nextHour_30 : decode cX10_nextHour 30 = .ok (.aload_n 1, 1) := by decide +kernel
theorem d_X10_nextHour_31 : decode cX10_nextHour 31 = .ok (.sipush 192, 3) := by decide +kernel
theorem d_X10_nextHour_34 : decode cX10_nextHour 34 = .ok (.dup2, 1) := by decide +kernel
theorem d_X10_nextHour_35 : decode cX10_nextHour 35 = .ok (.iaload, 1) := by decide +kernel
theorem d_X10_nextHour_36 : decode cX10_nextHour 36 = .ok (.iconst 1, 1) := by decide +kernel
theorem d_X10_nextHour_37 : decode cX10_nextHour 37 = .ok (.iadd, 1) := by decide +kernel
theorem d_X10_nextHour_38 : decode cX10_nextHour 38 = .ok (.iastore, 1) := by decide +kernel
theorem d_X10_nextHour_39 : decode cX10_nextHour 39 = .ok (.return_, 1) := by decide +kernel
noncomputable def F_X10_nextHour (M : zMem) (p0 : Nat) : Option (zMem) :=
  zl (zI M p0 193 ((M.1 p0 193) + (1 : Int32))) fun M1 =>
  if (M1.1 4 2) ≤ (M1.1 p0 193) then
    zl (zI M1 p0 193 (0 : Int32)) fun M2 =>
    zl (zI M2 p0 192 ((M2.1 p0 192) + (1 : Int32))) fun M3 =>
    some M3
  else
    some M1
def rm_X10_nextHour : Room := { frames := 2, cells := 0, slots := 0, locals := 80 }
set_option maxHeartbeats 4000000 in
set_option maxRecDepth 100000 in
theorem c_X10_nextHour (l : Launch) {G : zG} {ad : Nat → Nat} {n : Nat} (hA : zInj ad n) (M : zMem) (p0 : Nat) (hT : zT shM n 0 11) (hT_p0 : zT shM n p0 36) {M9 : zMem} (hF : F_X10_nextHour M p0 = some M9) : zM l yX10_nextHour cX10_nextHour 2 none rm_X10_nextHour G shM ad n M [.ref (ad 0), .ref (ad p0)] none M9 := by
  refine zM_of hA (by decide +kernel) (lv := [(0, .ref (ad 0)), (1, .ref (ad p0))]) (Nat.le_of_ble_eq_true rfl) rfl (fun p e s m args below meth c A cx hr => ?_)
  unfold F_X10_nextHour at hF
  refine z_aload_n cx d_X10_nextHour_0 1 rfl ?_
  refine z_sipush (v := 193) cx d_X10_nextHour_1 ks_193 ?_
  refine z_dup2 cx d_X10_nextHour_4 rfl rfl ?_
  refine z_iald cx hT_p0 za_36 (zvp (by decide +kernel)) 193 rfl d_X10_nextHour_5 ?_
  refine z_iconst (v := 1) cx d_X10_nextHour_6 ki_1 ?_
  refine z_iadd cx d_X10_nextHour_7 ?_
  refine z_iast cx hT_p0 za_36 (zvp (by decide +kernel)) 193 rfl d_X10_nextHour_8 ?_
  refine z_nmM hF (fun M1 hF => ?_)
  refine z_aload_n cx d_X10_nextHour_9 1 rfl ?_
  refine z_sipush (v := 193) cx d_X10_nextHour_10 ks_193 ?_
  refine z_iald cx hT_p0 za_36 (zvp (by decide +kernel)) 193 rfl d_X10_nextHour_13 ?_
  refine z_aload_n cx d_X10_nextHour_14 0 rfl ?_
  refine z_getR cx hT fg_SunnyPansModel_23 4 rfl d_X10_nextHour_15 ?_
  refine z_iconst (v := 2) cx d_X10_nextHour_18 ki_2 ?_
  refine z_iald cx (tfM_11_4 hT) za_28 (zvp (by decide +kernel)) 2 rfl d_X10_nextHour_19 ?_
  refine z_icmp_ge cx 24 d_X10_nextHour_20 (by decide) hF (fun hF => ?_) (fun hF => ?_)
  · refine z_aload_n cx d_X10_nextHour_24 1 rfl ?_
    refine z_sipush (v := 193) cx d_X10_nextHour_25 ks_193 ?_
    refine z_iconst (v := 0) cx d_X10_nextHour_28 ki_0 ?_
    refine z_iast cx hT_p0 za_36 (zvp (by decide +kernel)) 193 rfl d_X10_nextHour_29 ?_
    refine z_nmM hF (fun M2 hF => ?_)
    refine z_aload_n cx d_X10_nextHour_30 1 rfl ?_
    refine z_sipush (v := 192) cx d_X10_nextHour_31 ks_192 ?_
    refine z_dup2 cx d_X10_nextHour_34 rfl rfl ?_
    refine z_iald cx hT_p0 za_36 (zvp (by decide +kernel)) 192 rfl d_X10_nextHour_35 ?_
    refine z_iconst (v := 1) cx d_X10_nextHour_36 ki_1 ?_
    refine z_iadd cx d_X10_nextHour_37 ?_
    refine z_iast cx hT_p0 za_36 (zvp (by decide +kernel)) 192 rfl d_X10_nextHour_38 ?_
    refine z_nmM hF (fun M3 hF => ?_)
    exact z_vret cx hr hF d_X10_nextHour_39
  exact z_vret cx hr hF d_X10_nextHour_23
/-! SunnyPansModel.driesOne -/
set_option maxRecDepth 100000 in
theorem wd_1706 : Cond.code yX10_isShade cX10_isShade 5 (some .boolean) ∈ tbG := tw7 166 rfl rfl
set_option maxRecDepth 100000 in
theorem wd_1703 : Cond.methodLink "SunnyPansModel" 264 yX10_isShade ∈ tbG := tw7 163 rfl rfl
set_option maxRecDepth 100000 in
theorem wd_1705 : Cond.instanceMethod yX10_isShade ∈ tbG := tw7 165 rfl rfl
theorem wd_75 : Cond.selects "SunnyPansModel" yX10_isShade yX10_isShade ∈ tbG := tw 75 (by decide +kernel) rfl
theorem cv_SunnyPansModel_264 : zCV "SunnyPansModel" 264 "SunnyPansModel" yX10_isShade cX10_isShade 5 (some .boolean) 3 := zCV_of wd_1703 wd_1705 wd_75 wd_111 wd_1706 (by decide +kernel)
set_option maxRecDepth 100000 in
theorem wd_1727 : Cond.code yX10_driesOf cX10_driesOf 4 (some .int) ∈ tbG := tw7 187 rfl rfl
set_option maxRecDepth 100000 in
theorem wd_1724 : Cond.methodLink "SunnyPansModel" 268 yX10_driesOf ∈ tbG := tw7 184 rfl rfl
set_option maxRecDepth 100000 in
theorem wd_1726 : Cond.instanceMethod yX10_driesOf ∈ tbG := tw7 186 rfl rfl
theorem wd_78 : Cond.selects "SunnyPansModel" yX10_driesOf yX10_driesOf ∈ tbG := tw 78 (by decide +kernel) rfl
theorem cv_SunnyPansModel_268 : zCV "SunnyPansModel" 268 "SunnyPansModel" yX10_driesOf cX10_driesOf 4 (some .int) 3 := zCV_of wd_1724 wd_1726 wd_78 wd_111 wd_1727 (by decide +kernel)
theorem d_X10_driesOne_0 : decode cX10_driesOne 0 = .ok (.aload_n 1, 1) := by decide +kernel
theorem d_X10_driesOne_1 : decode cX10_driesOne 1 = .ok (.iconst 0, 1) := by decide +kernel
theorem d_X10_driesOne_2 : decode cX10_driesOne 2 = .ok (.iload_n 2, 1) := by decide +kernel
theorem d_X10_driesOne_3 : decode cX10_driesOne 3 = .ok (.iadd, 1) := by decide +kernel
theorem d_X10_driesOne_4 : decode cX10_driesOne 4 = .ok (.iaload, 1) := by decide +kernel
theorem d_X10_driesOne_5 : decode cX10_driesOne 5 = .ok (.ifCond .le 43, 3) := by decide +kernel
theorem d_X10_driesOne_8 : decode cX10_driesOne 8 = .ok (.aload_n 0, 1) := by decide +kernel
theorem d_X10_driesOne_9 : decode cX10_driesOne 9 = .ok (.aload_n 1, 1) := by decide +kernel
theorem d_X10_driesOne_10 : decode cX10_driesOne 10 = .ok (.iload_n 2, 1) := by decide +kernel
theorem d_X10_driesOne_11 : decode cX10_driesOne 11 = .ok (.aload_n 1, 1) := by decide +kernel
theorem d_X10_driesOne_12 : decode cX10_driesOne 12 = .ok (.sipush 193, 3) := by decide +kernel
theorem d_X10_driesOne_15 : decode cX10_driesOne 15 = .ok (.iaload, 1) := by decide +kernel
theorem d_X10_driesOne_16 : decode cX10_driesOne 16 = .ok (.invokevirtual 264, 3) := by decide +kernel
theorem d_X10_driesOne_19 : decode cX10_driesOne 19 = .ok (.ifCond .ne 29, 3) := by decide +kernel
theorem d_X10_driesOne_22 : decode cX10_driesOne 22 = .ok (.aload_n 1, 1) := by decide +kernel
theorem d_X10_driesOne_23 : decode cX10_driesOne 23 = .ok (.iconst 0, 1) := by decide +kernel
theorem d_X10_driesOne_24 : decode cX10_driesOne 24 = .ok (.iload_n 2, 1) := by decide +kernel
theorem d_X10_driesOne_25 : decode cX10_driesOne 25 = .ok (.iadd, 1) := by decide +kernel
theorem d_X10_driesOne_26 : decode cX10_driesOne 26 = .ok (.iconst 0, 1) := by decide +kernel
theorem d_X10_driesOne_27 : decode cX10_driesOne 27 = .ok (.aload_n 1, 1) := by decide +kernel
theorem d_X10_driesOne_28 : decode cX10_driesOne 28 = .ok (.iconst 0, 1) := by decide +kernel
theorem d_X10_driesOne_29 : decode cX10_driesOne 29 = .ok (.iload_n 2, 1) := by decide +kernel
theorem d_X10_driesOne_30 : decode cX10_driesOne 30 = .ok (.iadd, 1) := by decide +kernel
theorem d_X10_driesOne_31 : decode cX10_driesOne 31 = .ok (.iaload, 1) := by decide +kernel
theorem d_X10_driesOne_32 : decode cX10_driesOne 32 = .ok (.aload_n 0, 1) := by decide +kernel
theorem d_X10_driesOne_33 : decode cX10_driesOne 33 = .ok (.aload_n 1, 1) := by decide +kernel
theorem d_X10_driesOne_34 : decode cX10_driesOne 34 = .ok (.iload_n 2, 1) := by decide +kernel
theorem d_X10_driesOne_35 : decode cX10_driesOne 35 = .ok (.aload_n 1, 1) := by decide +kernel
theorem d_X10_driesOne_36 : decode cX10_driesOne 36 = .ok (.sipush 193, 3) := by decide +kernel
theorem d_X10_driesOne_39 : decode cX10_driesOne 39 = .ok (.iaload, 1) := by decide +kernel
theorem d_X10_driesOne_40 : decode cX10_driesOne 40 = .ok (.invokevirtual 268, 3) := by decide +kernel
theorem d_X10_driesOne_43 : decode cX10_driesOne 43 = .ok (.isub, 1) := by decide +kernel
theorem d_X10_driesOne_44 : decode cX10_driesOne 44 = .ok (.invokestatic 218, 3) := by decide +kernel
theorem d_X10_driesOne_47 : decode cX10_driesOne 47 = .ok (.iastore, 1) := by decide +kernel
theorem d_X10_driesOne_48 : decode cX10_driesOne 48 = .ok (.return_, 1) := by decide +kernel
noncomputable def F_X10_driesOne (M : zMem) (p0 : Nat) (p1 : Int32) : Option (zMem) :=
  gin ((0 : Int32) + p1) 195 <|
  if (M.1 p0 ((0 : Int32) + p1).toNatClampNeg) ≤ 0 then
    some M
  else
    zb (F_X10_isShade M p0 p1 (M.1 p0 193)) fun v3 M2 =>
    if v3 = 0 then
      zb (F_X10_driesOf M2 p0 p1 (M2.1 p0 193)) fun v5 M4 =>
      zb (F_X10_more M4 (0 : Int32) ((M2.1 p0 ((0 : Int32) + p1).toNatClampNeg) - v5)) fun v7 M6 =>
      zl (zI M6 p0 (((0 : Int32) + p1).toNatClampNeg) v7) fun M8 =>
      some M8
    else
      some M2
def rm_X10_driesOne : Room := { frames := 7, cells := 0, slots := 0, locals := 196 }
set_option maxHeartbeats 4000000 in
set_option maxRecDepth 100000 in
theorem c_X10_driesOne (l : Launch) {G : zG} {ad : Nat → Nat} {n : Nat} (hA : zInj ad n) (M : zMem) (p0 : Nat) (p1 : Int32) (hT : zT shM n 0 11) (hT_p0 : zT shM n p0 36) {M9 : zMem} (hF : F_X10_driesOne M p0 p1 = some M9) : zM l yX10_driesOne cX10_driesOne 3 none rm_X10_driesOne G shM ad n M [.ref (ad 0), .ref (ad p0), .int p1] none M9 := by
  refine zM_of hA (by decide +kernel) (lv := [(0, .ref (ad 0)), (1, .ref (ad p0)), (2, .int p1)]) (Nat.le_of_ble_eq_true rfl) rfl (fun p e s m args below meth c A cx hr => ?_)
  unfold F_X10_driesOne at hF
  refine z_aload_n cx d_X10_driesOne_0 1 rfl ?_
  refine z_iconst (v := 0) cx d_X10_driesOne_1 ki_0 ?_
  refine z_iload_n cx d_X10_driesOne_2 2 rfl ?_
  refine z_iadd cx d_X10_driesOne_3 ?_
  obtain ⟨hi1, hF⟩ := gin_inv hF
  refine z_iald cx hT_p0 za_36 hi1 (((0 : Int32) + p1).toNatClampNeg) rfl d_X10_driesOne_4 ?_
  refine z_if_le cx 48 d_X10_driesOne_5 (by decide) hF (fun hF => ?_) (fun hF => ?_)
  · exact z_vret cx hr hF d_X10_driesOne_48
  refine z_aload_n cx d_X10_driesOne_8 0 rfl ?_
  refine z_aload_n cx d_X10_driesOne_9 1 rfl ?_
  refine z_iload_n cx d_X10_driesOne_10 2 rfl ?_
  refine z_aload_n cx d_X10_driesOne_11 1 rfl ?_
  refine z_sipush (v := 193) cx d_X10_driesOne_12 ks_193 ?_
  refine z_iald cx hT_p0 za_36 (zvp (by decide +kernel)) 193 rfl d_X10_driesOne_15 ?_
  obtain ⟨v3, M2, hc, hF⟩ := zb_inv hF
  refine z_callV cx (As := [.ref (ad p0), .int p1, .int (M.1 p0 193)]) (rest := []) (c_X10_isShade l cx.2.2.2.1.1 M p0 p1 (M.1 p0 193) hT hT_p0 hc) hT zo_11 cv_SunnyPansModel_264 ⟨rfl, rfl, Nat.le_of_ble_eq_true rfl, Nat.le_of_ble_eq_true rfl⟩ rfl rfl ⟨Nat.zero_le _, Nat.zero_le _⟩ (Nat.le_of_ble_eq_true rfl) d_X10_driesOne_16 ?_
  refine z_if_ne cx 48 d_X10_driesOne_19 (by decide) hF (fun hF => ?_) (fun hF => ?_)
  · exact z_vret cx hr hF d_X10_driesOne_48
  refine z_aload_n cx d_X10_driesOne_22 1 rfl ?_
  refine z_iconst (v := 0) cx d_X10_driesOne_23 ki_0 ?_
  refine z_iload_n cx d_X10_driesOne_24 2 rfl ?_
  refine z_iadd cx d_X10_driesOne_25 ?_
  refine z_iconst (v := 0) cx d_X10_driesOne_26 ki_0 ?_
  refine z_aload_n cx d_X10_driesOne_27 1 rfl ?_
  refine z_iconst (v := 0) cx d_X10_driesOne_28 ki_0 ?_
  refine z_iload_n cx d_X10_driesOne_29 2 rfl ?_
  refine z_iadd cx d_X10_driesOne_30 ?_
  refine z_iald cx hT_p0 za_36 hi1 (((0 : Int32) + p1).toNatClampNeg) rfl d_X10_driesOne_31 ?_
  refine z_aload_n cx d_X10_driesOne_32 0 rfl ?_
  refine z_aload_n cx d_X10_driesOne_33 1 rfl ?_
  refine z_iload_n cx d_X10_driesOne_34 2 rfl ?_
  refine z_aload_n cx d_X10_driesOne_35 1 rfl ?_
  refine z_sipush (v := 193) cx d_X10_driesOne_36 ks_193 ?_
  refine z_iald cx hT_p0 za_36 (zvp (by decide +kernel)) 193 rfl d_X10_driesOne_39 ?_
  obtain ⟨v5, M4, hc, hF⟩ := zb_inv hF
  refine z_callV cx (As := [.ref (ad p0), .int p1, .int (M2.1 p0 193)]) (rest := [.int (M2.1 p0 ((0 : Int32) + p1).toNatClampNeg), .int (0 : Int32), .int ((0 : Int32) + p1), .ref (ad p0)]) (c_X10_driesOf l cx.2.2.2.1.1 M2 p0 p1 (M2.1 p0 193) hT hT_p0 hc) hT zo_11 cv_SunnyPansModel_268 ⟨rfl, rfl, Nat.le_of_ble_eq_true rfl, Nat.le_of_ble_eq_true rfl⟩ rfl rfl ⟨Nat.zero_le _, Nat.zero_le _⟩ (Nat.le_of_ble_eq_true rfl) d_X10_driesOne_40 ?_
  refine z_isub cx d_X10_driesOne_43 ?_
  obtain ⟨v7, M6, hc, hF⟩ := zb_inv hF
  refine z_callS cx (As := [.int (0 : Int32), .int ((M2.1 p0 ((0 : Int32) + p1).toNatClampNeg) - v5)]) (rest := [.int ((0 : Int32) + p1), .ref (ad p0)]) (c_X10_more l cx.2.2.2.1.1 M4 (0 : Int32) ((M2.1 p0 ((0 : Int32) + p1).toNatClampNeg) - v5)  hc) cs_SunnyPansModel_218 ⟨rfl, rfl, Nat.le_of_ble_eq_true rfl, Nat.le_of_ble_eq_true rfl⟩ rfl rfl ⟨Nat.zero_le _, Nat.zero_le _⟩ (Nat.le_of_ble_eq_true rfl) d_X10_driesOne_44 ?_
  refine z_iast cx hT_p0 za_36 hi1 (((0 : Int32) + p1).toNatClampNeg) rfl d_X10_driesOne_47 ?_
  refine z_nmM hF (fun M8 hF => ?_)
  exact z_vret cx hr hF d_X10_driesOne_48
/-! SunnyPansModel.hourEnds -/
set_option maxRecDepth 100000 in
theorem wd_1742 : Cond.code yX10_nextHour cX10_nextHour 2 none ∈ tbG := tw7 202 rfl rfl
set_option maxRecDepth 100000 in
theorem wd_1739 : Cond.methodLink "SunnyPansModel" 276 yX10_nextHour ∈ tbG := tw7 199 rfl rfl
set_option maxRecDepth 100000 in
theorem wd_1741 : Cond.instanceMethod yX10_nextHour ∈ tbG := tw7 201 rfl rfl
theorem wd_81 : Cond.selects "SunnyPansModel" yX10_nextHour yX10_nextHour ∈ tbG := tw 81 (by decide +kernel) rfl
theorem cv_SunnyPansModel_276 : zCV "SunnyPansModel" 276 "SunnyPansModel" yX10_nextHour cX10_nextHour 2 none 1 := zCV_of wd_1739 wd_1741 wd_81 wd_111 wd_1742 (by decide +kernel)
set_option maxRecDepth 100000 in
theorem wd_1702 : Cond.code yX10_driesOne cX10_driesOne 3 none ∈ tbG := tw7 162 rfl rfl
set_option maxRecDepth 100000 in
theorem wd_1699 : Cond.methodLink "SunnyPansModel" 272 yX10_driesOne ∈ tbG := tw7 159 rfl rfl
set_option maxRecDepth 100000 in
theorem wd_1701 : Cond.instanceMethod yX10_driesOne ∈ tbG := tw7 161 rfl rfl
theorem wd_74 : Cond.selects "SunnyPansModel" yX10_driesOne yX10_driesOne ∈ tbG := tw 74 (by decide +kernel) rfl
theorem cv_SunnyPansModel_272 : zCV "SunnyPansModel" 272 "SunnyPansModel" yX10_driesOne cX10_driesOne 3 none 2 := zCV_of wd_1699 wd_1701 wd_74 wd_111 wd_1702 (by decide +kernel)
theorem d_X10_hourEnds_0 : decode cX10_hourEnds 0 = .ok (.iconst 0, 1) := by decide +kernel
theorem d_X10_hourEnds_1 : decode cX10_hourEnds 1 = .ok (.istore_n 2, 1) := by decide +kernel
theorem d_X10_hourEnds_2 : decode cX10_hourEnds 2 = .ok (.iload_n 2, 1) := by decide +kernel
theorem d_X10_hourEnds_3 : decode cX10_hourEnds 3 = .ok (.bipush 64, 2) := by decide +kernel
theorem d_X10_hourEnds_5 : decode cX10_hourEnds 5 = .ok (.if_icmp .ge 15, 3) := by decide +kernel
theorem d_X10_hourEnds_8 : decode cX10_hourEnds 8 = .ok (.aload_n 0, 1) := by decide +kernel
theorem d_X10_hourEnds_9 : decode cX10_hourEnds 9 = .ok (.aload_n 1, 1) := by decide +kernel
theorem d_X10_hourEnds_10 : decode cX10_hourEnds 10 = .ok (.iload_n 2, 1) := by decide +kernel
theorem d_X10_hourEnds_11 : decode cX10_hourEnds 11 = .ok (.invokevirtual 272, 3) := by decide +kernel
theorem d_X10_hourEnds_14 : decode cX10_hourEnds 14 = .ok (.iinc 2 1, 3) := by decide +kernel
theorem d_X10_hourEnds_17 : decode cX10_hourEnds 17 = .ok (.goto (-15), 3) := by decide +kernel
theorem d_X10_hourEnds_20 : decode cX10_hourEnds 20 = .ok (.aload_n 0, 1) := by decide +kernel
theorem d_X10_hourEnds_21 : decode cX10_hourEnds 21 = .ok (.aload_n 1, 1) := by decide +kernel
theorem d_X10_hourEnds_22 : decode cX10_hourEnds 22 = .ok (.invokevirtual 276, 3) := by decide +kernel
theorem d_X10_hourEnds_25 : decode cX10_hourEnds 25 = .ok (.return_, 1) := by decide +kernel
noncomputable def F_X10_hourEnds_2 (p0 : Nat) (self2 : Int32 → zMem → Option (zMem)) (b2_L2 : Int32) (M : zMem) : Option (zMem) :=
  if (64 : Int32) ≤ b2_L2 then
    zbv (F_X10_nextHour M p0) fun M1 =>
    some M1
  else
    zbv (F_X10_driesOne M p0 b2_L2) fun M2 =>
    self2 (b2_L2 + 1) M2
noncomputable def F_X10_hourEnds (M : zMem) (p0 : Nat) : Option (zMem) :=
  itF (fun _ _ => none) (F_X10_hourEnds_2 p0) zFuel (0 : Int32) M
def rm_X10_hourEnds : Room := { frames := 8, cells := 0, slots := 0, locals := 218 }
set_option maxHeartbeats 4000000 in
set_option maxRecDepth 100000 in
theorem c_X10_hourEnds (l : Launch) {G : zG} {ad : Nat → Nat} {n : Nat} (hA : zInj ad n) (M : zMem) (p0 : Nat) (hT : zT shM n 0 11) (hT_p0 : zT shM n p0 36) {M9 : zMem} (hF : F_X10_hourEnds M p0 = some M9) : zM l yX10_hourEnds cX10_hourEnds 3 none rm_X10_hourEnds G shM ad n M [.ref (ad 0), .ref (ad p0)] none M9 := by
  refine zM_of hA (by decide +kernel) (lv := [(0, .ref (ad 0)), (1, .ref (ad p0))]) (Nat.le_of_ble_eq_true rfl) rfl (fun p e s m args below meth c A cx hr => ?_)
  have hL2 : ∀ (fuel : Nat), ∀ (b2_L2 : Int32) (M : zMem), itF (fun _ _ => none) (F_X10_hourEnds_2 p0) fuel b2_L2 M = some M9 → zJ p l e rm_X10_hourEnds s m args below meth c G shM ad n A 3 (MQ below (zQ G shM ad n M9 none A) args s 0 0 A) 0 0 M 2 [(0, .ref (ad 0)), (1, .ref (ad p0)), (2, .int b2_L2)] [] := by
    intro fuel
    induction fuel with
    | zero => intro b2_L2 M hF; cases hF
    | succ fuel hs2 =>
      intro b2_L2 M hF
      have hF : F_X10_hourEnds_2 p0 (itF (fun _ _ => none) (F_X10_hourEnds_2 p0) fuel) b2_L2 M = some M9 := hF
      generalize itF (fun _ _ => none) (F_X10_hourEnds_2 p0) fuel = self2 at hs2 hF
      unfold F_X10_hourEnds_2 at hF
      refine z_iload_n cx d_X10_hourEnds_2 2 rfl ?_
      refine z_bipush (v := 64) cx d_X10_hourEnds_3 kb_64 ?_
      refine z_icmp_ge cx 20 d_X10_hourEnds_5 (by decide) hF (fun hF => ?_) (fun hF => ?_)
      · refine z_aload_n cx d_X10_hourEnds_20 0 rfl ?_
        refine z_aload_n cx d_X10_hourEnds_21 1 rfl ?_
        obtain ⟨M1, hc, hF⟩ := zbv_inv hF
        refine z_callV cx (As := [.ref (ad p0)]) (rest := []) (c_X10_nextHour l cx.2.2.2.1.1 M p0 hT hT_p0 hc) hT zo_11 cv_SunnyPansModel_276 ⟨rfl, rfl, Nat.le_of_ble_eq_true rfl, Nat.le_of_ble_eq_true rfl⟩ rfl rfl ⟨Nat.zero_le _, Nat.zero_le _⟩ (Nat.le_of_ble_eq_true rfl) d_X10_hourEnds_22 ?_
        exact z_vret cx hr hF d_X10_hourEnds_25
      refine z_aload_n cx d_X10_hourEnds_8 0 rfl ?_
      refine z_aload_n cx d_X10_hourEnds_9 1 rfl ?_
      refine z_iload_n cx d_X10_hourEnds_10 2 rfl ?_
      obtain ⟨M2, hc, hF⟩ := zbv_inv hF
      refine z_callV cx (As := [.ref (ad p0), .int b2_L2]) (rest := []) (c_X10_driesOne l cx.2.2.2.1.1 M p0 b2_L2 hT hT_p0 hc) hT zo_11 cv_SunnyPansModel_272 ⟨rfl, rfl, Nat.le_of_ble_eq_true rfl, Nat.le_of_ble_eq_true rfl⟩ rfl rfl ⟨Nat.zero_le _, Nat.zero_le _⟩ (Nat.le_of_ble_eq_true rfl) d_X10_hourEnds_11 ?_
      refine z_iinc cx 2 1 [(2, .int (b2_L2 + 1)), (0, .ref (ad 0)), (1, .ref (ad p0))] d_X10_hourEnds_14 2 rfl ki_1 (by decide) rfl ?_
      refine z_goto cx 2 d_X10_hourEnds_17 (by decide) ?_
      exact z_lv [1, 2, 0] _ rfl (hs2 (b2_L2 + 1) M2 hF)
  unfold F_X10_hourEnds at hF
  refine z_iconst (v := 0) cx d_X10_hourEnds_0 ki_0 ?_
  refine z_istore_n cx 2 [(2, .int (0 : Int32)), (0, .ref (ad 0)), (1, .ref (ad p0))] d_X10_hourEnds_1 rfl (by decide) rfl ?_
  exact z_lv [1, 2, 0] _ rfl (hL2 zFuel (0 : Int32) M hF)
/-! SunnyPansModel.isDry -/
theorem d_X10_isDry_0 : decode cX10_isDry 0 = .ok (.aload_n 0, 1) := by decide +kernel
theorem d_X10_isDry_1 : decode cX10_isDry 1 = .ok (.iconst 0, 1) := by decide +kernel
theorem d_X10_isDry_2 : decode cX10_isDry 2 = .ok (.iload_n 1, 1) := by decide +kernel
theorem d_X10_isDry_3 : decode cX10_isDry 3 = .ok (.iadd, 1) := by decide +kernel
theorem d_X10_isDry_4 : decode cX10_isDry 4 = .ok (.iaload, 1) := by decide +kernel
theorem d_X10_isDry_5 : decode cX10_isDry 5 = .ok (.ifCond .ne 17, 3) := by decide +kernel
theorem d_X10_isDry_8 : decode cX10_isDry 8 = .ok (.aload_n 0, 1) := by decide +kernel
theorem d_X10_isDry_9 : decode cX10_isDry 9 = .ok (.sipush 128, 3) := by decide +kernel
theorem d_X10_isDry_12 : decode cX10_isDry 12 = .ok (.iload_n 1, 1) := by decide +kernel
theorem d_X10_isDry_13 : decode cX10_isDry 13 = .ok (.iadd, 1) := by decide +kernel
theorem d_X10_isDry_14 : decode cX10_isDry 14 = .ok (.iaload, 1) := by decide +kernel
theorem d_X10_isDry_15 : decode cX10_isDry 15 = .ok (.ifCond .ne 7, 3) := by decide +kernel
theorem d_X10_isDry_18 : decode cX10_isDry 18 = .ok (.iconst 1, 1) := by decide +kernel
theorem d_X10_isDry_19 : decode cX10_isDry 19 = .ok (.goto 4, 3) := by decide +kernel
theorem d_X10_isDry_22 : decode cX10_isDry 22 = .ok (.iconst 0, 1) := by decide +kernel
theorem d_X10_isDry_23 : decode cX10_isDry 23 = .ok (.ireturn, 1) := by decide +kernel
noncomputable def F_X10_isDry (M : zMem) (p0 : Nat) (p1 : Int32) : Option (Int32 × zMem) :=
  gin ((0 : Int32) + p1) 195 <|
  if (M.1 p0 ((0 : Int32) + p1).toNatClampNeg) = 0 then
    gin ((128 : Int32) + p1) 195 <|
    if (M.1 p0 ((128 : Int32) + p1).toNatClampNeg) = 0 then
      some ((1 : Int32), M)
    else
      some ((0 : Int32), M)
  else
    some ((0 : Int32), M)
def rm_X10_isDry : Room := { frames := 2, cells := 0, slots := 0, locals := 80 }
set_option maxHeartbeats 4000000 in
set_option maxRecDepth 100000 in
theorem c_X10_isDry (l : Launch) {G : zG} {ad : Nat → Nat} {n : Nat} (hA : zInj ad n) (M : zMem) (p0 : Nat) (p1 : Int32) (hT_p0 : zT shM n p0 36) {r9 : Int32} {M9 : zMem} (hF : F_X10_isDry M p0 p1 = some (r9, M9)) : zM l yX10_isDry cX10_isDry 2 (some .boolean) rm_X10_isDry G shM ad n M [.ref (ad p0), .int p1] (some (.int r9)) M9 := by
  refine zM_of hA (by decide +kernel) (lv := [(0, .ref (ad p0)), (1, .int p1)]) (Nat.le_of_ble_eq_true rfl) rfl (fun p e s m args below meth c A cx hr => ?_)
  unfold F_X10_isDry at hF
  refine z_aload_n cx d_X10_isDry_0 0 rfl ?_
  refine z_iconst (v := 0) cx d_X10_isDry_1 ki_0 ?_
  refine z_iload_n cx d_X10_isDry_2 1 rfl ?_
  refine z_iadd cx d_X10_isDry_3 ?_
  obtain ⟨hi1, hF⟩ := gin_inv hF
  refine z_iald cx hT_p0 za_36 hi1 (((0 : Int32) + p1).toNatClampNeg) rfl d_X10_isDry_4 ?_
  refine z_if_ne cx 22 d_X10_isDry_5 (by decide) hF (fun hF => ?_) (fun hF => ?_)
  · refine z_iconst (v := 0) cx d_X10_isDry_22 ki_0 ?_
    exact z_iret cx hr nb0 hF d_X10_isDry_23
  refine z_aload_n cx d_X10_isDry_8 0 rfl ?_
  refine z_sipush (v := 128) cx d_X10_isDry_9 ks_128 ?_
  refine z_iload_n cx d_X10_isDry_12 1 rfl ?_
  refine z_iadd cx d_X10_isDry_13 ?_
  obtain ⟨hi2, hF⟩ := gin_inv hF
  refine z_iald cx hT_p0 za_36 hi2 (((128 : Int32) + p1).toNatClampNeg) rfl d_X10_isDry_14 ?_
  refine z_if_ne cx 22 d_X10_isDry_15 (by decide) hF (fun hF => ?_) (fun hF => ?_)
  · refine z_iconst (v := 0) cx d_X10_isDry_22 ki_0 ?_
    exact z_iret cx hr nb0 hF d_X10_isDry_23
  refine z_iconst (v := 1) cx d_X10_isDry_18 ki_1 ?_
  refine z_goto cx 23 d_X10_isDry_19 (by decide) ?_
  exact z_iret cx hr nb1 hF d_X10_isDry_23
/-! SunnyPansModel.canRake -/
set_option maxRecDepth 100000 in
theorem wd_1673 : Cond.code yX10_isDry cX10_isDry 2 (some .boolean) ∈ tbG := tw7 133 rfl rfl
set_option maxRecDepth 100000 in
theorem wd_1671 : Cond.methodLink "SunnyPansModel" 280 yX10_isDry ∈ tbG := tw7 131 rfl rfl
set_option maxRecDepth 100000 in
theorem wd_1672 : Cond.static yX10_isDry ∈ tbG := tw7 132 rfl rfl
theorem cs_SunnyPansModel_280 : zCS "SunnyPansModel" 280 yX10_isDry cX10_isDry 2 (some .boolean) 2 := zCS_of wd_1671 wd_1672 wd_111 wd_1673 (by decide +kernel)
theorem d_X10_canRake_0 : decode cX10_canRake 0 = .ok (.aload_n 1, 1) := by decide +kernel
theorem d_X10_canRake_1 : decode cX10_canRake 1 = .ok (.iload_n 2, 1) := by decide +kernel
theorem d_X10_canRake_2 : decode cX10_canRake 2 = .ok (.invokestatic 280, 3) := by decide +kernel
theorem d_X10_canRake_5 : decode cX10_canRake 5 = .ok (.ifCond .eq 58, 3) := by decide +kernel
theorem d_X10_canRake_8 : decode cX10_canRake 8 = .ok (.aload_n 1, 1) := by decide +kernel
theorem d_X10_canRake_9 : decode cX10_canRake 9 = .ok (.bipush 64, 2) := by decide +kernel
theorem d_X10_canRake_11 : decode cX10_canRake 11 = .ok (.iload_n 2, 1) := by decide +kernel
theorem d_X10_canRake_12 : decode cX10_canRake 12 = .ok (.iadd, 1) := by decide +kernel
theorem d_X10_canRake_13 : decode cX10_canRake 13 = .ok (.iaload, 1) := by decide +kernel
theorem d_X10_canRake_14 : decode cX10_canRake 14 = .ok (.ifCond .le 49, 3) := by decide +kernel
theorem d_X10_canRake_17 : decode cX10_canRake 17 = .ok (.iload_n 2, 1) := by decide +kernel
theorem d_X10_canRake_18 : decode cX10_canRake 18 = .ok (.iload_n 3, 1) := by decide +kernel
theorem d_X10_canRake_19 : decode cX10_canRake 19 = .ok (.if_icmp .eq 44, 3) := by decide +kernel
theorem d_X10_canRake_22 : decode cX10_canRake 22 = .ok (.aload_n 1, 1) := by decide +kernel
theorem d_X10_canRake_23 : decode cX10_canRake 23 = .ok (.iconst 0, 1) := by decide +kernel
theorem d_X10_canRake_24 : decode cX10_canRake 24 = .ok (.iload_n 3, 1) := by decide +kernel
theorem d_X10_canRake_25 : decode cX10_canRake 25 = .ok (.iadd, 1) := by decide +kernel
theorem d_X10_canRake_26 : decode cX10_canRake 26 = .ok (.iaload, 1) := by decide +kernel
theorem d_X10_canRake_27 : decode cX10_canRake 27 = .ok (.ifCond .ne 36, 3) := by decide +kernel
theorem d_X10_canRake_30 : decode cX10_canRake 30 = .ok (.aload_n 1, 1) := by decide +kernel
theorem d_X10_canRake_31 : decode cX10_canRake 31 = .ok (.bipush 64, 2) := by decide +kernel
theorem d_X10_canRake_33 : decode cX10_canRake 33 = .ok (.iload_n 3, 1) := by decide +kernel
theorem d_X10_canRake_34 : decode cX10_canRake 34 = .ok (.iadd, 1) := by decide +kernel
theorem d_X10_canRake_35 : decode cX10_canRake 35 = .ok (.iaload, 1) := by decide +kernel
theorem d_X10_canRake_36 : decode cX10_canRake 36 = .ok (.ifCond .ne 27, 3) := by decide +kernel
theorem d_X10_canRake_39 : decode cX10_canRake 39 = .ok (.aload_n 1, 1) := by decide +kernel
theorem d_X10_canRake_40 : decode cX10_canRake 40 = .ok (.sipush 128, 3) := by decide +kernel
theorem d_X10_canRake_43 : decode cX10_canRake 43 = .ok (.iload_n 3, 1) := by decide +kernel
theorem d_X10_canRake_44 : decode cX10_canRake 44 = .ok (.iadd, 1) := by decide +kernel
theorem d_X10_canRake_45 : decode cX10_canRake 45 = .ok (.iaload, 1) := by decide +kernel
theorem d_X10_canRake_46 : decode cX10_canRake 46 = .ok (.aload_n 1, 1) := by decide +kernel
theorem d_X10_canRake_47 : decode cX10_canRake 47 = .ok (.bipush 64, 2) := by decide +kernel
theorem d_X10_canRake_49 : decode cX10_canRake 49 = .ok (.iload_n 2, 1) := by decide +kernel
theorem d_X10_canRake_50 : decode cX10_canRake 50 = .ok (.iadd, 1) := by decide +kernel
theorem d_X10_canRake_51 : decode cX10_canRake 51 = .ok (.iaload, 1) := by decide +kernel
theorem d_X10_canRake_52 : decode cX10_canRake 52 = .ok (.iadd, 1) := by decide +kernel
theorem d_X10_canRake_53 : decode cX10_canRake 53 = .ok (.sipush 9999, 3) := by decide +kernel
theorem d_X10_canRake_56 : decode cX10_canRake 56 = .ok (.if_icmp .gt 7, 3) := by decide +kernel
theorem d_X10_canRake_59 : decode cX10_canRake 59 = .ok (.iconst 1, 1) := by decide +kernel
theorem d_X10_canRake_60 : decode cX10_canRake 60 = .ok (.goto 4, 3) := by decide +kernel
theorem d_X10_canRake_63 : decode cX10_canRake 63 = .ok (.iconst 0, 1) := by decide +kernel
theorem d_X10_canRake_64 : decode cX10_canRake 64 = .ok (.ireturn, 1) := by decide +kernel
noncomputable def F_X10_canRake (M : zMem) (p0 : Nat) (p1 : Int32) (p2 : Int32) : Option (Int32 × zMem) :=
  zb (F_X10_isDry M p0 p1) fun v2 M1 =>
  if v2 = 0 then
    some ((0 : Int32), M1)
  else
    gin ((64 : Int32) + p1) 195 <|
    if (M1.1 p0 ((64 : Int32) + p1).toNatClampNeg) ≤ 0 then
      some ((0 : Int32), M1)
    else
      if p1 = p2 then
        some ((0 : Int32), M1)
      else
        gin ((0 : Int32) + p2) 195 <|
        if (M1.1 p0 ((0 : Int32) + p2).toNatClampNeg) = 0 then
          gin ((64 : Int32) + p2) 195 <|
          if (M1.1 p0 ((64 : Int32) + p2).toNatClampNeg) = 0 then
            gin ((128 : Int32) + p2) 195 <|
            if (9999 : Int32) < ((M1.1 p0 ((128 : Int32) + p2).toNatClampNeg) + (M1.1 p0 ((64 : Int32) + p1).toNatClampNeg)) then
              some ((0 : Int32), M1)
            else
              some ((1 : Int32), M1)
          else
            some ((0 : Int32), M1)
        else
          some ((0 : Int32), M1)
def rm_X10_canRake : Room := { frames := 3, cells := 0, slots := 0, locals := 101 }
set_option maxHeartbeats 4000000 in
set_option maxRecDepth 100000 in
theorem c_X10_canRake (l : Launch) {G : zG} {ad : Nat → Nat} {n : Nat} (hA : zInj ad n) (M : zMem) (p0 : Nat) (p1 : Int32) (p2 : Int32) (hT : zT shM n 0 11) (hT_p0 : zT shM n p0 36) {r9 : Int32} {M9 : zMem} (hF : F_X10_canRake M p0 p1 p2 = some (r9, M9)) : zM l yX10_canRake cX10_canRake 4 (some .boolean) rm_X10_canRake G shM ad n M [.ref (ad 0), .ref (ad p0), .int p1, .int p2] (some (.int r9)) M9 := by
  refine zM_of hA (by decide +kernel) (lv := [(0, .ref (ad 0)), (1, .ref (ad p0)), (2, .int p1), (3, .int p2)]) (Nat.le_of_ble_eq_true rfl) rfl (fun p e s m args below meth c A cx hr => ?_)
  unfold F_X10_canRake at hF
  refine z_aload_n cx d_X10_canRake_0 1 rfl ?_
  refine z_iload_n cx d_X10_canRake_1 2 rfl ?_
  obtain ⟨v2, M1, hc, hF⟩ := zb_inv hF
  refine z_callS cx (As := [.ref (ad p0), .int p1]) (rest := []) (c_X10_isDry l cx.2.2.2.1.1 M p0 p1 hT_p0 hc) cs_SunnyPansModel_280 ⟨rfl, rfl, Nat.le_of_ble_eq_true rfl, Nat.le_of_ble_eq_true rfl⟩ rfl rfl ⟨Nat.zero_le _, Nat.zero_le _⟩ (Nat.le_of_ble_eq_true rfl) d_X10_canRake_2 ?_
  refine z_if_eq cx 63 d_X10_canRake_5 (by decide) hF (fun hF => ?_) (fun hF => ?_)
  · refine z_iconst (v := 0) cx d_X10_canRake_63 ki_0 ?_
    exact z_iret cx hr nb0 hF d_X10_canRake_64
  refine z_aload_n cx d_X10_canRake_8 1 rfl ?_
  refine z_bipush (v := 64) cx d_X10_canRake_9 kb_64 ?_
  refine z_iload_n cx d_X10_canRake_11 2 rfl ?_
  refine z_iadd cx d_X10_canRake_12 ?_
  obtain ⟨hi3, hF⟩ := gin_inv hF
  refine z_iald cx hT_p0 za_36 hi3 (((64 : Int32) + p1).toNatClampNeg) rfl d_X10_canRake_13 ?_
  refine z_if_le cx 63 d_X10_canRake_14 (by decide) hF (fun hF => ?_) (fun hF => ?_)
  · refine z_iconst (v := 0) cx d_X10_canRake_63 ki_0 ?_
    exact z_iret cx hr nb0 hF d_X10_canRake_64
  refine z_iload_n cx d_X10_canRake_17 2 rfl ?_
  refine z_iload_n cx d_X10_canRake_18 3 rfl ?_
  refine z_icmp_eq cx 63 d_X10_canRake_19 (by decide) hF (fun hF => ?_) (fun hF => ?_)
  · refine z_iconst (v := 0) cx d_X10_canRake_63 ki_0 ?_
    exact z_iret cx hr nb0 hF d_X10_canRake_64
  refine z_aload_n cx d_X10_canRake_22 1 rfl ?_
  refine z_iconst (v := 0) cx d_X10_canRake_23 ki_0 ?_
  refine z_iload_n cx d_X10_canRake_24 3 rfl ?_
  refine z_iadd cx d_X10_canRake_25 ?_
  obtain ⟨hi4, hF⟩ := gin_inv hF
  refine z_iald cx hT_p0 za_36 hi4 (((0 : Int32) + p2).toNatClampNeg) rfl d_X10_canRake_26 ?_
  refine z_if_ne cx 63 d_X10_canRake_27 (by decide) hF (fun hF => ?_) (fun hF => ?_)
  · refine z_iconst (v := 0) cx d_X10_canRake_63 ki_0 ?_
    exact z_iret cx hr nb0 hF d_X10_canRake_64
  refine z_aload_n cx d_X10_canRake_30 1 rfl ?_
  refine z_bipush (v := 64) cx d_X10_canRake_31 kb_64 ?_
  refine z_iload_n cx d_X10_canRake_33 3 rfl ?_
  refine z_iadd cx d_X10_canRake_34 ?_
  obtain ⟨hi5, hF⟩ := gin_inv hF
  refine z_iald cx hT_p0 za_36 hi5 (((64 : Int32) + p2).toNatClampNeg) rfl d_X10_canRake_35 ?_
  refine z_if_ne cx 63 d_X10_canRake_36 (by decide) hF (fun hF => ?_) (fun hF => ?_)
  · refine z_iconst (v := 0) cx d_X10_canRake_63 ki_0 ?_
    exact z_iret cx hr nb0 hF d_X10_canRake_64
  refine z_aload_n cx d_X10_canRake_39 1 rfl ?_
  refine z_sipush (v := 128) cx d_X10_canRake_40 ks_128 ?_
  refine z_iload_n cx d_X10_canRake_43 3 rfl ?_
  refine z_iadd cx d_X10_canRake_44 ?_
  obtain ⟨hi6, hF⟩ := gin_inv hF
  refine z_iald cx hT_p0 za_36 hi6 (((128 : Int32) + p2).toNatClampNeg) rfl d_X10_canRake_45 ?_
  refine z_aload_n cx d_X10_canRake_46 1 rfl ?_
  refine z_bipush (v := 64) cx d_X10_canRake_47 kb_64 ?_
  refine z_iload_n cx d_X10_canRake_49 2 rfl ?_
  refine z_iadd cx d_X10_canRake_50 ?_
  refine z_iald cx hT_p0 za_36 hi3 (((64 : Int32) + p1).toNatClampNeg) rfl d_X10_canRake_51 ?_
  refine z_iadd cx d_X10_canRake_52 ?_
  refine z_sipush (v := 9999) cx d_X10_canRake_53 ks_9999 ?_
  refine z_icmp_gt cx 63 d_X10_canRake_56 (by decide) hF (fun hF => ?_) (fun hF => ?_)
  · refine z_iconst (v := 0) cx d_X10_canRake_63 ki_0 ?_
    exact z_iret cx hr nb0 hF d_X10_canRake_64
  refine z_iconst (v := 1) cx d_X10_canRake_59 ki_1 ?_
  refine z_goto cx 64 d_X10_canRake_60 (by decide) ?_
  exact z_iret cx hr nb1 hF d_X10_canRake_64
