/-! SunnyPansModel.ahead -/
theorem tfM_11_452 {n k : Nat} (h : zT shM n k 11) : zT shM n (k + 452) 36 := zT_off h (shM_f (by decide) (by decide +kernel)) (by decide) (by decide)
set_option maxRecDepth 100000 in
theorem wd_1422 : Cond.fieldLink "SunnyPansModel" 61 "SunnyPansModel" "trial" "[I" ∈ tbG := tw6 122 rfl rfl
theorem fg_SunnyPansModel_61 : zGetR "SunnyPansModel" 61 10 11 27 452 := ⟨RX10, TX10, 40, rfl, by decide, uw_10, wd_1422, fun _ _ _ _ _ _ => ⟨_, rfl, rfl⟩⟩
theorem d_X10_ahead_0 : decode cX10_ahead 0 = .ok (.aload_n 0, 1) := by decide +kernel
theorem d_X10_ahead_1 : decode cX10_ahead 1 = .ok (.iconst 0, 1) := by decide +kernel
theorem d_X10_ahead_2 : decode cX10_ahead 2 = .ok (.putfield 82, 3) := by decide +kernel
theorem d_X10_ahead_5 : decode cX10_ahead 5 = .ok (.aload_n 0, 1) := by decide +kernel
theorem d_X10_ahead_6 : decode cX10_ahead 6 = .ok (.iload_n 1, 1) := by decide +kernel
theorem d_X10_ahead_7 : decode cX10_ahead 7 = .ok (.iconst 0, 1) := by decide +kernel
theorem d_X10_ahead_8 : decode cX10_ahead 8 = .ok (.sipush 500, 3) := by decide +kernel
theorem d_X10_ahead_11 : decode cX10_ahead 11 = .ok (.invokestatic 116, 3) := by decide +kernel
theorem d_X10_ahead_14 : decode cX10_ahead 14 = .ok (.ifCond .eq 12, 3) := by decide +kernel
theorem d_X10_ahead_17 : decode cX10_ahead 17 = .ok (.iload_n 2, 1) := by decide +kernel
theorem d_X10_ahead_18 : decode cX10_ahead 18 = .ok (.iconst 0, 1) := by decide +kernel
theorem d_X10_ahead_19 : decode cX10_ahead 19 = .ok (.iconst 2, 1) := by decide +kernel
theorem d_X10_ahead_20 : decode cX10_ahead 20 = .ok (.invokestatic 116, 3) := by decide +kernel
theorem d_X10_ahead_23 : decode cX10_ahead 23 = .ok (.ifCond .ne 7, 3) := by decide +kernel
theorem d_X10_ahead_26 : decode cX10_ahead 26 = .ok (.iconst 1, 1) := by decide +kernel
theorem d_X10_ahead_27 : decode cX10_ahead 27 = .ok (.goto 4, 3) := by decide +kernel
theorem d_X10_ahead_30 : decode cX10_ahead 30 = .ok (.iconst 0, 1) := by decide +kernel
theorem d_X10_ahead_31 : decode cX10_ahead 31 = .ok (.iconst 1, 1) := by decide +kernel
theorem d_X10_ahead_32 : decode cX10_ahead 32 = .ok (.iconst 1, 1) := by decide +kernel
theorem d_X10_ahead_33 : decode cX10_ahead 33 = .ok (.invokevirtual 155, 3) := by decide +kernel
theorem d_X10_ahead_36 : decode cX10_ahead 36 = .ok (.ifCond .eq 5, 3) := by decide +kernel
theorem d_X10_ahead_39 : decode cX10_ahead 39 = .ok (.iconst 0, 1) := by decide +kernel
theorem d_X10_ahead_40 : decode cX10_ahead 40 = .ok (.ireturn, 1) := by decide +kernel
theorem d_X10_ahead_41 : decode cX10_ahead 41 = .ok (.aload_n 0, 1) := by decide +kernel
theorem d_X10_ahead_42 : decode cX10_ahead 42 = .ok (.getfield 58, 3) := by decide +kernel
theorem d_X10_ahead_45 : decode cX10_ahead 45 = .ok (.aload_n 0, 1) := by decide +kernel
theorem d_X10_ahead_46 : decode cX10_ahead 46 = .ok (.getfield 61, 3) := by decide +kernel
theorem d_X10_ahead_49 : decode cX10_ahead 49 = .ok (.invokestatic 315, 3) := by decide +kernel
theorem d_X10_ahead_52 : decode cX10_ahead 52 = .ok (.iconst 0, 1) := by decide +kernel
theorem d_X10_ahead_53 : decode cX10_ahead 53 = .ok (.istore_n 3, 1) := by decide +kernel
theorem d_X10_ahead_54 : decode cX10_ahead 54 = .ok (.iload_n 3, 1) := by decide +kernel
theorem d_X10_ahead_55 : decode cX10_ahead 55 = .ok (.iload_n 1, 1) := by decide +kernel
theorem d_X10_ahead_56 : decode cX10_ahead 56 = .ok (.if_icmp .ge 26, 3) := by decide +kernel
theorem d_X10_ahead_59 : decode cX10_ahead 59 = .ok (.aload_n 0, 1) := by decide +kernel
theorem d_X10_ahead_60 : decode cX10_ahead 60 = .ok (.getfield 23, 3) := by decide +kernel
theorem d_X10_ahead_63 : decode cX10_ahead 63 = .ok (.iconst 2, 1) := by decide +kernel
theorem d_X10_ahead_64 : decode cX10_ahead 64 = .ok (.iaload, 1) := by decide +kernel
theorem d_X10_ahead_65 : decode cX10_ahead 65 = .ok (.ifCond .le 17, 3) := by decide +kernel
theorem d_X10_ahead_68 : decode cX10_ahead 68 = .ok (.aload_n 0, 1) := by decide +kernel
theorem d_X10_ahead_69 : decode cX10_ahead 69 = .ok (.aload_n 0, 1) := by decide +kernel
theorem d_X10_ahead_70 : decode cX10_ahead 70 = .ok (.getfield 61, 3) := by decide +kernel
theorem d_X10_ahead_73 : decode cX10_ahead 73 = .ok (.invokevirtual 299, 3) := by decide +kernel
theorem d_X10_ahead_76 : decode cX10_ahead 76 = .ok (.iinc 3 1, 3) := by decide +kernel
theorem d_X10_ahead_79 : decode cX10_ahead 79 = .ok (.goto (-25), 3) := by decide +kernel
theorem d_X10_ahead_82 : decode cX10_ahead 82 = .ok (.iload_n 2, 1) := by decide +kernel
theorem d_X10_ahead_83 : decode cX10_ahead 83 = .ok (.ifCond .ne 14, 3) := by decide +kernel
theorem d_X10_ahead_86 : decode cX10_ahead 86 = .ok (.aload_n 0, 1) := by decide +kernel
theorem d_X10_ahead_87 : decode cX10_ahead 87 = .ok (.getfield 61, 3) := by decide +kernel
theorem d_X10_ahead_90 : decode cX10_ahead 90 = .ok (.iconst 0, 1) := by decide +kernel
theorem d_X10_ahead_91 : decode cX10_ahead 91 = .ok (.invokestatic 319, 3) := by decide +kernel
theorem d_X10_ahead_94 : decode cX10_ahead 94 = .ok (.goto 28, 3) := by decide +kernel
theorem d_X10_ahead_97 : decode cX10_ahead 97 = .ok (.iload_n 2, 1) := by decide +kernel
theorem d_X10_ahead_98 : decode cX10_ahead 98 = .ok (.iconst 1, 1) := by decide +kernel
theorem d_X10_ahead_99 : decode cX10_ahead 99 = .ok (.if_icmp .ne 15, 3) := by decide +kernel
theorem d_X10_ahead_102 : decode cX10_ahead 102 = .ok (.aload_n 0, 1) := by decide +kernel
theorem d_X10_ahead_103 : decode cX10_ahead 103 = .ok (.aload_n 0, 1) := by decide +kernel
theorem d_X10_ahead_104 : decode cX10_ahead 104 = .ok (.getfield 61, 3) := by decide +kernel
theorem d_X10_ahead_107 : decode cX10_ahead 107 = .ok (.iconst 0, 1) := by decide +kernel
theorem d_X10_ahead_108 : decode cX10_ahead 108 = .ok (.invokevirtual 326, 3) := by decide +kernel
theorem d_X10_ahead_111 : decode cX10_ahead 111 = .ok (.goto 11, 3) := by decide +kernel
theorem d_X10_ahead_114 : decode cX10_ahead 114 = .ok (.aload_n 0, 1) := by decide +kernel
theorem d_X10_ahead_115 : decode cX10_ahead 115 = .ok (.getfield 61, 3) := by decide +kernel
theorem d_X10_ahead_118 : decode cX10_ahead 118 = .ok (.sipush 192, 3) := by decide +kernel
theorem d_X10_ahead_121 : decode cX10_ahead 121 = .ok (.iaload, 1) := by decide +kernel
theorem d_X10_ahead_122 : decode cX10_ahead 122 = .ok (.ireturn, 1) := by decide +kernel
noncomputable def F_X10_ahead_82 (p0 : Int32) (p1 : Int32) (b82_L2 : Int32) (M : zMem) : Option (Int32 × zMem) :=
  if b82_L2 = 0 then
    zb (F_X10_together M 452 (0 : Int32)) fun v4 M3 =>
    some (v4, M3)
  else
    if b82_L2 = (1 : Int32) then
      zb (F_X10_dryOnes M 452 (0 : Int32)) fun v2 M1 =>
      some (v2, M1)
    else
      some ((M.1 452 192), M)
noncomputable def F_X10_ahead_54 (p0 : Int32) (p1 : Int32) (self54 : Int32 → Int32 → Int32 → zMem → Option (Int32 × zMem)) (b54_L1 : Int32) (b54_L2 : Int32) (b54_L3 : Int32) (M : zMem) : Option (Int32 × zMem) :=
  if b54_L1 ≤ b54_L3 then
    F_X10_ahead_82 p0 p1 b54_L2 M
  else
    if (M.1 4 2) ≤ 0 then
      F_X10_ahead_82 p0 p1 b54_L2 M
    else
      zbv (F_X10_hourEnds M 452) fun M5 =>
      self54 b54_L1 b54_L2 (b54_L3 + 1) M5
noncomputable def F_X10_ahead_31 (p0 : Int32) (p1 : Int32) (b31_L1 : Int32) (b31_L2 : Int32) (b31_S1 : Int32) (M : zMem) : Option (Int32 × zMem) :=
  zb (F_X10_bad M b31_S1 (1 : Int32) (1 : Int32)) fun v7 M6 =>
  if v7 = 0 then
    zbv (F_X10_copies M6 451 452) fun M8 =>
    itF (fun _ _ _ _ => none) (F_X10_ahead_54 p0 p1) zFuel b31_L1 b31_L2 (0 : Int32) M8
  else
    some ((0 : Int32), M6)
noncomputable def F_X10_ahead (M : zMem) (p0 : Int32) (p1 : Int32) : Option (Int32 × zMem) :=
  zl (zI M 0 0 (0 : Int32)) fun M9 =>
  zb (F_X10_in M9 p0 (0 : Int32) (500 : Int32)) fun v11 M10 =>
  if v11 = 0 then
    F_X10_ahead_31 p0 p1 p0 p1 (1 : Int32) M10
  else
    zb (F_X10_in M10 p1 (0 : Int32) (2 : Int32)) fun v13 M12 =>
    if v13 = 0 then
      F_X10_ahead_31 p0 p1 p0 p1 (1 : Int32) M12
    else
      F_X10_ahead_31 p0 p1 p0 p1 (0 : Int32) M12
def rm_X10_ahead : Room := { frames := 9, cells := 0, slots := 0, locals := 240 }
set_option maxHeartbeats 4000000 in
set_option maxRecDepth 100000 in
theorem c_X10_ahead (l : Launch) {G : zG} {ad : Nat → Nat} {n : Nat} (hA : zInj ad n) (M : zMem) (p0 : Int32) (p1 : Int32) (hT : zT shM n 0 11) {r9 : Int32} {M9 : zMem} (hF : F_X10_ahead M p0 p1 = some (r9, M9)) : zM l yX10_ahead cX10_ahead 4 (some .int) rm_X10_ahead G shM ad n M [.ref (ad 0), .int p0, .int p1] (some (.int r9)) M9 := by
  refine zM_of hA (by decide +kernel) (lv := [(0, .ref (ad 0)), (1, .int p0), (2, .int p1)]) (Nat.le_of_ble_eq_true rfl) rfl (fun p e s m args below meth c A cx hr => ?_)
  have hb82 : ∀ (b82_L2 : Int32) (M : zMem), F_X10_ahead_82 p0 p1 b82_L2 M = some (r9, M9) → zJ p l e rm_X10_ahead s m args below meth c G shM ad n A 4 (MQ below (zQ G shM ad n M9 (some (.int r9)) A) args s 0 0 A) 0 0 M 82 [(0, .ref (ad 0)), (2, .int b82_L2)] [] := by
    intro b82_L2 M hF
    unfold F_X10_ahead_82 at hF
    refine z_iload_n cx d_X10_ahead_82 1 rfl ?_
    refine z_if_ne cx 97 d_X10_ahead_83 (by decide) hF (fun hF => ?_) (fun hF => ?_)
    · refine z_iload_n cx d_X10_ahead_97 1 rfl ?_
      refine z_iconst (v := 1) cx d_X10_ahead_98 ki_1 ?_
      refine z_icmp_ne cx 114 d_X10_ahead_99 (by decide) hF (fun hF => ?_) (fun hF => ?_)
      · refine z_aload_n cx d_X10_ahead_114 0 rfl ?_
        refine z_getR cx hT fg_SunnyPansModel_61 452 rfl d_X10_ahead_115 ?_
        refine z_sipush (v := 192) cx d_X10_ahead_118 ks_192 ?_
        refine z_iald cx (tfM_11_452 hT) za_36 (zvp (by decide +kernel)) 192 rfl d_X10_ahead_121 ?_
        exact z_iret cx hr rfl hF d_X10_ahead_122
      refine z_aload_n cx d_X10_ahead_102 0 rfl ?_
      refine z_aload_n cx d_X10_ahead_103 0 rfl ?_
      refine z_getR cx hT fg_SunnyPansModel_61 452 rfl d_X10_ahead_104 ?_
      refine z_iconst (v := 0) cx d_X10_ahead_107 ki_0 ?_
      obtain ⟨v2, M1, hc, hF⟩ := zb_inv hF
      refine z_callV cx (As := [.ref (ad 452), .int (0 : Int32)]) (rest := []) (c_X10_dryOnes l cx.2.2.2.1.1 M 452 (0 : Int32) hT (tfM_11_452 hT) hc) hT zo_11 cv_SunnyPansModel_326 ⟨rfl, rfl, Nat.le_of_ble_eq_true rfl, Nat.le_of_ble_eq_true rfl⟩ rfl rfl ⟨Nat.zero_le _, Nat.zero_le _⟩ (Nat.le_of_ble_eq_true rfl) d_X10_ahead_108 ?_
      refine z_goto cx 122 d_X10_ahead_111 (by decide) ?_
      exact z_iret cx hr rfl hF d_X10_ahead_122
    refine z_aload_n cx d_X10_ahead_86 0 rfl ?_
    refine z_getR cx hT fg_SunnyPansModel_61 452 rfl d_X10_ahead_87 ?_
    refine z_iconst (v := 0) cx d_X10_ahead_90 ki_0 ?_
    obtain ⟨v4, M3, hc, hF⟩ := zb_inv hF
    refine z_callS cx (As := [.ref (ad 452), .int (0 : Int32)]) (rest := []) (c_X10_together l cx.2.2.2.1.1 M 452 (0 : Int32) (tfM_11_452 hT) hc) cs_SunnyPansModel_319 ⟨rfl, rfl, Nat.le_of_ble_eq_true rfl, Nat.le_of_ble_eq_true rfl⟩ rfl rfl ⟨Nat.zero_le _, Nat.zero_le _⟩ (Nat.le_of_ble_eq_true rfl) d_X10_ahead_91 ?_
    refine z_goto cx 122 d_X10_ahead_94 (by decide) ?_
    exact z_iret cx hr rfl hF d_X10_ahead_122
  have hL54 : ∀ (fuel : Nat), ∀ (b54_L1 : Int32) (b54_L2 : Int32) (b54_L3 : Int32) (M : zMem), itF (fun _ _ _ _ => none) (F_X10_ahead_54 p0 p1) fuel b54_L1 b54_L2 b54_L3 M = some (r9, M9) → zJ p l e rm_X10_ahead s m args below meth c G shM ad n A 4 (MQ below (zQ G shM ad n M9 (some (.int r9)) A) args s 0 0 A) 0 0 M 54 [(0, .ref (ad 0)), (1, .int b54_L1), (2, .int b54_L2), (3, .int b54_L3)] [] := by
    intro fuel
    induction fuel with
    | zero => intro b54_L1 b54_L2 b54_L3 M hF; cases hF
    | succ fuel hs54 =>
      intro b54_L1 b54_L2 b54_L3 M hF
      have hF : F_X10_ahead_54 p0 p1 (itF (fun _ _ _ _ => none) (F_X10_ahead_54 p0 p1) fuel) b54_L1 b54_L2 b54_L3 M = some (r9, M9) := hF
      generalize itF (fun _ _ _ _ => none) (F_X10_ahead_54 p0 p1) fuel = self54 at hs54 hF
      unfold F_X10_ahead_54 at hF
      refine z_iload_n cx d_X10_ahead_54 3 rfl ?_
      refine z_iload_n cx d_X10_ahead_55 1 rfl ?_
      refine z_icmp_ge cx 82 d_X10_ahead_56 (by decide) hF (fun hF => ?_) (fun hF => ?_)
      · exact z_lv [0, 2] _ rfl (hb82 b54_L2 M hF)
      refine z_aload_n cx d_X10_ahead_59 0 rfl ?_
      refine z_getR cx hT fg_SunnyPansModel_23 4 rfl d_X10_ahead_60 ?_
      refine z_iconst (v := 2) cx d_X10_ahead_63 ki_2 ?_
      refine z_iald cx (tfM_11_4 hT) za_28 (zvp (by decide +kernel)) 2 rfl d_X10_ahead_64 ?_
      refine z_if_le cx 82 d_X10_ahead_65 (by decide) hF (fun hF => ?_) (fun hF => ?_)
      · exact z_lv [0, 2] _ rfl (hb82 b54_L2 M hF)
      refine z_aload_n cx d_X10_ahead_68 0 rfl ?_
      refine z_aload_n cx d_X10_ahead_69 0 rfl ?_
      refine z_getR cx hT fg_SunnyPansModel_61 452 rfl d_X10_ahead_70 ?_
      obtain ⟨M5, hc, hF⟩ := zbv_inv hF
      refine z_callV cx (As := [.ref (ad 452)]) (rest := []) (c_X10_hourEnds l cx.2.2.2.1.1 M 452 hT (tfM_11_452 hT) hc) hT zo_11 cv_SunnyPansModel_299 ⟨rfl, rfl, Nat.le_of_ble_eq_true rfl, Nat.le_of_ble_eq_true rfl⟩ rfl rfl ⟨Nat.zero_le _, Nat.zero_le _⟩ (Nat.le_of_ble_eq_true rfl) d_X10_ahead_73 ?_
      refine z_iinc cx 3 1 [(3, .int (b54_L3 + 1)), (0, .ref (ad 0)), (1, .int b54_L1), (2, .int b54_L2)] d_X10_ahead_76 3 rfl ki_1 (by decide) rfl ?_
      refine z_goto cx 54 d_X10_ahead_79 (by decide) ?_
      exact z_lv [1, 2, 3, 0] _ rfl (hs54 b54_L1 b54_L2 (b54_L3 + 1) M5 hF)
  have hb31 : ∀ (b31_L1 : Int32) (b31_L2 : Int32) (b31_S1 : Int32) (M : zMem), F_X10_ahead_31 p0 p1 b31_L1 b31_L2 b31_S1 M = some (r9, M9) → zJ p l e rm_X10_ahead s m args below meth c G shM ad n A 4 (MQ below (zQ G shM ad n M9 (some (.int r9)) A) args s 0 0 A) 0 0 M 31 [(0, .ref (ad 0)), (1, .int b31_L1), (2, .int b31_L2)] [.int b31_S1, .ref (ad 0)] := by
    intro b31_L1 b31_L2 b31_S1 M hF
    unfold F_X10_ahead_31 at hF
    refine z_iconst (v := 1) cx d_X10_ahead_31 ki_1 ?_
    refine z_iconst (v := 1) cx d_X10_ahead_32 ki_1 ?_
    obtain ⟨v7, M6, hc, hF⟩ := zb_inv hF
    refine z_callV cx (As := [.int b31_S1, .int (1 : Int32), .int (1 : Int32)]) (rest := []) (c_X10_bad l cx.2.2.2.1.1 M b31_S1 (1 : Int32) (1 : Int32) hT hc) hT zo_11 cv_SunnyPansModel_155 ⟨rfl, rfl, Nat.le_of_ble_eq_true rfl, Nat.le_of_ble_eq_true rfl⟩ rfl rfl ⟨Nat.zero_le _, Nat.zero_le _⟩ (Nat.le_of_ble_eq_true rfl) d_X10_ahead_33 ?_
    refine z_if_eq cx 41 d_X10_ahead_36 (by decide) hF (fun hF => ?_) (fun hF => ?_)
    · refine z_aload_n cx d_X10_ahead_41 0 rfl ?_
      refine z_getR cx hT fg_SunnyPansModel_58 451 rfl d_X10_ahead_42 ?_
      refine z_aload_n cx d_X10_ahead_45 0 rfl ?_
      refine z_getR cx hT fg_SunnyPansModel_61 452 rfl d_X10_ahead_46 ?_
      obtain ⟨M8, hc, hF⟩ := zbv_inv hF
      refine z_callS cx (As := [.ref (ad 451), .ref (ad 452)]) (rest := []) (c_X10_copies l cx.2.2.2.1.1 M6 451 452 (tfM_11_451 hT) (tfM_11_452 hT) hc) cs_SunnyPansModel_315 ⟨rfl, rfl, Nat.le_of_ble_eq_true rfl, Nat.le_of_ble_eq_true rfl⟩ rfl rfl ⟨Nat.zero_le _, Nat.zero_le _⟩ (Nat.le_of_ble_eq_true rfl) d_X10_ahead_49 ?_
      refine z_iconst (v := 0) cx d_X10_ahead_52 ki_0 ?_
      refine z_istore_n cx 3 [(3, .int (0 : Int32)), (0, .ref (ad 0)), (1, .int b31_L1), (2, .int b31_L2)] d_X10_ahead_53 rfl (by decide) rfl ?_
      exact z_lv [1, 2, 3, 0] _ rfl (hL54 zFuel b31_L1 b31_L2 (0 : Int32) M8 hF)
    refine z_iconst (v := 0) cx d_X10_ahead_39 ki_0 ?_
    exact z_iret cx hr rfl hF d_X10_ahead_40
  unfold F_X10_ahead at hF
  refine z_aload_n cx d_X10_ahead_0 0 rfl ?_
  refine z_iconst (v := 0) cx d_X10_ahead_1 ki_0 ?_
  refine z_putI cx hT fp_SunnyPansModel_82 d_X10_ahead_2 ?_
  refine z_nmM hF (fun M9 hF => ?_)
  refine z_aload_n cx d_X10_ahead_5 0 rfl ?_
  refine z_iload_n cx d_X10_ahead_6 1 rfl ?_
  refine z_iconst (v := 0) cx d_X10_ahead_7 ki_0 ?_
  refine z_sipush (v := 500) cx d_X10_ahead_8 ks_500 ?_
  obtain ⟨v11, M10, hc, hF⟩ := zb_inv hF
  refine z_callS cx (As := [.int p0, .int (0 : Int32), .int (500 : Int32)]) (rest := [.ref (ad 0)]) (c_X10_in l cx.2.2.2.1.1 M9 p0 (0 : Int32) (500 : Int32)  hc) cs_SunnyPansModel_116 ⟨rfl, rfl, Nat.le_of_ble_eq_true rfl, Nat.le_of_ble_eq_true rfl⟩ rfl rfl ⟨Nat.zero_le _, Nat.zero_le _⟩ (Nat.le_of_ble_eq_true rfl) d_X10_ahead_11 ?_
  refine z_if_eq cx 26 d_X10_ahead_14 (by decide) hF (fun hF => ?_) (fun hF => ?_)
  · refine z_iconst (v := 1) cx d_X10_ahead_26 ki_1 ?_
    refine z_goto cx 31 d_X10_ahead_27 (by decide) ?_
    exact hb31 p0 p1 (1 : Int32) M10 hF
  refine z_iload_n cx d_X10_ahead_17 2 rfl ?_
  refine z_iconst (v := 0) cx d_X10_ahead_18 ki_0 ?_
  refine z_iconst (v := 2) cx d_X10_ahead_19 ki_2 ?_
  obtain ⟨v13, M12, hc, hF⟩ := zb_inv hF
  refine z_callS cx (As := [.int p1, .int (0 : Int32), .int (2 : Int32)]) (rest := [.ref (ad 0)]) (c_X10_in l cx.2.2.2.1.1 M10 p1 (0 : Int32) (2 : Int32)  hc) cs_SunnyPansModel_116 ⟨rfl, rfl, Nat.le_of_ble_eq_true rfl, Nat.le_of_ble_eq_true rfl⟩ rfl rfl ⟨Nat.zero_le _, Nat.zero_le _⟩ (Nat.le_of_ble_eq_true rfl) d_X10_ahead_20 ?_
  refine z_if_ne cx 30 d_X10_ahead_23 (by decide) hF (fun hF => ?_) (fun hF => ?_)
  · refine z_iconst (v := 0) cx d_X10_ahead_30 ki_0 ?_
    exact hb31 p0 p1 (0 : Int32) M12 hF
  refine z_iconst (v := 1) cx d_X10_ahead_26 ki_1 ?_
  refine z_goto cx 31 d_X10_ahead_27 (by decide) ?_
  exact hb31 p0 p1 (1 : Int32) M12 hF
/-! SunnyPansModel.dryingOf -/
theorem d_X10_dryingOf_0 : decode cX10_dryingOf 0 = .ok (.aload_n 0, 1) := by decide +kernel
theorem d_X10_dryingOf_1 : decode cX10_dryingOf 1 = .ok (.getfield 58, 3) := by decide +kernel
theorem d_X10_dryingOf_4 : decode cX10_dryingOf 4 = .ok (.sipush 128, 3) := by decide +kernel
theorem d_X10_dryingOf_7 : decode cX10_dryingOf 7 = .ok (.iload_n 1, 1) := by decide +kernel
theorem d_X10_dryingOf_8 : decode cX10_dryingOf 8 = .ok (.iadd, 1) := by decide +kernel
theorem d_X10_dryingOf_9 : decode cX10_dryingOf 9 = .ok (.iaload, 1) := by decide +kernel
theorem d_X10_dryingOf_10 : decode cX10_dryingOf 10 = .ok (.ifCond .le 5, 3) := by decide +kernel
theorem d_X10_dryingOf_13 : decode cX10_dryingOf 13 = .ok (.iconst (-1), 1) := by decide +kernel
theorem d_X10_dryingOf_14 : decode cX10_dryingOf 14 = .ok (.ireturn, 1) := by decide +kernel
theorem d_X10_dryingOf_15 : decode cX10_dryingOf 15 = .ok (.aload_n 0, 1) := by decide +kernel
theorem d_X10_dryingOf_16 : decode cX10_dryingOf 16 = .ok (.getfield 58, 3) := by decide +kernel
theorem d_X10_dryingOf_19 : decode cX10_dryingOf 19 = .ok (.aload_n 0, 1) := by decide +kernel
theorem d_X10_dryingOf_20 : decode cX10_dryingOf 20 = .ok (.getfield 61, 3) := by decide +kernel
theorem d_X10_dryingOf_23 : decode cX10_dryingOf 23 = .ok (.invokestatic 315, 3) := by decide +kernel
theorem d_X10_dryingOf_26 : decode cX10_dryingOf 26 = .ok (.iconst 0, 1) := by decide +kernel
theorem d_X10_dryingOf_27 : decode cX10_dryingOf 27 = .ok (.istore_n 2, 1) := by decide +kernel
theorem d_X10_dryingOf_28 : decode cX10_dryingOf 28 = .ok (.iload_n 2, 1) := by decide +kernel
theorem d_X10_dryingOf_29 : decode cX10_dryingOf 29 = .ok (.sipush 500, 3) := by decide +kernel
theorem d_X10_dryingOf_32 : decode cX10_dryingOf 32 = .ok (.if_icmp .gt 50, 3) := by decide +kernel
theorem d_X10_dryingOf_35 : decode cX10_dryingOf 35 = .ok (.aload_n 0, 1) := by decide +kernel
theorem d_X10_dryingOf_36 : decode cX10_dryingOf 36 = .ok (.getfield 61, 3) := by decide +kernel
theorem d_X10_dryingOf_39 : decode cX10_dryingOf 39 = .ok (.iconst 0, 1) := by decide +kernel
theorem d_X10_dryingOf_40 : decode cX10_dryingOf 40 = .ok (.iload_n 1, 1) := by decide +kernel
theorem d_X10_dryingOf_41 : decode cX10_dryingOf 41 = .ok (.iadd, 1) := by decide +kernel
theorem d_X10_dryingOf_42 : decode cX10_dryingOf 42 = .ok (.iaload, 1) := by decide +kernel
theorem d_X10_dryingOf_43 : decode cX10_dryingOf 43 = .ok (.ifCond .ne 5, 3) := by decide +kernel
theorem d_X10_dryingOf_46 : decode cX10_dryingOf 46 = .ok (.iload_n 2, 1) := by decide +kernel
theorem d_X10_dryingOf_47 : decode cX10_dryingOf 47 = .ok (.ireturn, 1) := by decide +kernel
theorem d_X10_dryingOf_48 : decode cX10_dryingOf 48 = .ok (.aload_n 0, 1) := by decide +kernel
theorem d_X10_dryingOf_49 : decode cX10_dryingOf 49 = .ok (.getfield 23, 3) := by decide +kernel
theorem d_X10_dryingOf_52 : decode cX10_dryingOf 52 = .ok (.iconst 2, 1) := by decide +kernel
theorem d_X10_dryingOf_53 : decode cX10_dryingOf 53 = .ok (.iaload, 1) := by decide +kernel
theorem d_X10_dryingOf_54 : decode cX10_dryingOf 54 = .ok (.ifCond .ne 5, 3) := by decide +kernel
theorem d_X10_dryingOf_57 : decode cX10_dryingOf 57 = .ok (.iconst (-1), 1) := by decide +kernel
theorem d_X10_dryingOf_58 : decode cX10_dryingOf 58 = .ok (.ireturn, 1) := by decide +kernel
theorem d_X10_dryingOf_59 : decode cX10_dryingOf 59 = .ok (.aload_n 0, 1) := by decide +kernel
theorem d_X10_dryingOf_60 : decode cX10_dryingOf 60 = .ok (.aload_n 0, 1) := by decide +kernel
theorem d_X10_dryingOf_61 : decode cX10_dryingOf 61 = .ok (.getfield 61, 3) := by decide +kernel
theorem d_X10_dryingOf_64 : decode cX10_dryingOf 64 = .ok (.iload_n 1, 1) := by decide +kernel
theorem d_X10_dryingOf_65 : decode cX10_dryingOf 65 = .ok (.invokevirtual 272, 3) := by decide +kernel
theorem d_X10_dryingOf_68 : decode cX10_dryingOf 68 = .ok (.aload_n 0, 1) := by decide +kernel
theorem d_X10_dryingOf_69 : decode cX10_dryingOf 69 = .ok (.aload_n 0, 1) := by decide +kernel
theorem d_X10_dryingOf_70 : decode cX10_dryingOf 70 = .ok (.getfield 61, 3) := by decide +kernel
theorem d_X10_dryingOf_73 : decode cX10_dryingOf 73 = .ok (.invokevirtual 276, 3) := by decide +kernel
theorem d_X10_dryingOf_76 : decode cX10_dryingOf 76 = .ok (.iinc 2 1, 3) := by decide +kernel
theorem d_X10_dryingOf_79 : decode cX10_dryingOf 79 = .ok (.goto (-51), 3) := by decide +kernel
theorem d_X10_dryingOf_82 : decode cX10_dryingOf 82 = .ok (.iconst (-1), 1) := by decide +kernel
theorem d_X10_dryingOf_83 : decode cX10_dryingOf 83 = .ok (.ireturn, 1) := by decide +kernel
noncomputable def F_X10_dryingOf_28 (p0 : Int32) (self28 : Int32 → Int32 → zMem → Option (Int32 × zMem)) (b28_L1 : Int32) (b28_L2 : Int32) (M : zMem) : Option (Int32 × zMem) :=
  if (500 : Int32) < b28_L2 then
    some ((-1 : Int32), M)
  else
    gin ((0 : Int32) + b28_L1) 195 <|
    if (M.1 452 ((0 : Int32) + b28_L1).toNatClampNeg) = 0 then
      some (b28_L2, M)
    else
      if (M.1 4 2) = 0 then
        some ((-1 : Int32), M)
      else
        zbv (F_X10_driesOne M 452 b28_L1) fun M2 =>
        zbv (F_X10_nextHour M2 452) fun M3 =>
        self28 b28_L1 (b28_L2 + 1) M3
noncomputable def F_X10_dryingOf (M : zMem) (p0 : Int32) : Option (Int32 × zMem) :=
  gin ((128 : Int32) + p0) 195 <|
  if (M.1 451 ((128 : Int32) + p0).toNatClampNeg) ≤ 0 then
    zbv (F_X10_copies M 451 452) fun M5 =>
    itF (fun _ _ _ => none) (F_X10_dryingOf_28 p0) zFuel p0 (0 : Int32) M5
  else
    some ((-1 : Int32), M)
def rm_X10_dryingOf : Room := { frames := 8, cells := 0, slots := 0, locals := 218 }
set_option maxHeartbeats 4000000 in
set_option maxRecDepth 100000 in
theorem c_X10_dryingOf (l : Launch) {G : zG} {ad : Nat → Nat} {n : Nat} (hA : zInj ad n) (M : zMem) (p0 : Int32) (hT : zT shM n 0 11) {r9 : Int32} {M9 : zMem} (hF : F_X10_dryingOf M p0 = some (r9, M9)) : zM l yX10_dryingOf cX10_dryingOf 3 (some .int) rm_X10_dryingOf G shM ad n M [.ref (ad 0), .int p0] (some (.int r9)) M9 := by
  refine zM_of hA (by decide +kernel) (lv := [(0, .ref (ad 0)), (1, .int p0)]) (Nat.le_of_ble_eq_true rfl) rfl (fun p e s m args below meth c A cx hr => ?_)
  have hL28 : ∀ (fuel : Nat), ∀ (b28_L1 : Int32) (b28_L2 : Int32) (M : zMem), itF (fun _ _ _ => none) (F_X10_dryingOf_28 p0) fuel b28_L1 b28_L2 M = some (r9, M9) → zJ p l e rm_X10_dryingOf s m args below meth c G shM ad n A 3 (MQ below (zQ G shM ad n M9 (some (.int r9)) A) args s 0 0 A) 0 0 M 28 [(0, .ref (ad 0)), (1, .int b28_L1), (2, .int b28_L2)] [] := by
    intro fuel
    induction fuel with
    | zero => intro b28_L1 b28_L2 M hF; cases hF
    | succ fuel hs28 =>
      intro b28_L1 b28_L2 M hF
      have hF : F_X10_dryingOf_28 p0 (itF (fun _ _ _ => none) (F_X10_dryingOf_28 p0) fuel) b28_L1 b28_L2 M = some (r9, M9) := hF
      generalize itF (fun _ _ _ => none) (F_X10_dryingOf_28 p0) fuel = self28 at hs28 hF
      unfold F_X10_dryingOf_28 at hF
      refine z_iload_n cx d_X10_dryingOf_28 2 rfl ?_
      refine z_sipush (v := 500) cx d_X10_dryingOf_29 ks_500 ?_
      refine z_icmp_gt cx 82 d_X10_dryingOf_32 (by decide) hF (fun hF => ?_) (fun hF => ?_)
      · refine z_iconst (v := -1) cx d_X10_dryingOf_82 ki_m1 ?_
        exact z_iret cx hr rfl hF d_X10_dryingOf_83
      refine z_aload_n cx d_X10_dryingOf_35 0 rfl ?_
      refine z_getR cx hT fg_SunnyPansModel_61 452 rfl d_X10_dryingOf_36 ?_
      refine z_iconst (v := 0) cx d_X10_dryingOf_39 ki_0 ?_
      refine z_iload_n cx d_X10_dryingOf_40 1 rfl ?_
      refine z_iadd cx d_X10_dryingOf_41 ?_
      obtain ⟨hi1, hF⟩ := gin_inv hF
      refine z_iald cx (tfM_11_452 hT) za_36 hi1 (((0 : Int32) + b28_L1).toNatClampNeg) rfl d_X10_dryingOf_42 ?_
      refine z_if_ne cx 48 d_X10_dryingOf_43 (by decide) hF (fun hF => ?_) (fun hF => ?_)
      · refine z_aload_n cx d_X10_dryingOf_48 0 rfl ?_
        refine z_getR cx hT fg_SunnyPansModel_23 4 rfl d_X10_dryingOf_49 ?_
        refine z_iconst (v := 2) cx d_X10_dryingOf_52 ki_2 ?_
        refine z_iald cx (tfM_11_4 hT) za_28 (zvp (by decide +kernel)) 2 rfl d_X10_dryingOf_53 ?_
        refine z_if_ne cx 59 d_X10_dryingOf_54 (by decide) hF (fun hF => ?_) (fun hF => ?_)
        · refine z_aload_n cx d_X10_dryingOf_59 0 rfl ?_
          refine z_aload_n cx d_X10_dryingOf_60 0 rfl ?_
          refine z_getR cx hT fg_SunnyPansModel_61 452 rfl d_X10_dryingOf_61 ?_
          refine z_iload_n cx d_X10_dryingOf_64 1 rfl ?_
          obtain ⟨M2, hc, hF⟩ := zbv_inv hF
          refine z_callV cx (As := [.ref (ad 452), .int b28_L1]) (rest := []) (c_X10_driesOne l cx.2.2.2.1.1 M 452 b28_L1 hT (tfM_11_452 hT) hc) hT zo_11 cv_SunnyPansModel_272 ⟨rfl, rfl, Nat.le_of_ble_eq_true rfl, Nat.le_of_ble_eq_true rfl⟩ rfl rfl ⟨Nat.zero_le _, Nat.zero_le _⟩ (Nat.le_of_ble_eq_true rfl) d_X10_dryingOf_65 ?_
          refine z_aload_n cx d_X10_dryingOf_68 0 rfl ?_
          refine z_aload_n cx d_X10_dryingOf_69 0 rfl ?_
          refine z_getR cx hT fg_SunnyPansModel_61 452 rfl d_X10_dryingOf_70 ?_
          obtain ⟨M3, hc, hF⟩ := zbv_inv hF
          refine z_callV cx (As := [.ref (ad 452)]) (rest := []) (c_X10_nextHour l cx.2.2.2.1.1 M2 452 hT (tfM_11_452 hT) hc) hT zo_11 cv_SunnyPansModel_276 ⟨rfl, rfl, Nat.le_of_ble_eq_true rfl, Nat.le_of_ble_eq_true rfl⟩ rfl rfl ⟨Nat.zero_le _, Nat.zero_le _⟩ (Nat.le_of_ble_eq_true rfl) d_X10_dryingOf_73 ?_
          refine z_iinc cx 2 1 [(2, .int (b28_L2 + 1)), (0, .ref (ad 0)), (1, .int b28_L1)] d_X10_dryingOf_76 2 rfl ki_1 (by decide) rfl ?_
          refine z_goto cx 28 d_X10_dryingOf_79 (by decide) ?_
          exact z_lv [1, 2, 0] _ rfl (hs28 b28_L1 (b28_L2 + 1) M3 hF)
        refine z_iconst (v := -1) cx d_X10_dryingOf_57 ki_m1 ?_
        exact z_iret cx hr rfl hF d_X10_dryingOf_58
      refine z_iload_n cx d_X10_dryingOf_46 2 rfl ?_
      exact z_iret cx hr rfl hF d_X10_dryingOf_47
  unfold F_X10_dryingOf at hF
  refine z_aload_n cx d_X10_dryingOf_0 0 rfl ?_
  refine z_getR cx hT fg_SunnyPansModel_58 451 rfl d_X10_dryingOf_1 ?_
  refine z_sipush (v := 128) cx d_X10_dryingOf_4 ks_128 ?_
  refine z_iload_n cx d_X10_dryingOf_7 1 rfl ?_
  refine z_iadd cx d_X10_dryingOf_8 ?_
  obtain ⟨hi4, hF⟩ := gin_inv hF
  refine z_iald cx (tfM_11_451 hT) za_36 hi4 (((128 : Int32) + p0).toNatClampNeg) rfl d_X10_dryingOf_9 ?_
  refine z_if_le cx 15 d_X10_dryingOf_10 (by decide) hF (fun hF => ?_) (fun hF => ?_)
  · refine z_aload_n cx d_X10_dryingOf_15 0 rfl ?_
    refine z_getR cx hT fg_SunnyPansModel_58 451 rfl d_X10_dryingOf_16 ?_
    refine z_aload_n cx d_X10_dryingOf_19 0 rfl ?_
    refine z_getR cx hT fg_SunnyPansModel_61 452 rfl d_X10_dryingOf_20 ?_
    obtain ⟨M5, hc, hF⟩ := zbv_inv hF
    refine z_callS cx (As := [.ref (ad 451), .ref (ad 452)]) (rest := []) (c_X10_copies l cx.2.2.2.1.1 M 451 452 (tfM_11_451 hT) (tfM_11_452 hT) hc) cs_SunnyPansModel_315 ⟨rfl, rfl, Nat.le_of_ble_eq_true rfl, Nat.le_of_ble_eq_true rfl⟩ rfl rfl ⟨Nat.zero_le _, Nat.zero_le _⟩ (Nat.le_of_ble_eq_true rfl) d_X10_dryingOf_23 ?_
    refine z_iconst (v := 0) cx d_X10_dryingOf_26 ki_0 ?_
    refine z_istore_n cx 2 [(2, .int (0 : Int32)), (0, .ref (ad 0)), (1, .int p0)] d_X10_dryingOf_27 rfl (by decide) rfl ?_
    exact z_lv [1, 2, 0] _ rfl (hL28 zFuel p0 (0 : Int32) M5 hF)
  refine z_iconst (v := -1) cx d_X10_dryingOf_13 ki_m1 ?_
  exact z_iret cx hr rfl hF d_X10_dryingOf_14
/-! SunnyPansModel.drying -/
set_option maxRecDepth 100000 in
theorem wd_1808 : Cond.code yX10_dryingOf cX10_dryingOf 3 (some .int) ∈ tbG := tw8 28 rfl rfl
set_option maxRecDepth 100000 in
theorem wd_1805 : Cond.methodLink "SunnyPansModel" 342 yX10_dryingOf ∈ tbG := tw8 25 rfl rfl
set_option maxRecDepth 100000 in
theorem wd_1807 : Cond.instanceMethod yX10_dryingOf ∈ tbG := tw8 27 rfl rfl
theorem wd_87 : Cond.selects "SunnyPansModel" yX10_dryingOf yX10_dryingOf ∈ tbG := tw 87 (by decide +kernel) rfl
theorem cv_SunnyPansModel_342 : zCV "SunnyPansModel" 342 "SunnyPansModel" yX10_dryingOf cX10_dryingOf 3 (some .int) 1 := zCV_of wd_1805 wd_1807 wd_87 wd_111 wd_1808 (by decide +kernel)
theorem d_X10_drying_0 : decode cX10_drying 0 = .ok (.aload_n 0, 1) := by decide +kernel
theorem d_X10_drying_1 : decode cX10_drying 1 = .ok (.iconst 0, 1) := by decide +kernel
theorem d_X10_drying_2 : decode cX10_drying 2 = .ok (.putfield 82, 3) := by decide +kernel
theorem d_X10_drying_5 : decode cX10_drying 5 = .ok (.aload_n 0, 1) := by decide +kernel
theorem d_X10_drying_6 : decode cX10_drying 6 = .ok (.aload_n 0, 1) := by decide +kernel
theorem d_X10_drying_7 : decode cX10_drying 7 = .ok (.iload_n 1, 1) := by decide +kernel
theorem d_X10_drying_8 : decode cX10_drying 8 = .ok (.iload_n 2, 1) := by decide +kernel
theorem d_X10_drying_9 : decode cX10_drying 9 = .ok (.invokevirtual 237, 3) := by decide +kernel
theorem d_X10_drying_12 : decode cX10_drying 12 = .ok (.ifCond .ne 7, 3) := by decide +kernel
theorem d_X10_drying_15 : decode cX10_drying 15 = .ok (.iconst 1, 1) := by decide +kernel
theorem d_X10_drying_16 : decode cX10_drying 16 = .ok (.goto 4, 3) := by decide +kernel
theorem d_X10_drying_19 : decode cX10_drying 19 = .ok (.iconst 0, 1) := by decide +kernel
theorem d_X10_drying_20 : decode cX10_drying 20 = .ok (.iconst 1, 1) := by decide +kernel
theorem d_X10_drying_21 : decode cX10_drying 21 = .ok (.iconst 0, 1) := by decide +kernel
theorem d_X10_drying_22 : decode cX10_drying 22 = .ok (.invokevirtual 155, 3) := by decide +kernel
theorem d_X10_drying_25 : decode cX10_drying 25 = .ok (.ifCond .eq 5, 3) := by decide +kernel
theorem d_X10_drying_28 : decode cX10_drying 28 = .ok (.iconst 0, 1) := by decide +kernel
theorem d_X10_drying_29 : decode cX10_drying 29 = .ok (.ireturn, 1) := by decide +kernel
theorem d_X10_drying_30 : decode cX10_drying 30 = .ok (.aload_n 0, 1) := by decide +kernel
theorem d_X10_drying_31 : decode cX10_drying 31 = .ok (.bipush 8, 2) := by decide +kernel
theorem d_X10_drying_33 : decode cX10_drying 33 = .ok (.iload_n 2, 1) := by decide +kernel
theorem d_X10_drying_34 : decode cX10_drying 34 = .ok (.imul, 1) := by decide +kernel
theorem d_X10_drying_35 : decode cX10_drying 35 = .ok (.iload_n 1, 1) := by decide +kernel
theorem d_X10_drying_36 : decode cX10_drying 36 = .ok (.iadd, 1) := by decide +kernel
theorem d_X10_drying_37 : decode cX10_drying 37 = .ok (.invokevirtual 342, 3) := by decide +kernel
theorem d_X10_drying_40 : decode cX10_drying 40 = .ok (.ireturn, 1) := by decide +kernel
noncomputable def F_X10_drying_20 (p0 : Int32) (p1 : Int32) (b20_L1 : Int32) (b20_L2 : Int32) (b20_S1 : Int32) (M : zMem) : Option (Int32 × zMem) :=
  zb (F_X10_bad M b20_S1 (1 : Int32) (0 : Int32)) fun v2 M1 =>
  if v2 = 0 then
    zb (F_X10_dryingOf M1 (((8 : Int32) * b20_L2) + b20_L1)) fun v4 M3 =>
    some (v4, M3)
  else
    some ((0 : Int32), M1)
noncomputable def F_X10_drying (M : zMem) (p0 : Int32) (p1 : Int32) : Option (Int32 × zMem) :=
  zl (zI M 0 0 (0 : Int32)) fun M5 =>
  zb (F_X10_isWithin M5 p0 p1) fun v7 M6 =>
  if v7 = 0 then
    F_X10_drying_20 p0 p1 p0 p1 (1 : Int32) M6
  else
    F_X10_drying_20 p0 p1 p0 p1 (0 : Int32) M6
def rm_X10_drying : Room := { frames := 9, cells := 0, slots := 0, locals := 240 }
set_option maxHeartbeats 4000000 in
set_option maxRecDepth 100000 in
theorem c_X10_drying (l : Launch) {G : zG} {ad : Nat → Nat} {n : Nat} (hA : zInj ad n) (M : zMem) (p0 : Int32) (p1 : Int32) (hT : zT shM n 0 11) {r9 : Int32} {M9 : zMem} (hF : F_X10_drying M p0 p1 = some (r9, M9)) : zM l yX10_drying cX10_drying 3 (some .int) rm_X10_drying G shM ad n M [.ref (ad 0), .int p0, .int p1] (some (.int r9)) M9 := by
  refine zM_of hA (by decide +kernel) (lv := [(0, .ref (ad 0)), (1, .int p0), (2, .int p1)]) (Nat.le_of_ble_eq_true rfl) rfl (fun p e s m args below meth c A cx hr => ?_)
  have hb20 : ∀ (b20_L1 : Int32) (b20_L2 : Int32) (b20_S1 : Int32) (M : zMem), F_X10_drying_20 p0 p1 b20_L1 b20_L2 b20_S1 M = some (r9, M9) → zJ p l e rm_X10_drying s m args below meth c G shM ad n A 3 (MQ below (zQ G shM ad n M9 (some (.int r9)) A) args s 0 0 A) 0 0 M 20 [(0, .ref (ad 0)), (1, .int b20_L1), (2, .int b20_L2)] [.int b20_S1, .ref (ad 0)] := by
    intro b20_L1 b20_L2 b20_S1 M hF
    unfold F_X10_drying_20 at hF
    refine z_iconst (v := 1) cx d_X10_drying_20 ki_1 ?_
    refine z_iconst (v := 0) cx d_X10_drying_21 ki_0 ?_
    obtain ⟨v2, M1, hc, hF⟩ := zb_inv hF
    refine z_callV cx (As := [.int b20_S1, .int (1 : Int32), .int (0 : Int32)]) (rest := []) (c_X10_bad l cx.2.2.2.1.1 M b20_S1 (1 : Int32) (0 : Int32) hT hc) hT zo_11 cv_SunnyPansModel_155 ⟨rfl, rfl, Nat.le_of_ble_eq_true rfl, Nat.le_of_ble_eq_true rfl⟩ rfl rfl ⟨Nat.zero_le _, Nat.zero_le _⟩ (Nat.le_of_ble_eq_true rfl) d_X10_drying_22 ?_
    refine z_if_eq cx 30 d_X10_drying_25 (by decide) hF (fun hF => ?_) (fun hF => ?_)
    · refine z_aload_n cx d_X10_drying_30 0 rfl ?_
      refine z_bipush (v := 8) cx d_X10_drying_31 kb_8 ?_
      refine z_iload_n cx d_X10_drying_33 2 rfl ?_
      refine z_imul cx d_X10_drying_34 ?_
      refine z_iload_n cx d_X10_drying_35 1 rfl ?_
      refine z_iadd cx d_X10_drying_36 ?_
      obtain ⟨v4, M3, hc, hF⟩ := zb_inv hF
      refine z_callV cx (As := [.int (((8 : Int32) * b20_L2) + b20_L1)]) (rest := []) (c_X10_dryingOf l cx.2.2.2.1.1 M1 (((8 : Int32) * b20_L2) + b20_L1) hT hc) hT zo_11 cv_SunnyPansModel_342 ⟨rfl, rfl, Nat.le_of_ble_eq_true rfl, Nat.le_of_ble_eq_true rfl⟩ rfl rfl ⟨Nat.zero_le _, Nat.zero_le _⟩ (Nat.le_of_ble_eq_true rfl) d_X10_drying_37 ?_
      exact z_iret cx hr rfl hF d_X10_drying_40
    refine z_iconst (v := 0) cx d_X10_drying_28 ki_0 ?_
    exact z_iret cx hr rfl hF d_X10_drying_29
  unfold F_X10_drying at hF
  refine z_aload_n cx d_X10_drying_0 0 rfl ?_
  refine z_iconst (v := 0) cx d_X10_drying_1 ki_0 ?_
  refine z_putI cx hT fp_SunnyPansModel_82 d_X10_drying_2 ?_
  refine z_nmM hF (fun M5 hF => ?_)
  refine z_aload_n cx d_X10_drying_5 0 rfl ?_
  refine z_aload_n cx d_X10_drying_6 0 rfl ?_
  refine z_iload_n cx d_X10_drying_7 1 rfl ?_
  refine z_iload_n cx d_X10_drying_8 2 rfl ?_
  obtain ⟨v7, M6, hc, hF⟩ := zb_inv hF
  refine z_callV cx (As := [.int p0, .int p1]) (rest := [.ref (ad 0)]) (c_X10_isWithin l cx.2.2.2.1.1 M5 p0 p1 hT hc) hT zo_11 cv_SunnyPansModel_237 ⟨rfl, rfl, Nat.le_of_ble_eq_true rfl, Nat.le_of_ble_eq_true rfl⟩ rfl rfl ⟨Nat.zero_le _, Nat.zero_le _⟩ (Nat.le_of_ble_eq_true rfl) d_X10_drying_9 ?_
  refine z_if_ne cx 19 d_X10_drying_12 (by decide) hF (fun hF => ?_) (fun hF => ?_)
  · refine z_iconst (v := 0) cx d_X10_drying_19 ki_0 ?_
    exact hb20 p0 p1 (0 : Int32) M6 hF
  refine z_iconst (v := 1) cx d_X10_drying_15 ki_1 ?_
  refine z_goto cx 20 d_X10_drying_16 (by decide) ?_
  exact hb20 p0 p1 (1 : Int32) M6 hF
/-! SunnyPansModel.asTold -/
theorem d_X10_asTold_0 : decode cX10_asTold 0 = .ok (.iload_n 0, 1) := by decide +kernel
theorem d_X10_asTold_1 : decode cX10_asTold 1 = .ok (.iconst (-1), 1) := by decide +kernel
theorem d_X10_asTold_2 : decode cX10_asTold 2 = .ok (.if_icmp .ne 7, 3) := by decide +kernel
theorem d_X10_asTold_5 : decode cX10_asTold 5 = .ok (.iconst (-1), 1) := by decide +kernel
theorem d_X10_asTold_6 : decode cX10_asTold 6 = .ok (.goto 15, 3) := by decide +kernel
theorem d_X10_asTold_9 : decode cX10_asTold 9 = .ok (.bipush 10, 2) := by decide +kernel
theorem d_X10_asTold_11 : decode cX10_asTold 11 = .ok (.iload_n 0, 1) := by decide +kernel
theorem d_X10_asTold_12 : decode cX10_asTold 12 = .ok (.bipush 8, 2) := by decide +kernel
theorem d_X10_asTold_14 : decode cX10_asTold 14 = .ok (.idiv, 1) := by decide +kernel
theorem d_X10_asTold_15 : decode cX10_asTold 15 = .ok (.imul, 1) := by decide +kernel
theorem d_X10_asTold_16 : decode cX10_asTold 16 = .ok (.iload_n 0, 1) := by decide +kernel
theorem d_X10_asTold_17 : decode cX10_asTold 17 = .ok (.bipush 8, 2) := by decide +kernel
theorem d_X10_asTold_19 : decode cX10_asTold 19 = .ok (.irem, 1) := by decide +kernel
theorem d_X10_asTold_20 : decode cX10_asTold 20 = .ok (.iadd, 1) := by decide +kernel
theorem d_X10_asTold_21 : decode cX10_asTold 21 = .ok (.ireturn, 1) := by decide +kernel
noncomputable def F_X10_asTold (M : zMem) (p0 : Int32) : Option (Int32 × zMem) :=
  if p0 = (-1 : Int32) then
    some ((-1 : Int32), M)
  else
    some ((((10 : Int32) * (p0 / (8 : Int32))) + (p0 - p0 / (8 : Int32) * (8 : Int32))), M)
def rm_X10_asTold : Room := { frames := 2, cells := 0, slots := 0, locals := 80 }
set_option maxHeartbeats 4000000 in
set_option maxRecDepth 100000 in
theorem c_X10_asTold (l : Launch) {G : zG} {ad : Nat → Nat} {n : Nat} (hA : zInj ad n) (M : zMem) (p0 : Int32) {r9 : Int32} {M9 : zMem} (hF : F_X10_asTold M p0 = some (r9, M9)) : zM l yX10_asTold cX10_asTold 1 (some .int) rm_X10_asTold G shM ad n M [.int p0] (some (.int r9)) M9 := by
  refine zM_of hA (by decide +kernel) (lv := [(0, .int p0)]) (Nat.le_of_ble_eq_true rfl) rfl (fun p e s m args below meth c A cx hr => ?_)
  unfold F_X10_asTold at hF
  refine z_iload_n cx d_X10_asTold_0 0 rfl ?_
  refine z_iconst (v := -1) cx d_X10_asTold_1 ki_m1 ?_
  refine z_icmp_ne cx 9 d_X10_asTold_2 (by decide) hF (fun hF => ?_) (fun hF => ?_)
  · refine z_bipush (v := 10) cx d_X10_asTold_9 kb_10 ?_
    refine z_iload_n cx d_X10_asTold_11 0 rfl ?_
    refine z_bipush (v := 8) cx d_X10_asTold_12 kb_8 ?_
    refine z_idiv cx d_X10_asTold_14 (by decide) ?_
    refine z_imul cx d_X10_asTold_15 ?_
    refine z_iload_n cx d_X10_asTold_16 0 rfl ?_
    refine z_bipush (v := 8) cx d_X10_asTold_17 kb_8 ?_
    refine z_irem cx d_X10_asTold_19 (by decide) ?_
    refine z_iadd cx d_X10_asTold_20 ?_
    exact z_iret cx hr rfl hF d_X10_asTold_21
  refine z_iconst (v := -1) cx d_X10_asTold_5 ki_m1 ?_
  refine z_goto cx 21 d_X10_asTold_6 (by decide) ?_
  exact z_iret cx hr rfl hF d_X10_asTold_21
/-! SunnyPansModel.first -/
set_option maxRecDepth 100000 in
theorem wd_1815 : Cond.code yX10_asTold cX10_asTold 1 (some .int) ∈ tbG := tw8 35 rfl rfl
set_option maxRecDepth 100000 in
theorem wd_1813 : Cond.methodLink "SunnyPansModel" 345 yX10_asTold ∈ tbG := tw8 33 rfl rfl
set_option maxRecDepth 100000 in
theorem wd_1814 : Cond.static yX10_asTold ∈ tbG := tw8 34 rfl rfl
theorem cs_SunnyPansModel_345 : zCS "SunnyPansModel" 345 yX10_asTold cX10_asTold 1 (some .int) 1 := zCS_of wd_1813 wd_1814 wd_111 wd_1815 (by decide +kernel)
theorem d_X10_first_0 : decode cX10_first 0 = .ok (.aload_n 0, 1) := by decide +kernel
theorem d_X10_first_1 : decode cX10_first 1 = .ok (.iconst 0, 1) := by decide +kernel
theorem d_X10_first_2 : decode cX10_first 2 = .ok (.putfield 82, 3) := by decide +kernel
theorem d_X10_first_5 : decode cX10_first 5 = .ok (.aload_n 0, 1) := by decide +kernel
theorem d_X10_first_6 : decode cX10_first 6 = .ok (.iload_n 1, 1) := by decide +kernel
theorem d_X10_first_7 : decode cX10_first 7 = .ok (.iconst 0, 1) := by decide +kernel
theorem d_X10_first_8 : decode cX10_first 8 = .ok (.iconst 1, 1) := by decide +kernel
theorem d_X10_first_9 : decode cX10_first 9 = .ok (.invokestatic 116, 3) := by decide +kernel
theorem d_X10_first_12 : decode cX10_first 12 = .ok (.ifCond .ne 7, 3) := by decide +kernel
theorem d_X10_first_15 : decode cX10_first 15 = .ok (.iconst 1, 1) := by decide +kernel
theorem d_X10_first_16 : decode cX10_first 16 = .ok (.goto 4, 3) := by decide +kernel
theorem d_X10_first_19 : decode cX10_first 19 = .ok (.iconst 0, 1) := by decide +kernel
theorem d_X10_first_20 : decode cX10_first 20 = .ok (.iconst 1, 1) := by decide +kernel
theorem d_X10_first_21 : decode cX10_first 21 = .ok (.iconst 1, 1) := by decide +kernel
theorem d_X10_first_22 : decode cX10_first 22 = .ok (.invokevirtual 155, 3) := by decide +kernel
theorem d_X10_first_25 : decode cX10_first 25 = .ok (.ifCond .eq 5, 3) := by decide +kernel
theorem d_X10_first_28 : decode cX10_first 28 = .ok (.iconst 0, 1) := by decide +kernel
theorem d_X10_first_29 : decode cX10_first 29 = .ok (.ireturn, 1) := by decide +kernel
theorem d_X10_first_30 : decode cX10_first 30 = .ok (.iconst (-1), 1) := by decide +kernel
theorem d_X10_first_31 : decode cX10_first 31 = .ok (.istore_n 2, 1) := by decide +kernel
theorem d_X10_first_32 : decode cX10_first 32 = .ok (.iconst (-1), 1) := by decide +kernel
theorem d_X10_first_33 : decode cX10_first 33 = .ok (.istore_n 3, 1) := by decide +kernel
theorem d_X10_first_34 : decode cX10_first 34 = .ok (.iconst 0, 1) := by decide +kernel
theorem d_X10_first_35 : decode cX10_first 35 = .ok (.istore 4, 2) := by decide +kernel
theorem d_X10_first_37 : decode cX10_first 37 = .ok (.iload 4, 2) := by decide +kernel
theorem d_X10_first_39 : decode cX10_first 39 = .ok (.bipush 64, 2) := by decide +kernel
theorem d_X10_first_41 : decode cX10_first 41 = .ok (.if_icmp .ge 59, 3) := by decide +kernel
theorem d_X10_first_44 : decode cX10_first 44 = .ok (.aload_n 0, 1) := by decide +kernel
theorem d_X10_first_45 : decode cX10_first 45 = .ok (.getfield 58, 3) := by decide +kernel
theorem d_X10_first_48 : decode cX10_first 48 = .ok (.iconst 0, 1) := by decide +kernel
theorem d_X10_first_49 : decode cX10_first 49 = .ok (.iload 4, 2) := by decide +kernel
theorem d_X10_first_51 : decode cX10_first 51 = .ok (.iadd, 1) := by decide +kernel
theorem d_X10_first_52 : decode cX10_first 52 = .ok (.iaload, 1) := by decide +kernel
theorem d_X10_first_53 : decode cX10_first 53 = .ok (.ifCond .ne 7, 3) := by decide +kernel
theorem d_X10_first_56 : decode cX10_first 56 = .ok (.iconst (-1), 1) := by decide +kernel
theorem d_X10_first_57 : decode cX10_first 57 = .ok (.goto 9, 3) := by decide +kernel
theorem d_X10_first_60 : decode cX10_first 60 = .ok (.aload_n 0, 1) := by decide +kernel
theorem d_X10_first_61 : decode cX10_first 61 = .ok (.iload 4, 2) := by decide +kernel
theorem d_X10_first_63 : decode cX10_first 63 = .ok (.invokevirtual 342, 3) := by decide +kernel
theorem d_X10_first_66 : decode cX10_first 66 = .ok (.istore 5, 2) := by decide +kernel
theorem d_X10_first_68 : decode cX10_first 68 = .ok (.iload 5, 2) := by decide +kernel
theorem d_X10_first_70 : decode cX10_first 70 = .ok (.iconst (-1), 1) := by decide +kernel
theorem d_X10_first_71 : decode cX10_first 71 = .ok (.if_icmp .eq 23, 3) := by decide +kernel
theorem d_X10_first_74 : decode cX10_first 74 = .ok (.iload_n 2, 1) := by decide +kernel
theorem d_X10_first_75 : decode cX10_first 75 = .ok (.iconst (-1), 1) := by decide +kernel
theorem d_X10_first_76 : decode cX10_first 76 = .ok (.if_icmp .eq 12, 3) := by decide +kernel
theorem d_X10_first_79 : decode cX10_first 79 = .ok (.iload 5, 2) := by decide +kernel
theorem d_X10_first_81 : decode cX10_first 81 = .ok (.iload_n 3, 1) := by decide +kernel
theorem d_X10_first_82 : decode cX10_first 82 = .ok (.if_icmp .lt 6, 3) := by decide +kernel
theorem d_X10_first_85 : decode cX10_first 85 = .ok (.goto 9, 3) := by decide +kernel
theorem d_X10_first_88 : decode cX10_first 88 = .ok (.iload 4, 2) := by decide +kernel
theorem d_X10_first_90 : decode cX10_first 90 = .ok (.istore_n 2, 1) := by decide +kernel
theorem d_X10_first_91 : decode cX10_first 91 = .ok (.iload 5, 2) := by decide +kernel
theorem d_X10_first_93 : decode cX10_first 93 = .ok (.istore_n 3, 1) := by decide +kernel
theorem d_X10_first_94 : decode cX10_first 94 = .ok (.iinc 4 1, 3) := by decide +kernel
theorem d_X10_first_97 : decode cX10_first 97 = .ok (.goto (-60), 3) := by decide +kernel
theorem d_X10_first_100 : decode cX10_first 100 = .ok (.iload_n 1, 1) := by decide +kernel
theorem d_X10_first_101 : decode cX10_first 101 = .ok (.ifCond .ne 10, 3) := by decide +kernel
theorem d_X10_first_104 : decode cX10_first 104 = .ok (.iload_n 2, 1) := by decide +kernel
theorem d_X10_first_105 : decode cX10_first 105 = .ok (.invokestatic 345, 3) := by decide +kernel
theorem d_X10_first_108 : decode cX10_first 108 = .ok (.goto 4, 3) := by decide +kernel
theorem d_X10_first_111 : decode cX10_first 111 = .ok (.iload_n 3, 1) := by decide +kernel
theorem d_X10_first_112 : decode cX10_first 112 = .ok (.ireturn, 1) := by decide +kernel
noncomputable def F_X10_first_94 (p0 : Int32) (self37 : Int32 → Int32 → Int32 → Int32 → zMem → Option (Int32 × zMem)) (b94_L1 : Int32) (b94_L2 : Int32) (b94_L3 : Int32) (b94_L4 : Int32) (M : zMem) : Option (Int32 × zMem) :=
  self37 b94_L1 b94_L2 b94_L3 (b94_L4 + 1) M
noncomputable def F_X10_first_88 (p0 : Int32) (self37 : Int32 → Int32 → Int32 → Int32 → zMem → Option (Int32 × zMem)) (b88_L1 : Int32) (b88_L4 : Int32) (b88_L5 : Int32) (M : zMem) : Option (Int32 × zMem) :=
  F_X10_first_94 p0 self37 b88_L1 b88_L4 b88_L5 b88_L4 M
noncomputable def F_X10_first_66 (p0 : Int32) (self37 : Int32 → Int32 → Int32 → Int32 → zMem → Option (Int32 × zMem)) (b66_L1 : Int32) (b66_L2 : Int32) (b66_L3 : Int32) (b66_L4 : Int32) (b66_S0 : Int32) (M : zMem) : Option (Int32 × zMem) :=
  if b66_S0 = (-1 : Int32) then
    F_X10_first_94 p0 self37 b66_L1 b66_L2 b66_L3 b66_L4 M
  else
    if b66_L2 = (-1 : Int32) then
      F_X10_first_88 p0 self37 b66_L1 b66_L4 b66_S0 M
    else
      if b66_S0 < b66_L3 then
        F_X10_first_88 p0 self37 b66_L1 b66_L4 b66_S0 M
      else
        F_X10_first_94 p0 self37 b66_L1 b66_L2 b66_L3 b66_L4 M
noncomputable def F_X10_first_37 (p0 : Int32) (self37 : Int32 → Int32 → Int32 → Int32 → zMem → Option (Int32 × zMem)) (b37_L1 : Int32) (b37_L2 : Int32) (b37_L3 : Int32) (b37_L4 : Int32) (M : zMem) : Option (Int32 × zMem) :=
  if (64 : Int32) ≤ b37_L4 then
    if b37_L1 = 0 then
      zb (F_X10_asTold M b37_L2) fun v2 M1 =>
      some (v2, M1)
    else
      some (b37_L3, M)
  else
    gin ((0 : Int32) + b37_L4) 195 <|
    if (M.1 451 ((0 : Int32) + b37_L4).toNatClampNeg) = 0 then
      F_X10_first_66 p0 self37 b37_L1 b37_L2 b37_L3 b37_L4 (-1 : Int32) M
    else
      zb (F_X10_dryingOf M b37_L4) fun v5 M4 =>
      F_X10_first_66 p0 self37 b37_L1 b37_L2 b37_L3 b37_L4 v5 M4
noncomputable def F_X10_first_20 (p0 : Int32) (b20_L1 : Int32) (b20_S1 : Int32) (M : zMem) : Option (Int32 × zMem) :=
  zb (F_X10_bad M b20_S1 (1 : Int32) (1 : Int32)) fun v7 M6 =>
  if v7 = 0 then
    itF (fun _ _ _ _ _ => none) (F_X10_first_37 p0) zFuel b20_L1 (-1 : Int32) (-1 : Int32) (0 : Int32) M6
  else
    some ((0 : Int32), M6)
noncomputable def F_X10_first (M : zMem) (p0 : Int32) : Option (Int32 × zMem) :=
  zl (zI M 0 0 (0 : Int32)) fun M8 =>
  zb (F_X10_in M8 p0 (0 : Int32) (1 : Int32)) fun v10 M9 =>
  if v10 = 0 then
    F_X10_first_20 p0 p0 (1 : Int32) M9
  else
    F_X10_first_20 p0 p0 (0 : Int32) M9
def rm_X10_first : Room := { frames := 9, cells := 0, slots := 0, locals := 240 }
set_option maxHeartbeats 4000000 in
set_option maxRecDepth 100000 in
theorem c_X10_first (l : Launch) {G : zG} {ad : Nat → Nat} {n : Nat} (hA : zInj ad n) (M : zMem) (p0 : Int32) (hT : zT shM n 0 11) {r9 : Int32} {M9 : zMem} (hF : F_X10_first M p0 = some (r9, M9)) : zM l yX10_first cX10_first 6 (some .int) rm_X10_first G shM ad n M [.ref (ad 0), .int p0] (some (.int r9)) M9 := by
  refine zM_of hA (by decide +kernel) (lv := [(0, .ref (ad 0)), (1, .int p0)]) (Nat.le_of_ble_eq_true rfl) rfl (fun p e s m args below meth c A cx hr => ?_)
  have hb94 : ∀ (self37 : Int32 → Int32 → Int32 → Int32 → zMem → Option (Int32 × zMem)) (hs37 : ∀ (b37_L1 : Int32) (b37_L2 : Int32) (b37_L3 : Int32) (b37_L4 : Int32) (M : zMem), self37 b37_L1 b37_L2 b37_L3 b37_L4 M = some (r9, M9) → zJ p l e rm_X10_first s m args below meth c G shM ad n A 6 (MQ below (zQ G shM ad n M9 (some (.int r9)) A) args s 0 0 A) 0 0 M 37 [(0, .ref (ad 0)), (1, .int b37_L1), (2, .int b37_L2), (3, .int b37_L3), (4, .int b37_L4)] []), ∀ (b94_L1 : Int32) (b94_L2 : Int32) (b94_L3 : Int32) (b94_L4 : Int32) (M : zMem), F_X10_first_94 p0 self37 b94_L1 b94_L2 b94_L3 b94_L4 M = some (r9, M9) → zJ p l e rm_X10_first s m args below meth c G shM ad n A 6 (MQ below (zQ G shM ad n M9 (some (.int r9)) A) args s 0 0 A) 0 0 M 94 [(0, .ref (ad 0)), (1, .int b94_L1), (2, .int b94_L2), (3, .int b94_L3), (4, .int b94_L4)] [] := by
    intro self37 hs37 b94_L1 b94_L2 b94_L3 b94_L4 M hF
    unfold F_X10_first_94 at hF
    refine z_iinc cx 4 1 [(4, .int (b94_L4 + 1)), (0, .ref (ad 0)), (1, .int b94_L1), (2, .int b94_L2), (3, .int b94_L3)] d_X10_first_94 4 rfl ki_1 (by decide) rfl ?_
    refine z_goto cx 37 d_X10_first_97 (by decide) ?_
    exact z_lv [1, 2, 3, 4, 0] _ rfl (hs37 b94_L1 b94_L2 b94_L3 (b94_L4 + 1) M hF)
  have hb88 : ∀ (self37 : Int32 → Int32 → Int32 → Int32 → zMem → Option (Int32 × zMem)) (hs37 : ∀ (b37_L1 : Int32) (b37_L2 : Int32) (b37_L3 : Int32) (b37_L4 : Int32) (M : zMem), self37 b37_L1 b37_L2 b37_L3 b37_L4 M = some (r9, M9) → zJ p l e rm_X10_first s m args below meth c G shM ad n A 6 (MQ below (zQ G shM ad n M9 (some (.int r9)) A) args s 0 0 A) 0 0 M 37 [(0, .ref (ad 0)), (1, .int b37_L1), (2, .int b37_L2), (3, .int b37_L3), (4, .int b37_L4)] []), ∀ (b88_L1 : Int32) (b88_L4 : Int32) (b88_L5 : Int32) (M : zMem), F_X10_first_88 p0 self37 b88_L1 b88_L4 b88_L5 M = some (r9, M9) → zJ p l e rm_X10_first s m args below meth c G shM ad n A 6 (MQ below (zQ G shM ad n M9 (some (.int r9)) A) args s 0 0 A) 0 0 M 88 [(0, .ref (ad 0)), (1, .int b88_L1), (4, .int b88_L4), (5, .int b88_L5)] [] := by
    intro self37 hs37 b88_L1 b88_L4 b88_L5 M hF
    unfold F_X10_first_88 at hF
    refine z_iload cx d_X10_first_88 2 rfl ?_
    refine z_istore_n cx 2 [(2, .int b88_L4), (0, .ref (ad 0)), (1, .int b88_L1), (4, .int b88_L4), (5, .int b88_L5)] d_X10_first_90 rfl (by decide) rfl ?_
    refine z_iload cx d_X10_first_91 4 rfl ?_
    refine z_istore_n cx 3 [(3, .int b88_L5), (2, .int b88_L4), (0, .ref (ad 0)), (1, .int b88_L1), (4, .int b88_L4), (5, .int b88_L5)] d_X10_first_93 rfl (by decide) rfl ?_
    exact z_lv [2, 3, 1, 0, 4] _ rfl (hb94 self37 hs37 b88_L1 b88_L4 b88_L5 b88_L4 M hF)
  have hb66 : ∀ (self37 : Int32 → Int32 → Int32 → Int32 → zMem → Option (Int32 × zMem)) (hs37 : ∀ (b37_L1 : Int32) (b37_L2 : Int32) (b37_L3 : Int32) (b37_L4 : Int32) (M : zMem), self37 b37_L1 b37_L2 b37_L3 b37_L4 M = some (r9, M9) → zJ p l e rm_X10_first s m args below meth c G shM ad n A 6 (MQ below (zQ G shM ad n M9 (some (.int r9)) A) args s 0 0 A) 0 0 M 37 [(0, .ref (ad 0)), (1, .int b37_L1), (2, .int b37_L2), (3, .int b37_L3), (4, .int b37_L4)] []), ∀ (b66_L1 : Int32) (b66_L2 : Int32) (b66_L3 : Int32) (b66_L4 : Int32) (b66_S0 : Int32) (M : zMem), F_X10_first_66 p0 self37 b66_L1 b66_L2 b66_L3 b66_L4 b66_S0 M = some (r9, M9) → zJ p l e rm_X10_first s m args below meth c G shM ad n A 6 (MQ below (zQ G shM ad n M9 (some (.int r9)) A) args s 0 0 A) 0 0 M 66 [(0, .ref (ad 0)), (1, .int b66_L1), (2, .int b66_L2), (3, .int b66_L3), (4, .int b66_L4)] [.int b66_S0] := by
    intro self37 hs37 b66_L1 b66_L2 b66_L3 b66_L4 b66_S0 M hF
    unfold F_X10_first_66 at hF
    refine z_istore cx 5 [(5, .int b66_S0), (0, .ref (ad 0)), (1, .int b66_L1), (2, .int b66_L2), (3, .int b66_L3), (4, .int b66_L4)] d_X10_first_66 (by decide) rfl ?_
    refine z_iload cx d_X10_first_68 0 rfl ?_
    refine z_iconst (v := -1) cx d_X10_first_70 ki_m1 ?_
    refine z_icmp_eq cx 94 d_X10_first_71 (by decide) hF (fun hF => ?_) (fun hF => ?_)
    · exact z_lv [1, 2, 3, 4, 5] _ rfl (hb94 self37 hs37 b66_L1 b66_L2 b66_L3 b66_L4 M hF)
    refine z_iload_n cx d_X10_first_74 3 rfl ?_
    refine z_iconst (v := -1) cx d_X10_first_75 ki_m1 ?_
    refine z_icmp_eq cx 88 d_X10_first_76 (by decide) hF (fun hF => ?_) (fun hF => ?_)
    · exact z_lv [1, 2, 5, 0] _ rfl (hb88 self37 hs37 b66_L1 b66_L4 b66_S0 M hF)
    refine z_iload cx d_X10_first_79 0 rfl ?_
    refine z_iload_n cx d_X10_first_81 4 rfl ?_
    refine z_icmp_lt cx 88 d_X10_first_82 (by decide) hF (fun hF => ?_) (fun hF => ?_)
    · exact z_lv [1, 2, 5, 0] _ rfl (hb88 self37 hs37 b66_L1 b66_L4 b66_S0 M hF)
    refine z_goto cx 94 d_X10_first_85 (by decide) ?_
    exact z_lv [1, 2, 3, 4, 5] _ rfl (hb94 self37 hs37 b66_L1 b66_L2 b66_L3 b66_L4 M hF)
  have hL37 : ∀ (fuel : Nat), ∀ (b37_L1 : Int32) (b37_L2 : Int32) (b37_L3 : Int32) (b37_L4 : Int32) (M : zMem), itF (fun _ _ _ _ _ => none) (F_X10_first_37 p0) fuel b37_L1 b37_L2 b37_L3 b37_L4 M = some (r9, M9) → zJ p l e rm_X10_first s m args below meth c G shM ad n A 6 (MQ below (zQ G shM ad n M9 (some (.int r9)) A) args s 0 0 A) 0 0 M 37 [(0, .ref (ad 0)), (1, .int b37_L1), (2, .int b37_L2), (3, .int b37_L3), (4, .int b37_L4)] [] := by
    intro fuel
    induction fuel with
    | zero => intro b37_L1 b37_L2 b37_L3 b37_L4 M hF; cases hF
    | succ fuel hs37 =>
      intro b37_L1 b37_L2 b37_L3 b37_L4 M hF
      have hF : F_X10_first_37 p0 (itF (fun _ _ _ _ _ => none) (F_X10_first_37 p0) fuel) b37_L1 b37_L2 b37_L3 b37_L4 M = some (r9, M9) := hF
      generalize itF (fun _ _ _ _ _ => none) (F_X10_first_37 p0) fuel = self37 at hs37 hF
      unfold F_X10_first_37 at hF
      refine z_iload cx d_X10_first_37 4 rfl ?_
      refine z_bipush (v := 64) cx d_X10_first_39 kb_64 ?_
      refine z_icmp_ge cx 100 d_X10_first_41 (by decide) hF (fun hF => ?_) (fun hF => ?_)
      · refine z_iload_n cx d_X10_first_100 1 rfl ?_
        refine z_if_ne cx 111 d_X10_first_101 (by decide) hF (fun hF => ?_) (fun hF => ?_)
        · refine z_iload_n cx d_X10_first_111 3 rfl ?_
          exact z_iret cx hr rfl hF d_X10_first_112
        refine z_iload_n cx d_X10_first_104 2 rfl ?_
        obtain ⟨v2, M1, hc, hF⟩ := zb_inv hF
        refine z_callS cx (As := [.int b37_L2]) (rest := []) (c_X10_asTold l cx.2.2.2.1.1 M b37_L2  hc) cs_SunnyPansModel_345 ⟨rfl, rfl, Nat.le_of_ble_eq_true rfl, Nat.le_of_ble_eq_true rfl⟩ rfl rfl ⟨Nat.zero_le _, Nat.zero_le _⟩ (Nat.le_of_ble_eq_true rfl) d_X10_first_105 ?_
        refine z_goto cx 112 d_X10_first_108 (by decide) ?_
        exact z_iret cx hr rfl hF d_X10_first_112
      refine z_aload_n cx d_X10_first_44 0 rfl ?_
      refine z_getR cx hT fg_SunnyPansModel_58 451 rfl d_X10_first_45 ?_
      refine z_iconst (v := 0) cx d_X10_first_48 ki_0 ?_
      refine z_iload cx d_X10_first_49 4 rfl ?_
      refine z_iadd cx d_X10_first_51 ?_
      obtain ⟨hi3, hF⟩ := gin_inv hF
      refine z_iald cx (tfM_11_451 hT) za_36 hi3 (((0 : Int32) + b37_L4).toNatClampNeg) rfl d_X10_first_52 ?_
      refine z_if_ne cx 60 d_X10_first_53 (by decide) hF (fun hF => ?_) (fun hF => ?_)
      · refine z_aload_n cx d_X10_first_60 0 rfl ?_
        refine z_iload cx d_X10_first_61 4 rfl ?_
        obtain ⟨v5, M4, hc, hF⟩ := zb_inv hF
        refine z_callV cx (As := [.int b37_L4]) (rest := []) (c_X10_dryingOf l cx.2.2.2.1.1 M b37_L4 hT hc) hT zo_11 cv_SunnyPansModel_342 ⟨rfl, rfl, Nat.le_of_ble_eq_true rfl, Nat.le_of_ble_eq_true rfl⟩ rfl rfl ⟨Nat.zero_le _, Nat.zero_le _⟩ (Nat.le_of_ble_eq_true rfl) d_X10_first_63 ?_
        exact hb66 self37 hs37 b37_L1 b37_L2 b37_L3 b37_L4 v5 M4 hF
      refine z_iconst (v := -1) cx d_X10_first_56 ki_m1 ?_
      refine z_goto cx 66 d_X10_first_57 (by decide) ?_
      exact hb66 self37 hs37 b37_L1 b37_L2 b37_L3 b37_L4 (-1 : Int32) M hF
  have hb20 : ∀ (b20_L1 : Int32) (b20_S1 : Int32) (M : zMem), F_X10_first_20 p0 b20_L1 b20_S1 M = some (r9, M9) → zJ p l e rm_X10_first s m args below meth c G shM ad n A 6 (MQ below (zQ G shM ad n M9 (some (.int r9)) A) args s 0 0 A) 0 0 M 20 [(0, .ref (ad 0)), (1, .int b20_L1)] [.int b20_S1, .ref (ad 0)] := by
    intro b20_L1 b20_S1 M hF
    unfold F_X10_first_20 at hF
    refine z_iconst (v := 1) cx d_X10_first_20 ki_1 ?_
    refine z_iconst (v := 1) cx d_X10_first_21 ki_1 ?_
    obtain ⟨v7, M6, hc, hF⟩ := zb_inv hF
    refine z_callV cx (As := [.int b20_S1, .int (1 : Int32), .int (1 : Int32)]) (rest := []) (c_X10_bad l cx.2.2.2.1.1 M b20_S1 (1 : Int32) (1 : Int32) hT hc) hT zo_11 cv_SunnyPansModel_155 ⟨rfl, rfl, Nat.le_of_ble_eq_true rfl, Nat.le_of_ble_eq_true rfl⟩ rfl rfl ⟨Nat.zero_le _, Nat.zero_le _⟩ (Nat.le_of_ble_eq_true rfl) d_X10_first_22 ?_
    refine z_if_eq cx 30 d_X10_first_25 (by decide) hF (fun hF => ?_) (fun hF => ?_)
    · refine z_iconst (v := -1) cx d_X10_first_30 ki_m1 ?_
      refine z_istore_n cx 2 [(2, .int (-1 : Int32)), (0, .ref (ad 0)), (1, .int b20_L1)] d_X10_first_31 rfl (by decide) rfl ?_
      refine z_iconst (v := -1) cx d_X10_first_32 ki_m1 ?_
      refine z_istore_n cx 3 [(3, .int (-1 : Int32)), (2, .int (-1 : Int32)), (0, .ref (ad 0)), (1, .int b20_L1)] d_X10_first_33 rfl (by decide) rfl ?_
      refine z_iconst (v := 0) cx d_X10_first_34 ki_0 ?_
      refine z_istore cx 4 [(4, .int (0 : Int32)), (3, .int (-1 : Int32)), (2, .int (-1 : Int32)), (0, .ref (ad 0)), (1, .int b20_L1)] d_X10_first_35 (by decide) rfl ?_
      exact z_lv [3, 4, 2, 1, 0] _ rfl (hL37 zFuel b20_L1 (-1 : Int32) (-1 : Int32) (0 : Int32) M6 hF)
    refine z_iconst (v := 0) cx d_X10_first_28 ki_0 ?_
    exact z_iret cx hr rfl hF d_X10_first_29
  unfold F_X10_first at hF
  refine z_aload_n cx d_X10_first_0 0 rfl ?_
  refine z_iconst (v := 0) cx d_X10_first_1 ki_0 ?_
  refine z_putI cx hT fp_SunnyPansModel_82 d_X10_first_2 ?_
  refine z_nmM hF (fun M8 hF => ?_)
  refine z_aload_n cx d_X10_first_5 0 rfl ?_
  refine z_iload_n cx d_X10_first_6 1 rfl ?_
  refine z_iconst (v := 0) cx d_X10_first_7 ki_0 ?_
  refine z_iconst (v := 1) cx d_X10_first_8 ki_1 ?_
  obtain ⟨v10, M9, hc, hF⟩ := zb_inv hF
  refine z_callS cx (As := [.int p0, .int (0 : Int32), .int (1 : Int32)]) (rest := [.ref (ad 0)]) (c_X10_in l cx.2.2.2.1.1 M8 p0 (0 : Int32) (1 : Int32)  hc) cs_SunnyPansModel_116 ⟨rfl, rfl, Nat.le_of_ble_eq_true rfl, Nat.le_of_ble_eq_true rfl⟩ rfl rfl ⟨Nat.zero_le _, Nat.zero_le _⟩ (Nat.le_of_ble_eq_true rfl) d_X10_first_9 ?_
  refine z_if_ne cx 19 d_X10_first_12 (by decide) hF (fun hF => ?_) (fun hF => ?_)
  · refine z_iconst (v := 0) cx d_X10_first_19 ki_0 ?_
    exact hb20 p0 (0 : Int32) M9 hF
  refine z_iconst (v := 1) cx d_X10_first_15 ki_1 ?_
  refine z_goto cx 20 d_X10_first_16 (by decide) ?_
  exact hb20 p0 (1 : Int32) M9 hF
/-! SunnyPansModel.isFree -/
theorem d_X10_isFree_0 : decode cX10_isFree 0 = .ok (.aload_n 0, 1) := by decide +kernel
theorem d_X10_isFree_1 : decode cX10_isFree 1 = .ok (.iload_n 1, 1) := by decide +kernel
theorem d_X10_isFree_2 : decode cX10_isFree 2 = .ok (.invokevirtual 284, 3) := by decide +kernel
theorem d_X10_isFree_5 : decode cX10_isFree 5 = .ok (.ifCond .eq 30, 3) := by decide +kernel
theorem d_X10_isFree_8 : decode cX10_isFree 8 = .ok (.aload_n 0, 1) := by decide +kernel
theorem d_X10_isFree_9 : decode cX10_isFree 9 = .ok (.getfield 58, 3) := by decide +kernel
theorem d_X10_isFree_12 : decode cX10_isFree 12 = .ok (.iload_n 1, 1) := by decide +kernel
theorem d_X10_isFree_13 : decode cX10_isFree 13 = .ok (.invokestatic 280, 3) := by decide +kernel
theorem d_X10_isFree_16 : decode cX10_isFree 16 = .ok (.ifCond .eq 19, 3) := by decide +kernel
theorem d_X10_isFree_19 : decode cX10_isFree 19 = .ok (.aload_n 0, 1) := by decide +kernel
theorem d_X10_isFree_20 : decode cX10_isFree 20 = .ok (.getfield 58, 3) := by decide +kernel
theorem d_X10_isFree_23 : decode cX10_isFree 23 = .ok (.bipush 64, 2) := by decide +kernel
theorem d_X10_isFree_25 : decode cX10_isFree 25 = .ok (.iload_n 1, 1) := by decide +kernel
theorem d_X10_isFree_26 : decode cX10_isFree 26 = .ok (.iadd, 1) := by decide +kernel
theorem d_X10_isFree_27 : decode cX10_isFree 27 = .ok (.iaload, 1) := by decide +kernel
theorem d_X10_isFree_28 : decode cX10_isFree 28 = .ok (.ifCond .ne 7, 3) := by decide +kernel
theorem d_X10_isFree_31 : decode cX10_isFree 31 = .ok (.iconst 1, 1) := by decide +kernel
theorem d_X10_isFree_32 : decode cX10_isFree 32 = .ok (.goto 4, 3) := by decide +kernel
theorem d_X10_isFree_35 : decode cX10_isFree 35 = .ok (.iconst 0, 1) := by decide +kernel
theorem d_X10_isFree_36 : decode cX10_isFree 36 = .ok (.ireturn, 1) := by decide +kernel
noncomputable def F_X10_isFree (M : zMem) (p0 : Int32) : Option (Int32 × zMem) :=
  zb (F_X10_isHere M p0) fun v2 M1 =>
  if v2 = 0 then
    some ((0 : Int32), M1)
  else
    zb (F_X10_isDry M1 451 p0) fun v4 M3 =>
    if v4 = 0 then
      some ((0 : Int32), M3)
    else
      gin ((64 : Int32) + p0) 195 <|
      if (M3.1 451 ((64 : Int32) + p0).toNatClampNeg) = 0 then
        some ((1 : Int32), M3)
      else
        some ((0 : Int32), M3)
def rm_X10_isFree : Room := { frames := 5, cells := 0, slots := 0, locals := 145 }
set_option maxHeartbeats 4000000 in
set_option maxRecDepth 100000 in
theorem c_X10_isFree (l : Launch) {G : zG} {ad : Nat → Nat} {n : Nat} (hA : zInj ad n) (M : zMem) (p0 : Int32) (hT : zT shM n 0 11) {r9 : Int32} {M9 : zMem} (hF : F_X10_isFree M p0 = some (r9, M9)) : zM l yX10_isFree cX10_isFree 2 (some .boolean) rm_X10_isFree G shM ad n M [.ref (ad 0), .int p0] (some (.int r9)) M9 := by
  refine zM_of hA (by decide +kernel) (lv := [(0, .ref (ad 0)), (1, .int p0)]) (Nat.le_of_ble_eq_true rfl) rfl (fun p e s m args below meth c A cx hr => ?_)
  unfold F_X10_isFree at hF
  refine z_aload_n cx d_X10_isFree_0 0 rfl ?_
  refine z_iload_n cx d_X10_isFree_1 1 rfl ?_
  obtain ⟨v2, M1, hc, hF⟩ := zb_inv hF
  refine z_callV cx (As := [.int p0]) (rest := []) (c_X10_isHere l cx.2.2.2.1.1 M p0 hT hc) hT zo_11 cv_SunnyPansModel_284 ⟨rfl, rfl, Nat.le_of_ble_eq_true rfl, Nat.le_of_ble_eq_true rfl⟩ rfl rfl ⟨Nat.zero_le _, Nat.zero_le _⟩ (Nat.le_of_ble_eq_true rfl) d_X10_isFree_2 ?_
  refine z_if_eq cx 35 d_X10_isFree_5 (by decide) hF (fun hF => ?_) (fun hF => ?_)
  · refine z_iconst (v := 0) cx d_X10_isFree_35 ki_0 ?_
    exact z_iret cx hr nb0 hF d_X10_isFree_36
  refine z_aload_n cx d_X10_isFree_8 0 rfl ?_
  refine z_getR cx hT fg_SunnyPansModel_58 451 rfl d_X10_isFree_9 ?_
  refine z_iload_n cx d_X10_isFree_12 1 rfl ?_
  obtain ⟨v4, M3, hc, hF⟩ := zb_inv hF
  refine z_callS cx (As := [.ref (ad 451), .int p0]) (rest := []) (c_X10_isDry l cx.2.2.2.1.1 M1 451 p0 (tfM_11_451 hT) hc) cs_SunnyPansModel_280 ⟨rfl, rfl, Nat.le_of_ble_eq_true rfl, Nat.le_of_ble_eq_true rfl⟩ rfl rfl ⟨Nat.zero_le _, Nat.zero_le _⟩ (Nat.le_of_ble_eq_true rfl) d_X10_isFree_13 ?_
  refine z_if_eq cx 35 d_X10_isFree_16 (by decide) hF (fun hF => ?_) (fun hF => ?_)
  · refine z_iconst (v := 0) cx d_X10_isFree_35 ki_0 ?_
    exact z_iret cx hr nb0 hF d_X10_isFree_36
  refine z_aload_n cx d_X10_isFree_19 0 rfl ?_
  refine z_getR cx hT fg_SunnyPansModel_58 451 rfl d_X10_isFree_20 ?_
  refine z_bipush (v := 64) cx d_X10_isFree_23 kb_64 ?_
  refine z_iload_n cx d_X10_isFree_25 1 rfl ?_
  refine z_iadd cx d_X10_isFree_26 ?_
  obtain ⟨hi5, hF⟩ := gin_inv hF
  refine z_iald cx (tfM_11_451 hT) za_36 hi5 (((64 : Int32) + p0).toNatClampNeg) rfl d_X10_isFree_27 ?_
  refine z_if_ne cx 35 d_X10_isFree_28 (by decide) hF (fun hF => ?_) (fun hF => ?_)
  · refine z_iconst (v := 0) cx d_X10_isFree_35 ki_0 ?_
    exact z_iret cx hr nb0 hF d_X10_isFree_36
  refine z_iconst (v := 1) cx d_X10_isFree_31 ki_1 ?_
  refine z_goto cx 36 d_X10_isFree_32 (by decide) ?_
  exact z_iret cx hr nb1 hF d_X10_isFree_36
/-! SunnyPansModel.shades -/
theorem d_X10_shades_0 : decode cX10_shades 0 = .ok (.iconst 0, 1) := by decide +kernel
theorem d_X10_shades_1 : decode cX10_shades 1 = .ok (.istore 4, 2) := by decide +kernel
theorem d_X10_shades_3 : decode cX10_shades 3 = .ok (.iconst 0, 1) := by decide +kernel
theorem d_X10_shades_4 : decode cX10_shades 4 = .ok (.istore 5, 2) := by decide +kernel
theorem d_X10_shades_6 : decode cX10_shades 6 = .ok (.iload 5, 2) := by decide +kernel
theorem d_X10_shades_8 : decode cX10_shades 8 = .ok (.aload_n 0, 1) := by decide +kernel
theorem d_X10_shades_9 : decode cX10_shades 9 = .ok (.getfield 23, 3) := by decide +kernel
theorem d_X10_shades_12 : decode cX10_shades 12 = .ok (.iconst 2, 1) := by decide +kernel
theorem d_X10_shades_13 : decode cX10_shades 13 = .ok (.iaload, 1) := by decide +kernel
theorem d_X10_shades_14 : decode cX10_shades 14 = .ok (.if_icmp .ge 93, 3) := by decide +kernel
theorem d_X10_shades_17 : decode cX10_shades 17 = .ok (.iconst 0, 1) := by decide +kernel
theorem d_X10_shades_18 : decode cX10_shades 18 = .ok (.istore 6, 2) := by decide +kernel
theorem d_X10_shades_20 : decode cX10_shades 20 = .ok (.iload 6, 2) := by decide +kernel
theorem d_X10_shades_22 : decode cX10_shades 22 = .ok (.bipush 64, 2) := by decide +kernel
theorem d_X10_shades_24 : decode cX10_shades 24 = .ok (.if_icmp .ge 77, 3) := by decide +kernel
theorem d_X10_shades_27 : decode cX10_shades 27 = .ok (.aload_n 0, 1) := by decide +kernel
theorem d_X10_shades_28 : decode cX10_shades 28 = .ok (.iload 6, 2) := by decide +kernel
theorem d_X10_shades_30 : decode cX10_shades 30 = .ok (.invokevirtual 284, 3) := by decide +kernel
theorem d_X10_shades_33 : decode cX10_shades 33 = .ok (.ifCond .eq 62, 3) := by decide +kernel
theorem d_X10_shades_36 : decode cX10_shades 36 = .ok (.aload_n 0, 1) := by decide +kernel
theorem d_X10_shades_37 : decode cX10_shades 37 = .ok (.iload_n 1, 1) := by decide +kernel
theorem d_X10_shades_38 : decode cX10_shades 38 = .ok (.iload_n 3, 1) := by decide +kernel
theorem d_X10_shades_39 : decode cX10_shades 39 = .ok (.iload 6, 2) := by decide +kernel
theorem d_X10_shades_41 : decode cX10_shades 41 = .ok (.iload 5, 2) := by decide +kernel
theorem d_X10_shades_43 : decode cX10_shades 43 = .ok (.invokevirtual 253, 3) := by decide +kernel
theorem d_X10_shades_46 : decode cX10_shades 46 = .ok (.ifCond .ne 24, 3) := by decide +kernel
theorem d_X10_shades_49 : decode cX10_shades 49 = .ok (.iload_n 2, 1) := by decide +kernel
theorem d_X10_shades_50 : decode cX10_shades 50 = .ok (.iconst (-1), 1) := by decide +kernel
theorem d_X10_shades_51 : decode cX10_shades 51 = .ok (.if_icmp .eq 44, 3) := by decide +kernel
theorem d_X10_shades_54 : decode cX10_shades 54 = .ok (.aload_n 0, 1) := by decide +kernel
theorem d_X10_shades_55 : decode cX10_shades 55 = .ok (.iload_n 2, 1) := by decide +kernel
theorem d_X10_shades_56 : decode cX10_shades 56 = .ok (.iload_n 3, 1) := by decide +kernel
theorem d_X10_shades_57 : decode cX10_shades 57 = .ok (.iload 6, 2) := by decide +kernel
theorem d_X10_shades_59 : decode cX10_shades 59 = .ok (.iload 5, 2) := by decide +kernel
theorem d_X10_shades_61 : decode cX10_shades 61 = .ok (.invokevirtual 253, 3) := by decide +kernel
theorem d_X10_shades_64 : decode cX10_shades 64 = .ok (.ifCond .ne 6, 3) := by decide +kernel
theorem d_X10_shades_67 : decode cX10_shades 67 = .ok (.goto 28, 3) := by decide +kernel
theorem d_X10_shades_70 : decode cX10_shades 70 = .ok (.iload 4, 2) := by decide +kernel
theorem d_X10_shades_72 : decode cX10_shades 72 = .ok (.aload_n 0, 1) := by decide +kernel
theorem d_X10_shades_73 : decode cX10_shades 73 = .ok (.aload_n 0, 1) := by decide +kernel
theorem d_X10_shades_74 : decode cX10_shades 74 = .ok (.getfield 58, 3) := by decide +kernel
theorem d_X10_shades_77 : decode cX10_shades 77 = .ok (.iload 6, 2) := by decide +kernel
theorem d_X10_shades_79 : decode cX10_shades 79 = .ok (.iload 5, 2) := by decide +kernel
theorem d_X10_shades_81 : decode cX10_shades 81 = .ok (.invokevirtual 264, 3) := by decide +kernel
theorem d_X10_shades_84 : decode cX10_shades 84 = .ok (.ifCond .eq 7, 3) := by decide +kernel
theorem d_X10_shades_87 : decode cX10_shades 87 = .ok (.iconst 0, 1) := by decide +kernel
theorem d_X10_shades_88 : decode cX10_shades 88 = .ok (.goto 4, 3) := by decide +kernel
theorem d_X10_shades_91 : decode cX10_shades 91 = .ok (.iconst 1, 1) := by decide +kernel
theorem d_X10_shades_92 : decode cX10_shades 92 = .ok (.iadd, 1) := by decide +kernel
theorem d_X10_shades_93 : decode cX10_shades 93 = .ok (.istore 4, 2) := by decide +kernel
theorem d_X10_shades_95 : decode cX10_shades 95 = .ok (.iinc 6 1, 3) := by decide +kernel
theorem d_X10_shades_98 : decode cX10_shades 98 = .ok (.goto (-78), 3) := by decide +kernel
theorem d_X10_shades_101 : decode cX10_shades 101 = .ok (.iinc 5 1, 3) := by decide +kernel
theorem d_X10_shades_104 : decode cX10_shades 104 = .ok (.goto (-98), 3) := by decide +kernel
theorem d_X10_shades_107 : decode cX10_shades 107 = .ok (.iload 4, 2) := by decide +kernel
theorem d_X10_shades_109 : decode cX10_shades 109 = .ok (.ireturn, 1) := by decide +kernel
noncomputable def F_X10_shades_95 (p0 : Int32) (p1 : Int32) (p2 : Int32) (self6 : Int32 → Int32 → Int32 → Int32 → Int32 → zMem → Option (Int32 × zMem)) (self20 : Int32 → Int32 → Int32 → Int32 → Int32 → Int32 → zMem → Option (Int32 × zMem)) (b95_L1 : Int32) (b95_L2 : Int32) (b95_L3 : Int32) (b95_L4 : Int32) (b95_L5 : Int32) (b95_L6 : Int32) (M : zMem) : Option (Int32 × zMem) :=
  self20 b95_L1 b95_L2 b95_L3 b95_L4 b95_L5 (b95_L6 + 1) M
noncomputable def F_X10_shades_92 (p0 : Int32) (p1 : Int32) (p2 : Int32) (self6 : Int32 → Int32 → Int32 → Int32 → Int32 → zMem → Option (Int32 × zMem)) (self20 : Int32 → Int32 → Int32 → Int32 → Int32 → Int32 → zMem → Option (Int32 × zMem)) (b92_L1 : Int32) (b92_L2 : Int32) (b92_L3 : Int32) (b92_L5 : Int32) (b92_L6 : Int32) (b92_S0 : Int32) (b92_S1 : Int32) (M : zMem) : Option (Int32 × zMem) :=
  zl (b92_S0 + b92_S1) fun v1 =>
  F_X10_shades_95 p0 p1 p2 self6 self20 b92_L1 b92_L2 b92_L3 v1 b92_L5 b92_L6 M
noncomputable def F_X10_shades_70 (p0 : Int32) (p1 : Int32) (p2 : Int32) (self6 : Int32 → Int32 → Int32 → Int32 → Int32 → zMem → Option (Int32 × zMem)) (self20 : Int32 → Int32 → Int32 → Int32 → Int32 → Int32 → zMem → Option (Int32 × zMem)) (b70_L1 : Int32) (b70_L2 : Int32) (b70_L3 : Int32) (b70_L4 : Int32) (b70_L5 : Int32) (b70_L6 : Int32) (M : zMem) : Option (Int32 × zMem) :=
  zb (F_X10_isShade M 451 b70_L6 b70_L5) fun v3 M2 =>
  if v3 = 0 then
    F_X10_shades_92 p0 p1 p2 self6 self20 b70_L1 b70_L2 b70_L3 b70_L5 b70_L6 b70_L4 (1 : Int32) M2
  else
    F_X10_shades_92 p0 p1 p2 self6 self20 b70_L1 b70_L2 b70_L3 b70_L5 b70_L6 b70_L4 (0 : Int32) M2
noncomputable def F_X10_shades_20 (p0 : Int32) (p1 : Int32) (p2 : Int32) (self6 : Int32 → Int32 → Int32 → Int32 → Int32 → zMem → Option (Int32 × zMem)) (self20 : Int32 → Int32 → Int32 → Int32 → Int32 → Int32 → zMem → Option (Int32 × zMem)) (b20_L1 : Int32) (b20_L2 : Int32) (b20_L3 : Int32) (b20_L4 : Int32) (b20_L5 : Int32) (b20_L6 : Int32) (M : zMem) : Option (Int32 × zMem) :=
  if (64 : Int32) ≤ b20_L6 then
    self6 b20_L1 b20_L2 b20_L3 b20_L4 (b20_L5 + 1) M
  else
    zb (F_X10_isHere M b20_L6) fun v5 M4 =>
    if v5 = 0 then
      F_X10_shades_95 p0 p1 p2 self6 self20 b20_L1 b20_L2 b20_L3 b20_L4 b20_L5 b20_L6 M4
    else
      zb (F_X10_covers M4 b20_L1 b20_L3 b20_L6 b20_L5) fun v7 M6 =>
      if v7 = 0 then
        if b20_L2 = (-1 : Int32) then
          F_X10_shades_95 p0 p1 p2 self6 self20 b20_L1 b20_L2 b20_L3 b20_L4 b20_L5 b20_L6 M6
        else
          zb (F_X10_covers M6 b20_L2 b20_L3 b20_L6 b20_L5) fun v9 M8 =>
          if v9 = 0 then
            F_X10_shades_95 p0 p1 p2 self6 self20 b20_L1 b20_L2 b20_L3 b20_L4 b20_L5 b20_L6 M8
          else
            F_X10_shades_70 p0 p1 p2 self6 self20 b20_L1 b20_L2 b20_L3 b20_L4 b20_L5 b20_L6 M8
      else
        F_X10_shades_70 p0 p1 p2 self6 self20 b20_L1 b20_L2 b20_L3 b20_L4 b20_L5 b20_L6 M6
noncomputable def F_X10_shades_6 (p0 : Int32) (p1 : Int32) (p2 : Int32) (self6 : Int32 → Int32 → Int32 → Int32 → Int32 → zMem → Option (Int32 × zMem)) (b6_L1 : Int32) (b6_L2 : Int32) (b6_L3 : Int32) (b6_L4 : Int32) (b6_L5 : Int32) (M : zMem) : Option (Int32 × zMem) :=
  if (M.1 4 2) ≤ b6_L5 then
    some (b6_L4, M)
  else
    itF (fun _ _ _ _ _ _ _ => none) (F_X10_shades_20 p0 p1 p2 self6) zFuel b6_L1 b6_L2 b6_L3 b6_L4 b6_L5 (0 : Int32) M
noncomputable def F_X10_shades (M : zMem) (p0 : Int32) (p1 : Int32) (p2 : Int32) : Option (Int32 × zMem) :=
  itF (fun _ _ _ _ _ _ => none) (F_X10_shades_6 p0 p1 p2) zFuel p0 p1 p2 (0 : Int32) (0 : Int32) M
def rm_X10_shades : Room := { frames := 6, cells := 0, slots := 0, locals := 173 }
set_option maxHeartbeats 4000000 in
set_option maxRecDepth 100000 in
theorem c_X10_shades (l : Launch) {G : zG} {ad : Nat → Nat} {n : Nat} (hA : zInj ad n) (M : zMem) (p0 : Int32) (p1 : Int32) (p2 : Int32) (hT : zT shM n 0 11) {r9 : Int32} {M9 : zMem} (hF : F_X10_shades M p0 p1 p2 = some (r9, M9)) : zM l yX10_shades cX10_shades 7 (some .int) rm_X10_shades G shM ad n M [.ref (ad 0), .int p0, .int p1, .int p2] (some (.int r9)) M9 := by
  refine zM_of hA (by decide +kernel) (lv := [(0, .ref (ad 0)), (1, .int p0), (2, .int p1), (3, .int p2)]) (Nat.le_of_ble_eq_true rfl) rfl (fun p e s m args below meth c A cx hr => ?_)
  have hb95 : ∀ (self6 : Int32 → Int32 → Int32 → Int32 → Int32 → zMem → Option (Int32 × zMem)) (hs6 : ∀ (b6_L1 : Int32) (b6_L2 : Int32) (b6_L3 : Int32) (b6_L4 : Int32) (b6_L5 : Int32) (M : zMem), self6 b6_L1 b6_L2 b6_L3 b6_L4 b6_L5 M = some (r9, M9) → zJ p l e rm_X10_shades s m args below meth c G shM ad n A 7 (MQ below (zQ G shM ad n M9 (some (.int r9)) A) args s 0 0 A) 0 0 M 6 [(0, .ref (ad 0)), (1, .int b6_L1), (2, .int b6_L2), (3, .int b6_L3), (4, .int b6_L4), (5, .int b6_L5)] []) (self20 : Int32 → Int32 → Int32 → Int32 → Int32 → Int32 → zMem → Option (Int32 × zMem)) (hs20 : ∀ (b20_L1 : Int32) (b20_L2 : Int32) (b20_L3 : Int32) (b20_L4 : Int32) (b20_L5 : Int32) (b20_L6 : Int32) (M : zMem), self20 b20_L1 b20_L2 b20_L3 b20_L4 b20_L5 b20_L6 M = some (r9, M9) → zJ p l e rm_X10_shades s m args below meth c G shM ad n A 7 (MQ below (zQ G shM ad n M9 (some (.int r9)) A) args s 0 0 A) 0 0 M 20 [(0, .ref (ad 0)), (1, .int b20_L1), (2, .int b20_L2), (3, .int b20_L3), (4, .int b20_L4), (5, .int b20_L5), (6, .int b20_L6)] []), ∀ (b95_L1 : Int32) (b95_L2 : Int32) (b95_L3 : Int32) (b95_L4 : Int32) (b95_L5 : Int32) (b95_L6 : Int32) (M : zMem), F_X10_shades_95 p0 p1 p2 self6 self20 b95_L1 b95_L2 b95_L3 b95_L4 b95_L5 b95_L6 M = some (r9, M9) → zJ p l e rm_X10_shades s m args below meth c G shM ad n A 7 (MQ below (zQ G shM ad n M9 (some (.int r9)) A) args s 0 0 A) 0 0 M 95 [(0, .ref (ad 0)), (1, .int b95_L1), (2, .int b95_L2), (3, .int b95_L3), (4, .int b95_L4), (5, .int b95_L5), (6, .int b95_L6)] [] := by
    intro self6 hs6 self20 hs20 b95_L1 b95_L2 b95_L3 b95_L4 b95_L5 b95_L6 M hF
    unfold F_X10_shades_95 at hF
    refine z_iinc cx 6 1 [(6, .int (b95_L6 + 1)), (0, .ref (ad 0)), (1, .int b95_L1), (2, .int b95_L2), (3, .int b95_L3), (4, .int b95_L4), (5, .int b95_L5)] d_X10_shades_95 6 rfl ki_1 (by decide) rfl ?_
    refine z_goto cx 20 d_X10_shades_98 (by decide) ?_
    exact z_lv [1, 2, 3, 4, 5, 6, 0] _ rfl (hs20 b95_L1 b95_L2 b95_L3 b95_L4 b95_L5 (b95_L6 + 1) M hF)
  have hb92 : ∀ (self6 : Int32 → Int32 → Int32 → Int32 → Int32 → zMem → Option (Int32 × zMem)) (hs6 : ∀ (b6_L1 : Int32) (b6_L2 : Int32) (b6_L3 : Int32) (b6_L4 : Int32) (b6_L5 : Int32) (M : zMem), self6 b6_L1 b6_L2 b6_L3 b6_L4 b6_L5 M = some (r9, M9) → zJ p l e rm_X10_shades s m args below meth c G shM ad n A 7 (MQ below (zQ G shM ad n M9 (some (.int r9)) A) args s 0 0 A) 0 0 M 6 [(0, .ref (ad 0)), (1, .int b6_L1), (2, .int b6_L2), (3, .int b6_L3), (4, .int b6_L4), (5, .int b6_L5)] []) (self20 : Int32 → Int32 → Int32 → Int32 → Int32 → Int32 → zMem → Option (Int32 × zMem)) (hs20 : ∀ (b20_L1 : Int32) (b20_L2 : Int32) (b20_L3 : Int32) (b20_L4 : Int32) (b20_L5 : Int32) (b20_L6 : Int32) (M : zMem), self20 b20_L1 b20_L2 b20_L3 b20_L4 b20_L5 b20_L6 M = some (r9, M9) → zJ p l e rm_X10_shades s m args below meth c G shM ad n A 7 (MQ below (zQ G shM ad n M9 (some (.int r9)) A) args s 0 0 A) 0 0 M 20 [(0, .ref (ad 0)), (1, .int b20_L1), (2, .int b20_L2), (3, .int b20_L3), (4, .int b20_L4), (5, .int b20_L5), (6, .int b20_L6)] []), ∀ (b92_L1 : Int32) (b92_L2 : Int32) (b92_L3 : Int32) (b92_L5 : Int32) (b92_L6 : Int32) (b92_S0 : Int32) (b92_S1 : Int32) (M : zMem), F_X10_shades_92 p0 p1 p2 self6 self20 b92_L1 b92_L2 b92_L3 b92_L5 b92_L6 b92_S0 b92_S1 M = some (r9, M9) → zJ p l e rm_X10_shades s m args below meth c G shM ad n A 7 (MQ below (zQ G shM ad n M9 (some (.int r9)) A) args s 0 0 A) 0 0 M 92 [(0, .ref (ad 0)), (1, .int b92_L1), (2, .int b92_L2), (3, .int b92_L3), (5, .int b92_L5), (6, .int b92_L6)] [.int b92_S1, .int b92_S0] := by
    intro self6 hs6 self20 hs20 b92_L1 b92_L2 b92_L3 b92_L5 b92_L6 b92_S0 b92_S1 M hF
    unfold F_X10_shades_92 at hF
    refine z_iadd cx d_X10_shades_92 ?_
    refine z_nm hF (fun v1 hF => ?_)
    refine z_istore cx 4 [(4, .int v1), (0, .ref (ad 0)), (1, .int b92_L1), (2, .int b92_L2), (3, .int b92_L3), (5, .int b92_L5), (6, .int b92_L6)] d_X10_shades_93 (by decide) rfl ?_
    exact z_lv [1, 2, 3, 4, 0, 5, 6] _ rfl (hb95 self6 hs6 self20 hs20 b92_L1 b92_L2 b92_L3 v1 b92_L5 b92_L6 M hF)
  have hb70 : ∀ (self6 : Int32 → Int32 → Int32 → Int32 → Int32 → zMem → Option (Int32 × zMem)) (hs6 : ∀ (b6_L1 : Int32) (b6_L2 : Int32) (b6_L3 : Int32) (b6_L4 : Int32) (b6_L5 : Int32) (M : zMem), self6 b6_L1 b6_L2 b6_L3 b6_L4 b6_L5 M = some (r9, M9) → zJ p l e rm_X10_shades s m args below meth c G shM ad n A 7 (MQ below (zQ G shM ad n M9 (some (.int r9)) A) args s 0 0 A) 0 0 M 6 [(0, .ref (ad 0)), (1, .int b6_L1), (2, .int b6_L2), (3, .int b6_L3), (4, .int b6_L4), (5, .int b6_L5)] []) (self20 : Int32 → Int32 → Int32 → Int32 → Int32 → Int32 → zMem → Option (Int32 × zMem)) (hs20 : ∀ (b20_L1 : Int32) (b20_L2 : Int32) (b20_L3 : Int32) (b20_L4 : Int32) (b20_L5 : Int32) (b20_L6 : Int32) (M : zMem), self20 b20_L1 b20_L2 b20_L3 b20_L4 b20_L5 b20_L6 M = some (r9, M9) → zJ p l e rm_X10_shades s m args below meth c G shM ad n A 7 (MQ below (zQ G shM ad n M9 (some (.int r9)) A) args s 0 0 A) 0 0 M 20 [(0, .ref (ad 0)), (1, .int b20_L1), (2, .int b20_L2), (3, .int b20_L3), (4, .int b20_L4), (5, .int b20_L5), (6, .int b20_L6)] []), ∀ (b70_L1 : Int32) (b70_L2 : Int32) (b70_L3 : Int32) (b70_L4 : Int32) (b70_L5 : Int32) (b70_L6 : Int32) (M : zMem), F_X10_shades_70 p0 p1 p2 self6 self20 b70_L1 b70_L2 b70_L3 b70_L4 b70_L5 b70_L6 M = some (r9, M9) → zJ p l e rm_X10_shades s m args below meth c G shM ad n A 7 (MQ below (zQ G shM ad n M9 (some (.int r9)) A) args s 0 0 A) 0 0 M 70 [(0, .ref (ad 0)), (1, .int b70_L1), (2, .int b70_L2), (3, .int b70_L3), (4, .int b70_L4), (5, .int b70_L5), (6, .int b70_L6)] [] := by
    intro self6 hs6 self20 hs20 b70_L1 b70_L2 b70_L3 b70_L4 b70_L5 b70_L6 M hF
    unfold F_X10_shades_70 at hF
    refine z_iload cx d_X10_shades_70 4 rfl ?_
    refine z_aload_n cx d_X10_shades_72 0 rfl ?_
    refine z_aload_n cx d_X10_shades_73 0 rfl ?_
    refine z_getR cx hT fg_SunnyPansModel_58 451 rfl d_X10_shades_74 ?_
    refine z_iload cx d_X10_shades_77 6 rfl ?_
    refine z_iload cx d_X10_shades_79 5 rfl ?_
    obtain ⟨v3, M2, hc, hF⟩ := zb_inv hF
    refine z_callV cx (As := [.ref (ad 451), .int b70_L6, .int b70_L5]) (rest := [.int b70_L4]) (c_X10_isShade l cx.2.2.2.1.1 M 451 b70_L6 b70_L5 hT (tfM_11_451 hT) hc) hT zo_11 cv_SunnyPansModel_264 ⟨rfl, rfl, Nat.le_of_ble_eq_true rfl, Nat.le_of_ble_eq_true rfl⟩ rfl rfl ⟨Nat.zero_le _, Nat.zero_le _⟩ (Nat.le_of_ble_eq_true rfl) d_X10_shades_81 ?_
    refine z_if_eq cx 91 d_X10_shades_84 (by decide) hF (fun hF => ?_) (fun hF => ?_)
    · refine z_iconst (v := 1) cx d_X10_shades_91 ki_1 ?_
      exact z_lv [0, 1, 2, 3, 5, 6] _ rfl (hb92 self6 hs6 self20 hs20 b70_L1 b70_L2 b70_L3 b70_L5 b70_L6 b70_L4 (1 : Int32) M2 hF)
    refine z_iconst (v := 0) cx d_X10_shades_87 ki_0 ?_
    refine z_goto cx 92 d_X10_shades_88 (by decide) ?_
    exact z_lv [0, 1, 2, 3, 5, 6] _ rfl (hb92 self6 hs6 self20 hs20 b70_L1 b70_L2 b70_L3 b70_L5 b70_L6 b70_L4 (0 : Int32) M2 hF)
  have hL20 : ∀ (self6 : Int32 → Int32 → Int32 → Int32 → Int32 → zMem → Option (Int32 × zMem)) (hs6 : ∀ (b6_L1 : Int32) (b6_L2 : Int32) (b6_L3 : Int32) (b6_L4 : Int32) (b6_L5 : Int32) (M : zMem), self6 b6_L1 b6_L2 b6_L3 b6_L4 b6_L5 M = some (r9, M9) → zJ p l e rm_X10_shades s m args below meth c G shM ad n A 7 (MQ below (zQ G shM ad n M9 (some (.int r9)) A) args s 0 0 A) 0 0 M 6 [(0, .ref (ad 0)), (1, .int b6_L1), (2, .int b6_L2), (3, .int b6_L3), (4, .int b6_L4), (5, .int b6_L5)] []) (fuel : Nat), ∀ (b20_L1 : Int32) (b20_L2 : Int32) (b20_L3 : Int32) (b20_L4 : Int32) (b20_L5 : Int32) (b20_L6 : Int32) (M : zMem), itF (fun _ _ _ _ _ _ _ => none) (F_X10_shades_20 p0 p1 p2 self6) fuel b20_L1 b20_L2 b20_L3 b20_L4 b20_L5 b20_L6 M = some (r9, M9) → zJ p l e rm_X10_shades s m args below meth c G shM ad n A 7 (MQ below (zQ G shM ad n M9 (some (.int r9)) A) args s 0 0 A) 0 0 M 20 [(0, .ref (ad 0)), (1, .int b20_L1), (2, .int b20_L2), (3, .int b20_L3), (4, .int b20_L4), (5, .int b20_L5), (6, .int b20_L6)] [] := by
    intro self6 hs6 fuel
    induction fuel with
    | zero => intro b20_L1 b20_L2 b20_L3 b20_L4 b20_L5 b20_L6 M hF; cases hF
    | succ fuel hs20 =>
      intro b20_L1 b20_L2 b20_L3 b20_L4 b20_L5 b20_L6 M hF
      have hF : F_X10_shades_20 p0 p1 p2 self6 (itF (fun _ _ _ _ _ _ _ => none) (F_X10_shades_20 p0 p1 p2 self6) fuel) b20_L1 b20_L2 b20_L3 b20_L4 b20_L5 b20_L6 M = some (r9, M9) := hF
      generalize itF (fun _ _ _ _ _ _ _ => none) (F_X10_shades_20 p0 p1 p2 self6) fuel = self20 at hs20 hF
      unfold F_X10_shades_20 at hF
      refine z_iload cx d_X10_shades_20 6 rfl ?_
      refine z_bipush (v := 64) cx d_X10_shades_22 kb_64 ?_
      refine z_icmp_ge cx 101 d_X10_shades_24 (by decide) hF (fun hF => ?_) (fun hF => ?_)
      · refine z_iinc cx 5 1 [(5, .int (b20_L5 + 1)), (0, .ref (ad 0)), (1, .int b20_L1), (2, .int b20_L2), (3, .int b20_L3), (4, .int b20_L4), (6, .int b20_L6)] d_X10_shades_101 5 rfl ki_1 (by decide) rfl ?_
        refine z_goto cx 6 d_X10_shades_104 (by decide) ?_
        exact z_lv [1, 2, 3, 4, 5, 0] _ rfl (hs6 b20_L1 b20_L2 b20_L3 b20_L4 (b20_L5 + 1) M hF)
      refine z_aload_n cx d_X10_shades_27 0 rfl ?_
      refine z_iload cx d_X10_shades_28 6 rfl ?_
      obtain ⟨v5, M4, hc, hF⟩ := zb_inv hF
      refine z_callV cx (As := [.int b20_L6]) (rest := []) (c_X10_isHere l cx.2.2.2.1.1 M b20_L6 hT hc) hT zo_11 cv_SunnyPansModel_284 ⟨rfl, rfl, Nat.le_of_ble_eq_true rfl, Nat.le_of_ble_eq_true rfl⟩ rfl rfl ⟨Nat.zero_le _, Nat.zero_le _⟩ (Nat.le_of_ble_eq_true rfl) d_X10_shades_30 ?_
      refine z_if_eq cx 95 d_X10_shades_33 (by decide) hF (fun hF => ?_) (fun hF => ?_)
      · exact hb95 self6 hs6 self20 hs20 b20_L1 b20_L2 b20_L3 b20_L4 b20_L5 b20_L6 M4 hF
      refine z_aload_n cx d_X10_shades_36 0 rfl ?_
      refine z_iload_n cx d_X10_shades_37 1 rfl ?_
      refine z_iload_n cx d_X10_shades_38 3 rfl ?_
      refine z_iload cx d_X10_shades_39 6 rfl ?_
      refine z_iload cx d_X10_shades_41 5 rfl ?_
      obtain ⟨v7, M6, hc, hF⟩ := zb_inv hF
      refine z_callV cx (As := [.int b20_L1, .int b20_L3, .int b20_L6, .int b20_L5]) (rest := []) (c_X10_covers l cx.2.2.2.1.1 M4 b20_L1 b20_L3 b20_L6 b20_L5 hT hc) hT zo_11 cv_SunnyPansModel_253 ⟨rfl, rfl, Nat.le_of_ble_eq_true rfl, Nat.le_of_ble_eq_true rfl⟩ rfl rfl ⟨Nat.zero_le _, Nat.zero_le _⟩ (Nat.le_of_ble_eq_true rfl) d_X10_shades_43 ?_
      refine z_if_ne cx 70 d_X10_shades_46 (by decide) hF (fun hF => ?_) (fun hF => ?_)
      · exact hb70 self6 hs6 self20 hs20 b20_L1 b20_L2 b20_L3 b20_L4 b20_L5 b20_L6 M6 hF
      refine z_iload_n cx d_X10_shades_49 2 rfl ?_
      refine z_iconst (v := -1) cx d_X10_shades_50 ki_m1 ?_
      refine z_icmp_eq cx 95 d_X10_shades_51 (by decide) hF (fun hF => ?_) (fun hF => ?_)
      · exact hb95 self6 hs6 self20 hs20 b20_L1 b20_L2 b20_L3 b20_L4 b20_L5 b20_L6 M6 hF
      refine z_aload_n cx d_X10_shades_54 0 rfl ?_
      refine z_iload_n cx d_X10_shades_55 2 rfl ?_
      refine z_iload_n cx d_X10_shades_56 3 rfl ?_
      refine z_iload cx d_X10_shades_57 6 rfl ?_
      refine z_iload cx d_X10_shades_59 5 rfl ?_
      obtain ⟨v9, M8, hc, hF⟩ := zb_inv hF
      refine z_callV cx (As := [.int b20_L2, .int b20_L3, .int b20_L6, .int b20_L5]) (rest := []) (c_X10_covers l cx.2.2.2.1.1 M6 b20_L2 b20_L3 b20_L6 b20_L5 hT hc) hT zo_11 cv_SunnyPansModel_253 ⟨rfl, rfl, Nat.le_of_ble_eq_true rfl, Nat.le_of_ble_eq_true rfl⟩ rfl rfl ⟨Nat.zero_le _, Nat.zero_le _⟩ (Nat.le_of_ble_eq_true rfl) d_X10_shades_61 ?_
      refine z_if_ne cx 70 d_X10_shades_64 (by decide) hF (fun hF => ?_) (fun hF => ?_)
      · exact hb70 self6 hs6 self20 hs20 b20_L1 b20_L2 b20_L3 b20_L4 b20_L5 b20_L6 M8 hF
      refine z_goto cx 95 d_X10_shades_67 (by decide) ?_
      exact hb95 self6 hs6 self20 hs20 b20_L1 b20_L2 b20_L3 b20_L4 b20_L5 b20_L6 M8 hF
  have hL6 : ∀ (fuel : Nat), ∀ (b6_L1 : Int32) (b6_L2 : Int32) (b6_L3 : Int32) (b6_L4 : Int32) (b6_L5 : Int32) (M : zMem), itF (fun _ _ _ _ _ _ => none) (F_X10_shades_6 p0 p1 p2) fuel b6_L1 b6_L2 b6_L3 b6_L4 b6_L5 M = some (r9, M9) → zJ p l e rm_X10_shades s m args below meth c G shM ad n A 7 (MQ below (zQ G shM ad n M9 (some (.int r9)) A) args s 0 0 A) 0 0 M 6 [(0, .ref (ad 0)), (1, .int b6_L1), (2, .int b6_L2), (3, .int b6_L3), (4, .int b6_L4), (5, .int b6_L5)] [] := by
    intro fuel
    induction fuel with
    | zero => intro b6_L1 b6_L2 b6_L3 b6_L4 b6_L5 M hF; cases hF
    | succ fuel hs6 =>
      intro b6_L1 b6_L2 b6_L3 b6_L4 b6_L5 M hF
      have hF : F_X10_shades_6 p0 p1 p2 (itF (fun _ _ _ _ _ _ => none) (F_X10_shades_6 p0 p1 p2) fuel) b6_L1 b6_L2 b6_L3 b6_L4 b6_L5 M = some (r9, M9) := hF
      generalize itF (fun _ _ _ _ _ _ => none) (F_X10_shades_6 p0 p1 p2) fuel = self6 at hs6 hF
      unfold F_X10_shades_6 at hF
      refine z_iload cx d_X10_shades_6 5 rfl ?_
      refine z_aload_n cx d_X10_shades_8 0 rfl ?_
      refine z_getR cx hT fg_SunnyPansModel_23 4 rfl d_X10_shades_9 ?_
      refine z_iconst (v := 2) cx d_X10_shades_12 ki_2 ?_
      refine z_iald cx (tfM_11_4 hT) za_28 (zvp (by decide +kernel)) 2 rfl d_X10_shades_13 ?_
      refine z_icmp_ge cx 107 d_X10_shades_14 (by decide) hF (fun hF => ?_) (fun hF => ?_)
      · refine z_iload cx d_X10_shades_107 4 rfl ?_
        exact z_iret cx hr rfl hF d_X10_shades_109
      refine z_iconst (v := 0) cx d_X10_shades_17 ki_0 ?_
      refine z_istore cx 6 [(6, .int (0 : Int32)), (0, .ref (ad 0)), (1, .int b6_L1), (2, .int b6_L2), (3, .int b6_L3), (4, .int b6_L4), (5, .int b6_L5)] d_X10_shades_18 (by decide) rfl ?_
      exact z_lv [1, 2, 3, 4, 5, 6, 0] _ rfl (hL20 self6 hs6 zFuel b6_L1 b6_L2 b6_L3 b6_L4 b6_L5 (0 : Int32) M hF)
  unfold F_X10_shades at hF
  refine z_iconst (v := 0) cx d_X10_shades_0 ki_0 ?_
  refine z_istore cx 4 [(4, .int (0 : Int32)), (0, .ref (ad 0)), (1, .int p0), (2, .int p1), (3, .int p2)] d_X10_shades_1 (by decide) rfl ?_
  refine z_iconst (v := 0) cx d_X10_shades_3 ki_0 ?_
  refine z_istore cx 5 [(5, .int (0 : Int32)), (4, .int (0 : Int32)), (0, .ref (ad 0)), (1, .int p0), (2, .int p1), (3, .int p2)] d_X10_shades_4 (by decide) rfl ?_
  exact z_lv [2, 3, 4, 5, 1, 0] _ rfl (hL6 zFuel p0 p1 p2 (0 : Int32) (0 : Int32) M hF)
/-! SunnyPansModel.site -/
set_option maxRecDepth 100000 in
theorem wd_1823 : Cond.code yX10_isFree cX10_isFree 2 (some .boolean) ∈ tbG := tw8 43 rfl rfl
set_option maxRecDepth 100000 in
theorem wd_1820 : Cond.methodLink "SunnyPansModel" 348 yX10_isFree ∈ tbG := tw8 40 rfl rfl
set_option maxRecDepth 100000 in
theorem wd_1822 : Cond.instanceMethod yX10_isFree ∈ tbG := tw8 42 rfl rfl
theorem wd_88 : Cond.selects "SunnyPansModel" yX10_isFree yX10_isFree ∈ tbG := tw 88 (by decide +kernel) rfl
theorem cv_SunnyPansModel_348 : zCV "SunnyPansModel" 348 "SunnyPansModel" yX10_isFree cX10_isFree 2 (some .boolean) 1 := zCV_of wd_1820 wd_1822 wd_88 wd_111 wd_1823 (by decide +kernel)
set_option maxRecDepth 100000 in
theorem wd_1827 : Cond.code yX10_shades cX10_shades 7 (some .int) ∈ tbG := tw8 47 rfl rfl
set_option maxRecDepth 100000 in
theorem wd_1824 : Cond.methodLink "SunnyPansModel" 351 yX10_shades ∈ tbG := tw8 44 rfl rfl
set_option maxRecDepth 100000 in
theorem wd_1826 : Cond.instanceMethod yX10_shades ∈ tbG := tw8 46 rfl rfl
theorem wd_89 : Cond.selects "SunnyPansModel" yX10_shades yX10_shades ∈ tbG := tw 89 (by decide +kernel) rfl
theorem cv_SunnyPansModel_351 : zCV "SunnyPansModel" 351 "SunnyPansModel" yX10_shades cX10_shades 7 (some .int) 3 := zCV_of wd_1824 wd_1826 wd_89 wd_111 wd_1827 (by decide +kernel)
theorem d_X10_site_0 : decode cX10_site 0 = .ok (.aload_n 0, 1) := by decide +kernel
theorem d_X10_site_1 : decode cX10_site 1 = .ok (.iconst 0, 1) := by decide +kernel
theorem d_X10_site_2 : decode cX10_site 2 = .ok (.putfield 82, 3) := by decide +kernel
theorem d_X10_site_5 : decode cX10_site 5 = .ok (.aload_n 0, 1) := by decide +kernel
theorem d_X10_site_6 : decode cX10_site 6 = .ok (.iload_n 1, 1) := by decide +kernel
theorem d_X10_site_7 : decode cX10_site 7 = .ok (.iconst 1, 1) := by decide +kernel
theorem d_X10_site_8 : decode cX10_site 8 = .ok (.sipush 999, 3) := by decide +kernel
theorem d_X10_site_11 : decode cX10_site 11 = .ok (.invokestatic 116, 3) := by decide +kernel
theorem d_X10_site_14 : decode cX10_site 14 = .ok (.ifCond .eq 12, 3) := by decide +kernel
theorem d_X10_site_17 : decode cX10_site 17 = .ok (.iload_n 2, 1) := by decide +kernel
theorem d_X10_site_18 : decode cX10_site 18 = .ok (.iconst 0, 1) := by decide +kernel
theorem d_X10_site_19 : decode cX10_site 19 = .ok (.iconst 1, 1) := by decide +kernel
theorem d_X10_site_20 : decode cX10_site 20 = .ok (.invokestatic 116, 3) := by decide +kernel
theorem d_X10_site_23 : decode cX10_site 23 = .ok (.ifCond .ne 7, 3) := by decide +kernel
theorem d_X10_site_26 : decode cX10_site 26 = .ok (.iconst 1, 1) := by decide +kernel
theorem d_X10_site_27 : decode cX10_site 27 = .ok (.goto 4, 3) := by decide +kernel
theorem d_X10_site_30 : decode cX10_site 30 = .ok (.iconst 0, 1) := by decide +kernel
theorem d_X10_site_31 : decode cX10_site 31 = .ok (.iconst 1, 1) := by decide +kernel
theorem d_X10_site_32 : decode cX10_site 32 = .ok (.iconst 1, 1) := by decide +kernel
theorem d_X10_site_33 : decode cX10_site 33 = .ok (.invokevirtual 155, 3) := by decide +kernel
theorem d_X10_site_36 : decode cX10_site 36 = .ok (.ifCond .eq 5, 3) := by decide +kernel
theorem d_X10_site_39 : decode cX10_site 39 = .ok (.iconst 0, 1) := by decide +kernel
theorem d_X10_site_40 : decode cX10_site 40 = .ok (.ireturn, 1) := by decide +kernel
theorem d_X10_site_41 : decode cX10_site 41 = .ok (.iconst (-1), 1) := by decide +kernel
theorem d_X10_site_42 : decode cX10_site 42 = .ok (.istore_n 3, 1) := by decide +kernel
theorem d_X10_site_43 : decode cX10_site 43 = .ok (.iconst (-1), 1) := by decide +kernel
theorem d_X10_site_44 : decode cX10_site 44 = .ok (.istore 4, 2) := by decide +kernel
theorem d_X10_site_46 : decode cX10_site 46 = .ok (.iconst 0, 1) := by decide +kernel
theorem d_X10_site_47 : decode cX10_site 47 = .ok (.istore 5, 2) := by decide +kernel
theorem d_X10_site_49 : decode cX10_site 49 = .ok (.iload 5, 2) := by decide +kernel
theorem d_X10_site_51 : decode cX10_site 51 = .ok (.bipush 64, 2) := by decide +kernel
theorem d_X10_site_53 : decode cX10_site 53 = .ok (.if_icmp .ge 53, 3) := by decide +kernel
theorem d_X10_site_56 : decode cX10_site 56 = .ok (.aload_n 0, 1) := by decide +kernel
theorem d_X10_site_57 : decode cX10_site 57 = .ok (.iload 5, 2) := by decide +kernel
theorem d_X10_site_59 : decode cX10_site 59 = .ok (.invokevirtual 348, 3) := by decide +kernel
theorem d_X10_site_62 : decode cX10_site 62 = .ok (.ifCond .ne 6, 3) := by decide +kernel
theorem d_X10_site_65 : decode cX10_site 65 = .ok (.goto 35, 3) := by decide +kernel
theorem d_X10_site_68 : decode cX10_site 68 = .ok (.aload_n 0, 1) := by decide +kernel
theorem d_X10_site_69 : decode cX10_site 69 = .ok (.iload 5, 2) := by decide +kernel
theorem d_X10_site_71 : decode cX10_site 71 = .ok (.iconst (-1), 1) := by decide +kernel
theorem d_X10_site_72 : decode cX10_site 72 = .ok (.iload_n 1, 1) := by decide +kernel
theorem d_X10_site_73 : decode cX10_site 73 = .ok (.invokevirtual 351, 3) := by decide +kernel
theorem d_X10_site_76 : decode cX10_site 76 = .ok (.istore 6, 2) := by decide +kernel
theorem d_X10_site_78 : decode cX10_site 78 = .ok (.iload_n 3, 1) := by decide +kernel
theorem d_X10_site_79 : decode cX10_site 79 = .ok (.iconst (-1), 1) := by decide +kernel
theorem d_X10_site_80 : decode cX10_site 80 = .ok (.if_icmp .eq 13, 3) := by decide +kernel
theorem d_X10_site_83 : decode cX10_site 83 = .ok (.iload 6, 2) := by decide +kernel
theorem d_X10_site_85 : decode cX10_site 85 = .ok (.iload 4, 2) := by decide +kernel
theorem d_X10_site_87 : decode cX10_site 87 = .ok (.if_icmp .lt 6, 3) := by decide +kernel
theorem d_X10_site_90 : decode cX10_site 90 = .ok (.goto 10, 3) := by decide +kernel
theorem d_X10_site_93 : decode cX10_site 93 = .ok (.iload 5, 2) := by decide +kernel
theorem d_X10_site_95 : decode cX10_site 95 = .ok (.istore_n 3, 1) := by decide +kernel
theorem d_X10_site_96 : decode cX10_site 96 = .ok (.iload 6, 2) := by decide +kernel
theorem d_X10_site_98 : decode cX10_site 98 = .ok (.istore 4, 2) := by decide +kernel
theorem d_X10_site_100 : decode cX10_site 100 = .ok (.iinc 5 1, 3) := by decide +kernel
theorem d_X10_site_103 : decode cX10_site 103 = .ok (.goto (-54), 3) := by decide +kernel
theorem d_X10_site_106 : decode cX10_site 106 = .ok (.iload_n 2, 1) := by decide +kernel
theorem d_X10_site_107 : decode cX10_site 107 = .ok (.ifCond .ne 10, 3) := by decide +kernel
theorem d_X10_site_110 : decode cX10_site 110 = .ok (.iload_n 3, 1) := by decide +kernel
theorem d_X10_site_111 : decode cX10_site 111 = .ok (.invokestatic 345, 3) := by decide +kernel
theorem d_X10_site_114 : decode cX10_site 114 = .ok (.goto 5, 3) := by decide +kernel
theorem d_X10_site_117 : decode cX10_site 117 = .ok (.iload 4, 2) := by decide +kernel
theorem d_X10_site_119 : decode cX10_site 119 = .ok (.ireturn, 1) := by decide +kernel
noncomputable def F_X10_site_100 (p0 : Int32) (p1 : Int32) (self49 : Int32 → Int32 → Int32 → Int32 → Int32 → zMem → Option (Int32 × zMem)) (b100_L1 : Int32) (b100_L2 : Int32) (b100_L3 : Int32) (b100_L4 : Int32) (b100_L5 : Int32) (M : zMem) : Option (Int32 × zMem) :=
  self49 b100_L1 b100_L2 b100_L3 b100_L4 (b100_L5 + 1) M
noncomputable def F_X10_site_93 (p0 : Int32) (p1 : Int32) (self49 : Int32 → Int32 → Int32 → Int32 → Int32 → zMem → Option (Int32 × zMem)) (b93_L1 : Int32) (b93_L2 : Int32) (b93_L5 : Int32) (b93_L6 : Int32) (M : zMem) : Option (Int32 × zMem) :=
  F_X10_site_100 p0 p1 self49 b93_L1 b93_L2 b93_L5 b93_L6 b93_L5 M
noncomputable def F_X10_site_49 (p0 : Int32) (p1 : Int32) (self49 : Int32 → Int32 → Int32 → Int32 → Int32 → zMem → Option (Int32 × zMem)) (b49_L1 : Int32) (b49_L2 : Int32) (b49_L3 : Int32) (b49_L4 : Int32) (b49_L5 : Int32) (M : zMem) : Option (Int32 × zMem) :=
  if (64 : Int32) ≤ b49_L5 then
    if b49_L2 = 0 then
      zb (F_X10_asTold M b49_L3) fun v2 M1 =>
      some (v2, M1)
    else
      some (b49_L4, M)
  else
    zb (F_X10_isFree M b49_L5) fun v4 M3 =>
    if v4 = 0 then
      F_X10_site_100 p0 p1 self49 b49_L1 b49_L2 b49_L3 b49_L4 b49_L5 M3
    else
      zb (F_X10_shades M3 b49_L5 (-1 : Int32) b49_L1) fun v6 M5 =>
      if b49_L3 = (-1 : Int32) then
        F_X10_site_93 p0 p1 self49 b49_L1 b49_L2 b49_L5 v6 M5
      else
        if v6 < b49_L4 then
          F_X10_site_93 p0 p1 self49 b49_L1 b49_L2 b49_L5 v6 M5
        else
          F_X10_site_100 p0 p1 self49 b49_L1 b49_L2 b49_L3 b49_L4 b49_L5 M5
noncomputable def F_X10_site_31 (p0 : Int32) (p1 : Int32) (b31_L1 : Int32) (b31_L2 : Int32) (b31_S1 : Int32) (M : zMem) : Option (Int32 × zMem) :=
  zb (F_X10_bad M b31_S1 (1 : Int32) (1 : Int32)) fun v8 M7 =>
  if v8 = 0 then
    itF (fun _ _ _ _ _ _ => none) (F_X10_site_49 p0 p1) zFuel b31_L1 b31_L2 (-1 : Int32) (-1 : Int32) (0 : Int32) M7
  else
    some ((0 : Int32), M7)
noncomputable def F_X10_site (M : zMem) (p0 : Int32) (p1 : Int32) : Option (Int32 × zMem) :=
  zl (zI M 0 0 (0 : Int32)) fun M9 =>
  zb (F_X10_in M9 p0 (1 : Int32) (999 : Int32)) fun v11 M10 =>
  if v11 = 0 then
    F_X10_site_31 p0 p1 p0 p1 (1 : Int32) M10
  else
    zb (F_X10_in M10 p1 (0 : Int32) (1 : Int32)) fun v13 M12 =>
    if v13 = 0 then
      F_X10_site_31 p0 p1 p0 p1 (1 : Int32) M12
    else
      F_X10_site_31 p0 p1 p0 p1 (0 : Int32) M12
def rm_X10_site : Room := { frames := 7, cells := 0, slots := 0, locals := 199 }
set_option maxHeartbeats 4000000 in
set_option maxRecDepth 100000 in
theorem c_X10_site (l : Launch) {G : zG} {ad : Nat → Nat} {n : Nat} (hA : zInj ad n) (M : zMem) (p0 : Int32) (p1 : Int32) (hT : zT shM n 0 11) {r9 : Int32} {M9 : zMem} (hF : F_X10_site M p0 p1 = some (r9, M9)) : zM l yX10_site cX10_site 7 (some .int) rm_X10_site G shM ad n M [.ref (ad 0), .int p0, .int p1] (some (.int r9)) M9 := by
  refine zM_of hA (by decide +kernel) (lv := [(0, .ref (ad 0)), (1, .int p0), (2, .int p1)]) (Nat.le_of_ble_eq_true rfl) rfl (fun p e s m args below meth c A cx hr => ?_)
  have hb100 : ∀ (self49 : Int32 → Int32 → Int32 → Int32 → Int32 → zMem → Option (Int32 × zMem)) (hs49 : ∀ (b49_L1 : Int32) (b49_L2 : Int32) (b49_L3 : Int32) (b49_L4 : Int32) (b49_L5 : Int32) (M : zMem), self49 b49_L1 b49_L2 b49_L3 b49_L4 b49_L5 M = some (r9, M9) → zJ p l e rm_X10_site s m args below meth c G shM ad n A 7 (MQ below (zQ G shM ad n M9 (some (.int r9)) A) args s 0 0 A) 0 0 M 49 [(0, .ref (ad 0)), (1, .int b49_L1), (2, .int b49_L2), (3, .int b49_L3), (4, .int b49_L4), (5, .int b49_L5)] []), ∀ (b100_L1 : Int32) (b100_L2 : Int32) (b100_L3 : Int32) (b100_L4 : Int32) (b100_L5 : Int32) (M : zMem), F_X10_site_100 p0 p1 self49 b100_L1 b100_L2 b100_L3 b100_L4 b100_L5 M = some (r9, M9) → zJ p l e rm_X10_site s m args below meth c G shM ad n A 7 (MQ below (zQ G shM ad n M9 (some (.int r9)) A) args s 0 0 A) 0 0 M 100 [(0, .ref (ad 0)), (1, .int b100_L1), (2, .int b100_L2), (3, .int b100_L3), (4, .int b100_L4), (5, .int b100_L5)] [] := by
    intro self49 hs49 b100_L1 b100_L2 b100_L3 b100_L4 b100_L5 M hF
    unfold F_X10_site_100 at hF
    refine z_iinc cx 5 1 [(5, .int (b100_L5 + 1)), (0, .ref (ad 0)), (1, .int b100_L1), (2, .int b100_L2), (3, .int b100_L3), (4, .int b100_L4)] d_X10_site_100 5 rfl ki_1 (by decide) rfl ?_
    refine z_goto cx 49 d_X10_site_103 (by decide) ?_
    exact z_lv [1, 2, 3, 4, 5, 0] _ rfl (hs49 b100_L1 b100_L2 b100_L3 b100_L4 (b100_L5 + 1) M hF)
  have hb93 : ∀ (self49 : Int32 → Int32 → Int32 → Int32 → Int32 → zMem → Option (Int32 × zMem)) (hs49 : ∀ (b49_L1 : Int32) (b49_L2 : Int32) (b49_L3 : Int32) (b49_L4 : Int32) (b49_L5 : Int32) (M : zMem), self49 b49_L1 b49_L2 b49_L3 b49_L4 b49_L5 M = some (r9, M9) → zJ p l e rm_X10_site s m args below meth c G shM ad n A 7 (MQ below (zQ G shM ad n M9 (some (.int r9)) A) args s 0 0 A) 0 0 M 49 [(0, .ref (ad 0)), (1, .int b49_L1), (2, .int b49_L2), (3, .int b49_L3), (4, .int b49_L4), (5, .int b49_L5)] []), ∀ (b93_L1 : Int32) (b93_L2 : Int32) (b93_L5 : Int32) (b93_L6 : Int32) (M : zMem), F_X10_site_93 p0 p1 self49 b93_L1 b93_L2 b93_L5 b93_L6 M = some (r9, M9) → zJ p l e rm_X10_site s m args below meth c G shM ad n A 7 (MQ below (zQ G shM ad n M9 (some (.int r9)) A) args s 0 0 A) 0 0 M 93 [(0, .ref (ad 0)), (1, .int b93_L1), (2, .int b93_L2), (5, .int b93_L5), (6, .int b93_L6)] [] := by
    intro self49 hs49 b93_L1 b93_L2 b93_L5 b93_L6 M hF
    unfold F_X10_site_93 at hF
    refine z_iload cx d_X10_site_93 3 rfl ?_
    refine z_istore_n cx 3 [(3, .int b93_L5), (0, .ref (ad 0)), (1, .int b93_L1), (2, .int b93_L2), (5, .int b93_L5), (6, .int b93_L6)] d_X10_site_95 rfl (by decide) rfl ?_
    refine z_iload cx d_X10_site_96 5 rfl ?_
    refine z_istore cx 4 [(4, .int b93_L6), (3, .int b93_L5), (0, .ref (ad 0)), (1, .int b93_L1), (2, .int b93_L2), (5, .int b93_L5), (6, .int b93_L6)] d_X10_site_98 (by decide) rfl ?_
    exact z_lv [2, 3, 4, 1, 0, 5] _ rfl (hb100 self49 hs49 b93_L1 b93_L2 b93_L5 b93_L6 b93_L5 M hF)
  have hL49 : ∀ (fuel : Nat), ∀ (b49_L1 : Int32) (b49_L2 : Int32) (b49_L3 : Int32) (b49_L4 : Int32) (b49_L5 : Int32) (M : zMem), itF (fun _ _ _ _ _ _ => none) (F_X10_site_49 p0 p1) fuel b49_L1 b49_L2 b49_L3 b49_L4 b49_L5 M = some (r9, M9) → zJ p l e rm_X10_site s m args below meth c G shM ad n A 7 (MQ below (zQ G shM ad n M9 (some (.int r9)) A) args s 0 0 A) 0 0 M 49 [(0, .ref (ad 0)), (1, .int b49_L1), (2, .int b49_L2), (3, .int b49_L3), (4, .int b49_L4), (5, .int b49_L5)] [] := by
    intro fuel
    induction fuel with
    | zero => intro b49_L1 b49_L2 b49_L3 b49_L4 b49_L5 M hF; cases hF
    | succ fuel hs49 =>
      intro b49_L1 b49_L2 b49_L3 b49_L4 b49_L5 M hF
      have hF : F_X10_site_49 p0 p1 (itF (fun _ _ _ _ _ _ => none) (F_X10_site_49 p0 p1) fuel) b49_L1 b49_L2 b49_L3 b49_L4 b49_L5 M = some (r9, M9) := hF
      generalize itF (fun _ _ _ _ _ _ => none) (F_X10_site_49 p0 p1) fuel = self49 at hs49 hF
      unfold F_X10_site_49 at hF
      refine z_iload cx d_X10_site_49 5 rfl ?_
      refine z_bipush (v := 64) cx d_X10_site_51 kb_64 ?_
      refine z_icmp_ge cx 106 d_X10_site_53 (by decide) hF (fun hF => ?_) (fun hF => ?_)
      · refine z_iload_n cx d_X10_site_106 2 rfl ?_
        refine z_if_ne cx 117 d_X10_site_107 (by decide) hF (fun hF => ?_) (fun hF => ?_)
        · refine z_iload cx d_X10_site_117 4 rfl ?_
          exact z_iret cx hr rfl hF d_X10_site_119
        refine z_iload_n cx d_X10_site_110 3 rfl ?_
        obtain ⟨v2, M1, hc, hF⟩ := zb_inv hF
        refine z_callS cx (As := [.int b49_L3]) (rest := []) (c_X10_asTold l cx.2.2.2.1.1 M b49_L3  hc) cs_SunnyPansModel_345 ⟨rfl, rfl, Nat.le_of_ble_eq_true rfl, Nat.le_of_ble_eq_true rfl⟩ rfl rfl ⟨Nat.zero_le _, Nat.zero_le _⟩ (Nat.le_of_ble_eq_true rfl) d_X10_site_111 ?_
        refine z_goto cx 119 d_X10_site_114 (by decide) ?_
        exact z_iret cx hr rfl hF d_X10_site_119
      refine z_aload_n cx d_X10_site_56 0 rfl ?_
      refine z_iload cx d_X10_site_57 5 rfl ?_
      obtain ⟨v4, M3, hc, hF⟩ := zb_inv hF
      refine z_callV cx (As := [.int b49_L5]) (rest := []) (c_X10_isFree l cx.2.2.2.1.1 M b49_L5 hT hc) hT zo_11 cv_SunnyPansModel_348 ⟨rfl, rfl, Nat.le_of_ble_eq_true rfl, Nat.le_of_ble_eq_true rfl⟩ rfl rfl ⟨Nat.zero_le _, Nat.zero_le _⟩ (Nat.le_of_ble_eq_true rfl) d_X10_site_59 ?_
      refine z_if_ne cx 68 d_X10_site_62 (by decide) hF (fun hF => ?_) (fun hF => ?_)
      · refine z_aload_n cx d_X10_site_68 0 rfl ?_
        refine z_iload cx d_X10_site_69 5 rfl ?_
        refine z_iconst (v := -1) cx d_X10_site_71 ki_m1 ?_
        refine z_iload_n cx d_X10_site_72 1 rfl ?_
        obtain ⟨v6, M5, hc, hF⟩ := zb_inv hF
        refine z_callV cx (As := [.int b49_L5, .int (-1 : Int32), .int b49_L1]) (rest := []) (c_X10_shades l cx.2.2.2.1.1 M3 b49_L5 (-1 : Int32) b49_L1 hT hc) hT zo_11 cv_SunnyPansModel_351 ⟨rfl, rfl, Nat.le_of_ble_eq_true rfl, Nat.le_of_ble_eq_true rfl⟩ rfl rfl ⟨Nat.zero_le _, Nat.zero_le _⟩ (Nat.le_of_ble_eq_true rfl) d_X10_site_73 ?_
        refine z_istore cx 6 [(6, .int v6), (0, .ref (ad 0)), (1, .int b49_L1), (2, .int b49_L2), (3, .int b49_L3), (4, .int b49_L4), (5, .int b49_L5)] d_X10_site_76 (by decide) rfl ?_
        refine z_iload_n cx d_X10_site_78 4 rfl ?_
        refine z_iconst (v := -1) cx d_X10_site_79 ki_m1 ?_
        refine z_icmp_eq cx 93 d_X10_site_80 (by decide) hF (fun hF => ?_) (fun hF => ?_)
        · exact z_lv [1, 2, 3, 6, 0] _ rfl (hb93 self49 hs49 b49_L1 b49_L2 b49_L5 v6 M5 hF)
        refine z_iload cx d_X10_site_83 0 rfl ?_
        refine z_iload cx d_X10_site_85 5 rfl ?_
        refine z_icmp_lt cx 93 d_X10_site_87 (by decide) hF (fun hF => ?_) (fun hF => ?_)
        · exact z_lv [1, 2, 3, 6, 0] _ rfl (hb93 self49 hs49 b49_L1 b49_L2 b49_L5 v6 M5 hF)
        refine z_goto cx 100 d_X10_site_90 (by decide) ?_
        exact z_lv [1, 2, 3, 4, 5, 6] _ rfl (hb100 self49 hs49 b49_L1 b49_L2 b49_L3 b49_L4 b49_L5 M5 hF)
      refine z_goto cx 100 d_X10_site_65 (by decide) ?_
      exact hb100 self49 hs49 b49_L1 b49_L2 b49_L3 b49_L4 b49_L5 M3 hF
  have hb31 : ∀ (b31_L1 : Int32) (b31_L2 : Int32) (b31_S1 : Int32) (M : zMem), F_X10_site_31 p0 p1 b31_L1 b31_L2 b31_S1 M = some (r9, M9) → zJ p l e rm_X10_site s m args below meth c G shM ad n A 7 (MQ below (zQ G shM ad n M9 (some (.int r9)) A) args s 0 0 A) 0 0 M 31 [(0, .ref (ad 0)), (1, .int b31_L1), (2, .int b31_L2)] [.int b31_S1, .ref (ad 0)] := by
    intro b31_L1 b31_L2 b31_S1 M hF
    unfold F_X10_site_31 at hF
    refine z_iconst (v := 1) cx d_X10_site_31 ki_1 ?_
    refine z_iconst (v := 1) cx d_X10_site_32 ki_1 ?_
    obtain ⟨v8, M7, hc, hF⟩ := zb_inv hF
    refine z_callV cx (As := [.int b31_S1, .int (1 : Int32), .int (1 : Int32)]) (rest := []) (c_X10_bad l cx.2.2.2.1.1 M b31_S1 (1 : Int32) (1 : Int32) hT hc) hT zo_11 cv_SunnyPansModel_155 ⟨rfl, rfl, Nat.le_of_ble_eq_true rfl, Nat.le_of_ble_eq_true rfl⟩ rfl rfl ⟨Nat.zero_le _, Nat.zero_le _⟩ (Nat.le_of_ble_eq_true rfl) d_X10_site_33 ?_
    refine z_if_eq cx 41 d_X10_site_36 (by decide) hF (fun hF => ?_) (fun hF => ?_)
    · refine z_iconst (v := -1) cx d_X10_site_41 ki_m1 ?_
      refine z_istore_n cx 3 [(3, .int (-1 : Int32)), (0, .ref (ad 0)), (1, .int b31_L1), (2, .int b31_L2)] d_X10_site_42 rfl (by decide) rfl ?_
      refine z_iconst (v := -1) cx d_X10_site_43 ki_m1 ?_
      refine z_istore cx 4 [(4, .int (-1 : Int32)), (3, .int (-1 : Int32)), (0, .ref (ad 0)), (1, .int b31_L1), (2, .int b31_L2)] d_X10_site_44 (by decide) rfl ?_
      refine z_iconst (v := 0) cx d_X10_site_46 ki_0 ?_
      refine z_istore cx 5 [(5, .int (0 : Int32)), (4, .int (-1 : Int32)), (3, .int (-1 : Int32)), (0, .ref (ad 0)), (1, .int b31_L1), (2, .int b31_L2)] d_X10_site_47 (by decide) rfl ?_
      exact z_lv [3, 4, 5, 2, 1, 0] _ rfl (hL49 zFuel b31_L1 b31_L2 (-1 : Int32) (-1 : Int32) (0 : Int32) M7 hF)
    refine z_iconst (v := 0) cx d_X10_site_39 ki_0 ?_
    exact z_iret cx hr rfl hF d_X10_site_40
  unfold F_X10_site at hF
  refine z_aload_n cx d_X10_site_0 0 rfl ?_
  refine z_iconst (v := 0) cx d_X10_site_1 ki_0 ?_
  refine z_putI cx hT fp_SunnyPansModel_82 d_X10_site_2 ?_
  refine z_nmM hF (fun M9 hF => ?_)
  refine z_aload_n cx d_X10_site_5 0 rfl ?_
  refine z_iload_n cx d_X10_site_6 1 rfl ?_
  refine z_iconst (v := 1) cx d_X10_site_7 ki_1 ?_
  refine z_sipush (v := 999) cx d_X10_site_8 ks_999 ?_
  obtain ⟨v11, M10, hc, hF⟩ := zb_inv hF
  refine z_callS cx (As := [.int p0, .int (1 : Int32), .int (999 : Int32)]) (rest := [.ref (ad 0)]) (c_X10_in l cx.2.2.2.1.1 M9 p0 (1 : Int32) (999 : Int32)  hc) cs_SunnyPansModel_116 ⟨rfl, rfl, Nat.le_of_ble_eq_true rfl, Nat.le_of_ble_eq_true rfl⟩ rfl rfl ⟨Nat.zero_le _, Nat.zero_le _⟩ (Nat.le_of_ble_eq_true rfl) d_X10_site_11 ?_
  refine z_if_eq cx 26 d_X10_site_14 (by decide) hF (fun hF => ?_) (fun hF => ?_)
  · refine z_iconst (v := 1) cx d_X10_site_26 ki_1 ?_
    refine z_goto cx 31 d_X10_site_27 (by decide) ?_
    exact hb31 p0 p1 (1 : Int32) M10 hF
  refine z_iload_n cx d_X10_site_17 2 rfl ?_
  refine z_iconst (v := 0) cx d_X10_site_18 ki_0 ?_
  refine z_iconst (v := 1) cx d_X10_site_19 ki_1 ?_
  obtain ⟨v13, M12, hc, hF⟩ := zb_inv hF
  refine z_callS cx (As := [.int p1, .int (0 : Int32), .int (1 : Int32)]) (rest := [.ref (ad 0)]) (c_X10_in l cx.2.2.2.1.1 M10 p1 (0 : Int32) (1 : Int32)  hc) cs_SunnyPansModel_116 ⟨rfl, rfl, Nat.le_of_ble_eq_true rfl, Nat.le_of_ble_eq_true rfl⟩ rfl rfl ⟨Nat.zero_le _, Nat.zero_le _⟩ (Nat.le_of_ble_eq_true rfl) d_X10_site_20 ?_
  refine z_if_ne cx 30 d_X10_site_23 (by decide) hF (fun hF => ?_) (fun hF => ?_)
  · refine z_iconst (v := 0) cx d_X10_site_30 ki_0 ?_
    exact hb31 p0 p1 (0 : Int32) M12 hF
  refine z_iconst (v := 1) cx d_X10_site_26 ki_1 ?_
  refine z_goto cx 31 d_X10_site_27 (by decide) ?_
  exact hb31 p0 p1 (1 : Int32) M12 hF
/-! SunnyPansModel.pair -/
theorem d_X10_pair_0 : decode cX10_pair 0 = .ok (.aload_n 0, 1) := by decide +kernel
theorem d_X10_pair_1 : decode cX10_pair 1 = .ok (.iconst 0, 1) := by decide +kernel
theorem d_X10_pair_2 : decode cX10_pair 2 = .ok (.putfield 82, 3) := by decide +kernel
theorem d_X10_pair_5 : decode cX10_pair 5 = .ok (.aload_n 0, 1) := by decide +kernel
theorem d_X10_pair_6 : decode cX10_pair 6 = .ok (.iload_n 1, 1) := by decide +kernel
theorem d_X10_pair_7 : decode cX10_pair 7 = .ok (.iconst 1, 1) := by decide +kernel
theorem d_X10_pair_8 : decode cX10_pair 8 = .ok (.sipush 999, 3) := by decide +kernel
theorem d_X10_pair_11 : decode cX10_pair 11 = .ok (.invokestatic 116, 3) := by decide +kernel
theorem d_X10_pair_14 : decode cX10_pair 14 = .ok (.ifCond .eq 12, 3) := by decide +kernel
theorem d_X10_pair_17 : decode cX10_pair 17 = .ok (.iload_n 2, 1) := by decide +kernel
theorem d_X10_pair_18 : decode cX10_pair 18 = .ok (.iconst 0, 1) := by decide +kernel
theorem d_X10_pair_19 : decode cX10_pair 19 = .ok (.iconst 2, 1) := by decide +kernel
theorem d_X10_pair_20 : decode cX10_pair 20 = .ok (.invokestatic 116, 3) := by decide +kernel
theorem d_X10_pair_23 : decode cX10_pair 23 = .ok (.ifCond .ne 7, 3) := by decide +kernel
theorem d_X10_pair_26 : decode cX10_pair 26 = .ok (.iconst 1, 1) := by decide +kernel
theorem d_X10_pair_27 : decode cX10_pair 27 = .ok (.goto 4, 3) := by decide +kernel
theorem d_X10_pair_30 : decode cX10_pair 30 = .ok (.iconst 0, 1) := by decide +kernel
theorem d_X10_pair_31 : decode cX10_pair 31 = .ok (.iconst 1, 1) := by decide +kernel
theorem d_X10_pair_32 : decode cX10_pair 32 = .ok (.iconst 1, 1) := by decide +kernel
theorem d_X10_pair_33 : decode cX10_pair 33 = .ok (.invokevirtual 155, 3) := by decide +kernel
theorem d_X10_pair_36 : decode cX10_pair 36 = .ok (.ifCond .eq 5, 3) := by decide +kernel
theorem d_X10_pair_39 : decode cX10_pair 39 = .ok (.iconst 0, 1) := by decide +kernel
theorem d_X10_pair_40 : decode cX10_pair 40 = .ok (.ireturn, 1) := by decide +kernel
theorem d_X10_pair_41 : decode cX10_pair 41 = .ok (.iconst (-1), 1) := by decide +kernel
theorem d_X10_pair_42 : decode cX10_pair 42 = .ok (.istore_n 3, 1) := by decide +kernel
theorem d_X10_pair_43 : decode cX10_pair 43 = .ok (.iconst (-1), 1) := by decide +kernel
theorem d_X10_pair_44 : decode cX10_pair 44 = .ok (.istore 4, 2) := by decide +kernel
theorem d_X10_pair_46 : decode cX10_pair 46 = .ok (.iconst (-1), 1) := by decide +kernel
theorem d_X10_pair_47 : decode cX10_pair 47 = .ok (.istore 5, 2) := by decide +kernel
theorem d_X10_pair_49 : decode cX10_pair 49 = .ok (.iconst 0, 1) := by decide +kernel
theorem d_X10_pair_50 : decode cX10_pair 50 = .ok (.istore 6, 2) := by decide +kernel
theorem d_X10_pair_52 : decode cX10_pair 52 = .ok (.iload 6, 2) := by decide +kernel
theorem d_X10_pair_54 : decode cX10_pair 54 = .ok (.bipush 64, 2) := by decide +kernel
theorem d_X10_pair_56 : decode cX10_pair 56 = .ok (.if_icmp .ge 86, 3) := by decide +kernel
theorem d_X10_pair_59 : decode cX10_pair 59 = .ok (.iload 6, 2) := by decide +kernel
theorem d_X10_pair_61 : decode cX10_pair 61 = .ok (.iconst 1, 1) := by decide +kernel
theorem d_X10_pair_62 : decode cX10_pair 62 = .ok (.iadd, 1) := by decide +kernel
theorem d_X10_pair_63 : decode cX10_pair 63 = .ok (.istore 7, 2) := by decide +kernel
theorem d_X10_pair_65 : decode cX10_pair 65 = .ok (.iload 7, 2) := by decide +kernel
theorem d_X10_pair_67 : decode cX10_pair 67 = .ok (.bipush 64, 2) := by decide +kernel
theorem d_X10_pair_69 : decode cX10_pair 69 = .ok (.if_icmp .ge 67, 3) := by decide +kernel
theorem d_X10_pair_72 : decode cX10_pair 72 = .ok (.aload_n 0, 1) := by decide +kernel
theorem d_X10_pair_73 : decode cX10_pair 73 = .ok (.iload 6, 2) := by decide +kernel
theorem d_X10_pair_75 : decode cX10_pair 75 = .ok (.invokevirtual 348, 3) := by decide +kernel
theorem d_X10_pair_78 : decode cX10_pair 78 = .ok (.ifCond .eq 52, 3) := by decide +kernel
theorem d_X10_pair_81 : decode cX10_pair 81 = .ok (.aload_n 0, 1) := by decide +kernel
theorem d_X10_pair_82 : decode cX10_pair 82 = .ok (.iload 7, 2) := by decide +kernel
theorem d_X10_pair_84 : decode cX10_pair 84 = .ok (.invokevirtual 348, 3) := by decide +kernel
theorem d_X10_pair_87 : decode cX10_pair 87 = .ok (.ifCond .ne 6, 3) := by decide +kernel
theorem d_X10_pair_90 : decode cX10_pair 90 = .ok (.goto 40, 3) := by decide +kernel
theorem d_X10_pair_93 : decode cX10_pair 93 = .ok (.aload_n 0, 1) := by decide +kernel
theorem d_X10_pair_94 : decode cX10_pair 94 = .ok (.iload 6, 2) := by decide +kernel
theorem d_X10_pair_96 : decode cX10_pair 96 = .ok (.iload 7, 2) := by decide +kernel
theorem d_X10_pair_98 : decode cX10_pair 98 = .ok (.iload_n 1, 1) := by decide +kernel
theorem d_X10_pair_99 : decode cX10_pair 99 = .ok (.invokevirtual 351, 3) := by decide +kernel
theorem d_X10_pair_102 : decode cX10_pair 102 = .ok (.istore 8, 2) := by decide +kernel
theorem d_X10_pair_104 : decode cX10_pair 104 = .ok (.iload_n 3, 1) := by decide +kernel
theorem d_X10_pair_105 : decode cX10_pair 105 = .ok (.iconst (-1), 1) := by decide +kernel
theorem d_X10_pair_106 : decode cX10_pair 106 = .ok (.if_icmp .eq 13, 3) := by decide +kernel
theorem d_X10_pair_109 : decode cX10_pair 109 = .ok (.iload 8, 2) := by decide +kernel
theorem d_X10_pair_111 : decode cX10_pair 111 = .ok (.iload 5, 2) := by decide +kernel
theorem d_X10_pair_113 : decode cX10_pair 113 = .ok (.if_icmp .lt 6, 3) := by decide +kernel
theorem d_X10_pair_116 : decode cX10_pair 116 = .ok (.goto 14, 3) := by decide +kernel
theorem d_X10_pair_119 : decode cX10_pair 119 = .ok (.iload 6, 2) := by decide +kernel
theorem d_X10_pair_121 : decode cX10_pair 121 = .ok (.istore_n 3, 1) := by decide +kernel
theorem d_X10_pair_122 : decode cX10_pair 122 = .ok (.iload 7, 2) := by decide +kernel
theorem d_X10_pair_124 : decode cX10_pair 124 = .ok (.istore 4, 2) := by decide +kernel
theorem d_X10_pair_126 : decode cX10_pair 126 = .ok (.iload 8, 2) := by decide +kernel
theorem d_X10_pair_128 : decode cX10_pair 128 = .ok (.istore 5, 2) := by decide +kernel
theorem d_X10_pair_130 : decode cX10_pair 130 = .ok (.iinc 7 1, 3) := by decide +kernel
theorem d_X10_pair_133 : decode cX10_pair 133 = .ok (.goto (-68), 3) := by decide +kernel
theorem d_X10_pair_136 : decode cX10_pair 136 = .ok (.iinc 6 1, 3) := by decide +kernel
theorem d_X10_pair_139 : decode cX10_pair 139 = .ok (.goto (-87), 3) := by decide +kernel
theorem d_X10_pair_142 : decode cX10_pair 142 = .ok (.iload_n 2, 1) := by decide +kernel
theorem d_X10_pair_143 : decode cX10_pair 143 = .ok (.iconst 2, 1) := by decide +kernel
theorem d_X10_pair_144 : decode cX10_pair 144 = .ok (.if_icmp .ne 8, 3) := by decide +kernel
theorem d_X10_pair_147 : decode cX10_pair 147 = .ok (.iload 5, 2) := by decide +kernel
theorem d_X10_pair_149 : decode cX10_pair 149 = .ok (.goto 16, 3) := by decide +kernel
theorem d_X10_pair_152 : decode cX10_pair 152 = .ok (.iload_n 2, 1) := by decide +kernel
theorem d_X10_pair_153 : decode cX10_pair 153 = .ok (.ifCond .ne 7, 3) := by decide +kernel
theorem d_X10_pair_156 : decode cX10_pair 156 = .ok (.iload_n 3, 1) := by decide +kernel
theorem d_X10_pair_157 : decode cX10_pair 157 = .ok (.goto 5, 3) := by decide +kernel
theorem d_X10_pair_160 : decode cX10_pair 160 = .ok (.iload 4, 2) := by decide +kernel
theorem d_X10_pair_162 : decode cX10_pair 162 = .ok (.invokestatic 345, 3) := by decide +kernel
theorem d_X10_pair_165 : decode cX10_pair 165 = .ok (.ireturn, 1) := by decide +kernel
noncomputable def F_X10_pair_162 (p0 : Int32) (p1 : Int32) (b162_S0 : Int32) (M : zMem) : Option (Int32 × zMem) :=
  zb (F_X10_asTold M b162_S0) fun v2 M1 =>
  some (v2, M1)
noncomputable def F_X10_pair_130 (p0 : Int32) (p1 : Int32) (self52 : Int32 → Int32 → Int32 → Int32 → Int32 → Int32 → zMem → Option (Int32 × zMem)) (self65 : Int32 → Int32 → Int32 → Int32 → Int32 → Int32 → Int32 → zMem → Option (Int32 × zMem)) (b130_L1 : Int32) (b130_L2 : Int32) (b130_L3 : Int32) (b130_L4 : Int32) (b130_L5 : Int32) (b130_L6 : Int32) (b130_L7 : Int32) (M : zMem) : Option (Int32 × zMem) :=
  self65 b130_L1 b130_L2 b130_L3 b130_L4 b130_L5 b130_L6 (b130_L7 + 1) M
noncomputable def F_X10_pair_119 (p0 : Int32) (p1 : Int32) (self52 : Int32 → Int32 → Int32 → Int32 → Int32 → Int32 → zMem → Option (Int32 × zMem)) (self65 : Int32 → Int32 → Int32 → Int32 → Int32 → Int32 → Int32 → zMem → Option (Int32 × zMem)) (b119_L1 : Int32) (b119_L2 : Int32) (b119_L6 : Int32) (b119_L7 : Int32) (b119_L8 : Int32) (M : zMem) : Option (Int32 × zMem) :=
  F_X10_pair_130 p0 p1 self52 self65 b119_L1 b119_L2 b119_L6 b119_L7 b119_L8 b119_L6 b119_L7 M
noncomputable def F_X10_pair_65 (p0 : Int32) (p1 : Int32) (self52 : Int32 → Int32 → Int32 → Int32 → Int32 → Int32 → zMem → Option (Int32 × zMem)) (self65 : Int32 → Int32 → Int32 → Int32 → Int32 → Int32 → Int32 → zMem → Option (Int32 × zMem)) (b65_L1 : Int32) (b65_L2 : Int32) (b65_L3 : Int32) (b65_L4 : Int32) (b65_L5 : Int32) (b65_L6 : Int32) (b65_L7 : Int32) (M : zMem) : Option (Int32 × zMem) :=
  if (64 : Int32) ≤ b65_L7 then
    self52 b65_L1 b65_L2 b65_L3 b65_L4 b65_L5 (b65_L6 + 1) M
  else
    zb (F_X10_isFree M b65_L6) fun v4 M3 =>
    if v4 = 0 then
      F_X10_pair_130 p0 p1 self52 self65 b65_L1 b65_L2 b65_L3 b65_L4 b65_L5 b65_L6 b65_L7 M3
    else
      zb (F_X10_isFree M3 b65_L7) fun v6 M5 =>
      if v6 = 0 then
        F_X10_pair_130 p0 p1 self52 self65 b65_L1 b65_L2 b65_L3 b65_L4 b65_L5 b65_L6 b65_L7 M5
      else
        zb (F_X10_shades M5 b65_L6 b65_L7 b65_L1) fun v8 M7 =>
        if b65_L3 = (-1 : Int32) then
          F_X10_pair_119 p0 p1 self52 self65 b65_L1 b65_L2 b65_L6 b65_L7 v8 M7
        else
          if v8 < b65_L5 then
            F_X10_pair_119 p0 p1 self52 self65 b65_L1 b65_L2 b65_L6 b65_L7 v8 M7
          else
            F_X10_pair_130 p0 p1 self52 self65 b65_L1 b65_L2 b65_L3 b65_L4 b65_L5 b65_L6 b65_L7 M7
noncomputable def F_X10_pair_52 (p0 : Int32) (p1 : Int32) (self52 : Int32 → Int32 → Int32 → Int32 → Int32 → Int32 → zMem → Option (Int32 × zMem)) (b52_L1 : Int32) (b52_L2 : Int32) (b52_L3 : Int32) (b52_L4 : Int32) (b52_L5 : Int32) (b52_L6 : Int32) (M : zMem) : Option (Int32 × zMem) :=
  if (64 : Int32) ≤ b52_L6 then
    if b52_L2 = (2 : Int32) then
      some (b52_L5, M)
    else
      if b52_L2 = 0 then
        F_X10_pair_162 p0 p1 b52_L3 M
      else
        F_X10_pair_162 p0 p1 b52_L4 M
  else
    zl (b52_L6 + (1 : Int32)) fun v9 =>
    itF (fun _ _ _ _ _ _ _ _ => none) (F_X10_pair_65 p0 p1 self52) zFuel b52_L1 b52_L2 b52_L3 b52_L4 b52_L5 b52_L6 v9 M
noncomputable def F_X10_pair_31 (p0 : Int32) (p1 : Int32) (b31_L1 : Int32) (b31_L2 : Int32) (b31_S1 : Int32) (M : zMem) : Option (Int32 × zMem) :=
  zb (F_X10_bad M b31_S1 (1 : Int32) (1 : Int32)) fun v11 M10 =>
  if v11 = 0 then
    itF (fun _ _ _ _ _ _ _ => none) (F_X10_pair_52 p0 p1) zFuel b31_L1 b31_L2 (-1 : Int32) (-1 : Int32) (-1 : Int32) (0 : Int32) M10
  else
    some ((0 : Int32), M10)
noncomputable def F_X10_pair (M : zMem) (p0 : Int32) (p1 : Int32) : Option (Int32 × zMem) :=
  zl (zI M 0 0 (0 : Int32)) fun M12 =>
  zb (F_X10_in M12 p0 (1 : Int32) (999 : Int32)) fun v14 M13 =>
  if v14 = 0 then
    F_X10_pair_31 p0 p1 p0 p1 (1 : Int32) M13
  else
    zb (F_X10_in M13 p1 (0 : Int32) (2 : Int32)) fun v16 M15 =>
    if v16 = 0 then
      F_X10_pair_31 p0 p1 p0 p1 (1 : Int32) M15
    else
      F_X10_pair_31 p0 p1 p0 p1 (0 : Int32) M15
def rm_X10_pair : Room := { frames := 7, cells := 0, slots := 0, locals := 199 }
set_option maxHeartbeats 4000000 in
set_option maxRecDepth 100000 in
theorem c_X10_pair (l : Launch) {G : zG} {ad : Nat → Nat} {n : Nat} (hA : zInj ad n) (M : zMem) (p0 : Int32) (p1 : Int32) (hT : zT shM n 0 11) {r9 : Int32} {M9 : zMem} (hF : F_X10_pair M p0 p1 = some (r9, M9)) : zM l yX10_pair cX10_pair 9 (some .int) rm_X10_pair G shM ad n M [.ref (ad 0), .int p0, .int p1] (some (.int r9)) M9 := by
  refine zM_of hA (by decide +kernel) (lv := [(0, .ref (ad 0)), (1, .int p0), (2, .int p1)]) (Nat.le_of_ble_eq_true rfl) rfl (fun p e s m args below meth c A cx hr => ?_)
  have hb162 : ∀ (b162_S0 : Int32) (M : zMem), F_X10_pair_162 p0 p1 b162_S0 M = some (r9, M9) → zJ p l e rm_X10_pair s m args below meth c G shM ad n A 9 (MQ below (zQ G shM ad n M9 (some (.int r9)) A) args s 0 0 A) 0 0 M 162 [] [.int b162_S0] := by
    intro b162_S0 M hF
    unfold F_X10_pair_162 at hF
    obtain ⟨v2, M1, hc, hF⟩ := zb_inv hF
    refine z_callS cx (As := [.int b162_S0]) (rest := []) (c_X10_asTold l cx.2.2.2.1.1 M b162_S0  hc) cs_SunnyPansModel_345 ⟨rfl, rfl, Nat.le_of_ble_eq_true rfl, Nat.le_of_ble_eq_true rfl⟩ rfl rfl ⟨Nat.zero_le _, Nat.zero_le _⟩ (Nat.le_of_ble_eq_true rfl) d_X10_pair_162 ?_
    exact z_iret cx hr rfl hF d_X10_pair_165
  have hb130 : ∀ (self52 : Int32 → Int32 → Int32 → Int32 → Int32 → Int32 → zMem → Option (Int32 × zMem)) (hs52 : ∀ (b52_L1 : Int32) (b52_L2 : Int32) (b52_L3 : Int32) (b52_L4 : Int32) (b52_L5 : Int32) (b52_L6 : Int32) (M : zMem), self52 b52_L1 b52_L2 b52_L3 b52_L4 b52_L5 b52_L6 M = some (r9, M9) → zJ p l e rm_X10_pair s m args below meth c G shM ad n A 9 (MQ below (zQ G shM ad n M9 (some (.int r9)) A) args s 0 0 A) 0 0 M 52 [(0, .ref (ad 0)), (1, .int b52_L1), (2, .int b52_L2), (3, .int b52_L3), (4, .int b52_L4), (5, .int b52_L5), (6, .int b52_L6)] []) (self65 : Int32 → Int32 → Int32 → Int32 → Int32 → Int32 → Int32 → zMem → Option (Int32 × zMem)) (hs65 : ∀ (b65_L1 : Int32) (b65_L2 : Int32) (b65_L3 : Int32) (b65_L4 : Int32) (b65_L5 : Int32) (b65_L6 : Int32) (b65_L7 : Int32) (M : zMem), self65 b65_L1 b65_L2 b65_L3 b65_L4 b65_L5 b65_L6 b65_L7 M = some (r9, M9) → zJ p l e rm_X10_pair s m args below meth c G shM ad n A 9 (MQ below (zQ G shM ad n M9 (some (.int r9)) A) args s 0 0 A) 0 0 M 65 [(0, .ref (ad 0)), (1, .int b65_L1), (2, .int b65_L2), (3, .int b65_L3), (4, .int b65_L4), (5, .int b65_L5), (6, .int b65_L6), (7, .int b65_L7)] []), ∀ (b130_L1 : Int32) (b130_L2 : Int32) (b130_L3 : Int32) (b130_L4 : Int32) (b130_L5 : Int32) (b130_L6 : Int32) (b130_L7 : Int32) (M : zMem), F_X10_pair_130 p0 p1 self52 self65 b130_L1 b130_L2 b130_L3 b130_L4 b130_L5 b130_L6 b130_L7 M = some (r9, M9) → zJ p l e rm_X10_pair s m args below meth c G shM ad n A 9 (MQ below (zQ G shM ad n M9 (some (.int r9)) A) args s 0 0 A) 0 0 M 130 [(0, .ref (ad 0)), (1, .int b130_L1), (2, .int b130_L2), (3, .int b130_L3), (4, .int b130_L4), (5, .int b130_L5), (6, .int b130_L6), (7, .int b130_L7)] [] := by
    intro self52 hs52 self65 hs65 b130_L1 b130_L2 b130_L3 b130_L4 b130_L5 b130_L6 b130_L7 M hF
    unfold F_X10_pair_130 at hF
    refine z_iinc cx 7 1 [(7, .int (b130_L7 + 1)), (0, .ref (ad 0)), (1, .int b130_L1), (2, .int b130_L2), (3, .int b130_L3), (4, .int b130_L4), (5, .int b130_L5), (6, .int b130_L6)] d_X10_pair_130 7 rfl ki_1 (by decide) rfl ?_
    refine z_goto cx 65 d_X10_pair_133 (by decide) ?_
    exact z_lv [1, 2, 3, 4, 5, 6, 7, 0] _ rfl (hs65 b130_L1 b130_L2 b130_L3 b130_L4 b130_L5 b130_L6 (b130_L7 + 1) M hF)
  have hb119 : ∀ (self52 : Int32 → Int32 → Int32 → Int32 → Int32 → Int32 → zMem → Option (Int32 × zMem)) (hs52 : ∀ (b52_L1 : Int32) (b52_L2 : Int32) (b52_L3 : Int32) (b52_L4 : Int32) (b52_L5 : Int32) (b52_L6 : Int32) (M : zMem), self52 b52_L1 b52_L2 b52_L3 b52_L4 b52_L5 b52_L6 M = some (r9, M9) → zJ p l e rm_X10_pair s m args below meth c G shM ad n A 9 (MQ below (zQ G shM ad n M9 (some (.int r9)) A) args s 0 0 A) 0 0 M 52 [(0, .ref (ad 0)), (1, .int b52_L1), (2, .int b52_L2), (3, .int b52_L3), (4, .int b52_L4), (5, .int b52_L5), (6, .int b52_L6)] []) (self65 : Int32 → Int32 → Int32 → Int32 → Int32 → Int32 → Int32 → zMem → Option (Int32 × zMem)) (hs65 : ∀ (b65_L1 : Int32) (b65_L2 : Int32) (b65_L3 : Int32) (b65_L4 : Int32) (b65_L5 : Int32) (b65_L6 : Int32) (b65_L7 : Int32) (M : zMem), self65 b65_L1 b65_L2 b65_L3 b65_L4 b65_L5 b65_L6 b65_L7 M = some (r9, M9) → zJ p l e rm_X10_pair s m args below meth c G shM ad n A 9 (MQ below (zQ G shM ad n M9 (some (.int r9)) A) args s 0 0 A) 0 0 M 65 [(0, .ref (ad 0)), (1, .int b65_L1), (2, .int b65_L2), (3, .int b65_L3), (4, .int b65_L4), (5, .int b65_L5), (6, .int b65_L6), (7, .int b65_L7)] []), ∀ (b119_L1 : Int32) (b119_L2 : Int32) (b119_L6 : Int32) (b119_L7 : Int32) (b119_L8 : Int32) (M : zMem), F_X10_pair_119 p0 p1 self52 self65 b119_L1 b119_L2 b119_L6 b119_L7 b119_L8 M = some (r9, M9) → zJ p l e rm_X10_pair s m args below meth c G shM ad n A 9 (MQ below (zQ G shM ad n M9 (some (.int r9)) A) args s 0 0 A) 0 0 M 119 [(0, .ref (ad 0)), (1, .int b119_L1), (2, .int b119_L2), (6, .int b119_L6), (7, .int b119_L7), (8, .int b119_L8)] [] := by
    intro self52 hs52 self65 hs65 b119_L1 b119_L2 b119_L6 b119_L7 b119_L8 M hF
    unfold F_X10_pair_119 at hF
    refine z_iload cx d_X10_pair_119 3 rfl ?_
    refine z_istore_n cx 3 [(3, .int b119_L6), (0, .ref (ad 0)), (1, .int b119_L1), (2, .int b119_L2), (6, .int b119_L6), (7, .int b119_L7), (8, .int b119_L8)] d_X10_pair_121 rfl (by decide) rfl ?_
    refine z_iload cx d_X10_pair_122 5 rfl ?_
    refine z_istore cx 4 [(4, .int b119_L7), (3, .int b119_L6), (0, .ref (ad 0)), (1, .int b119_L1), (2, .int b119_L2), (6, .int b119_L6), (7, .int b119_L7), (8, .int b119_L8)] d_X10_pair_124 (by decide) rfl ?_
    refine z_iload cx d_X10_pair_126 7 rfl ?_
    refine z_istore cx 5 [(5, .int b119_L8), (4, .int b119_L7), (3, .int b119_L6), (0, .ref (ad 0)), (1, .int b119_L1), (2, .int b119_L2), (6, .int b119_L6), (7, .int b119_L7), (8, .int b119_L8)] d_X10_pair_128 (by decide) rfl ?_
    exact z_lv [3, 4, 5, 2, 1, 0, 6, 7] _ rfl (hb130 self52 hs52 self65 hs65 b119_L1 b119_L2 b119_L6 b119_L7 b119_L8 b119_L6 b119_L7 M hF)
  have hL65 : ∀ (self52 : Int32 → Int32 → Int32 → Int32 → Int32 → Int32 → zMem → Option (Int32 × zMem)) (hs52 : ∀ (b52_L1 : Int32) (b52_L2 : Int32) (b52_L3 : Int32) (b52_L4 : Int32) (b52_L5 : Int32) (b52_L6 : Int32) (M : zMem), self52 b52_L1 b52_L2 b52_L3 b52_L4 b52_L5 b52_L6 M = some (r9, M9) → zJ p l e rm_X10_pair s m args below meth c G shM ad n A 9 (MQ below (zQ G shM ad n M9 (some (.int r9)) A) args s 0 0 A) 0 0 M 52 [(0, .ref (ad 0)), (1, .int b52_L1), (2, .int b52_L2), (3, .int b52_L3), (4, .int b52_L4), (5, .int b52_L5), (6, .int b52_L6)] []) (fuel : Nat), ∀ (b65_L1 : Int32) (b65_L2 : Int32) (b65_L3 : Int32) (b65_L4 : Int32) (b65_L5 : Int32) (b65_L6 : Int32) (b65_L7 : Int32) (M : zMem), itF (fun _ _ _ _ _ _ _ _ => none) (F_X10_pair_65 p0 p1 self52) fuel b65_L1 b65_L2 b65_L3 b65_L4 b65_L5 b65_L6 b65_L7 M = some (r9, M9) → zJ p l e rm_X10_pair s m args below meth c G shM ad n A 9 (MQ below (zQ G shM ad n M9 (some (.int r9)) A) args s 0 0 A) 0 0 M 65 [(0, .ref (ad 0)), (1, .int b65_L1), (2, .int b65_L2), (3, .int b65_L3), (4, .int b65_L4), (5, .int b65_L5), (6, .int b65_L6), (7, .int b65_L7)] [] := by
    intro self52 hs52 fuel
    induction fuel with
    | zero => intro b65_L1 b65_L2 b65_L3 b65_L4 b65_L5 b65_L6 b65_L7 M hF; cases hF
    | succ fuel hs65 =>
      intro b65_L1 b65_L2 b65_L3 b65_L4 b65_L5 b65_L6 b65_L7 M hF
      have hF : F_X10_pair_65 p0 p1 self52 (itF (fun _ _ _ _ _ _ _ _ => none) (F_X10_pair_65 p0 p1 self52) fuel) b65_L1 b65_L2 b65_L3 b65_L4 b65_L5 b65_L6 b65_L7 M = some (r9, M9) := hF
      generalize itF (fun _ _ _ _ _ _ _ _ => none) (F_X10_pair_65 p0 p1 self52) fuel = self65 at hs65 hF
      unfold F_X10_pair_65 at hF
      refine z_iload cx d_X10_pair_65 7 rfl ?_
      refine z_bipush (v := 64) cx d_X10_pair_67 kb_64 ?_
      refine z_icmp_ge cx 136 d_X10_pair_69 (by decide) hF (fun hF => ?_) (fun hF => ?_)
      · refine z_iinc cx 6 1 [(6, .int (b65_L6 + 1)), (0, .ref (ad 0)), (1, .int b65_L1), (2, .int b65_L2), (3, .int b65_L3), (4, .int b65_L4), (5, .int b65_L5), (7, .int b65_L7)] d_X10_pair_136 6 rfl ki_1 (by decide) rfl ?_
        refine z_goto cx 52 d_X10_pair_139 (by decide) ?_
        exact z_lv [1, 2, 3, 4, 5, 6, 0] _ rfl (hs52 b65_L1 b65_L2 b65_L3 b65_L4 b65_L5 (b65_L6 + 1) M hF)
      refine z_aload_n cx d_X10_pair_72 0 rfl ?_
      refine z_iload cx d_X10_pair_73 6 rfl ?_
      obtain ⟨v4, M3, hc, hF⟩ := zb_inv hF
      refine z_callV cx (As := [.int b65_L6]) (rest := []) (c_X10_isFree l cx.2.2.2.1.1 M b65_L6 hT hc) hT zo_11 cv_SunnyPansModel_348 ⟨rfl, rfl, Nat.le_of_ble_eq_true rfl, Nat.le_of_ble_eq_true rfl⟩ rfl rfl ⟨Nat.zero_le _, Nat.zero_le _⟩ (Nat.le_of_ble_eq_true rfl) d_X10_pair_75 ?_
      refine z_if_eq cx 130 d_X10_pair_78 (by decide) hF (fun hF => ?_) (fun hF => ?_)
      · exact hb130 self52 hs52 self65 hs65 b65_L1 b65_L2 b65_L3 b65_L4 b65_L5 b65_L6 b65_L7 M3 hF
      refine z_aload_n cx d_X10_pair_81 0 rfl ?_
      refine z_iload cx d_X10_pair_82 7 rfl ?_
      obtain ⟨v6, M5, hc, hF⟩ := zb_inv hF
      refine z_callV cx (As := [.int b65_L7]) (rest := []) (c_X10_isFree l cx.2.2.2.1.1 M3 b65_L7 hT hc) hT zo_11 cv_SunnyPansModel_348 ⟨rfl, rfl, Nat.le_of_ble_eq_true rfl, Nat.le_of_ble_eq_true rfl⟩ rfl rfl ⟨Nat.zero_le _, Nat.zero_le _⟩ (Nat.le_of_ble_eq_true rfl) d_X10_pair_84 ?_
      refine z_if_ne cx 93 d_X10_pair_87 (by decide) hF (fun hF => ?_) (fun hF => ?_)
      · refine z_aload_n cx d_X10_pair_93 0 rfl ?_
        refine z_iload cx d_X10_pair_94 6 rfl ?_
        refine z_iload cx d_X10_pair_96 7 rfl ?_
        refine z_iload_n cx d_X10_pair_98 1 rfl ?_
        obtain ⟨v8, M7, hc, hF⟩ := zb_inv hF
        refine z_callV cx (As := [.int b65_L6, .int b65_L7, .int b65_L1]) (rest := []) (c_X10_shades l cx.2.2.2.1.1 M5 b65_L6 b65_L7 b65_L1 hT hc) hT zo_11 cv_SunnyPansModel_351 ⟨rfl, rfl, Nat.le_of_ble_eq_true rfl, Nat.le_of_ble_eq_true rfl⟩ rfl rfl ⟨Nat.zero_le _, Nat.zero_le _⟩ (Nat.le_of_ble_eq_true rfl) d_X10_pair_99 ?_
        refine z_istore cx 8 [(8, .int v8), (0, .ref (ad 0)), (1, .int b65_L1), (2, .int b65_L2), (3, .int b65_L3), (4, .int b65_L4), (5, .int b65_L5), (6, .int b65_L6), (7, .int b65_L7)] d_X10_pair_102 (by decide) rfl ?_
        refine z_iload_n cx d_X10_pair_104 4 rfl ?_
        refine z_iconst (v := -1) cx d_X10_pair_105 ki_m1 ?_
        refine z_icmp_eq cx 119 d_X10_pair_106 (by decide) hF (fun hF => ?_) (fun hF => ?_)
        · exact z_lv [1, 2, 3, 7, 8, 0] _ rfl (hb119 self52 hs52 self65 hs65 b65_L1 b65_L2 b65_L6 b65_L7 v8 M7 hF)
        refine z_iload cx d_X10_pair_109 0 rfl ?_
        refine z_iload cx d_X10_pair_111 6 rfl ?_
        refine z_icmp_lt cx 119 d_X10_pair_113 (by decide) hF (fun hF => ?_) (fun hF => ?_)
        · exact z_lv [1, 2, 3, 7, 8, 0] _ rfl (hb119 self52 hs52 self65 hs65 b65_L1 b65_L2 b65_L6 b65_L7 v8 M7 hF)
        refine z_goto cx 130 d_X10_pair_116 (by decide) ?_
        exact z_lv [1, 2, 3, 4, 5, 6, 7, 8] _ rfl (hb130 self52 hs52 self65 hs65 b65_L1 b65_L2 b65_L3 b65_L4 b65_L5 b65_L6 b65_L7 M7 hF)
      refine z_goto cx 130 d_X10_pair_90 (by decide) ?_
      exact hb130 self52 hs52 self65 hs65 b65_L1 b65_L2 b65_L3 b65_L4 b65_L5 b65_L6 b65_L7 M5 hF
  have hL52 : ∀ (fuel : Nat), ∀ (b52_L1 : Int32) (b52_L2 : Int32) (b52_L3 : Int32) (b52_L4 : Int32) (b52_L5 : Int32) (b52_L6 : Int32) (M : zMem), itF (fun _ _ _ _ _ _ _ => none) (F_X10_pair_52 p0 p1) fuel b52_L1 b52_L2 b52_L3 b52_L4 b52_L5 b52_L6 M = some (r9, M9) → zJ p l e rm_X10_pair s m args below meth c G shM ad n A 9 (MQ below (zQ G shM ad n M9 (some (.int r9)) A) args s 0 0 A) 0 0 M 52 [(0, .ref (ad 0)), (1, .int b52_L1), (2, .int b52_L2), (3, .int b52_L3), (4, .int b52_L4), (5, .int b52_L5), (6, .int b52_L6)] [] := by
    intro fuel
    induction fuel with
    | zero => intro b52_L1 b52_L2 b52_L3 b52_L4 b52_L5 b52_L6 M hF; cases hF
    | succ fuel hs52 =>
      intro b52_L1 b52_L2 b52_L3 b52_L4 b52_L5 b52_L6 M hF
      have hF : F_X10_pair_52 p0 p1 (itF (fun _ _ _ _ _ _ _ => none) (F_X10_pair_52 p0 p1) fuel) b52_L1 b52_L2 b52_L3 b52_L4 b52_L5 b52_L6 M = some (r9, M9) := hF
      generalize itF (fun _ _ _ _ _ _ _ => none) (F_X10_pair_52 p0 p1) fuel = self52 at hs52 hF
      unfold F_X10_pair_52 at hF
      refine z_iload cx d_X10_pair_52 6 rfl ?_
      refine z_bipush (v := 64) cx d_X10_pair_54 kb_64 ?_
      refine z_icmp_ge cx 142 d_X10_pair_56 (by decide) hF (fun hF => ?_) (fun hF => ?_)
      · refine z_iload_n cx d_X10_pair_142 2 rfl ?_
        refine z_iconst (v := 2) cx d_X10_pair_143 ki_2 ?_
        refine z_icmp_ne cx 152 d_X10_pair_144 (by decide) hF (fun hF => ?_) (fun hF => ?_)
        · refine z_iload_n cx d_X10_pair_152 2 rfl ?_
          refine z_if_ne cx 160 d_X10_pair_153 (by decide) hF (fun hF => ?_) (fun hF => ?_)
          · refine z_iload cx d_X10_pair_160 4 rfl ?_
            exact z_lv [] _ rfl (hb162 b52_L4 M hF)
          refine z_iload_n cx d_X10_pair_156 3 rfl ?_
          refine z_goto cx 162 d_X10_pair_157 (by decide) ?_
          exact z_lv [] _ rfl (hb162 b52_L3 M hF)
        refine z_iload cx d_X10_pair_147 5 rfl ?_
        refine z_goto cx 165 d_X10_pair_149 (by decide) ?_
        exact z_iret cx hr rfl hF d_X10_pair_165
      refine z_iload cx d_X10_pair_59 6 rfl ?_
      refine z_iconst (v := 1) cx d_X10_pair_61 ki_1 ?_
      refine z_iadd cx d_X10_pair_62 ?_
      refine z_nm hF (fun v9 hF => ?_)
      refine z_istore cx 7 [(7, .int v9), (0, .ref (ad 0)), (1, .int b52_L1), (2, .int b52_L2), (3, .int b52_L3), (4, .int b52_L4), (5, .int b52_L5), (6, .int b52_L6)] d_X10_pair_63 (by decide) rfl ?_
      exact z_lv [1, 2, 3, 4, 5, 6, 7, 0] _ rfl (hL65 self52 hs52 zFuel b52_L1 b52_L2 b52_L3 b52_L4 b52_L5 b52_L6 v9 M hF)
  have hb31 : ∀ (b31_L1 : Int32) (b31_L2 : Int32) (b31_S1 : Int32) (M : zMem), F_X10_pair_31 p0 p1 b31_L1 b31_L2 b31_S1 M = some (r9, M9) → zJ p l e rm_X10_pair s m args below meth c G shM ad n A 9 (MQ below (zQ G shM ad n M9 (some (.int r9)) A) args s 0 0 A) 0 0 M 31 [(0, .ref (ad 0)), (1, .int b31_L1), (2, .int b31_L2)] [.int b31_S1, .ref (ad 0)] := by
    intro b31_L1 b31_L2 b31_S1 M hF
    unfold F_X10_pair_31 at hF
    refine z_iconst (v := 1) cx d_X10_pair_31 ki_1 ?_
    refine z_iconst (v := 1) cx d_X10_pair_32 ki_1 ?_
    obtain ⟨v11, M10, hc, hF⟩ := zb_inv hF
    refine z_callV cx (As := [.int b31_S1, .int (1 : Int32), .int (1 : Int32)]) (rest := []) (c_X10_bad l cx.2.2.2.1.1 M b31_S1 (1 : Int32) (1 : Int32) hT hc) hT zo_11 cv_SunnyPansModel_155 ⟨rfl, rfl, Nat.le_of_ble_eq_true rfl, Nat.le_of_ble_eq_true rfl⟩ rfl rfl ⟨Nat.zero_le _, Nat.zero_le _⟩ (Nat.le_of_ble_eq_true rfl) d_X10_pair_33 ?_
    refine z_if_eq cx 41 d_X10_pair_36 (by decide) hF (fun hF => ?_) (fun hF => ?_)
    · refine z_iconst (v := -1) cx d_X10_pair_41 ki_m1 ?_
      refine z_istore_n cx 3 [(3, .int (-1 : Int32)), (0, .ref (ad 0)), (1, .int b31_L1), (2, .int b31_L2)] d_X10_pair_42 rfl (by decide) rfl ?_
      refine z_iconst (v := -1) cx d_X10_pair_43 ki_m1 ?_
      refine z_istore cx 4 [(4, .int (-1 : Int32)), (3, .int (-1 : Int32)), (0, .ref (ad 0)), (1, .int b31_L1), (2, .int b31_L2)] d_X10_pair_44 (by decide) rfl ?_
      refine z_iconst (v := -1) cx d_X10_pair_46 ki_m1 ?_
      refine z_istore cx 5 [(5, .int (-1 : Int32)), (4, .int (-1 : Int32)), (3, .int (-1 : Int32)), (0, .ref (ad 0)), (1, .int b31_L1), (2, .int b31_L2)] d_X10_pair_47 (by decide) rfl ?_
      refine z_iconst (v := 0) cx d_X10_pair_49 ki_0 ?_
      refine z_istore cx 6 [(6, .int (0 : Int32)), (5, .int (-1 : Int32)), (4, .int (-1 : Int32)), (3, .int (-1 : Int32)), (0, .ref (ad 0)), (1, .int b31_L1), (2, .int b31_L2)] d_X10_pair_50 (by decide) rfl ?_
      exact z_lv [4, 5, 6, 3, 2, 1, 0] _ rfl (hL52 zFuel b31_L1 b31_L2 (-1 : Int32) (-1 : Int32) (-1 : Int32) (0 : Int32) M10 hF)
    refine z_iconst (v := 0) cx d_X10_pair_39 ki_0 ?_
    exact z_iret cx hr rfl hF d_X10_pair_40
  unfold F_X10_pair at hF
  refine z_aload_n cx d_X10_pair_0 0 rfl ?_
  refine z_iconst (v := 0) cx d_X10_pair_1 ki_0 ?_
  refine z_putI cx hT fp_SunnyPansModel_82 d_X10_pair_2 ?_
  refine z_nmM hF (fun M12 hF => ?_)
  refine z_aload_n cx d_X10_pair_5 0 rfl ?_
  refine z_iload_n cx d_X10_pair_6 1 rfl ?_
  refine z_iconst (v := 1) cx d_X10_pair_7 ki_1 ?_
  refine z_sipush (v := 999) cx d_X10_pair_8 ks_999 ?_
  obtain ⟨v14, M13, hc, hF⟩ := zb_inv hF
  refine z_callS cx (As := [.int p0, .int (1 : Int32), .int (999 : Int32)]) (rest := [.ref (ad 0)]) (c_X10_in l cx.2.2.2.1.1 M12 p0 (1 : Int32) (999 : Int32)  hc) cs_SunnyPansModel_116 ⟨rfl, rfl, Nat.le_of_ble_eq_true rfl, Nat.le_of_ble_eq_true rfl⟩ rfl rfl ⟨Nat.zero_le _, Nat.zero_le _⟩ (Nat.le_of_ble_eq_true rfl) d_X10_pair_11 ?_
  refine z_if_eq cx 26 d_X10_pair_14 (by decide) hF (fun hF => ?_) (fun hF => ?_)
  · refine z_iconst (v := 1) cx d_X10_pair_26 ki_1 ?_
    refine z_goto cx 31 d_X10_pair_27 (by decide) ?_
    exact hb31 p0 p1 (1 : Int32) M13 hF
  refine z_iload_n cx d_X10_pair_17 2 rfl ?_
  refine z_iconst (v := 0) cx d_X10_pair_18 ki_0 ?_
  refine z_iconst (v := 2) cx d_X10_pair_19 ki_2 ?_
  obtain ⟨v16, M15, hc, hF⟩ := zb_inv hF
  refine z_callS cx (As := [.int p1, .int (0 : Int32), .int (2 : Int32)]) (rest := [.ref (ad 0)]) (c_X10_in l cx.2.2.2.1.1 M13 p1 (0 : Int32) (2 : Int32)  hc) cs_SunnyPansModel_116 ⟨rfl, rfl, Nat.le_of_ble_eq_true rfl, Nat.le_of_ble_eq_true rfl⟩ rfl rfl ⟨Nat.zero_le _, Nat.zero_le _⟩ (Nat.le_of_ble_eq_true rfl) d_X10_pair_20 ?_
  refine z_if_ne cx 30 d_X10_pair_23 (by decide) hF (fun hF => ?_) (fun hF => ?_)
  · refine z_iconst (v := 0) cx d_X10_pair_30 ki_0 ?_
    exact hb31 p0 p1 (0 : Int32) M15 hF
  refine z_iconst (v := 1) cx d_X10_pair_26 ki_1 ?_
  refine z_goto cx 31 d_X10_pair_27 (by decide) ?_
  exact hb31 p0 p1 (1 : Int32) M15 hF
/-! SunnyPansModel.relief -/
theorem d_X10_relief_0 : decode cX10_relief 0 = .ok (.aload_n 0, 1) := by decide +kernel
theorem d_X10_relief_1 : decode cX10_relief 1 = .ok (.iconst 0, 1) := by decide +kernel
theorem d_X10_relief_2 : decode cX10_relief 2 = .ok (.putfield 82, 3) := by decide +kernel
theorem d_X10_relief_5 : decode cX10_relief 5 = .ok (.aload_n 0, 1) := by decide +kernel
theorem d_X10_relief_6 : decode cX10_relief 6 = .ok (.iload_n 1, 1) := by decide +kernel
theorem d_X10_relief_7 : decode cX10_relief 7 = .ok (.iconst 0, 1) := by decide +kernel
theorem d_X10_relief_8 : decode cX10_relief 8 = .ok (.iconst 1, 1) := by decide +kernel
theorem d_X10_relief_9 : decode cX10_relief 9 = .ok (.invokestatic 116, 3) := by decide +kernel
theorem d_X10_relief_12 : decode cX10_relief 12 = .ok (.ifCond .ne 7, 3) := by decide +kernel
theorem d_X10_relief_15 : decode cX10_relief 15 = .ok (.iconst 1, 1) := by decide +kernel
theorem d_X10_relief_16 : decode cX10_relief 16 = .ok (.goto 4, 3) := by decide +kernel
theorem d_X10_relief_19 : decode cX10_relief 19 = .ok (.iconst 0, 1) := by decide +kernel
theorem d_X10_relief_20 : decode cX10_relief 20 = .ok (.iconst 1, 1) := by decide +kernel
theorem d_X10_relief_21 : decode cX10_relief 21 = .ok (.iconst 1, 1) := by decide +kernel
theorem d_X10_relief_22 : decode cX10_relief 22 = .ok (.invokevirtual 155, 3) := by decide +kernel
theorem d_X10_relief_25 : decode cX10_relief 25 = .ok (.ifCond .eq 5, 3) := by decide +kernel
theorem d_X10_relief_28 : decode cX10_relief 28 = .ok (.iconst 0, 1) := by decide +kernel
theorem d_X10_relief_29 : decode cX10_relief 29 = .ok (.ireturn, 1) := by decide +kernel
theorem d_X10_relief_30 : decode cX10_relief 30 = .ok (.iconst (-1), 1) := by decide +kernel
theorem d_X10_relief_31 : decode cX10_relief 31 = .ok (.istore_n 2, 1) := by decide +kernel
theorem d_X10_relief_32 : decode cX10_relief 32 = .ok (.iconst (-1), 1) := by decide +kernel
theorem d_X10_relief_33 : decode cX10_relief 33 = .ok (.istore_n 3, 1) := by decide +kernel
theorem d_X10_relief_34 : decode cX10_relief 34 = .ok (.iconst 0, 1) := by decide +kernel
theorem d_X10_relief_35 : decode cX10_relief 35 = .ok (.istore 4, 2) := by decide +kernel
theorem d_X10_relief_37 : decode cX10_relief 37 = .ok (.iload 4, 2) := by decide +kernel
theorem d_X10_relief_39 : decode cX10_relief 39 = .ok (.bipush 64, 2) := by decide +kernel
theorem d_X10_relief_41 : decode cX10_relief 41 = .ok (.if_icmp .ge 157, 3) := by decide +kernel
theorem d_X10_relief_44 : decode cX10_relief 44 = .ok (.aload_n 0, 1) := by decide +kernel
theorem d_X10_relief_45 : decode cX10_relief 45 = .ok (.getfield 58, 3) := by decide +kernel
theorem d_X10_relief_48 : decode cX10_relief 48 = .ok (.sipush 128, 3) := by decide +kernel
theorem d_X10_relief_51 : decode cX10_relief 51 = .ok (.iload 4, 2) := by decide +kernel
theorem d_X10_relief_53 : decode cX10_relief 53 = .ok (.iadd, 1) := by decide +kernel
theorem d_X10_relief_54 : decode cX10_relief 54 = .ok (.iaload, 1) := by decide +kernel
theorem d_X10_relief_55 : decode cX10_relief 55 = .ok (.ifCond .ne 6, 3) := by decide +kernel
theorem d_X10_relief_58 : decode cX10_relief 58 = .ok (.goto 134, 3) := by decide +kernel
theorem d_X10_relief_61 : decode cX10_relief 61 = .ok (.aload_n 0, 1) := by decide +kernel
theorem d_X10_relief_62 : decode cX10_relief 62 = .ok (.getfield 58, 3) := by decide +kernel
theorem d_X10_relief_65 : decode cX10_relief 65 = .ok (.aload_n 0, 1) := by decide +kernel
theorem d_X10_relief_66 : decode cX10_relief 66 = .ok (.getfield 61, 3) := by decide +kernel
theorem d_X10_relief_69 : decode cX10_relief 69 = .ok (.invokestatic 315, 3) := by decide +kernel
theorem d_X10_relief_72 : decode cX10_relief 72 = .ok (.aload_n 0, 1) := by decide +kernel
theorem d_X10_relief_73 : decode cX10_relief 73 = .ok (.getfield 61, 3) := by decide +kernel
theorem d_X10_relief_76 : decode cX10_relief 76 = .ok (.sipush 128, 3) := by decide +kernel
theorem d_X10_relief_79 : decode cX10_relief 79 = .ok (.iload 4, 2) := by decide +kernel
theorem d_X10_relief_81 : decode cX10_relief 81 = .ok (.iadd, 1) := by decide +kernel
theorem d_X10_relief_82 : decode cX10_relief 82 = .ok (.iconst 0, 1) := by decide +kernel
theorem d_X10_relief_83 : decode cX10_relief 83 = .ok (.iastore, 1) := by decide +kernel
theorem d_X10_relief_84 : decode cX10_relief 84 = .ok (.iconst 0, 1) := by decide +kernel
theorem d_X10_relief_85 : decode cX10_relief 85 = .ok (.istore 5, 2) := by decide +kernel
theorem d_X10_relief_87 : decode cX10_relief 87 = .ok (.iconst 0, 1) := by decide +kernel
theorem d_X10_relief_88 : decode cX10_relief 88 = .ok (.istore 6, 2) := by decide +kernel
theorem d_X10_relief_90 : decode cX10_relief 90 = .ok (.iload 6, 2) := by decide +kernel
theorem d_X10_relief_92 : decode cX10_relief 92 = .ok (.aload_n 0, 1) := by decide +kernel
theorem d_X10_relief_93 : decode cX10_relief 93 = .ok (.getfield 23, 3) := by decide +kernel
theorem d_X10_relief_96 : decode cX10_relief 96 = .ok (.iconst 2, 1) := by decide +kernel
theorem d_X10_relief_97 : decode cX10_relief 97 = .ok (.iaload, 1) := by decide +kernel
theorem d_X10_relief_98 : decode cX10_relief 98 = .ok (.if_icmp .ge 74, 3) := by decide +kernel
theorem d_X10_relief_101 : decode cX10_relief 101 = .ok (.iconst 0, 1) := by decide +kernel
theorem d_X10_relief_102 : decode cX10_relief 102 = .ok (.istore 7, 2) := by decide +kernel
theorem d_X10_relief_104 : decode cX10_relief 104 = .ok (.iload 7, 2) := by decide +kernel
theorem d_X10_relief_106 : decode cX10_relief 106 = .ok (.bipush 64, 2) := by decide +kernel
theorem d_X10_relief_108 : decode cX10_relief 108 = .ok (.if_icmp .ge 58, 3) := by decide +kernel
theorem d_X10_relief_111 : decode cX10_relief 111 = .ok (.iload 5, 2) := by decide +kernel
theorem d_X10_relief_113 : decode cX10_relief 113 = .ok (.aload_n 0, 1) := by decide +kernel
theorem d_X10_relief_114 : decode cX10_relief 114 = .ok (.iload 7, 2) := by decide +kernel
theorem d_X10_relief_116 : decode cX10_relief 116 = .ok (.invokevirtual 284, 3) := by decide +kernel
theorem d_X10_relief_119 : decode cX10_relief 119 = .ok (.ifCond .eq 37, 3) := by decide +kernel
theorem d_X10_relief_122 : decode cX10_relief 122 = .ok (.aload_n 0, 1) := by decide +kernel
theorem d_X10_relief_123 : decode cX10_relief 123 = .ok (.aload_n 0, 1) := by decide +kernel
theorem d_X10_relief_124 : decode cX10_relief 124 = .ok (.getfield 58, 3) := by decide +kernel
theorem d_X10_relief_127 : decode cX10_relief 127 = .ok (.iload 7, 2) := by decide +kernel
theorem d_X10_relief_129 : decode cX10_relief 129 = .ok (.iload 6, 2) := by decide +kernel
theorem d_X10_relief_131 : decode cX10_relief 131 = .ok (.invokevirtual 264, 3) := by decide +kernel
theorem d_X10_relief_134 : decode cX10_relief 134 = .ok (.ifCond .eq 22, 3) := by decide +kernel
theorem d_X10_relief_137 : decode cX10_relief 137 = .ok (.aload_n 0, 1) := by decide +kernel
theorem d_X10_relief_138 : decode cX10_relief 138 = .ok (.aload_n 0, 1) := by decide +kernel
theorem d_X10_relief_139 : decode cX10_relief 139 = .ok (.getfield 61, 3) := by decide +kernel
theorem d_X10_relief_142 : decode cX10_relief 142 = .ok (.iload 7, 2) := by decide +kernel
theorem d_X10_relief_144 : decode cX10_relief 144 = .ok (.iload 6, 2) := by decide +kernel
theorem d_X10_relief_146 : decode cX10_relief 146 = .ok (.invokevirtual 264, 3) := by decide +kernel
theorem d_X10_relief_149 : decode cX10_relief 149 = .ok (.ifCond .ne 7, 3) := by decide +kernel
theorem d_X10_relief_152 : decode cX10_relief 152 = .ok (.iconst 1, 1) := by decide +kernel
theorem d_X10_relief_153 : decode cX10_relief 153 = .ok (.goto 4, 3) := by decide +kernel
theorem d_X10_relief_156 : decode cX10_relief 156 = .ok (.iconst 0, 1) := by decide +kernel
theorem d_X10_relief_157 : decode cX10_relief 157 = .ok (.iadd, 1) := by decide +kernel
theorem d_X10_relief_158 : decode cX10_relief 158 = .ok (.istore 5, 2) := by decide +kernel
theorem d_X10_relief_160 : decode cX10_relief 160 = .ok (.iinc 7 1, 3) := by decide +kernel
theorem d_X10_relief_163 : decode cX10_relief 163 = .ok (.goto (-59), 3) := by decide +kernel
theorem d_X10_relief_166 : decode cX10_relief 166 = .ok (.iinc 6 1, 3) := by decide +kernel
theorem d_X10_relief_169 : decode cX10_relief 169 = .ok (.goto (-79), 3) := by decide +kernel
theorem d_X10_relief_172 : decode cX10_relief 172 = .ok (.iload 5, 2) := by decide +kernel
theorem d_X10_relief_174 : decode cX10_relief 174 = .ok (.iload_n 3, 1) := by decide +kernel
theorem d_X10_relief_175 : decode cX10_relief 175 = .ok (.if_icmp .le 8, 3) := by decide +kernel
theorem d_X10_relief_178 : decode cX10_relief 178 = .ok (.iload 4, 2) := by decide +kernel
theorem d_X10_relief_180 : decode cX10_relief 180 = .ok (.goto 4, 3) := by decide +kernel
theorem d_X10_relief_183 : decode cX10_relief 183 = .ok (.iload_n 2, 1) := by decide +kernel
theorem d_X10_relief_184 : decode cX10_relief 184 = .ok (.istore_n 2, 1) := by decide +kernel
theorem d_X10_relief_185 : decode cX10_relief 185 = .ok (.iload_n 3, 1) := by decide +kernel
theorem d_X10_relief_186 : decode cX10_relief 186 = .ok (.iload 5, 2) := by decide +kernel
theorem d_X10_relief_188 : decode cX10_relief 188 = .ok (.invokestatic 218, 3) := by decide +kernel
theorem d_X10_relief_191 : decode cX10_relief 191 = .ok (.istore_n 3, 1) := by decide +kernel
theorem d_X10_relief_192 : decode cX10_relief 192 = .ok (.iinc 4 1, 3) := by decide +kernel
theorem d_X10_relief_195 : decode cX10_relief 195 = .ok (.goto (-158), 3) := by decide +kernel
theorem d_X10_relief_198 : decode cX10_relief 198 = .ok (.iload_n 1, 1) := by decide +kernel
theorem d_X10_relief_199 : decode cX10_relief 199 = .ok (.ifCond .ne 10, 3) := by decide +kernel
theorem d_X10_relief_202 : decode cX10_relief 202 = .ok (.iload_n 2, 1) := by decide +kernel
theorem d_X10_relief_203 : decode cX10_relief 203 = .ok (.invokestatic 345, 3) := by decide +kernel
theorem d_X10_relief_206 : decode cX10_relief 206 = .ok (.goto 4, 3) := by decide +kernel
theorem d_X10_relief_209 : decode cX10_relief 209 = .ok (.iload_n 3, 1) := by decide +kernel
theorem d_X10_relief_210 : decode cX10_relief 210 = .ok (.ireturn, 1) := by decide +kernel
noncomputable def F_X10_relief_192 (p0 : Int32) (self37 : Int32 → Int32 → Int32 → Int32 → zMem → Option (Int32 × zMem)) (b192_L1 : Int32) (b192_L2 : Int32) (b192_L3 : Int32) (b192_L4 : Int32) (M : zMem) : Option (Int32 × zMem) :=
  self37 b192_L1 b192_L2 b192_L3 (b192_L4 + 1) M
noncomputable def F_X10_relief_184 (p0 : Int32) (self37 : Int32 → Int32 → Int32 → Int32 → zMem → Option (Int32 × zMem)) (b184_L1 : Int32) (b184_L3 : Int32) (b184_L4 : Int32) (b184_L5 : Int32) (b184_S0 : Int32) (M : zMem) : Option (Int32 × zMem) :=
  zb (F_X10_more M b184_L3 b184_L5) fun v2 M1 =>
  F_X10_relief_192 p0 self37 b184_L1 b184_S0 v2 b184_L4 M1
noncomputable def F_X10_relief_157 (p0 : Int32) (self37 : Int32 → Int32 → Int32 → Int32 → zMem → Option (Int32 × zMem)) (self90 : Int32 → Int32 → Int32 → Int32 → Int32 → Int32 → zMem → Option (Int32 × zMem)) (self104 : Int32 → Int32 → Int32 → Int32 → Int32 → Int32 → Int32 → zMem → Option (Int32 × zMem)) (b157_L1 : Int32) (b157_L2 : Int32) (b157_L3 : Int32) (b157_L4 : Int32) (b157_L6 : Int32) (b157_L7 : Int32) (b157_S0 : Int32) (b157_S1 : Int32) (M : zMem) : Option (Int32 × zMem) :=
  zl (b157_S0 + b157_S1) fun v3 =>
  self104 b157_L1 b157_L2 b157_L3 b157_L4 v3 b157_L6 (b157_L7 + 1) M
noncomputable def F_X10_relief_156 (p0 : Int32) (self37 : Int32 → Int32 → Int32 → Int32 → zMem → Option (Int32 × zMem)) (self90 : Int32 → Int32 → Int32 → Int32 → Int32 → Int32 → zMem → Option (Int32 × zMem)) (self104 : Int32 → Int32 → Int32 → Int32 → Int32 → Int32 → Int32 → zMem → Option (Int32 × zMem)) (b156_L1 : Int32) (b156_L2 : Int32) (b156_L3 : Int32) (b156_L4 : Int32) (b156_L6 : Int32) (b156_L7 : Int32) (b156_S0 : Int32) (M : zMem) : Option (Int32 × zMem) :=
  F_X10_relief_157 p0 self37 self90 self104 b156_L1 b156_L2 b156_L3 b156_L4 b156_L6 b156_L7 b156_S0 (0 : Int32) M
noncomputable def F_X10_relief_104 (p0 : Int32) (self37 : Int32 → Int32 → Int32 → Int32 → zMem → Option (Int32 × zMem)) (self90 : Int32 → Int32 → Int32 → Int32 → Int32 → Int32 → zMem → Option (Int32 × zMem)) (self104 : Int32 → Int32 → Int32 → Int32 → Int32 → Int32 → Int32 → zMem → Option (Int32 × zMem)) (b104_L1 : Int32) (b104_L2 : Int32) (b104_L3 : Int32) (b104_L4 : Int32) (b104_L5 : Int32) (b104_L6 : Int32) (b104_L7 : Int32) (M : zMem) : Option (Int32 × zMem) :=
  if (64 : Int32) ≤ b104_L7 then
    self90 b104_L1 b104_L2 b104_L3 b104_L4 b104_L5 (b104_L6 + 1) M
  else
    zb (F_X10_isHere M b104_L7) fun v5 M4 =>
    if v5 = 0 then
      F_X10_relief_156 p0 self37 self90 self104 b104_L1 b104_L2 b104_L3 b104_L4 b104_L6 b104_L7 b104_L5 M4
    else
      zb (F_X10_isShade M4 451 b104_L7 b104_L6) fun v7 M6 =>
      if v7 = 0 then
        F_X10_relief_156 p0 self37 self90 self104 b104_L1 b104_L2 b104_L3 b104_L4 b104_L6 b104_L7 b104_L5 M6
      else
        zb (F_X10_isShade M6 452 b104_L7 b104_L6) fun v9 M8 =>
        if v9 = 0 then
          F_X10_relief_157 p0 self37 self90 self104 b104_L1 b104_L2 b104_L3 b104_L4 b104_L6 b104_L7 b104_L5 (1 : Int32) M8
        else
          F_X10_relief_156 p0 self37 self90 self104 b104_L1 b104_L2 b104_L3 b104_L4 b104_L6 b104_L7 b104_L5 M8
noncomputable def F_X10_relief_90 (p0 : Int32) (self37 : Int32 → Int32 → Int32 → Int32 → zMem → Option (Int32 × zMem)) (self90 : Int32 → Int32 → Int32 → Int32 → Int32 → Int32 → zMem → Option (Int32 × zMem)) (b90_L1 : Int32) (b90_L2 : Int32) (b90_L3 : Int32) (b90_L4 : Int32) (b90_L5 : Int32) (b90_L6 : Int32) (M : zMem) : Option (Int32 × zMem) :=
  if (M.1 4 2) ≤ b90_L6 then
    if b90_L5 ≤ b90_L3 then
      F_X10_relief_184 p0 self37 b90_L1 b90_L3 b90_L4 b90_L5 b90_L2 M
    else
      F_X10_relief_184 p0 self37 b90_L1 b90_L3 b90_L4 b90_L5 b90_L4 M
  else
    itF (fun _ _ _ _ _ _ _ _ => none) (F_X10_relief_104 p0 self37 self90) zFuel b90_L1 b90_L2 b90_L3 b90_L4 b90_L5 b90_L6 (0 : Int32) M
noncomputable def F_X10_relief_37 (p0 : Int32) (self37 : Int32 → Int32 → Int32 → Int32 → zMem → Option (Int32 × zMem)) (b37_L1 : Int32) (b37_L2 : Int32) (b37_L3 : Int32) (b37_L4 : Int32) (M : zMem) : Option (Int32 × zMem) :=
  if (64 : Int32) ≤ b37_L4 then
    if b37_L1 = 0 then
      zb (F_X10_asTold M b37_L2) fun v11 M10 =>
      some (v11, M10)
    else
      some (b37_L3, M)
  else
    gin ((128 : Int32) + b37_L4) 195 <|
    if (M.1 451 ((128 : Int32) + b37_L4).toNatClampNeg) = 0 then
      F_X10_relief_192 p0 self37 b37_L1 b37_L2 b37_L3 b37_L4 M
    else
      zbv (F_X10_copies M 451 452) fun M13 =>
      zl (zI M13 452 (((128 : Int32) + b37_L4).toNatClampNeg) (0 : Int32)) fun M14 =>
      itF (fun _ _ _ _ _ _ _ => none) (F_X10_relief_90 p0 self37) zFuel b37_L1 b37_L2 b37_L3 b37_L4 (0 : Int32) (0 : Int32) M14
noncomputable def F_X10_relief_20 (p0 : Int32) (b20_L1 : Int32) (b20_S1 : Int32) (M : zMem) : Option (Int32 × zMem) :=
  zb (F_X10_bad M b20_S1 (1 : Int32) (1 : Int32)) fun v16 M15 =>
  if v16 = 0 then
    itF (fun _ _ _ _ _ => none) (F_X10_relief_37 p0) zFuel b20_L1 (-1 : Int32) (-1 : Int32) (0 : Int32) M15
  else
    some ((0 : Int32), M15)
noncomputable def F_X10_relief (M : zMem) (p0 : Int32) : Option (Int32 × zMem) :=
  zl (zI M 0 0 (0 : Int32)) fun M17 =>
  zb (F_X10_in M17 p0 (0 : Int32) (1 : Int32)) fun v19 M18 =>
  if v19 = 0 then
    F_X10_relief_20 p0 p0 (1 : Int32) M18
  else
    F_X10_relief_20 p0 p0 (0 : Int32) M18
def rm_X10_relief : Room := { frames := 6, cells := 0, slots := 0, locals := 173 }
set_option maxHeartbeats 4000000 in
set_option maxRecDepth 100000 in
theorem c_X10_relief (l : Launch) {G : zG} {ad : Nat → Nat} {n : Nat} (hA : zInj ad n) (M : zMem) (p0 : Int32) (hT : zT shM n 0 11) {r9 : Int32} {M9 : zMem} (hF : F_X10_relief M p0 = some (r9, M9)) : zM l yX10_relief cX10_relief 8 (some .int) rm_X10_relief G shM ad n M [.ref (ad 0), .int p0] (some (.int r9)) M9 := by
  refine zM_of hA (by decide +kernel) (lv := [(0, .ref (ad 0)), (1, .int p0)]) (Nat.le_of_ble_eq_true rfl) rfl (fun p e s m args below meth c A cx hr => ?_)
  have hb192 : ∀ (self37 : Int32 → Int32 → Int32 → Int32 → zMem → Option (Int32 × zMem)) (hs37 : ∀ (b37_L1 : Int32) (b37_L2 : Int32) (b37_L3 : Int32) (b37_L4 : Int32) (M : zMem), self37 b37_L1 b37_L2 b37_L3 b37_L4 M = some (r9, M9) → zJ p l e rm_X10_relief s m args below meth c G shM ad n A 8 (MQ below (zQ G shM ad n M9 (some (.int r9)) A) args s 0 0 A) 0 0 M 37 [(0, .ref (ad 0)), (1, .int b37_L1), (2, .int b37_L2), (3, .int b37_L3), (4, .int b37_L4)] []), ∀ (b192_L1 : Int32) (b192_L2 : Int32) (b192_L3 : Int32) (b192_L4 : Int32) (M : zMem), F_X10_relief_192 p0 self37 b192_L1 b192_L2 b192_L3 b192_L4 M = some (r9, M9) → zJ p l e rm_X10_relief s m args below meth c G shM ad n A 8 (MQ below (zQ G shM ad n M9 (some (.int r9)) A) args s 0 0 A) 0 0 M 192 [(0, .ref (ad 0)), (1, .int b192_L1), (2, .int b192_L2), (3, .int b192_L3), (4, .int b192_L4)] [] := by
    intro self37 hs37 b192_L1 b192_L2 b192_L3 b192_L4 M hF
    unfold F_X10_relief_192 at hF
    refine z_iinc cx 4 1 [(4, .int (b192_L4 + 1)), (0, .ref (ad 0)), (1, .int b192_L1), (2, .int b192_L2), (3, .int b192_L3)] d_X10_relief_192 4 rfl ki_1 (by decide) rfl ?_
    refine z_goto cx 37 d_X10_relief_195 (by decide) ?_
    exact z_lv [1, 2, 3, 4, 0] _ rfl (hs37 b192_L1 b192_L2 b192_L3 (b192_L4 + 1) M hF)
  have hb184 : ∀ (self37 : Int32 → Int32 → Int32 → Int32 → zMem → Option (Int32 × zMem)) (hs37 : ∀ (b37_L1 : Int32) (b37_L2 : Int32) (b37_L3 : Int32) (b37_L4 : Int32) (M : zMem), self37 b37_L1 b37_L2 b37_L3 b37_L4 M = some (r9, M9) → zJ p l e rm_X10_relief s m args below meth c G shM ad n A 8 (MQ below (zQ G shM ad n M9 (some (.int r9)) A) args s 0 0 A) 0 0 M 37 [(0, .ref (ad 0)), (1, .int b37_L1), (2, .int b37_L2), (3, .int b37_L3), (4, .int b37_L4)] []), ∀ (b184_L1 : Int32) (b184_L3 : Int32) (b184_L4 : Int32) (b184_L5 : Int32) (b184_S0 : Int32) (M : zMem), F_X10_relief_184 p0 self37 b184_L1 b184_L3 b184_L4 b184_L5 b184_S0 M = some (r9, M9) → zJ p l e rm_X10_relief s m args below meth c G shM ad n A 8 (MQ below (zQ G shM ad n M9 (some (.int r9)) A) args s 0 0 A) 0 0 M 184 [(0, .ref (ad 0)), (1, .int b184_L1), (3, .int b184_L3), (4, .int b184_L4), (5, .int b184_L5)] [.int b184_S0] := by
    intro self37 hs37 b184_L1 b184_L3 b184_L4 b184_L5 b184_S0 M hF
    unfold F_X10_relief_184 at hF
    refine z_istore_n cx 2 [(2, .int b184_S0), (0, .ref (ad 0)), (1, .int b184_L1), (3, .int b184_L3), (4, .int b184_L4), (5, .int b184_L5)] d_X10_relief_184 rfl (by decide) rfl ?_
    refine z_iload_n cx d_X10_relief_185 3 rfl ?_
    refine z_iload cx d_X10_relief_186 5 rfl ?_
    obtain ⟨v2, M1, hc, hF⟩ := zb_inv hF
    refine z_callS cx (As := [.int b184_L3, .int b184_L5]) (rest := []) (c_X10_more l cx.2.2.2.1.1 M b184_L3 b184_L5  hc) cs_SunnyPansModel_218 ⟨rfl, rfl, Nat.le_of_ble_eq_true rfl, Nat.le_of_ble_eq_true rfl⟩ rfl rfl ⟨Nat.zero_le _, Nat.zero_le _⟩ (Nat.le_of_ble_eq_true rfl) d_X10_relief_188 ?_
    refine z_istore_n cx 3 [(3, .int v2), (2, .int b184_S0), (0, .ref (ad 0)), (1, .int b184_L1), (4, .int b184_L4), (5, .int b184_L5)] d_X10_relief_191 rfl (by decide) rfl ?_
    exact z_lv [2, 3, 1, 0, 4] _ rfl (hb192 self37 hs37 b184_L1 b184_S0 v2 b184_L4 M1 hF)
  have hb157 : ∀ (self37 : Int32 → Int32 → Int32 → Int32 → zMem → Option (Int32 × zMem)) (hs37 : ∀ (b37_L1 : Int32) (b37_L2 : Int32) (b37_L3 : Int32) (b37_L4 : Int32) (M : zMem), self37 b37_L1 b37_L2 b37_L3 b37_L4 M = some (r9, M9) → zJ p l e rm_X10_relief s m args below meth c G shM ad n A 8 (MQ below (zQ G shM ad n M9 (some (.int r9)) A) args s 0 0 A) 0 0 M 37 [(0, .ref (ad 0)), (1, .int b37_L1), (2, .int b37_L2), (3, .int b37_L3), (4, .int b37_L4)] []) (self90 : Int32 → Int32 → Int32 → Int32 → Int32 → Int32 → zMem → Option (Int32 × zMem)) (hs90 : ∀ (b90_L1 : Int32) (b90_L2 : Int32) (b90_L3 : Int32) (b90_L4 : Int32) (b90_L5 : Int32) (b90_L6 : Int32) (M : zMem), self90 b90_L1 b90_L2 b90_L3 b90_L4 b90_L5 b90_L6 M = some (r9, M9) → zJ p l e rm_X10_relief s m args below meth c G shM ad n A 8 (MQ below (zQ G shM ad n M9 (some (.int r9)) A) args s 0 0 A) 0 0 M 90 [(0, .ref (ad 0)), (1, .int b90_L1), (2, .int b90_L2), (3, .int b90_L3), (4, .int b90_L4), (5, .int b90_L5), (6, .int b90_L6)] []) (self104 : Int32 → Int32 → Int32 → Int32 → Int32 → Int32 → Int32 → zMem → Option (Int32 × zMem)) (hs104 : ∀ (b104_L1 : Int32) (b104_L2 : Int32) (b104_L3 : Int32) (b104_L4 : Int32) (b104_L5 : Int32) (b104_L6 : Int32) (b104_L7 : Int32) (M : zMem), self104 b104_L1 b104_L2 b104_L3 b104_L4 b104_L5 b104_L6 b104_L7 M = some (r9, M9) → zJ p l e rm_X10_relief s m args below meth c G shM ad n A 8 (MQ below (zQ G shM ad n M9 (some (.int r9)) A) args s 0 0 A) 0 0 M 104 [(0, .ref (ad 0)), (1, .int b104_L1), (2, .int b104_L2), (3, .int b104_L3), (4, .int b104_L4), (5, .int b104_L5), (6, .int b104_L6), (7, .int b104_L7)] []), ∀ (b157_L1 : Int32) (b157_L2 : Int32) (b157_L3 : Int32) (b157_L4 : Int32) (b157_L6 : Int32) (b157_L7 : Int32) (b157_S0 : Int32) (b157_S1 : Int32) (M : zMem), F_X10_relief_157 p0 self37 self90 self104 b157_L1 b157_L2 b157_L3 b157_L4 b157_L6 b157_L7 b157_S0 b157_S1 M = some (r9, M9) → zJ p l e rm_X10_relief s m args below meth c G shM ad n A 8 (MQ below (zQ G shM ad n M9 (some (.int r9)) A) args s 0 0 A) 0 0 M 157 [(0, .ref (ad 0)), (1, .int b157_L1), (2, .int b157_L2), (3, .int b157_L3), (4, .int b157_L4), (6, .int b157_L6), (7, .int b157_L7)] [.int b157_S1, .int b157_S0] := by
    intro self37 hs37 self90 hs90 self104 hs104 b157_L1 b157_L2 b157_L3 b157_L4 b157_L6 b157_L7 b157_S0 b157_S1 M hF
    unfold F_X10_relief_157 at hF
    refine z_iadd cx d_X10_relief_157 ?_
    refine z_nm hF (fun v3 hF => ?_)
    refine z_istore cx 5 [(5, .int v3), (0, .ref (ad 0)), (1, .int b157_L1), (2, .int b157_L2), (3, .int b157_L3), (4, .int b157_L4), (6, .int b157_L6), (7, .int b157_L7)] d_X10_relief_158 (by decide) rfl ?_
    refine z_iinc cx 7 1 [(7, .int (b157_L7 + 1)), (5, .int v3), (0, .ref (ad 0)), (1, .int b157_L1), (2, .int b157_L2), (3, .int b157_L3), (4, .int b157_L4), (6, .int b157_L6)] d_X10_relief_160 7 rfl ki_1 (by decide) rfl ?_
    refine z_goto cx 104 d_X10_relief_163 (by decide) ?_
    exact z_lv [2, 3, 4, 5, 6, 1, 7, 0] _ rfl (hs104 b157_L1 b157_L2 b157_L3 b157_L4 v3 b157_L6 (b157_L7 + 1) M hF)
  have hb156 : ∀ (self37 : Int32 → Int32 → Int32 → Int32 → zMem → Option (Int32 × zMem)) (hs37 : ∀ (b37_L1 : Int32) (b37_L2 : Int32) (b37_L3 : Int32) (b37_L4 : Int32) (M : zMem), self37 b37_L1 b37_L2 b37_L3 b37_L4 M = some (r9, M9) → zJ p l e rm_X10_relief s m args below meth c G shM ad n A 8 (MQ below (zQ G shM ad n M9 (some (.int r9)) A) args s 0 0 A) 0 0 M 37 [(0, .ref (ad 0)), (1, .int b37_L1), (2, .int b37_L2), (3, .int b37_L3), (4, .int b37_L4)] []) (self90 : Int32 → Int32 → Int32 → Int32 → Int32 → Int32 → zMem → Option (Int32 × zMem)) (hs90 : ∀ (b90_L1 : Int32) (b90_L2 : Int32) (b90_L3 : Int32) (b90_L4 : Int32) (b90_L5 : Int32) (b90_L6 : Int32) (M : zMem), self90 b90_L1 b90_L2 b90_L3 b90_L4 b90_L5 b90_L6 M = some (r9, M9) → zJ p l e rm_X10_relief s m args below meth c G shM ad n A 8 (MQ below (zQ G shM ad n M9 (some (.int r9)) A) args s 0 0 A) 0 0 M 90 [(0, .ref (ad 0)), (1, .int b90_L1), (2, .int b90_L2), (3, .int b90_L3), (4, .int b90_L4), (5, .int b90_L5), (6, .int b90_L6)] []) (self104 : Int32 → Int32 → Int32 → Int32 → Int32 → Int32 → Int32 → zMem → Option (Int32 × zMem)) (hs104 : ∀ (b104_L1 : Int32) (b104_L2 : Int32) (b104_L3 : Int32) (b104_L4 : Int32) (b104_L5 : Int32) (b104_L6 : Int32) (b104_L7 : Int32) (M : zMem), self104 b104_L1 b104_L2 b104_L3 b104_L4 b104_L5 b104_L6 b104_L7 M = some (r9, M9) → zJ p l e rm_X10_relief s m args below meth c G shM ad n A 8 (MQ below (zQ G shM ad n M9 (some (.int r9)) A) args s 0 0 A) 0 0 M 104 [(0, .ref (ad 0)), (1, .int b104_L1), (2, .int b104_L2), (3, .int b104_L3), (4, .int b104_L4), (5, .int b104_L5), (6, .int b104_L6), (7, .int b104_L7)] []), ∀ (b156_L1 : Int32) (b156_L2 : Int32) (b156_L3 : Int32) (b156_L4 : Int32) (b156_L6 : Int32) (b156_L7 : Int32) (b156_S0 : Int32) (M : zMem), F_X10_relief_156 p0 self37 self90 self104 b156_L1 b156_L2 b156_L3 b156_L4 b156_L6 b156_L7 b156_S0 M = some (r9, M9) → zJ p l e rm_X10_relief s m args below meth c G shM ad n A 8 (MQ below (zQ G shM ad n M9 (some (.int r9)) A) args s 0 0 A) 0 0 M 156 [(0, .ref (ad 0)), (1, .int b156_L1), (2, .int b156_L2), (3, .int b156_L3), (4, .int b156_L4), (6, .int b156_L6), (7, .int b156_L7)] [.int b156_S0] := by
    intro self37 hs37 self90 hs90 self104 hs104 b156_L1 b156_L2 b156_L3 b156_L4 b156_L6 b156_L7 b156_S0 M hF
    unfold F_X10_relief_156 at hF
    refine z_iconst (v := 0) cx d_X10_relief_156 ki_0 ?_
    exact hb157 self37 hs37 self90 hs90 self104 hs104 b156_L1 b156_L2 b156_L3 b156_L4 b156_L6 b156_L7 b156_S0 (0 : Int32) M hF
  have hL104 : ∀ (self37 : Int32 → Int32 → Int32 → Int32 → zMem → Option (Int32 × zMem)) (hs37 : ∀ (b37_L1 : Int32) (b37_L2 : Int32) (b37_L3 : Int32) (b37_L4 : Int32) (M : zMem), self37 b37_L1 b37_L2 b37_L3 b37_L4 M = some (r9, M9) → zJ p l e rm_X10_relief s m args below meth c G shM ad n A 8 (MQ below (zQ G shM ad n M9 (some (.int r9)) A) args s 0 0 A) 0 0 M 37 [(0, .ref (ad 0)), (1, .int b37_L1), (2, .int b37_L2), (3, .int b37_L3), (4, .int b37_L4)] []) (self90 : Int32 → Int32 → Int32 → Int32 → Int32 → Int32 → zMem → Option (Int32 × zMem)) (hs90 : ∀ (b90_L1 : Int32) (b90_L2 : Int32) (b90_L3 : Int32) (b90_L4 : Int32) (b90_L5 : Int32) (b90_L6 : Int32) (M : zMem), self90 b90_L1 b90_L2 b90_L3 b90_L4 b90_L5 b90_L6 M = some (r9, M9) → zJ p l e rm_X10_relief s m args below meth c G shM ad n A 8 (MQ below (zQ G shM ad n M9 (some (.int r9)) A) args s 0 0 A) 0 0 M 90 [(0, .ref (ad 0)), (1, .int b90_L1), (2, .int b90_L2), (3, .int b90_L3), (4, .int b90_L4), (5, .int b90_L5), (6, .int b90_L6)] []) (fuel : Nat), ∀ (b104_L1 : Int32) (b104_L2 : Int32) (b104_L3 : Int32) (b104_L4 : Int32) (b104_L5 : Int32) (b104_L6 : Int32) (b104_L7 : Int32) (M : zMem), itF (fun _ _ _ _ _ _ _ _ => none) (F_X10_relief_104 p0 self37 self90) fuel b104_L1 b104_L2 b104_L3 b104_L4 b104_L5 b104_L6 b104_L7 M = some (r9, M9) → zJ p l e rm_X10_relief s m args below meth c G shM ad n A 8 (MQ below (zQ G shM ad n M9 (some (.int r9)) A) args s 0 0 A) 0 0 M 104 [(0, .ref (ad 0)), (1, .int b104_L1), (2, .int b104_L2), (3, .int b104_L3), (4, .int b104_L4), (5, .int b104_L5), (6, .int b104_L6), (7, .int b104_L7)] [] := by
    intro self37 hs37 self90 hs90 fuel
    induction fuel with
    | zero => intro b104_L1 b104_L2 b104_L3 b104_L4 b104_L5 b104_L6 b104_L7 M hF; cases hF
    | succ fuel hs104 =>
      intro b104_L1 b104_L2 b104_L3 b104_L4 b104_L5 b104_L6 b104_L7 M hF
      have hF : F_X10_relief_104 p0 self37 self90 (itF (fun _ _ _ _ _ _ _ _ => none) (F_X10_relief_104 p0 self37 self90) fuel) b104_L1 b104_L2 b104_L3 b104_L4 b104_L5 b104_L6 b104_L7 M = some (r9, M9) := hF
      generalize itF (fun _ _ _ _ _ _ _ _ => none) (F_X10_relief_104 p0 self37 self90) fuel = self104 at hs104 hF
      unfold F_X10_relief_104 at hF
      refine z_iload cx d_X10_relief_104 7 rfl ?_
      refine z_bipush (v := 64) cx d_X10_relief_106 kb_64 ?_
      refine z_icmp_ge cx 166 d_X10_relief_108 (by decide) hF (fun hF => ?_) (fun hF => ?_)
      · refine z_iinc cx 6 1 [(6, .int (b104_L6 + 1)), (0, .ref (ad 0)), (1, .int b104_L1), (2, .int b104_L2), (3, .int b104_L3), (4, .int b104_L4), (5, .int b104_L5), (7, .int b104_L7)] d_X10_relief_166 6 rfl ki_1 (by decide) rfl ?_
        refine z_goto cx 90 d_X10_relief_169 (by decide) ?_
        exact z_lv [1, 2, 3, 4, 5, 6, 0] _ rfl (hs90 b104_L1 b104_L2 b104_L3 b104_L4 b104_L5 (b104_L6 + 1) M hF)
      refine z_iload cx d_X10_relief_111 5 rfl ?_
      refine z_aload_n cx d_X10_relief_113 0 rfl ?_
      refine z_iload cx d_X10_relief_114 7 rfl ?_
      obtain ⟨v5, M4, hc, hF⟩ := zb_inv hF
      refine z_callV cx (As := [.int b104_L7]) (rest := [.int b104_L5]) (c_X10_isHere l cx.2.2.2.1.1 M b104_L7 hT hc) hT zo_11 cv_SunnyPansModel_284 ⟨rfl, rfl, Nat.le_of_ble_eq_true rfl, Nat.le_of_ble_eq_true rfl⟩ rfl rfl ⟨Nat.zero_le _, Nat.zero_le _⟩ (Nat.le_of_ble_eq_true rfl) d_X10_relief_116 ?_
      refine z_if_eq cx 156 d_X10_relief_119 (by decide) hF (fun hF => ?_) (fun hF => ?_)
      · exact z_lv [0, 1, 2, 3, 4, 6, 7] _ rfl (hb156 self37 hs37 self90 hs90 self104 hs104 b104_L1 b104_L2 b104_L3 b104_L4 b104_L6 b104_L7 b104_L5 M4 hF)
      refine z_aload_n cx d_X10_relief_122 0 rfl ?_
      refine z_aload_n cx d_X10_relief_123 0 rfl ?_
      refine z_getR cx hT fg_SunnyPansModel_58 451 rfl d_X10_relief_124 ?_
      refine z_iload cx d_X10_relief_127 7 rfl ?_
      refine z_iload cx d_X10_relief_129 6 rfl ?_
      obtain ⟨v7, M6, hc, hF⟩ := zb_inv hF
      refine z_callV cx (As := [.ref (ad 451), .int b104_L7, .int b104_L6]) (rest := [.int b104_L5]) (c_X10_isShade l cx.2.2.2.1.1 M4 451 b104_L7 b104_L6 hT (tfM_11_451 hT) hc) hT zo_11 cv_SunnyPansModel_264 ⟨rfl, rfl, Nat.le_of_ble_eq_true rfl, Nat.le_of_ble_eq_true rfl⟩ rfl rfl ⟨Nat.zero_le _, Nat.zero_le _⟩ (Nat.le_of_ble_eq_true rfl) d_X10_relief_131 ?_
      refine z_if_eq cx 156 d_X10_relief_134 (by decide) hF (fun hF => ?_) (fun hF => ?_)
      · exact z_lv [0, 1, 2, 3, 4, 6, 7] _ rfl (hb156 self37 hs37 self90 hs90 self104 hs104 b104_L1 b104_L2 b104_L3 b104_L4 b104_L6 b104_L7 b104_L5 M6 hF)
      refine z_aload_n cx d_X10_relief_137 0 rfl ?_
      refine z_aload_n cx d_X10_relief_138 0 rfl ?_
      refine z_getR cx hT fg_SunnyPansModel_61 452 rfl d_X10_relief_139 ?_
      refine z_iload cx d_X10_relief_142 7 rfl ?_
      refine z_iload cx d_X10_relief_144 6 rfl ?_
      obtain ⟨v9, M8, hc, hF⟩ := zb_inv hF
      refine z_callV cx (As := [.ref (ad 452), .int b104_L7, .int b104_L6]) (rest := [.int b104_L5]) (c_X10_isShade l cx.2.2.2.1.1 M6 452 b104_L7 b104_L6 hT (tfM_11_452 hT) hc) hT zo_11 cv_SunnyPansModel_264 ⟨rfl, rfl, Nat.le_of_ble_eq_true rfl, Nat.le_of_ble_eq_true rfl⟩ rfl rfl ⟨Nat.zero_le _, Nat.zero_le _⟩ (Nat.le_of_ble_eq_true rfl) d_X10_relief_146 ?_
      refine z_if_ne cx 156 d_X10_relief_149 (by decide) hF (fun hF => ?_) (fun hF => ?_)
      · exact z_lv [0, 1, 2, 3, 4, 6, 7] _ rfl (hb156 self37 hs37 self90 hs90 self104 hs104 b104_L1 b104_L2 b104_L3 b104_L4 b104_L6 b104_L7 b104_L5 M8 hF)
      refine z_iconst (v := 1) cx d_X10_relief_152 ki_1 ?_
      refine z_goto cx 157 d_X10_relief_153 (by decide) ?_
      exact z_lv [0, 1, 2, 3, 4, 6, 7] _ rfl (hb157 self37 hs37 self90 hs90 self104 hs104 b104_L1 b104_L2 b104_L3 b104_L4 b104_L6 b104_L7 b104_L5 (1 : Int32) M8 hF)
  have hL90 : ∀ (self37 : Int32 → Int32 → Int32 → Int32 → zMem → Option (Int32 × zMem)) (hs37 : ∀ (b37_L1 : Int32) (b37_L2 : Int32) (b37_L3 : Int32) (b37_L4 : Int32) (M : zMem), self37 b37_L1 b37_L2 b37_L3 b37_L4 M = some (r9, M9) → zJ p l e rm_X10_relief s m args below meth c G shM ad n A 8 (MQ below (zQ G shM ad n M9 (some (.int r9)) A) args s 0 0 A) 0 0 M 37 [(0, .ref (ad 0)), (1, .int b37_L1), (2, .int b37_L2), (3, .int b37_L3), (4, .int b37_L4)] []) (fuel : Nat), ∀ (b90_L1 : Int32) (b90_L2 : Int32) (b90_L3 : Int32) (b90_L4 : Int32) (b90_L5 : Int32) (b90_L6 : Int32) (M : zMem), itF (fun _ _ _ _ _ _ _ => none) (F_X10_relief_90 p0 self37) fuel b90_L1 b90_L2 b90_L3 b90_L4 b90_L5 b90_L6 M = some (r9, M9) → zJ p l e rm_X10_relief s m args below meth c G shM ad n A 8 (MQ below (zQ G shM ad n M9 (some (.int r9)) A) args s 0 0 A) 0 0 M 90 [(0, .ref (ad 0)), (1, .int b90_L1), (2, .int b90_L2), (3, .int b90_L3), (4, .int b90_L4), (5, .int b90_L5), (6, .int b90_L6)] [] := by
    intro self37 hs37 fuel
    induction fuel with
    | zero => intro b90_L1 b90_L2 b90_L3 b90_L4 b90_L5 b90_L6 M hF; cases hF
    | succ fuel hs90 =>
      intro b90_L1 b90_L2 b90_L3 b90_L4 b90_L5 b90_L6 M hF
      have hF : F_X10_relief_90 p0 self37 (itF (fun _ _ _ _ _ _ _ => none) (F_X10_relief_90 p0 self37) fuel) b90_L1 b90_L2 b90_L3 b90_L4 b90_L5 b90_L6 M = some (r9, M9) := hF
      generalize itF (fun _ _ _ _ _ _ _ => none) (F_X10_relief_90 p0 self37) fuel = self90 at hs90 hF
      unfold F_X10_relief_90 at hF
      refine z_iload cx d_X10_relief_90 6 rfl ?_
      refine z_aload_n cx d_X10_relief_92 0 rfl ?_
      refine z_getR cx hT fg_SunnyPansModel_23 4 rfl d_X10_relief_93 ?_
      refine z_iconst (v := 2) cx d_X10_relief_96 ki_2 ?_
      refine z_iald cx (tfM_11_4 hT) za_28 (zvp (by decide +kernel)) 2 rfl d_X10_relief_97 ?_
      refine z_icmp_ge cx 172 d_X10_relief_98 (by decide) hF (fun hF => ?_) (fun hF => ?_)
      · refine z_iload cx d_X10_relief_172 5 rfl ?_
        refine z_iload_n cx d_X10_relief_174 3 rfl ?_
        refine z_icmp_le cx 183 d_X10_relief_175 (by decide) hF (fun hF => ?_) (fun hF => ?_)
        · refine z_iload_n cx d_X10_relief_183 2 rfl ?_
          exact z_lv [0, 1, 3, 4, 5] _ rfl (hb184 self37 hs37 b90_L1 b90_L3 b90_L4 b90_L5 b90_L2 M hF)
        refine z_iload cx d_X10_relief_178 4 rfl ?_
        refine z_goto cx 184 d_X10_relief_180 (by decide) ?_
        exact z_lv [0, 1, 3, 4, 5] _ rfl (hb184 self37 hs37 b90_L1 b90_L3 b90_L4 b90_L5 b90_L4 M hF)
      refine z_iconst (v := 0) cx d_X10_relief_101 ki_0 ?_
      refine z_istore cx 7 [(7, .int (0 : Int32)), (0, .ref (ad 0)), (1, .int b90_L1), (2, .int b90_L2), (3, .int b90_L3), (4, .int b90_L4), (5, .int b90_L5), (6, .int b90_L6)] d_X10_relief_102 (by decide) rfl ?_
      exact z_lv [1, 2, 3, 4, 5, 6, 7, 0] _ rfl (hL104 self37 hs37 self90 hs90 zFuel b90_L1 b90_L2 b90_L3 b90_L4 b90_L5 b90_L6 (0 : Int32) M hF)
  have hL37 : ∀ (fuel : Nat), ∀ (b37_L1 : Int32) (b37_L2 : Int32) (b37_L3 : Int32) (b37_L4 : Int32) (M : zMem), itF (fun _ _ _ _ _ => none) (F_X10_relief_37 p0) fuel b37_L1 b37_L2 b37_L3 b37_L4 M = some (r9, M9) → zJ p l e rm_X10_relief s m args below meth c G shM ad n A 8 (MQ below (zQ G shM ad n M9 (some (.int r9)) A) args s 0 0 A) 0 0 M 37 [(0, .ref (ad 0)), (1, .int b37_L1), (2, .int b37_L2), (3, .int b37_L3), (4, .int b37_L4)] [] := by
    intro fuel
    induction fuel with
    | zero => intro b37_L1 b37_L2 b37_L3 b37_L4 M hF; cases hF
    | succ fuel hs37 =>
      intro b37_L1 b37_L2 b37_L3 b37_L4 M hF
      have hF : F_X10_relief_37 p0 (itF (fun _ _ _ _ _ => none) (F_X10_relief_37 p0) fuel) b37_L1 b37_L2 b37_L3 b37_L4 M = some (r9, M9) := hF
      generalize itF (fun _ _ _ _ _ => none) (F_X10_relief_37 p0) fuel = self37 at hs37 hF
      unfold F_X10_relief_37 at hF
      refine z_iload cx d_X10_relief_37 4 rfl ?_
      refine z_bipush (v := 64) cx d_X10_relief_39 kb_64 ?_
      refine z_icmp_ge cx 198 d_X10_relief_41 (by decide) hF (fun hF => ?_) (fun hF => ?_)
      · refine z_iload_n cx d_X10_relief_198 1 rfl ?_
        refine z_if_ne cx 209 d_X10_relief_199 (by decide) hF (fun hF => ?_) (fun hF => ?_)
        · refine z_iload_n cx d_X10_relief_209 3 rfl ?_
          exact z_iret cx hr rfl hF d_X10_relief_210
        refine z_iload_n cx d_X10_relief_202 2 rfl ?_
        obtain ⟨v11, M10, hc, hF⟩ := zb_inv hF
        refine z_callS cx (As := [.int b37_L2]) (rest := []) (c_X10_asTold l cx.2.2.2.1.1 M b37_L2  hc) cs_SunnyPansModel_345 ⟨rfl, rfl, Nat.le_of_ble_eq_true rfl, Nat.le_of_ble_eq_true rfl⟩ rfl rfl ⟨Nat.zero_le _, Nat.zero_le _⟩ (Nat.le_of_ble_eq_true rfl) d_X10_relief_203 ?_
        refine z_goto cx 210 d_X10_relief_206 (by decide) ?_
        exact z_iret cx hr rfl hF d_X10_relief_210
      refine z_aload_n cx d_X10_relief_44 0 rfl ?_
      refine z_getR cx hT fg_SunnyPansModel_58 451 rfl d_X10_relief_45 ?_
      refine z_sipush (v := 128) cx d_X10_relief_48 ks_128 ?_
      refine z_iload cx d_X10_relief_51 4 rfl ?_
      refine z_iadd cx d_X10_relief_53 ?_
      obtain ⟨hi12, hF⟩ := gin_inv hF
      refine z_iald cx (tfM_11_451 hT) za_36 hi12 (((128 : Int32) + b37_L4).toNatClampNeg) rfl d_X10_relief_54 ?_
      refine z_if_ne cx 61 d_X10_relief_55 (by decide) hF (fun hF => ?_) (fun hF => ?_)
      · refine z_aload_n cx d_X10_relief_61 0 rfl ?_
        refine z_getR cx hT fg_SunnyPansModel_58 451 rfl d_X10_relief_62 ?_
        refine z_aload_n cx d_X10_relief_65 0 rfl ?_
        refine z_getR cx hT fg_SunnyPansModel_61 452 rfl d_X10_relief_66 ?_
        obtain ⟨M13, hc, hF⟩ := zbv_inv hF
        refine z_callS cx (As := [.ref (ad 451), .ref (ad 452)]) (rest := []) (c_X10_copies l cx.2.2.2.1.1 M 451 452 (tfM_11_451 hT) (tfM_11_452 hT) hc) cs_SunnyPansModel_315 ⟨rfl, rfl, Nat.le_of_ble_eq_true rfl, Nat.le_of_ble_eq_true rfl⟩ rfl rfl ⟨Nat.zero_le _, Nat.zero_le _⟩ (Nat.le_of_ble_eq_true rfl) d_X10_relief_69 ?_
        refine z_aload_n cx d_X10_relief_72 0 rfl ?_
        refine z_getR cx hT fg_SunnyPansModel_61 452 rfl d_X10_relief_73 ?_
        refine z_sipush (v := 128) cx d_X10_relief_76 ks_128 ?_
        refine z_iload cx d_X10_relief_79 4 rfl ?_
        refine z_iadd cx d_X10_relief_81 ?_
        refine z_iconst (v := 0) cx d_X10_relief_82 ki_0 ?_
        refine z_iast cx (tfM_11_452 hT) za_36 hi12 (((128 : Int32) + b37_L4).toNatClampNeg) rfl d_X10_relief_83 ?_
        refine z_nmM hF (fun M14 hF => ?_)
        refine z_iconst (v := 0) cx d_X10_relief_84 ki_0 ?_
        refine z_istore cx 5 [(5, .int (0 : Int32)), (0, .ref (ad 0)), (1, .int b37_L1), (2, .int b37_L2), (3, .int b37_L3), (4, .int b37_L4)] d_X10_relief_85 (by decide) rfl ?_
        refine z_iconst (v := 0) cx d_X10_relief_87 ki_0 ?_
        refine z_istore cx 6 [(6, .int (0 : Int32)), (5, .int (0 : Int32)), (0, .ref (ad 0)), (1, .int b37_L1), (2, .int b37_L2), (3, .int b37_L3), (4, .int b37_L4)] d_X10_relief_88 (by decide) rfl ?_
        exact z_lv [2, 3, 4, 5, 6, 1, 0] _ rfl (hL90 self37 hs37 zFuel b37_L1 b37_L2 b37_L3 b37_L4 (0 : Int32) (0 : Int32) M14 hF)
      refine z_goto cx 192 d_X10_relief_58 (by decide) ?_
      exact hb192 self37 hs37 b37_L1 b37_L2 b37_L3 b37_L4 M hF
  have hb20 : ∀ (b20_L1 : Int32) (b20_S1 : Int32) (M : zMem), F_X10_relief_20 p0 b20_L1 b20_S1 M = some (r9, M9) → zJ p l e rm_X10_relief s m args below meth c G shM ad n A 8 (MQ below (zQ G shM ad n M9 (some (.int r9)) A) args s 0 0 A) 0 0 M 20 [(0, .ref (ad 0)), (1, .int b20_L1)] [.int b20_S1, .ref (ad 0)] := by
    intro b20_L1 b20_S1 M hF
    unfold F_X10_relief_20 at hF
    refine z_iconst (v := 1) cx d_X10_relief_20 ki_1 ?_
    refine z_iconst (v := 1) cx d_X10_relief_21 ki_1 ?_
    obtain ⟨v16, M15, hc, hF⟩ := zb_inv hF
    refine z_callV cx (As := [.int b20_S1, .int (1 : Int32), .int (1 : Int32)]) (rest := []) (c_X10_bad l cx.2.2.2.1.1 M b20_S1 (1 : Int32) (1 : Int32) hT hc) hT zo_11 cv_SunnyPansModel_155 ⟨rfl, rfl, Nat.le_of_ble_eq_true rfl, Nat.le_of_ble_eq_true rfl⟩ rfl rfl ⟨Nat.zero_le _, Nat.zero_le _⟩ (Nat.le_of_ble_eq_true rfl) d_X10_relief_22 ?_
    refine z_if_eq cx 30 d_X10_relief_25 (by decide) hF (fun hF => ?_) (fun hF => ?_)
    · refine z_iconst (v := -1) cx d_X10_relief_30 ki_m1 ?_
      refine z_istore_n cx 2 [(2, .int (-1 : Int32)), (0, .ref (ad 0)), (1, .int b20_L1)] d_X10_relief_31 rfl (by decide) rfl ?_
      refine z_iconst (v := -1) cx d_X10_relief_32 ki_m1 ?_
      refine z_istore_n cx 3 [(3, .int (-1 : Int32)), (2, .int (-1 : Int32)), (0, .ref (ad 0)), (1, .int b20_L1)] d_X10_relief_33 rfl (by decide) rfl ?_
      refine z_iconst (v := 0) cx d_X10_relief_34 ki_0 ?_
      refine z_istore cx 4 [(4, .int (0 : Int32)), (3, .int (-1 : Int32)), (2, .int (-1 : Int32)), (0, .ref (ad 0)), (1, .int b20_L1)] d_X10_relief_35 (by decide) rfl ?_
      exact z_lv [3, 4, 2, 1, 0] _ rfl (hL37 zFuel b20_L1 (-1 : Int32) (-1 : Int32) (0 : Int32) M15 hF)
    refine z_iconst (v := 0) cx d_X10_relief_28 ki_0 ?_
    exact z_iret cx hr rfl hF d_X10_relief_29
  unfold F_X10_relief at hF
  refine z_aload_n cx d_X10_relief_0 0 rfl ?_
  refine z_iconst (v := 0) cx d_X10_relief_1 ki_0 ?_
  refine z_putI cx hT fp_SunnyPansModel_82 d_X10_relief_2 ?_
  refine z_nmM hF (fun M17 hF => ?_)
  refine z_aload_n cx d_X10_relief_5 0 rfl ?_
  refine z_iload_n cx d_X10_relief_6 1 rfl ?_
  refine z_iconst (v := 0) cx d_X10_relief_7 ki_0 ?_
  refine z_iconst (v := 1) cx d_X10_relief_8 ki_1 ?_
  obtain ⟨v19, M18, hc, hF⟩ := zb_inv hF
  refine z_callS cx (As := [.int p0, .int (0 : Int32), .int (1 : Int32)]) (rest := [.ref (ad 0)]) (c_X10_in l cx.2.2.2.1.1 M17 p0 (0 : Int32) (1 : Int32)  hc) cs_SunnyPansModel_116 ⟨rfl, rfl, Nat.le_of_ble_eq_true rfl, Nat.le_of_ble_eq_true rfl⟩ rfl rfl ⟨Nat.zero_le _, Nat.zero_le _⟩ (Nat.le_of_ble_eq_true rfl) d_X10_relief_9 ?_
  refine z_if_ne cx 19 d_X10_relief_12 (by decide) hF (fun hF => ?_) (fun hF => ?_)
  · refine z_iconst (v := 0) cx d_X10_relief_19 ki_0 ?_
    exact hb20 p0 (0 : Int32) M18 hF
  refine z_iconst (v := 1) cx d_X10_relief_15 ki_1 ?_
  refine z_goto cx 20 d_X10_relief_16 (by decide) ?_
  exact hb20 p0 (1 : Int32) M18 hF
/-! SunnyPansModel.spreads -/
theorem tfM_11_474 {n k : Nat} (h : zT shM n k 11) : zT shM n (k + 474) 16 := zT_off h (shM_f (by decide) (by decide +kernel)) (by decide) (by decide)
set_option maxRecDepth 100000 in
theorem wd_1432 : Cond.fieldLink "SunnyPansModel" 70 "SunnyPansModel" "far" "[I" ∈ tbG := tw6 132 rfl rfl
theorem fg_SunnyPansModel_70 : zGetR "SunnyPansModel" 70 10 11 37 474 := ⟨RX10, TX10, 40, rfl, by decide, uw_10, wd_1432, fun _ _ _ _ _ _ => ⟨_, rfl, rfl⟩⟩
theorem d_X10_spreads_0 : decode cX10_spreads 0 = .ok (.iconst 0, 1) := by decide +kernel
theorem d_X10_spreads_1 : decode cX10_spreads 1 = .ok (.istore_n 2, 1) := by decide +kernel
theorem d_X10_spreads_2 : decode cX10_spreads 2 = .ok (.iload_n 2, 1) := by decide +kernel
theorem d_X10_spreads_3 : decode cX10_spreads 3 = .ok (.bipush 64, 2) := by decide +kernel
theorem d_X10_spreads_5 : decode cX10_spreads 5 = .ok (.if_icmp .ge 36, 3) := by decide +kernel
theorem d_X10_spreads_8 : decode cX10_spreads 8 = .ok (.aload_n 0, 1) := by decide +kernel
theorem d_X10_spreads_9 : decode cX10_spreads 9 = .ok (.getfield 70, 3) := by decide +kernel
theorem d_X10_spreads_12 : decode cX10_spreads 12 = .ok (.iload_n 2, 1) := by decide +kernel
theorem d_X10_spreads_13 : decode cX10_spreads 13 = .ok (.iload_n 2, 1) := by decide +kernel
theorem d_X10_spreads_14 : decode cX10_spreads 14 = .ok (.iload_n 1, 1) := by decide +kernel
theorem d_X10_spreads_15 : decode cX10_spreads 15 = .ok (.if_icmp .ne 18, 3) := by decide +kernel
theorem d_X10_spreads_18 : decode cX10_spreads 18 = .ok (.aload_n 0, 1) := by decide +kernel
theorem d_X10_spreads_19 : decode cX10_spreads 19 = .ok (.getfield 58, 3) := by decide +kernel
theorem d_X10_spreads_22 : decode cX10_spreads 22 = .ok (.iconst 0, 1) := by decide +kernel
theorem d_X10_spreads_23 : decode cX10_spreads 23 = .ok (.iload_n 2, 1) := by decide +kernel
theorem d_X10_spreads_24 : decode cX10_spreads 24 = .ok (.iadd, 1) := by decide +kernel
theorem d_X10_spreads_25 : decode cX10_spreads 25 = .ok (.iaload, 1) := by decide +kernel
theorem d_X10_spreads_26 : decode cX10_spreads 26 = .ok (.ifCond .ne 7, 3) := by decide +kernel
theorem d_X10_spreads_29 : decode cX10_spreads 29 = .ok (.iconst 0, 1) := by decide +kernel
theorem d_X10_spreads_30 : decode cX10_spreads 30 = .ok (.goto 4, 3) := by decide +kernel
theorem d_X10_spreads_33 : decode cX10_spreads 33 = .ok (.iconst (-1), 1) := by decide +kernel
theorem d_X10_spreads_34 : decode cX10_spreads 34 = .ok (.iastore, 1) := by decide +kernel
theorem d_X10_spreads_35 : decode cX10_spreads 35 = .ok (.iinc 2 1, 3) := by decide +kernel
theorem d_X10_spreads_38 : decode cX10_spreads 38 = .ok (.goto (-36), 3) := by decide +kernel
theorem d_X10_spreads_41 : decode cX10_spreads 41 = .ok (.iconst 1, 1) := by decide +kernel
theorem d_X10_spreads_42 : decode cX10_spreads 42 = .ok (.istore_n 2, 1) := by decide +kernel
theorem d_X10_spreads_43 : decode cX10_spreads 43 = .ok (.iconst 0, 1) := by decide +kernel
theorem d_X10_spreads_44 : decode cX10_spreads 44 = .ok (.istore_n 3, 1) := by decide +kernel
theorem d_X10_spreads_45 : decode cX10_spreads 45 = .ok (.iload_n 2, 1) := by decide +kernel
theorem d_X10_spreads_46 : decode cX10_spreads 46 = .ok (.ifCond .eq 150, 3) := by decide +kernel
theorem d_X10_spreads_49 : decode cX10_spreads 49 = .ok (.iconst 0, 1) := by decide +kernel
theorem d_X10_spreads_50 : decode cX10_spreads 50 = .ok (.istore_n 2, 1) := by decide +kernel
theorem d_X10_spreads_51 : decode cX10_spreads 51 = .ok (.iconst 0, 1) := by decide +kernel
theorem d_X10_spreads_52 : decode cX10_spreads 52 = .ok (.istore 4, 2) := by decide +kernel
theorem d_X10_spreads_54 : decode cX10_spreads 54 = .ok (.iload 4, 2) := by decide +kernel
theorem d_X10_spreads_56 : decode cX10_spreads 56 = .ok (.bipush 64, 2) := by decide +kernel
theorem d_X10_spreads_58 : decode cX10_spreads 58 = .ok (.if_icmp .ge 132, 3) := by decide +kernel
theorem d_X10_spreads_61 : decode cX10_spreads 61 = .ok (.aload_n 0, 1) := by decide +kernel
theorem d_X10_spreads_62 : decode cX10_spreads 62 = .ok (.getfield 70, 3) := by decide +kernel
theorem d_X10_spreads_65 : decode cX10_spreads 65 = .ok (.iload 4, 2) := by decide +kernel
theorem d_X10_spreads_67 : decode cX10_spreads 67 = .ok (.iaload, 1) := by decide +kernel
theorem d_X10_spreads_68 : decode cX10_spreads 68 = .ok (.iload_n 3, 1) := by decide +kernel
theorem d_X10_spreads_69 : decode cX10_spreads 69 = .ok (.if_icmp .eq 6, 3) := by decide +kernel
theorem d_X10_spreads_72 : decode cX10_spreads 72 = .ok (.goto 112, 3) := by decide +kernel
theorem d_X10_spreads_75 : decode cX10_spreads 75 = .ok (.iconst 0, 1) := by decide +kernel
theorem d_X10_spreads_76 : decode cX10_spreads 76 = .ok (.istore 5, 2) := by decide +kernel
theorem d_X10_spreads_78 : decode cX10_spreads 78 = .ok (.iload 5, 2) := by decide +kernel
theorem d_X10_spreads_80 : decode cX10_spreads 80 = .ok (.bipush 8, 2) := by decide +kernel
theorem d_X10_spreads_82 : decode cX10_spreads 82 = .ok (.if_icmp .ge 102, 3) := by decide +kernel
theorem d_X10_spreads_85 : decode cX10_spreads 85 = .ok (.iload 4, 2) := by decide +kernel
theorem d_X10_spreads_87 : decode cX10_spreads 87 = .ok (.bipush 8, 2) := by decide +kernel
theorem d_X10_spreads_89 : decode cX10_spreads 89 = .ok (.irem, 1) := by decide +kernel
theorem d_X10_spreads_90 : decode cX10_spreads 90 = .ok (.iload 5, 2) := by decide +kernel
theorem d_X10_spreads_92 : decode cX10_spreads 92 = .ok (.invokestatic 247, 3) := by decide +kernel
theorem d_X10_spreads_95 : decode cX10_spreads 95 = .ok (.iadd, 1) := by decide +kernel
theorem d_X10_spreads_96 : decode cX10_spreads 96 = .ok (.istore 6, 2) := by decide +kernel
theorem d_X10_spreads_98 : decode cX10_spreads 98 = .ok (.iload 4, 2) := by decide +kernel
theorem d_X10_spreads_100 : decode cX10_spreads 100 = .ok (.bipush 8, 2) := by decide +kernel
theorem d_X10_spreads_102 : decode cX10_spreads 102 = .ok (.idiv, 1) := by decide +kernel
theorem d_X10_spreads_103 : decode cX10_spreads 103 = .ok (.iload 5, 2) := by decide +kernel
theorem d_X10_spreads_105 : decode cX10_spreads 105 = .ok (.invokestatic 250, 3) := by decide +kernel
theorem d_X10_spreads_108 : decode cX10_spreads 108 = .ok (.iadd, 1) := by decide +kernel
theorem d_X10_spreads_109 : decode cX10_spreads 109 = .ok (.istore 7, 2) := by decide +kernel
theorem d_X10_spreads_111 : decode cX10_spreads 111 = .ok (.aload_n 0, 1) := by decide +kernel
theorem d_X10_spreads_112 : decode cX10_spreads 112 = .ok (.iload 6, 2) := by decide +kernel
theorem d_X10_spreads_114 : decode cX10_spreads 114 = .ok (.iload 7, 2) := by decide +kernel
theorem d_X10_spreads_116 : decode cX10_spreads 116 = .ok (.invokevirtual 237, 3) := by decide +kernel
theorem d_X10_spreads_119 : decode cX10_spreads 119 = .ok (.ifCond .eq 59, 3) := by decide +kernel
theorem d_X10_spreads_122 : decode cX10_spreads 122 = .ok (.aload_n 0, 1) := by decide +kernel
theorem d_X10_spreads_123 : decode cX10_spreads 123 = .ok (.getfield 58, 3) := by decide +kernel
theorem d_X10_spreads_126 : decode cX10_spreads 126 = .ok (.iconst 0, 1) := by decide +kernel
theorem d_X10_spreads_127 : decode cX10_spreads 127 = .ok (.bipush 8, 2) := by decide +kernel
theorem d_X10_spreads_129 : decode cX10_spreads 129 = .ok (.iload 7, 2) := by decide +kernel
theorem d_X10_spreads_131 : decode cX10_spreads 131 = .ok (.imul, 1) := by decide +kernel
theorem d_X10_spreads_132 : decode cX10_spreads 132 = .ok (.iadd, 1) := by decide +kernel
theorem d_X10_spreads_133 : decode cX10_spreads 133 = .ok (.iload 6, 2) := by decide +kernel
theorem d_X10_spreads_135 : decode cX10_spreads 135 = .ok (.iadd, 1) := by decide +kernel
theorem d_X10_spreads_136 : decode cX10_spreads 136 = .ok (.iaload, 1) := by decide +kernel
theorem d_X10_spreads_137 : decode cX10_spreads 137 = .ok (.ifCond .gt 41, 3) := by decide +kernel
theorem d_X10_spreads_140 : decode cX10_spreads 140 = .ok (.aload_n 0, 1) := by decide +kernel
theorem d_X10_spreads_141 : decode cX10_spreads 141 = .ok (.getfield 70, 3) := by decide +kernel
theorem d_X10_spreads_144 : decode cX10_spreads 144 = .ok (.bipush 8, 2) := by decide +kernel
theorem d_X10_spreads_146 : decode cX10_spreads 146 = .ok (.iload 7, 2) := by decide +kernel
theorem d_X10_spreads_148 : decode cX10_spreads 148 = .ok (.imul, 1) := by decide +kernel
theorem d_X10_spreads_149 : decode cX10_spreads 149 = .ok (.iload 6, 2) := by decide +kernel
theorem d_X10_spreads_151 : decode cX10_spreads 151 = .ok (.iadd, 1) := by decide +kernel
theorem d_X10_spreads_152 : decode cX10_spreads 152 = .ok (.iaload, 1) := by decide +kernel
theorem d_X10_spreads_153 : decode cX10_spreads 153 = .ok (.iconst (-1), 1) := by decide +kernel
theorem d_X10_spreads_154 : decode cX10_spreads 154 = .ok (.if_icmp .eq 6, 3) := by decide +kernel
theorem d_X10_spreads_157 : decode cX10_spreads 157 = .ok (.goto 21, 3) := by decide +kernel
theorem d_X10_spreads_160 : decode cX10_spreads 160 = .ok (.aload_n 0, 1) := by decide +kernel
theorem d_X10_spreads_161 : decode cX10_spreads 161 = .ok (.getfield 70, 3) := by decide +kernel
theorem d_X10_spreads_164 : decode cX10_spreads 164 = .ok (.bipush 8, 2) := by decide +kernel
theorem d_X10_spreads_166 : decode cX10_spreads 166 = .ok (.iload 7, 2) := by decide +kernel
theorem d_X10_spreads_168 : decode cX10_spreads 168 = .ok (.imul, 1) := by decide +kernel
theorem d_X10_spreads_169 : decode cX10_spreads 169 = .ok (.iload 6, 2) := by decide +kernel
theorem d_X10_spreads_171 : decode cX10_spreads 171 = .ok (.iadd, 1) := by decide +kernel
theorem d_X10_spreads_172 : decode cX10_spreads 172 = .ok (.iload_n 3, 1) := by decide +kernel
theorem d_X10_spreads_173 : decode cX10_spreads 173 = .ok (.iconst 1, 1) := by decide +kernel
theorem d_X10_spreads_174 : decode cX10_spreads 174 = .ok (.iadd, 1) := by decide +kernel
theorem d_X10_spreads_175 : decode cX10_spreads 175 = .ok (.iastore, 1) := by decide +kernel
theorem d_X10_spreads_176 : decode cX10_spreads 176 = .ok (.iconst 1, 1) := by decide +kernel
theorem d_X10_spreads_177 : decode cX10_spreads 177 = .ok (.istore_n 2, 1) := by decide +kernel
theorem d_X10_spreads_178 : decode cX10_spreads 178 = .ok (.iinc 5 2, 3) := by decide +kernel
theorem d_X10_spreads_181 : decode cX10_spreads 181 = .ok (.goto (-103), 3) := by decide +kernel
theorem d_X10_spreads_184 : decode cX10_spreads 184 = .ok (.iinc 4 1, 3) := by decide +kernel
theorem d_X10_spreads_187 : decode cX10_spreads 187 = .ok (.goto (-133), 3) := by decide +kernel
theorem d_X10_spreads_190 : decode cX10_spreads 190 = .ok (.iinc 3 1, 3) := by decide +kernel
theorem d_X10_spreads_193 : decode cX10_spreads 193 = .ok (.goto (-148), 3) := by decide +kernel
theorem d_X10_spreads_196 : decode cX10_spreads 196 = .ok (.return_, 1) := by decide +kernel
noncomputable def F_X10_spreads_184 (p0 : Int32) (self45 : Int32 → Int32 → zMem → Option (zMem)) (self54 : Int32 → Int32 → Int32 → zMem → Option (zMem)) (b184_L2 : Int32) (b184_L3 : Int32) (b184_L4 : Int32) (M : zMem) : Option (zMem) :=
  self54 b184_L2 b184_L3 (b184_L4 + 1) M
noncomputable def F_X10_spreads_178 (p0 : Int32) (self45 : Int32 → Int32 → zMem → Option (zMem)) (self54 : Int32 → Int32 → Int32 → zMem → Option (zMem)) (self78 : Int32 → Int32 → Int32 → Int32 → zMem → Option (zMem)) (b178_L2 : Int32) (b178_L3 : Int32) (b178_L4 : Int32) (b178_L5 : Int32) (M : zMem) : Option (zMem) :=
  self78 b178_L2 b178_L3 b178_L4 (b178_L5 + 2) M
noncomputable def F_X10_spreads_78 (p0 : Int32) (self45 : Int32 → Int32 → zMem → Option (zMem)) (self54 : Int32 → Int32 → Int32 → zMem → Option (zMem)) (self78 : Int32 → Int32 → Int32 → Int32 → zMem → Option (zMem)) (b78_L2 : Int32) (b78_L3 : Int32) (b78_L4 : Int32) (b78_L5 : Int32) (M : zMem) : Option (zMem) :=
  if (8 : Int32) ≤ b78_L5 then
    F_X10_spreads_184 p0 self45 self54 b78_L2 b78_L3 b78_L4 M
  else
    zb (F_X10_eastOf M b78_L5) fun v2 M1 =>
    zl ((b78_L4 - b78_L4 / (8 : Int32) * (8 : Int32)) + v2) fun v3 =>
    zb (F_X10_southOf M1 b78_L5) fun v5 M4 =>
    zl ((b78_L4 / (8 : Int32)) + v5) fun v6 =>
    zb (F_X10_isWithin M4 v3 v6) fun v8 M7 =>
    if v8 = 0 then
      F_X10_spreads_178 p0 self45 self54 self78 b78_L2 b78_L3 b78_L4 b78_L5 M7
    else
      gin (((0 : Int32) + ((8 : Int32) * v6)) + v3) 195 <|
      if 0 < (M7.1 451 (((0 : Int32) + ((8 : Int32) * v6)) + v3).toNatClampNeg) then
        F_X10_spreads_178 p0 self45 self54 self78 b78_L2 b78_L3 b78_L4 b78_L5 M7
      else
        gin (((8 : Int32) * v6) + v3) 64 <|
        if (M7.1 474 (((8 : Int32) * v6) + v3).toNatClampNeg) = (-1 : Int32) then
          zl (zI M7 474 ((((8 : Int32) * v6) + v3).toNatClampNeg) (b78_L3 + (1 : Int32))) fun M11 =>
          F_X10_spreads_178 p0 self45 self54 self78 (1 : Int32) b78_L3 b78_L4 b78_L5 M11
        else
          F_X10_spreads_178 p0 self45 self54 self78 b78_L2 b78_L3 b78_L4 b78_L5 M7
noncomputable def F_X10_spreads_54 (p0 : Int32) (self45 : Int32 → Int32 → zMem → Option (zMem)) (self54 : Int32 → Int32 → Int32 → zMem → Option (zMem)) (b54_L2 : Int32) (b54_L3 : Int32) (b54_L4 : Int32) (M : zMem) : Option (zMem) :=
  if (64 : Int32) ≤ b54_L4 then
    self45 b54_L2 (b54_L3 + 1) M
  else
    gin b54_L4 64 <|
    if (M.1 474 b54_L4.toNatClampNeg) = b54_L3 then
      itF (fun _ _ _ _ _ => none) (F_X10_spreads_78 p0 self45 self54) zFuel b54_L2 b54_L3 b54_L4 (0 : Int32) M
    else
      F_X10_spreads_184 p0 self45 self54 b54_L2 b54_L3 b54_L4 M
noncomputable def F_X10_spreads_45 (p0 : Int32) (self45 : Int32 → Int32 → zMem → Option (zMem)) (b45_L2 : Int32) (b45_L3 : Int32) (M : zMem) : Option (zMem) :=
  if b45_L2 = 0 then
    some M
  else
    itF (fun _ _ _ _ => none) (F_X10_spreads_54 p0 self45) zFuel (0 : Int32) b45_L3 (0 : Int32) M
noncomputable def F_X10_spreads_34 (p0 : Int32) (self2 : Int32 → Int32 → zMem → Option (zMem)) (b34_L1 : Int32) (b34_L2 : Int32) (b34_S1 : Int32) (b34_S2 : Int32) (M : zMem) : Option (zMem) :=
  gin b34_S1 64 <|
  zl (zI M 474 b34_S1.toNatClampNeg b34_S2) fun M14 =>
  self2 b34_L1 (b34_L2 + 1) M14
noncomputable def F_X10_spreads_33 (p0 : Int32) (self2 : Int32 → Int32 → zMem → Option (zMem)) (b33_L1 : Int32) (b33_L2 : Int32) (b33_S1 : Int32) (M : zMem) : Option (zMem) :=
  F_X10_spreads_34 p0 self2 b33_L1 b33_L2 b33_S1 (-1 : Int32) M
noncomputable def F_X10_spreads_2 (p0 : Int32) (self2 : Int32 → Int32 → zMem → Option (zMem)) (b2_L1 : Int32) (b2_L2 : Int32) (M : zMem) : Option (zMem) :=
  if (64 : Int32) ≤ b2_L2 then
    itF (fun _ _ _ => none) (F_X10_spreads_45 p0) zFuel (1 : Int32) (0 : Int32) M
  else
    if b2_L2 = b2_L1 then
      gin ((0 : Int32) + b2_L2) 195 <|
      if (M.1 451 ((0 : Int32) + b2_L2).toNatClampNeg) = 0 then
        F_X10_spreads_34 p0 self2 b2_L1 b2_L2 b2_L2 (0 : Int32) M
      else
        F_X10_spreads_33 p0 self2 b2_L1 b2_L2 b2_L2 M
    else
      F_X10_spreads_33 p0 self2 b2_L1 b2_L2 b2_L2 M
noncomputable def F_X10_spreads (M : zMem) (p0 : Int32) : Option (zMem) :=
  itF (fun _ _ _ => none) (F_X10_spreads_2 p0) zFuel p0 (0 : Int32) M
def rm_X10_spreads : Room := { frames := 4, cells := 0, slots := 0, locals := 124 }
set_option maxHeartbeats 4000000 in
set_option maxRecDepth 100000 in
theorem c_X10_spreads (l : Launch) {G : zG} {ad : Nat → Nat} {n : Nat} (hA : zInj ad n) (M : zMem) (p0 : Int32) (hT : zT shM n 0 11) {M9 : zMem} (hF : F_X10_spreads M p0 = some M9) : zM l yX10_spreads cX10_spreads 8 none rm_X10_spreads G shM ad n M [.ref (ad 0), .int p0] none M9 := by
  refine zM_of hA (by decide +kernel) (lv := [(0, .ref (ad 0)), (1, .int p0)]) (Nat.le_of_ble_eq_true rfl) rfl (fun p e s m args below meth c A cx hr => ?_)
  have hb184 : ∀ (self45 : Int32 → Int32 → zMem → Option (zMem)) (hs45 : ∀ (b45_L2 : Int32) (b45_L3 : Int32) (M : zMem), self45 b45_L2 b45_L3 M = some M9 → zJ p l e rm_X10_spreads s m args below meth c G shM ad n A 8 (MQ below (zQ G shM ad n M9 none A) args s 0 0 A) 0 0 M 45 [(0, .ref (ad 0)), (2, .int b45_L2), (3, .int b45_L3)] []) (self54 : Int32 → Int32 → Int32 → zMem → Option (zMem)) (hs54 : ∀ (b54_L2 : Int32) (b54_L3 : Int32) (b54_L4 : Int32) (M : zMem), self54 b54_L2 b54_L3 b54_L4 M = some M9 → zJ p l e rm_X10_spreads s m args below meth c G shM ad n A 8 (MQ below (zQ G shM ad n M9 none A) args s 0 0 A) 0 0 M 54 [(0, .ref (ad 0)), (2, .int b54_L2), (3, .int b54_L3), (4, .int b54_L4)] []), ∀ (b184_L2 : Int32) (b184_L3 : Int32) (b184_L4 : Int32) (M : zMem), F_X10_spreads_184 p0 self45 self54 b184_L2 b184_L3 b184_L4 M = some M9 → zJ p l e rm_X10_spreads s m args below meth c G shM ad n A 8 (MQ below (zQ G shM ad n M9 none A) args s 0 0 A) 0 0 M 184 [(0, .ref (ad 0)), (2, .int b184_L2), (3, .int b184_L3), (4, .int b184_L4)] [] := by
    intro self45 hs45 self54 hs54 b184_L2 b184_L3 b184_L4 M hF
    unfold F_X10_spreads_184 at hF
    refine z_iinc cx 4 1 [(4, .int (b184_L4 + 1)), (0, .ref (ad 0)), (2, .int b184_L2), (3, .int b184_L3)] d_X10_spreads_184 3 rfl ki_1 (by decide) rfl ?_
    refine z_goto cx 54 d_X10_spreads_187 (by decide) ?_
    exact z_lv [1, 2, 3, 0] _ rfl (hs54 b184_L2 b184_L3 (b184_L4 + 1) M hF)
  have hb178 : ∀ (self45 : Int32 → Int32 → zMem → Option (zMem)) (hs45 : ∀ (b45_L2 : Int32) (b45_L3 : Int32) (M : zMem), self45 b45_L2 b45_L3 M = some M9 → zJ p l e rm_X10_spreads s m args below meth c G shM ad n A 8 (MQ below (zQ G shM ad n M9 none A) args s 0 0 A) 0 0 M 45 [(0, .ref (ad 0)), (2, .int b45_L2), (3, .int b45_L3)] []) (self54 : Int32 → Int32 → Int32 → zMem → Option (zMem)) (hs54 : ∀ (b54_L2 : Int32) (b54_L3 : Int32) (b54_L4 : Int32) (M : zMem), self54 b54_L2 b54_L3 b54_L4 M = some M9 → zJ p l e rm_X10_spreads s m args below meth c G shM ad n A 8 (MQ below (zQ G shM ad n M9 none A) args s 0 0 A) 0 0 M 54 [(0, .ref (ad 0)), (2, .int b54_L2), (3, .int b54_L3), (4, .int b54_L4)] []) (self78 : Int32 → Int32 → Int32 → Int32 → zMem → Option (zMem)) (hs78 : ∀ (b78_L2 : Int32) (b78_L3 : Int32) (b78_L4 : Int32) (b78_L5 : Int32) (M : zMem), self78 b78_L2 b78_L3 b78_L4 b78_L5 M = some M9 → zJ p l e rm_X10_spreads s m args below meth c G shM ad n A 8 (MQ below (zQ G shM ad n M9 none A) args s 0 0 A) 0 0 M 78 [(0, .ref (ad 0)), (2, .int b78_L2), (3, .int b78_L3), (4, .int b78_L4), (5, .int b78_L5)] []), ∀ (b178_L2 : Int32) (b178_L3 : Int32) (b178_L4 : Int32) (b178_L5 : Int32) (M : zMem), F_X10_spreads_178 p0 self45 self54 self78 b178_L2 b178_L3 b178_L4 b178_L5 M = some M9 → zJ p l e rm_X10_spreads s m args below meth c G shM ad n A 8 (MQ below (zQ G shM ad n M9 none A) args s 0 0 A) 0 0 M 178 [(0, .ref (ad 0)), (2, .int b178_L2), (3, .int b178_L3), (4, .int b178_L4), (5, .int b178_L5)] [] := by
    intro self45 hs45 self54 hs54 self78 hs78 b178_L2 b178_L3 b178_L4 b178_L5 M hF
    unfold F_X10_spreads_178 at hF
    refine z_iinc cx 5 2 [(5, .int (b178_L5 + 2)), (0, .ref (ad 0)), (2, .int b178_L2), (3, .int b178_L3), (4, .int b178_L4)] d_X10_spreads_178 4 rfl ki_2 (by decide) rfl ?_
    refine z_goto cx 78 d_X10_spreads_181 (by decide) ?_
    exact z_lv [1, 2, 3, 4, 0] _ rfl (hs78 b178_L2 b178_L3 b178_L4 (b178_L5 + 2) M hF)
  have hL78 : ∀ (self45 : Int32 → Int32 → zMem → Option (zMem)) (hs45 : ∀ (b45_L2 : Int32) (b45_L3 : Int32) (M : zMem), self45 b45_L2 b45_L3 M = some M9 → zJ p l e rm_X10_spreads s m args below meth c G shM ad n A 8 (MQ below (zQ G shM ad n M9 none A) args s 0 0 A) 0 0 M 45 [(0, .ref (ad 0)), (2, .int b45_L2), (3, .int b45_L3)] []) (self54 : Int32 → Int32 → Int32 → zMem → Option (zMem)) (hs54 : ∀ (b54_L2 : Int32) (b54_L3 : Int32) (b54_L4 : Int32) (M : zMem), self54 b54_L2 b54_L3 b54_L4 M = some M9 → zJ p l e rm_X10_spreads s m args below meth c G shM ad n A 8 (MQ below (zQ G shM ad n M9 none A) args s 0 0 A) 0 0 M 54 [(0, .ref (ad 0)), (2, .int b54_L2), (3, .int b54_L3), (4, .int b54_L4)] []) (fuel : Nat), ∀ (b78_L2 : Int32) (b78_L3 : Int32) (b78_L4 : Int32) (b78_L5 : Int32) (M : zMem), itF (fun _ _ _ _ _ => none) (F_X10_spreads_78 p0 self45 self54) fuel b78_L2 b78_L3 b78_L4 b78_L5 M = some M9 → zJ p l e rm_X10_spreads s m args below meth c G shM ad n A 8 (MQ below (zQ G shM ad n M9 none A) args s 0 0 A) 0 0 M 78 [(0, .ref (ad 0)), (2, .int b78_L2), (3, .int b78_L3), (4, .int b78_L4), (5, .int b78_L5)] [] := by
    intro self45 hs45 self54 hs54 fuel
    induction fuel with
    | zero => intro b78_L2 b78_L3 b78_L4 b78_L5 M hF; cases hF
    | succ fuel hs78 =>
      intro b78_L2 b78_L3 b78_L4 b78_L5 M hF
      have hF : F_X10_spreads_78 p0 self45 self54 (itF (fun _ _ _ _ _ => none) (F_X10_spreads_78 p0 self45 self54) fuel) b78_L2 b78_L3 b78_L4 b78_L5 M = some M9 := hF
      generalize itF (fun _ _ _ _ _ => none) (F_X10_spreads_78 p0 self45 self54) fuel = self78 at hs78 hF
      unfold F_X10_spreads_78 at hF
      refine z_iload cx d_X10_spreads_78 4 rfl ?_
      refine z_bipush (v := 8) cx d_X10_spreads_80 kb_8 ?_
      refine z_icmp_ge cx 184 d_X10_spreads_82 (by decide) hF (fun hF => ?_) (fun hF => ?_)
      · exact z_lv [0, 1, 2, 3] _ rfl (hb184 self45 hs45 self54 hs54 b78_L2 b78_L3 b78_L4 M hF)
      refine z_iload cx d_X10_spreads_85 3 rfl ?_
      refine z_bipush (v := 8) cx d_X10_spreads_87 kb_8 ?_
      refine z_irem cx d_X10_spreads_89 (by decide) ?_
      refine z_iload cx d_X10_spreads_90 4 rfl ?_
      obtain ⟨v2, M1, hc, hF⟩ := zb_inv hF
      refine z_callS cx (As := [.int b78_L5]) (rest := [.int (b78_L4 - b78_L4 / (8 : Int32) * (8 : Int32))]) (c_X10_eastOf l cx.2.2.2.1.1 M b78_L5  hc) cs_SunnyPansModel_247 ⟨rfl, rfl, Nat.le_of_ble_eq_true rfl, Nat.le_of_ble_eq_true rfl⟩ rfl rfl ⟨Nat.zero_le _, Nat.zero_le _⟩ (Nat.le_of_ble_eq_true rfl) d_X10_spreads_92 ?_
      refine z_iadd cx d_X10_spreads_95 ?_
      refine z_nm hF (fun v3 hF => ?_)
      refine z_istore cx 6 [(6, .int v3), (0, .ref (ad 0)), (2, .int b78_L2), (3, .int b78_L3), (4, .int b78_L4), (5, .int b78_L5)] d_X10_spreads_96 (by decide) rfl ?_
      refine z_iload cx d_X10_spreads_98 4 rfl ?_
      refine z_bipush (v := 8) cx d_X10_spreads_100 kb_8 ?_
      refine z_idiv cx d_X10_spreads_102 (by decide) ?_
      refine z_iload cx d_X10_spreads_103 5 rfl ?_
      obtain ⟨v5, M4, hc, hF⟩ := zb_inv hF
      refine z_callS cx (As := [.int b78_L5]) (rest := [.int (b78_L4 / (8 : Int32))]) (c_X10_southOf l cx.2.2.2.1.1 M1 b78_L5  hc) cs_SunnyPansModel_250 ⟨rfl, rfl, Nat.le_of_ble_eq_true rfl, Nat.le_of_ble_eq_true rfl⟩ rfl rfl ⟨Nat.zero_le _, Nat.zero_le _⟩ (Nat.le_of_ble_eq_true rfl) d_X10_spreads_105 ?_
      refine z_iadd cx d_X10_spreads_108 ?_
      refine z_nm hF (fun v6 hF => ?_)
      refine z_istore cx 7 [(7, .int v6), (6, .int v3), (0, .ref (ad 0)), (2, .int b78_L2), (3, .int b78_L3), (4, .int b78_L4), (5, .int b78_L5)] d_X10_spreads_109 (by decide) rfl ?_
      refine z_aload_n cx d_X10_spreads_111 2 rfl ?_
      refine z_iload cx d_X10_spreads_112 1 rfl ?_
      refine z_iload cx d_X10_spreads_114 0 rfl ?_
      obtain ⟨v8, M7, hc, hF⟩ := zb_inv hF
      refine z_callV cx (As := [.int v3, .int v6]) (rest := []) (c_X10_isWithin l cx.2.2.2.1.1 M4 v3 v6 hT hc) hT zo_11 cv_SunnyPansModel_237 ⟨rfl, rfl, Nat.le_of_ble_eq_true rfl, Nat.le_of_ble_eq_true rfl⟩ rfl rfl ⟨Nat.zero_le _, Nat.zero_le _⟩ (Nat.le_of_ble_eq_true rfl) d_X10_spreads_116 ?_
      refine z_if_eq cx 178 d_X10_spreads_119 (by decide) hF (fun hF => ?_) (fun hF => ?_)
      · exact z_lv [2, 3, 4, 5, 6] _ rfl (hb178 self45 hs45 self54 hs54 self78 hs78 b78_L2 b78_L3 b78_L4 b78_L5 M7 hF)
      refine z_aload_n cx d_X10_spreads_122 2 rfl ?_
      refine z_getR cx hT fg_SunnyPansModel_58 451 rfl d_X10_spreads_123 ?_
      refine z_iconst (v := 0) cx d_X10_spreads_126 ki_0 ?_
      refine z_bipush (v := 8) cx d_X10_spreads_127 kb_8 ?_
      refine z_iload cx d_X10_spreads_129 0 rfl ?_
      refine z_imul cx d_X10_spreads_131 ?_
      refine z_iadd cx d_X10_spreads_132 ?_
      refine z_iload cx d_X10_spreads_133 1 rfl ?_
      refine z_iadd cx d_X10_spreads_135 ?_
      obtain ⟨hi9, hF⟩ := gin_inv hF
      refine z_iald cx (tfM_11_451 hT) za_36 hi9 ((((0 : Int32) + ((8 : Int32) * v6)) + v3).toNatClampNeg) rfl d_X10_spreads_136 ?_
      refine z_if_gt cx 178 d_X10_spreads_137 (by decide) hF (fun hF => ?_) (fun hF => ?_)
      · exact z_lv [2, 3, 4, 5, 6] _ rfl (hb178 self45 hs45 self54 hs54 self78 hs78 b78_L2 b78_L3 b78_L4 b78_L5 M7 hF)
      refine z_aload_n cx d_X10_spreads_140 2 rfl ?_
      refine z_getR cx hT fg_SunnyPansModel_70 474 rfl d_X10_spreads_141 ?_
      refine z_bipush (v := 8) cx d_X10_spreads_144 kb_8 ?_
      refine z_iload cx d_X10_spreads_146 0 rfl ?_
      refine z_imul cx d_X10_spreads_148 ?_
      refine z_iload cx d_X10_spreads_149 1 rfl ?_
      refine z_iadd cx d_X10_spreads_151 ?_
      obtain ⟨hi10, hF⟩ := gin_inv hF
      refine z_iald cx (tfM_11_474 hT) za_16 hi10 ((((8 : Int32) * v6) + v3).toNatClampNeg) rfl d_X10_spreads_152 ?_
      refine z_iconst (v := -1) cx d_X10_spreads_153 ki_m1 ?_
      refine z_icmp_eq cx 160 d_X10_spreads_154 (by decide) hF (fun hF => ?_) (fun hF => ?_)
      · refine z_aload_n cx d_X10_spreads_160 2 rfl ?_
        refine z_getR cx hT fg_SunnyPansModel_70 474 rfl d_X10_spreads_161 ?_
        refine z_bipush (v := 8) cx d_X10_spreads_164 kb_8 ?_
        refine z_iload cx d_X10_spreads_166 0 rfl ?_
        refine z_imul cx d_X10_spreads_168 ?_
        refine z_iload cx d_X10_spreads_169 1 rfl ?_
        refine z_iadd cx d_X10_spreads_171 ?_
        refine z_iload_n cx d_X10_spreads_172 4 rfl ?_
        refine z_iconst (v := 1) cx d_X10_spreads_173 ki_1 ?_
        refine z_iadd cx d_X10_spreads_174 ?_
        refine z_iast cx (tfM_11_474 hT) za_16 hi10 ((((8 : Int32) * v6) + v3).toNatClampNeg) rfl d_X10_spreads_175 ?_
        refine z_nmM hF (fun M11 hF => ?_)
        refine z_iconst (v := 1) cx d_X10_spreads_176 ki_1 ?_
        refine z_istore_n cx 2 [(2, .int (1 : Int32)), (7, .int v6), (6, .int v3), (0, .ref (ad 0)), (3, .int b78_L3), (4, .int b78_L4), (5, .int b78_L5)] d_X10_spreads_177 rfl (by decide) rfl ?_
        exact z_lv [3, 0, 4, 5, 6] _ rfl (hb178 self45 hs45 self54 hs54 self78 hs78 (1 : Int32) b78_L3 b78_L4 b78_L5 M11 hF)
      refine z_goto cx 178 d_X10_spreads_157 (by decide) ?_
      exact z_lv [2, 3, 4, 5, 6] _ rfl (hb178 self45 hs45 self54 hs54 self78 hs78 b78_L2 b78_L3 b78_L4 b78_L5 M7 hF)
  have hL54 : ∀ (self45 : Int32 → Int32 → zMem → Option (zMem)) (hs45 : ∀ (b45_L2 : Int32) (b45_L3 : Int32) (M : zMem), self45 b45_L2 b45_L3 M = some M9 → zJ p l e rm_X10_spreads s m args below meth c G shM ad n A 8 (MQ below (zQ G shM ad n M9 none A) args s 0 0 A) 0 0 M 45 [(0, .ref (ad 0)), (2, .int b45_L2), (3, .int b45_L3)] []) (fuel : Nat), ∀ (b54_L2 : Int32) (b54_L3 : Int32) (b54_L4 : Int32) (M : zMem), itF (fun _ _ _ _ => none) (F_X10_spreads_54 p0 self45) fuel b54_L2 b54_L3 b54_L4 M = some M9 → zJ p l e rm_X10_spreads s m args below meth c G shM ad n A 8 (MQ below (zQ G shM ad n M9 none A) args s 0 0 A) 0 0 M 54 [(0, .ref (ad 0)), (2, .int b54_L2), (3, .int b54_L3), (4, .int b54_L4)] [] := by
    intro self45 hs45 fuel
    induction fuel with
    | zero => intro b54_L2 b54_L3 b54_L4 M hF; cases hF
    | succ fuel hs54 =>
      intro b54_L2 b54_L3 b54_L4 M hF
      have hF : F_X10_spreads_54 p0 self45 (itF (fun _ _ _ _ => none) (F_X10_spreads_54 p0 self45) fuel) b54_L2 b54_L3 b54_L4 M = some M9 := hF
      generalize itF (fun _ _ _ _ => none) (F_X10_spreads_54 p0 self45) fuel = self54 at hs54 hF
      unfold F_X10_spreads_54 at hF
      refine z_iload cx d_X10_spreads_54 3 rfl ?_
      refine z_bipush (v := 64) cx d_X10_spreads_56 kb_64 ?_
      refine z_icmp_ge cx 190 d_X10_spreads_58 (by decide) hF (fun hF => ?_) (fun hF => ?_)
      · refine z_iinc cx 3 1 [(3, .int (b54_L3 + 1)), (0, .ref (ad 0)), (2, .int b54_L2), (4, .int b54_L4)] d_X10_spreads_190 2 rfl ki_1 (by decide) rfl ?_
        refine z_goto cx 45 d_X10_spreads_193 (by decide) ?_
        exact z_lv [1, 2, 0] _ rfl (hs45 b54_L2 (b54_L3 + 1) M hF)
      refine z_aload_n cx d_X10_spreads_61 0 rfl ?_
      refine z_getR cx hT fg_SunnyPansModel_70 474 rfl d_X10_spreads_62 ?_
      refine z_iload cx d_X10_spreads_65 3 rfl ?_
      obtain ⟨hi12, hF⟩ := gin_inv hF
      refine z_iald cx (tfM_11_474 hT) za_16 hi12 b54_L4.toNatClampNeg rfl d_X10_spreads_67 ?_
      refine z_iload_n cx d_X10_spreads_68 2 rfl ?_
      refine z_icmp_eq cx 75 d_X10_spreads_69 (by decide) hF (fun hF => ?_) (fun hF => ?_)
      · refine z_iconst (v := 0) cx d_X10_spreads_75 ki_0 ?_
        refine z_istore cx 5 [(5, .int (0 : Int32)), (0, .ref (ad 0)), (2, .int b54_L2), (3, .int b54_L3), (4, .int b54_L4)] d_X10_spreads_76 (by decide) rfl ?_
        exact z_lv [1, 2, 3, 4, 0] _ rfl (hL78 self45 hs45 self54 hs54 zFuel b54_L2 b54_L3 b54_L4 (0 : Int32) M hF)
      refine z_goto cx 184 d_X10_spreads_72 (by decide) ?_
      exact hb184 self45 hs45 self54 hs54 b54_L2 b54_L3 b54_L4 M hF
  have hL45 : ∀ (fuel : Nat), ∀ (b45_L2 : Int32) (b45_L3 : Int32) (M : zMem), itF (fun _ _ _ => none) (F_X10_spreads_45 p0) fuel b45_L2 b45_L3 M = some M9 → zJ p l e rm_X10_spreads s m args below meth c G shM ad n A 8 (MQ below (zQ G shM ad n M9 none A) args s 0 0 A) 0 0 M 45 [(0, .ref (ad 0)), (2, .int b45_L2), (3, .int b45_L3)] [] := by
    intro fuel
    induction fuel with
    | zero => intro b45_L2 b45_L3 M hF; cases hF
    | succ fuel hs45 =>
      intro b45_L2 b45_L3 M hF
      have hF : F_X10_spreads_45 p0 (itF (fun _ _ _ => none) (F_X10_spreads_45 p0) fuel) b45_L2 b45_L3 M = some M9 := hF
      generalize itF (fun _ _ _ => none) (F_X10_spreads_45 p0) fuel = self45 at hs45 hF
      unfold F_X10_spreads_45 at hF
      refine z_iload_n cx d_X10_spreads_45 1 rfl ?_
      refine z_if_eq cx 196 d_X10_spreads_46 (by decide) hF (fun hF => ?_) (fun hF => ?_)
      · exact z_vret cx hr hF d_X10_spreads_196
      refine z_iconst (v := 0) cx d_X10_spreads_49 ki_0 ?_
      refine z_istore_n cx 2 [(2, .int (0 : Int32)), (0, .ref (ad 0)), (3, .int b45_L3)] d_X10_spreads_50 rfl (by decide) rfl ?_
      refine z_iconst (v := 0) cx d_X10_spreads_51 ki_0 ?_
      refine z_istore cx 4 [(4, .int (0 : Int32)), (2, .int (0 : Int32)), (0, .ref (ad 0)), (3, .int b45_L3)] d_X10_spreads_52 (by decide) rfl ?_
      exact z_lv [2, 1, 3, 0] _ rfl (hL54 self45 hs45 zFuel (0 : Int32) b45_L3 (0 : Int32) M hF)
  have hb34 : ∀ (self2 : Int32 → Int32 → zMem → Option (zMem)) (hs2 : ∀ (b2_L1 : Int32) (b2_L2 : Int32) (M : zMem), self2 b2_L1 b2_L2 M = some M9 → zJ p l e rm_X10_spreads s m args below meth c G shM ad n A 8 (MQ below (zQ G shM ad n M9 none A) args s 0 0 A) 0 0 M 2 [(0, .ref (ad 0)), (1, .int b2_L1), (2, .int b2_L2)] []), ∀ (b34_L1 : Int32) (b34_L2 : Int32) (b34_S1 : Int32) (b34_S2 : Int32) (M : zMem), F_X10_spreads_34 p0 self2 b34_L1 b34_L2 b34_S1 b34_S2 M = some M9 → zJ p l e rm_X10_spreads s m args below meth c G shM ad n A 8 (MQ below (zQ G shM ad n M9 none A) args s 0 0 A) 0 0 M 34 [(0, .ref (ad 0)), (1, .int b34_L1), (2, .int b34_L2)] [.int b34_S2, .int b34_S1, .ref (ad 474)] := by
    intro self2 hs2 b34_L1 b34_L2 b34_S1 b34_S2 M hF
    unfold F_X10_spreads_34 at hF
    obtain ⟨hi13, hF⟩ := gin_inv hF
    refine z_iast cx (tfM_11_474 hT) za_16 hi13 b34_S1.toNatClampNeg rfl d_X10_spreads_34 ?_
    refine z_nmM hF (fun M14 hF => ?_)
    refine z_iinc cx 2 1 [(2, .int (b34_L2 + 1)), (0, .ref (ad 0)), (1, .int b34_L1)] d_X10_spreads_35 2 rfl ki_1 (by decide) rfl ?_
    refine z_goto cx 2 d_X10_spreads_38 (by decide) ?_
    exact z_lv [1, 2, 0] _ rfl (hs2 b34_L1 (b34_L2 + 1) M14 hF)
  have hb33 : ∀ (self2 : Int32 → Int32 → zMem → Option (zMem)) (hs2 : ∀ (b2_L1 : Int32) (b2_L2 : Int32) (M : zMem), self2 b2_L1 b2_L2 M = some M9 → zJ p l e rm_X10_spreads s m args below meth c G shM ad n A 8 (MQ below (zQ G shM ad n M9 none A) args s 0 0 A) 0 0 M 2 [(0, .ref (ad 0)), (1, .int b2_L1), (2, .int b2_L2)] []), ∀ (b33_L1 : Int32) (b33_L2 : Int32) (b33_S1 : Int32) (M : zMem), F_X10_spreads_33 p0 self2 b33_L1 b33_L2 b33_S1 M = some M9 → zJ p l e rm_X10_spreads s m args below meth c G shM ad n A 8 (MQ below (zQ G shM ad n M9 none A) args s 0 0 A) 0 0 M 33 [(0, .ref (ad 0)), (1, .int b33_L1), (2, .int b33_L2)] [.int b33_S1, .ref (ad 474)] := by
    intro self2 hs2 b33_L1 b33_L2 b33_S1 M hF
    unfold F_X10_spreads_33 at hF
    refine z_iconst (v := -1) cx d_X10_spreads_33 ki_m1 ?_
    exact hb34 self2 hs2 b33_L1 b33_L2 b33_S1 (-1 : Int32) M hF
  have hL2 : ∀ (fuel : Nat), ∀ (b2_L1 : Int32) (b2_L2 : Int32) (M : zMem), itF (fun _ _ _ => none) (F_X10_spreads_2 p0) fuel b2_L1 b2_L2 M = some M9 → zJ p l e rm_X10_spreads s m args below meth c G shM ad n A 8 (MQ below (zQ G shM ad n M9 none A) args s 0 0 A) 0 0 M 2 [(0, .ref (ad 0)), (1, .int b2_L1), (2, .int b2_L2)] [] := by
    intro fuel
    induction fuel with
    | zero => intro b2_L1 b2_L2 M hF; cases hF
    | succ fuel hs2 =>
      intro b2_L1 b2_L2 M hF
      have hF : F_X10_spreads_2 p0 (itF (fun _ _ _ => none) (F_X10_spreads_2 p0) fuel) b2_L1 b2_L2 M = some M9 := hF
      generalize itF (fun _ _ _ => none) (F_X10_spreads_2 p0) fuel = self2 at hs2 hF
      unfold F_X10_spreads_2 at hF
      refine z_iload_n cx d_X10_spreads_2 2 rfl ?_
      refine z_bipush (v := 64) cx d_X10_spreads_3 kb_64 ?_
      refine z_icmp_ge cx 41 d_X10_spreads_5 (by decide) hF (fun hF => ?_) (fun hF => ?_)
      · refine z_iconst (v := 1) cx d_X10_spreads_41 ki_1 ?_
        refine z_istore_n cx 2 [(2, .int (1 : Int32)), (0, .ref (ad 0)), (1, .int b2_L1)] d_X10_spreads_42 rfl (by decide) rfl ?_
        refine z_iconst (v := 0) cx d_X10_spreads_43 ki_0 ?_
        refine z_istore_n cx 3 [(3, .int (0 : Int32)), (2, .int (1 : Int32)), (0, .ref (ad 0)), (1, .int b2_L1)] d_X10_spreads_44 rfl (by decide) rfl ?_
        exact z_lv [2, 1, 0] _ rfl (hL45 zFuel (1 : Int32) (0 : Int32) M hF)
      refine z_aload_n cx d_X10_spreads_8 0 rfl ?_
      refine z_getR cx hT fg_SunnyPansModel_70 474 rfl d_X10_spreads_9 ?_
      refine z_iload_n cx d_X10_spreads_12 2 rfl ?_
      refine z_iload_n cx d_X10_spreads_13 2 rfl ?_
      refine z_iload_n cx d_X10_spreads_14 1 rfl ?_
      refine z_icmp_ne cx 33 d_X10_spreads_15 (by decide) hF (fun hF => ?_) (fun hF => ?_)
      · exact hb33 self2 hs2 b2_L1 b2_L2 b2_L2 M hF
      refine z_aload_n cx d_X10_spreads_18 0 rfl ?_
      refine z_getR cx hT fg_SunnyPansModel_58 451 rfl d_X10_spreads_19 ?_
      refine z_iconst (v := 0) cx d_X10_spreads_22 ki_0 ?_
      refine z_iload_n cx d_X10_spreads_23 2 rfl ?_
      refine z_iadd cx d_X10_spreads_24 ?_
      obtain ⟨hi15, hF⟩ := gin_inv hF
      refine z_iald cx (tfM_11_451 hT) za_36 hi15 (((0 : Int32) + b2_L2).toNatClampNeg) rfl d_X10_spreads_25 ?_
      refine z_if_ne cx 33 d_X10_spreads_26 (by decide) hF (fun hF => ?_) (fun hF => ?_)
      · exact hb33 self2 hs2 b2_L1 b2_L2 b2_L2 M hF
      refine z_iconst (v := 0) cx d_X10_spreads_29 ki_0 ?_
      refine z_goto cx 34 d_X10_spreads_30 (by decide) ?_
      exact hb34 self2 hs2 b2_L1 b2_L2 b2_L2 (0 : Int32) M hF
  unfold F_X10_spreads at hF
  refine z_iconst (v := 0) cx d_X10_spreads_0 ki_0 ?_
  refine z_istore_n cx 2 [(2, .int (0 : Int32)), (0, .ref (ad 0)), (1, .int p0)] d_X10_spreads_1 rfl (by decide) rfl ?_
  exact z_lv [1, 2, 0] _ rfl (hL2 zFuel p0 (0 : Int32) M hF)
/-! SunnyPansModel.way -/
set_option maxRecDepth 100000 in
theorem wd_1843 : Cond.code yX10_spreads cX10_spreads 8 none ∈ tbG := tw8 63 rfl rfl
set_option maxRecDepth 100000 in
theorem wd_1840 : Cond.methodLink "SunnyPansModel" 354 yX10_spreads ∈ tbG := tw8 60 rfl rfl
set_option maxRecDepth 100000 in
theorem wd_1842 : Cond.instanceMethod yX10_spreads ∈ tbG := tw8 62 rfl rfl
theorem wd_90 : Cond.selects "SunnyPansModel" yX10_spreads yX10_spreads ∈ tbG := tw 90 (by decide +kernel) rfl
theorem cv_SunnyPansModel_354 : zCV "SunnyPansModel" 354 "SunnyPansModel" yX10_spreads cX10_spreads 8 none 1 := zCV_of wd_1840 wd_1842 wd_90 wd_111 wd_1843 (by decide +kernel)
theorem d_X10_way_0 : decode cX10_way 0 = .ok (.aload_n 0, 1) := by decide +kernel
theorem d_X10_way_1 : decode cX10_way 1 = .ok (.iconst 0, 1) := by decide +kernel
theorem d_X10_way_2 : decode cX10_way 2 = .ok (.putfield 82, 3) := by decide +kernel
theorem d_X10_way_5 : decode cX10_way 5 = .ok (.aload_n 0, 1) := by decide +kernel
theorem d_X10_way_6 : decode cX10_way 6 = .ok (.aload_n 0, 1) := by decide +kernel
theorem d_X10_way_7 : decode cX10_way 7 = .ok (.iload_n 1, 1) := by decide +kernel
theorem d_X10_way_8 : decode cX10_way 8 = .ok (.iload_n 2, 1) := by decide +kernel
theorem d_X10_way_9 : decode cX10_way 9 = .ok (.invokevirtual 237, 3) := by decide +kernel
theorem d_X10_way_12 : decode cX10_way 12 = .ok (.ifCond .eq 13, 3) := by decide +kernel
theorem d_X10_way_15 : decode cX10_way 15 = .ok (.aload_n 0, 1) := by decide +kernel
theorem d_X10_way_16 : decode cX10_way 16 = .ok (.iload_n 3, 1) := by decide +kernel
theorem d_X10_way_17 : decode cX10_way 17 = .ok (.iload 4, 2) := by decide +kernel
theorem d_X10_way_19 : decode cX10_way 19 = .ok (.invokevirtual 237, 3) := by decide +kernel
theorem d_X10_way_22 : decode cX10_way 22 = .ok (.ifCond .ne 7, 3) := by decide +kernel
theorem d_X10_way_25 : decode cX10_way 25 = .ok (.iconst 1, 1) := by decide +kernel
theorem d_X10_way_26 : decode cX10_way 26 = .ok (.goto 4, 3) := by decide +kernel
theorem d_X10_way_29 : decode cX10_way 29 = .ok (.iconst 0, 1) := by decide +kernel
theorem d_X10_way_30 : decode cX10_way 30 = .ok (.iconst 1, 1) := by decide +kernel
theorem d_X10_way_31 : decode cX10_way 31 = .ok (.iconst 0, 1) := by decide +kernel
theorem d_X10_way_32 : decode cX10_way 32 = .ok (.invokevirtual 155, 3) := by decide +kernel
theorem d_X10_way_35 : decode cX10_way 35 = .ok (.ifCond .eq 5, 3) := by decide +kernel
theorem d_X10_way_38 : decode cX10_way 38 = .ok (.iconst 0, 1) := by decide +kernel
theorem d_X10_way_39 : decode cX10_way 39 = .ok (.ireturn, 1) := by decide +kernel
theorem d_X10_way_40 : decode cX10_way 40 = .ok (.aload_n 0, 1) := by decide +kernel
theorem d_X10_way_41 : decode cX10_way 41 = .ok (.bipush 8, 2) := by decide +kernel
theorem d_X10_way_43 : decode cX10_way 43 = .ok (.iload_n 2, 1) := by decide +kernel
theorem d_X10_way_44 : decode cX10_way 44 = .ok (.imul, 1) := by decide +kernel
theorem d_X10_way_45 : decode cX10_way 45 = .ok (.iload_n 1, 1) := by decide +kernel
theorem d_X10_way_46 : decode cX10_way 46 = .ok (.iadd, 1) := by decide +kernel
theorem d_X10_way_47 : decode cX10_way 47 = .ok (.invokevirtual 354, 3) := by decide +kernel
theorem d_X10_way_50 : decode cX10_way 50 = .ok (.aload_n 0, 1) := by decide +kernel
theorem d_X10_way_51 : decode cX10_way 51 = .ok (.getfield 70, 3) := by decide +kernel
theorem d_X10_way_54 : decode cX10_way 54 = .ok (.bipush 8, 2) := by decide +kernel
theorem d_X10_way_56 : decode cX10_way 56 = .ok (.iload 4, 2) := by decide +kernel
theorem d_X10_way_58 : decode cX10_way 58 = .ok (.imul, 1) := by decide +kernel
theorem d_X10_way_59 : decode cX10_way 59 = .ok (.iload_n 3, 1) := by decide +kernel
theorem d_X10_way_60 : decode cX10_way 60 = .ok (.iadd, 1) := by decide +kernel
theorem d_X10_way_61 : decode cX10_way 61 = .ok (.iaload, 1) := by decide +kernel
theorem d_X10_way_62 : decode cX10_way 62 = .ok (.ireturn, 1) := by decide +kernel
noncomputable def F_X10_way_30 (p0 : Int32) (p1 : Int32) (p2 : Int32) (p3 : Int32) (b30_L1 : Int32) (b30_L2 : Int32) (b30_L3 : Int32) (b30_L4 : Int32) (b30_S1 : Int32) (M : zMem) : Option (Int32 × zMem) :=
  zb (F_X10_bad M b30_S1 (1 : Int32) (0 : Int32)) fun v2 M1 =>
  if v2 = 0 then
    zbv (F_X10_spreads M1 (((8 : Int32) * b30_L2) + b30_L1)) fun M3 =>
    gin (((8 : Int32) * b30_L4) + b30_L3) 64 <|
    some ((M3.1 474 (((8 : Int32) * b30_L4) + b30_L3).toNatClampNeg), M3)
  else
    some ((0 : Int32), M1)
noncomputable def F_X10_way (M : zMem) (p0 : Int32) (p1 : Int32) (p2 : Int32) (p3 : Int32) : Option (Int32 × zMem) :=
  zl (zI M 0 0 (0 : Int32)) fun M5 =>
  zb (F_X10_isWithin M5 p0 p1) fun v7 M6 =>
  if v7 = 0 then
    F_X10_way_30 p0 p1 p2 p3 p0 p1 p2 p3 (1 : Int32) M6
  else
    zb (F_X10_isWithin M6 p2 p3) fun v9 M8 =>
    if v9 = 0 then
      F_X10_way_30 p0 p1 p2 p3 p0 p1 p2 p3 (1 : Int32) M8
    else
      F_X10_way_30 p0 p1 p2 p3 p0 p1 p2 p3 (0 : Int32) M8
def rm_X10_way : Room := { frames := 5, cells := 0, slots := 0, locals := 151 }
set_option maxHeartbeats 4000000 in
set_option maxRecDepth 100000 in
theorem c_X10_way (l : Launch) {G : zG} {ad : Nat → Nat} {n : Nat} (hA : zInj ad n) (M : zMem) (p0 : Int32) (p1 : Int32) (p2 : Int32) (p3 : Int32) (hT : zT shM n 0 11) {r9 : Int32} {M9 : zMem} (hF : F_X10_way M p0 p1 p2 p3 = some (r9, M9)) : zM l yX10_way cX10_way 5 (some .int) rm_X10_way G shM ad n M [.ref (ad 0), .int p0, .int p1, .int p2, .int p3] (some (.int r9)) M9 := by
  refine zM_of hA (by decide +kernel) (lv := [(0, .ref (ad 0)), (1, .int p0), (2, .int p1), (3, .int p2), (4, .int p3)]) (Nat.le_of_ble_eq_true rfl) rfl (fun p e s m args below meth c A cx hr => ?_)
  have hb30 : ∀ (b30_L1 : Int32) (b30_L2 : Int32) (b30_L3 : Int32) (b30_L4 : Int32) (b30_S1 : Int32) (M : zMem), F_X10_way_30 p0 p1 p2 p3 b30_L1 b30_L2 b30_L3 b30_L4 b30_S1 M = some (r9, M9) → zJ p l e rm_X10_way s m args below meth c G shM ad n A 5 (MQ below (zQ G shM ad n M9 (some (.int r9)) A) args s 0 0 A) 0 0 M 30 [(0, .ref (ad 0)), (1, .int b30_L1), (2, .int b30_L2), (3, .int b30_L3), (4, .int b30_L4)] [.int b30_S1, .ref (ad 0)] := by
    intro b30_L1 b30_L2 b30_L3 b30_L4 b30_S1 M hF
    unfold F_X10_way_30 at hF
    refine z_iconst (v := 1) cx d_X10_way_30 ki_1 ?_
    refine z_iconst (v := 0) cx d_X10_way_31 ki_0 ?_
    obtain ⟨v2, M1, hc, hF⟩ := zb_inv hF
    refine z_callV cx (As := [.int b30_S1, .int (1 : Int32), .int (0 : Int32)]) (rest := []) (c_X10_bad l cx.2.2.2.1.1 M b30_S1 (1 : Int32) (0 : Int32) hT hc) hT zo_11 cv_SunnyPansModel_155 ⟨rfl, rfl, Nat.le_of_ble_eq_true rfl, Nat.le_of_ble_eq_true rfl⟩ rfl rfl ⟨Nat.zero_le _, Nat.zero_le _⟩ (Nat.le_of_ble_eq_true rfl) d_X10_way_32 ?_
    refine z_if_eq cx 40 d_X10_way_35 (by decide) hF (fun hF => ?_) (fun hF => ?_)
    · refine z_aload_n cx d_X10_way_40 0 rfl ?_
      refine z_bipush (v := 8) cx d_X10_way_41 kb_8 ?_
      refine z_iload_n cx d_X10_way_43 2 rfl ?_
      refine z_imul cx d_X10_way_44 ?_
      refine z_iload_n cx d_X10_way_45 1 rfl ?_
      refine z_iadd cx d_X10_way_46 ?_
      obtain ⟨M3, hc, hF⟩ := zbv_inv hF
      refine z_callV cx (As := [.int (((8 : Int32) * b30_L2) + b30_L1)]) (rest := []) (c_X10_spreads l cx.2.2.2.1.1 M1 (((8 : Int32) * b30_L2) + b30_L1) hT hc) hT zo_11 cv_SunnyPansModel_354 ⟨rfl, rfl, Nat.le_of_ble_eq_true rfl, Nat.le_of_ble_eq_true rfl⟩ rfl rfl ⟨Nat.zero_le _, Nat.zero_le _⟩ (Nat.le_of_ble_eq_true rfl) d_X10_way_47 ?_
      refine z_aload_n cx d_X10_way_50 0 rfl ?_
      refine z_getR cx hT fg_SunnyPansModel_70 474 rfl d_X10_way_51 ?_
      refine z_bipush (v := 8) cx d_X10_way_54 kb_8 ?_
      refine z_iload cx d_X10_way_56 4 rfl ?_
      refine z_imul cx d_X10_way_58 ?_
      refine z_iload_n cx d_X10_way_59 3 rfl ?_
      refine z_iadd cx d_X10_way_60 ?_
      obtain ⟨hi4, hF⟩ := gin_inv hF
      refine z_iald cx (tfM_11_474 hT) za_16 hi4 ((((8 : Int32) * b30_L4) + b30_L3).toNatClampNeg) rfl d_X10_way_61 ?_
      exact z_iret cx hr rfl hF d_X10_way_62
    refine z_iconst (v := 0) cx d_X10_way_38 ki_0 ?_
    exact z_iret cx hr rfl hF d_X10_way_39
  unfold F_X10_way at hF
  refine z_aload_n cx d_X10_way_0 0 rfl ?_
  refine z_iconst (v := 0) cx d_X10_way_1 ki_0 ?_
  refine z_putI cx hT fp_SunnyPansModel_82 d_X10_way_2 ?_
  refine z_nmM hF (fun M5 hF => ?_)
  refine z_aload_n cx d_X10_way_5 0 rfl ?_
  refine z_aload_n cx d_X10_way_6 0 rfl ?_
  refine z_iload_n cx d_X10_way_7 1 rfl ?_
  refine z_iload_n cx d_X10_way_8 2 rfl ?_
  obtain ⟨v7, M6, hc, hF⟩ := zb_inv hF
  refine z_callV cx (As := [.int p0, .int p1]) (rest := [.ref (ad 0)]) (c_X10_isWithin l cx.2.2.2.1.1 M5 p0 p1 hT hc) hT zo_11 cv_SunnyPansModel_237 ⟨rfl, rfl, Nat.le_of_ble_eq_true rfl, Nat.le_of_ble_eq_true rfl⟩ rfl rfl ⟨Nat.zero_le _, Nat.zero_le _⟩ (Nat.le_of_ble_eq_true rfl) d_X10_way_9 ?_
  refine z_if_eq cx 25 d_X10_way_12 (by decide) hF (fun hF => ?_) (fun hF => ?_)
  · refine z_iconst (v := 1) cx d_X10_way_25 ki_1 ?_
    refine z_goto cx 30 d_X10_way_26 (by decide) ?_
    exact hb30 p0 p1 p2 p3 (1 : Int32) M6 hF
  refine z_aload_n cx d_X10_way_15 0 rfl ?_
  refine z_iload_n cx d_X10_way_16 3 rfl ?_
  refine z_iload cx d_X10_way_17 4 rfl ?_
  obtain ⟨v9, M8, hc, hF⟩ := zb_inv hF
  refine z_callV cx (As := [.int p2, .int p3]) (rest := [.ref (ad 0)]) (c_X10_isWithin l cx.2.2.2.1.1 M6 p2 p3 hT hc) hT zo_11 cv_SunnyPansModel_237 ⟨rfl, rfl, Nat.le_of_ble_eq_true rfl, Nat.le_of_ble_eq_true rfl⟩ rfl rfl ⟨Nat.zero_le _, Nat.zero_le _⟩ (Nat.le_of_ble_eq_true rfl) d_X10_way_19 ?_
  refine z_if_ne cx 29 d_X10_way_22 (by decide) hF (fun hF => ?_) (fun hF => ?_)
  · refine z_iconst (v := 0) cx d_X10_way_29 ki_0 ?_
    exact hb30 p0 p1 p2 p3 (0 : Int32) M8 hF
  refine z_iconst (v := 1) cx d_X10_way_25 ki_1 ?_
  refine z_goto cx 30 d_X10_way_26 (by decide) ?_
  exact hb30 p0 p1 p2 p3 (1 : Int32) M8 hF
/-! SunnyPansModel.dryland -/
theorem d_X10_dryland_0 : decode cX10_dryland 0 = .ok (.aload_n 0, 1) := by decide +kernel
theorem d_X10_dryland_1 : decode cX10_dryland 1 = .ok (.iconst 0, 1) := by decide +kernel
theorem d_X10_dryland_2 : decode cX10_dryland 2 = .ok (.putfield 82, 3) := by decide +kernel
theorem d_X10_dryland_5 : decode cX10_dryland 5 = .ok (.aload_n 0, 1) := by decide +kernel
theorem d_X10_dryland_6 : decode cX10_dryland 6 = .ok (.aload_n 0, 1) := by decide +kernel
theorem d_X10_dryland_7 : decode cX10_dryland 7 = .ok (.iload_n 1, 1) := by decide +kernel
theorem d_X10_dryland_8 : decode cX10_dryland 8 = .ok (.iload_n 2, 1) := by decide +kernel
theorem d_X10_dryland_9 : decode cX10_dryland 9 = .ok (.invokevirtual 237, 3) := by decide +kernel
theorem d_X10_dryland_12 : decode cX10_dryland 12 = .ok (.ifCond .ne 7, 3) := by decide +kernel
theorem d_X10_dryland_15 : decode cX10_dryland 15 = .ok (.iconst 1, 1) := by decide +kernel
theorem d_X10_dryland_16 : decode cX10_dryland 16 = .ok (.goto 4, 3) := by decide +kernel
theorem d_X10_dryland_19 : decode cX10_dryland 19 = .ok (.iconst 0, 1) := by decide +kernel
theorem d_X10_dryland_20 : decode cX10_dryland 20 = .ok (.iconst 1, 1) := by decide +kernel
theorem d_X10_dryland_21 : decode cX10_dryland 21 = .ok (.iconst 0, 1) := by decide +kernel
theorem d_X10_dryland_22 : decode cX10_dryland 22 = .ok (.invokevirtual 155, 3) := by decide +kernel
theorem d_X10_dryland_25 : decode cX10_dryland 25 = .ok (.ifCond .eq 5, 3) := by decide +kernel
theorem d_X10_dryland_28 : decode cX10_dryland 28 = .ok (.iconst 0, 1) := by decide +kernel
theorem d_X10_dryland_29 : decode cX10_dryland 29 = .ok (.ireturn, 1) := by decide +kernel
theorem d_X10_dryland_30 : decode cX10_dryland 30 = .ok (.aload_n 0, 1) := by decide +kernel
theorem d_X10_dryland_31 : decode cX10_dryland 31 = .ok (.bipush 8, 2) := by decide +kernel
theorem d_X10_dryland_33 : decode cX10_dryland 33 = .ok (.iload_n 2, 1) := by decide +kernel
theorem d_X10_dryland_34 : decode cX10_dryland 34 = .ok (.imul, 1) := by decide +kernel
theorem d_X10_dryland_35 : decode cX10_dryland 35 = .ok (.iload_n 1, 1) := by decide +kernel
theorem d_X10_dryland_36 : decode cX10_dryland 36 = .ok (.iadd, 1) := by decide +kernel
theorem d_X10_dryland_37 : decode cX10_dryland 37 = .ok (.invokevirtual 354, 3) := by decide +kernel
theorem d_X10_dryland_40 : decode cX10_dryland 40 = .ok (.iconst 0, 1) := by decide +kernel
theorem d_X10_dryland_41 : decode cX10_dryland 41 = .ok (.istore_n 3, 1) := by decide +kernel
theorem d_X10_dryland_42 : decode cX10_dryland 42 = .ok (.iconst 0, 1) := by decide +kernel
theorem d_X10_dryland_43 : decode cX10_dryland 43 = .ok (.istore 4, 2) := by decide +kernel
theorem d_X10_dryland_45 : decode cX10_dryland 45 = .ok (.iload 4, 2) := by decide +kernel
theorem d_X10_dryland_47 : decode cX10_dryland 47 = .ok (.bipush 64, 2) := by decide +kernel
theorem d_X10_dryland_49 : decode cX10_dryland 49 = .ok (.if_icmp .ge 28, 3) := by decide +kernel
theorem d_X10_dryland_52 : decode cX10_dryland 52 = .ok (.iload_n 3, 1) := by decide +kernel
theorem d_X10_dryland_53 : decode cX10_dryland 53 = .ok (.aload_n 0, 1) := by decide +kernel
theorem d_X10_dryland_54 : decode cX10_dryland 54 = .ok (.getfield 70, 3) := by decide +kernel
theorem d_X10_dryland_57 : decode cX10_dryland 57 = .ok (.iload 4, 2) := by decide +kernel
theorem d_X10_dryland_59 : decode cX10_dryland 59 = .ok (.iaload, 1) := by decide +kernel
theorem d_X10_dryland_60 : decode cX10_dryland 60 = .ok (.iconst (-1), 1) := by decide +kernel
theorem d_X10_dryland_61 : decode cX10_dryland 61 = .ok (.if_icmp .ne 7, 3) := by decide +kernel
theorem d_X10_dryland_64 : decode cX10_dryland 64 = .ok (.iconst 0, 1) := by decide +kernel
theorem d_X10_dryland_65 : decode cX10_dryland 65 = .ok (.goto 4, 3) := by decide +kernel
theorem d_X10_dryland_68 : decode cX10_dryland 68 = .ok (.iconst 1, 1) := by decide +kernel
theorem d_X10_dryland_69 : decode cX10_dryland 69 = .ok (.iadd, 1) := by decide +kernel
theorem d_X10_dryland_70 : decode cX10_dryland 70 = .ok (.istore_n 3, 1) := by decide +kernel
theorem d_X10_dryland_71 : decode cX10_dryland 71 = .ok (.iinc 4 1, 3) := by decide +kernel
theorem d_X10_dryland_74 : decode cX10_dryland 74 = .ok (.goto (-29), 3) := by decide +kernel
theorem d_X10_dryland_77 : decode cX10_dryland 77 = .ok (.iload_n 3, 1) := by decide +kernel
theorem d_X10_dryland_78 : decode cX10_dryland 78 = .ok (.ireturn, 1) := by decide +kernel
noncomputable def F_X10_dryland_69 (p0 : Int32) (p1 : Int32) (self45 : Int32 → Int32 → zMem → Option (Int32 × zMem)) (b69_L4 : Int32) (b69_S0 : Int32) (b69_S1 : Int32) (M : zMem) : Option (Int32 × zMem) :=
  zl (b69_S0 + b69_S1) fun v1 =>
  self45 v1 (b69_L4 + 1) M
noncomputable def F_X10_dryland_45 (p0 : Int32) (p1 : Int32) (self45 : Int32 → Int32 → zMem → Option (Int32 × zMem)) (b45_L3 : Int32) (b45_L4 : Int32) (M : zMem) : Option (Int32 × zMem) :=
  if (64 : Int32) ≤ b45_L4 then
    some (b45_L3, M)
  else
    gin b45_L4 64 <|
    if (M.1 474 b45_L4.toNatClampNeg) = (-1 : Int32) then
      F_X10_dryland_69 p0 p1 self45 b45_L4 b45_L3 (0 : Int32) M
    else
      F_X10_dryland_69 p0 p1 self45 b45_L4 b45_L3 (1 : Int32) M
noncomputable def F_X10_dryland_20 (p0 : Int32) (p1 : Int32) (b20_L1 : Int32) (b20_L2 : Int32) (b20_S1 : Int32) (M : zMem) : Option (Int32 × zMem) :=
  zb (F_X10_bad M b20_S1 (1 : Int32) (0 : Int32)) fun v4 M3 =>
  if v4 = 0 then
    zbv (F_X10_spreads M3 (((8 : Int32) * b20_L2) + b20_L1)) fun M5 =>
    itF (fun _ _ _ => none) (F_X10_dryland_45 p0 p1) zFuel (0 : Int32) (0 : Int32) M5
  else
    some ((0 : Int32), M3)
noncomputable def F_X10_dryland (M : zMem) (p0 : Int32) (p1 : Int32) : Option (Int32 × zMem) :=
  zl (zI M 0 0 (0 : Int32)) fun M6 =>
  zb (F_X10_isWithin M6 p0 p1) fun v8 M7 =>
  if v8 = 0 then
    F_X10_dryland_20 p0 p1 p0 p1 (1 : Int32) M7
  else
    F_X10_dryland_20 p0 p1 p0 p1 (0 : Int32) M7
def rm_X10_dryland : Room := { frames := 5, cells := 0, slots := 0, locals := 151 }
set_option maxHeartbeats 4000000 in
set_option maxRecDepth 100000 in
theorem c_X10_dryland (l : Launch) {G : zG} {ad : Nat → Nat} {n : Nat} (hA : zInj ad n) (M : zMem) (p0 : Int32) (p1 : Int32) (hT : zT shM n 0 11) {r9 : Int32} {M9 : zMem} (hF : F_X10_dryland M p0 p1 = some (r9, M9)) : zM l yX10_dryland cX10_dryland 5 (some .int) rm_X10_dryland G shM ad n M [.ref (ad 0), .int p0, .int p1] (some (.int r9)) M9 := by
  refine zM_of hA (by decide +kernel) (lv := [(0, .ref (ad 0)), (1, .int p0), (2, .int p1)]) (Nat.le_of_ble_eq_true rfl) rfl (fun p e s m args below meth c A cx hr => ?_)
  have hb69 : ∀ (self45 : Int32 → Int32 → zMem → Option (Int32 × zMem)) (hs45 : ∀ (b45_L3 : Int32) (b45_L4 : Int32) (M : zMem), self45 b45_L3 b45_L4 M = some (r9, M9) → zJ p l e rm_X10_dryland s m args below meth c G shM ad n A 5 (MQ below (zQ G shM ad n M9 (some (.int r9)) A) args s 0 0 A) 0 0 M 45 [(0, .ref (ad 0)), (3, .int b45_L3), (4, .int b45_L4)] []), ∀ (b69_L4 : Int32) (b69_S0 : Int32) (b69_S1 : Int32) (M : zMem), F_X10_dryland_69 p0 p1 self45 b69_L4 b69_S0 b69_S1 M = some (r9, M9) → zJ p l e rm_X10_dryland s m args below meth c G shM ad n A 5 (MQ below (zQ G shM ad n M9 (some (.int r9)) A) args s 0 0 A) 0 0 M 69 [(0, .ref (ad 0)), (4, .int b69_L4)] [.int b69_S1, .int b69_S0] := by
    intro self45 hs45 b69_L4 b69_S0 b69_S1 M hF
    unfold F_X10_dryland_69 at hF
    refine z_iadd cx d_X10_dryland_69 ?_
    refine z_nm hF (fun v1 hF => ?_)
    refine z_istore_n cx 3 [(3, .int v1), (0, .ref (ad 0)), (4, .int b69_L4)] d_X10_dryland_70 rfl (by decide) rfl ?_
    refine z_iinc cx 4 1 [(4, .int (b69_L4 + 1)), (3, .int v1), (0, .ref (ad 0))] d_X10_dryland_71 2 rfl ki_1 (by decide) rfl ?_
    refine z_goto cx 45 d_X10_dryland_74 (by decide) ?_
    exact z_lv [2, 1, 0] _ rfl (hs45 v1 (b69_L4 + 1) M hF)
  have hL45 : ∀ (fuel : Nat), ∀ (b45_L3 : Int32) (b45_L4 : Int32) (M : zMem), itF (fun _ _ _ => none) (F_X10_dryland_45 p0 p1) fuel b45_L3 b45_L4 M = some (r9, M9) → zJ p l e rm_X10_dryland s m args below meth c G shM ad n A 5 (MQ below (zQ G shM ad n M9 (some (.int r9)) A) args s 0 0 A) 0 0 M 45 [(0, .ref (ad 0)), (3, .int b45_L3), (4, .int b45_L4)] [] := by
    intro fuel
    induction fuel with
    | zero => intro b45_L3 b45_L4 M hF; cases hF
    | succ fuel hs45 =>
      intro b45_L3 b45_L4 M hF
      have hF : F_X10_dryland_45 p0 p1 (itF (fun _ _ _ => none) (F_X10_dryland_45 p0 p1) fuel) b45_L3 b45_L4 M = some (r9, M9) := hF
      generalize itF (fun _ _ _ => none) (F_X10_dryland_45 p0 p1) fuel = self45 at hs45 hF
      unfold F_X10_dryland_45 at hF
      refine z_iload cx d_X10_dryland_45 2 rfl ?_
      refine z_bipush (v := 64) cx d_X10_dryland_47 kb_64 ?_
      refine z_icmp_ge cx 77 d_X10_dryland_49 (by decide) hF (fun hF => ?_) (fun hF => ?_)
      · refine z_iload_n cx d_X10_dryland_77 1 rfl ?_
        exact z_iret cx hr rfl hF d_X10_dryland_78
      refine z_iload_n cx d_X10_dryland_52 1 rfl ?_
      refine z_aload_n cx d_X10_dryland_53 0 rfl ?_
      refine z_getR cx hT fg_SunnyPansModel_70 474 rfl d_X10_dryland_54 ?_
      refine z_iload cx d_X10_dryland_57 2 rfl ?_
      obtain ⟨hi2, hF⟩ := gin_inv hF
      refine z_iald cx (tfM_11_474 hT) za_16 hi2 b45_L4.toNatClampNeg rfl d_X10_dryland_59 ?_
      refine z_iconst (v := -1) cx d_X10_dryland_60 ki_m1 ?_
      refine z_icmp_ne cx 68 d_X10_dryland_61 (by decide) hF (fun hF => ?_) (fun hF => ?_)
      · refine z_iconst (v := 1) cx d_X10_dryland_68 ki_1 ?_
        exact z_lv [0, 2] _ rfl (hb69 self45 hs45 b45_L4 b45_L3 (1 : Int32) M hF)
      refine z_iconst (v := 0) cx d_X10_dryland_64 ki_0 ?_
      refine z_goto cx 69 d_X10_dryland_65 (by decide) ?_
      exact z_lv [0, 2] _ rfl (hb69 self45 hs45 b45_L4 b45_L3 (0 : Int32) M hF)
  have hb20 : ∀ (b20_L1 : Int32) (b20_L2 : Int32) (b20_S1 : Int32) (M : zMem), F_X10_dryland_20 p0 p1 b20_L1 b20_L2 b20_S1 M = some (r9, M9) → zJ p l e rm_X10_dryland s m args below meth c G shM ad n A 5 (MQ below (zQ G shM ad n M9 (some (.int r9)) A) args s 0 0 A) 0 0 M 20 [(0, .ref (ad 0)), (1, .int b20_L1), (2, .int b20_L2)] [.int b20_S1, .ref (ad 0)] := by
    intro b20_L1 b20_L2 b20_S1 M hF
    unfold F_X10_dryland_20 at hF
    refine z_iconst (v := 1) cx d_X10_dryland_20 ki_1 ?_
    refine z_iconst (v := 0) cx d_X10_dryland_21 ki_0 ?_
    obtain ⟨v4, M3, hc, hF⟩ := zb_inv hF
    refine z_callV cx (As := [.int b20_S1, .int (1 : Int32), .int (0 : Int32)]) (rest := []) (c_X10_bad l cx.2.2.2.1.1 M b20_S1 (1 : Int32) (0 : Int32) hT hc) hT zo_11 cv_SunnyPansModel_155 ⟨rfl, rfl, Nat.le_of_ble_eq_true rfl, Nat.le_of_ble_eq_true rfl⟩ rfl rfl ⟨Nat.zero_le _, Nat.zero_le _⟩ (Nat.le_of_ble_eq_true rfl) d_X10_dryland_22 ?_
    refine z_if_eq cx 30 d_X10_dryland_25 (by decide) hF (fun hF => ?_) (fun hF => ?_)
    · refine z_aload_n cx d_X10_dryland_30 0 rfl ?_
      refine z_bipush (v := 8) cx d_X10_dryland_31 kb_8 ?_
      refine z_iload_n cx d_X10_dryland_33 2 rfl ?_
      refine z_imul cx d_X10_dryland_34 ?_
      refine z_iload_n cx d_X10_dryland_35 1 rfl ?_
      refine z_iadd cx d_X10_dryland_36 ?_
      obtain ⟨M5, hc, hF⟩ := zbv_inv hF
      refine z_callV cx (As := [.int (((8 : Int32) * b20_L2) + b20_L1)]) (rest := []) (c_X10_spreads l cx.2.2.2.1.1 M3 (((8 : Int32) * b20_L2) + b20_L1) hT hc) hT zo_11 cv_SunnyPansModel_354 ⟨rfl, rfl, Nat.le_of_ble_eq_true rfl, Nat.le_of_ble_eq_true rfl⟩ rfl rfl ⟨Nat.zero_le _, Nat.zero_le _⟩ (Nat.le_of_ble_eq_true rfl) d_X10_dryland_37 ?_
      refine z_iconst (v := 0) cx d_X10_dryland_40 ki_0 ?_
      refine z_istore_n cx 3 [(3, .int (0 : Int32)), (0, .ref (ad 0)), (1, .int b20_L1), (2, .int b20_L2)] d_X10_dryland_41 rfl (by decide) rfl ?_
      refine z_iconst (v := 0) cx d_X10_dryland_42 ki_0 ?_
      refine z_istore cx 4 [(4, .int (0 : Int32)), (3, .int (0 : Int32)), (0, .ref (ad 0)), (1, .int b20_L1), (2, .int b20_L2)] d_X10_dryland_43 (by decide) rfl ?_
      exact z_lv [2, 1, 0] _ rfl (hL45 zFuel (0 : Int32) (0 : Int32) M5 hF)
    refine z_iconst (v := 0) cx d_X10_dryland_28 ki_0 ?_
    exact z_iret cx hr rfl hF d_X10_dryland_29
  unfold F_X10_dryland at hF
  refine z_aload_n cx d_X10_dryland_0 0 rfl ?_
  refine z_iconst (v := 0) cx d_X10_dryland_1 ki_0 ?_
  refine z_putI cx hT fp_SunnyPansModel_82 d_X10_dryland_2 ?_
  refine z_nmM hF (fun M6 hF => ?_)
  refine z_aload_n cx d_X10_dryland_5 0 rfl ?_
  refine z_aload_n cx d_X10_dryland_6 0 rfl ?_
  refine z_iload_n cx d_X10_dryland_7 1 rfl ?_
  refine z_iload_n cx d_X10_dryland_8 2 rfl ?_
  obtain ⟨v8, M7, hc, hF⟩ := zb_inv hF
  refine z_callV cx (As := [.int p0, .int p1]) (rest := [.ref (ad 0)]) (c_X10_isWithin l cx.2.2.2.1.1 M6 p0 p1 hT hc) hT zo_11 cv_SunnyPansModel_237 ⟨rfl, rfl, Nat.le_of_ble_eq_true rfl, Nat.le_of_ble_eq_true rfl⟩ rfl rfl ⟨Nat.zero_le _, Nat.zero_le _⟩ (Nat.le_of_ble_eq_true rfl) d_X10_dryland_9 ?_
  refine z_if_ne cx 19 d_X10_dryland_12 (by decide) hF (fun hF => ?_) (fun hF => ?_)
  · refine z_iconst (v := 0) cx d_X10_dryland_19 ki_0 ?_
    exact hb20 p0 p1 (0 : Int32) M7 hF
  refine z_iconst (v := 1) cx d_X10_dryland_15 ki_1 ?_
  refine z_goto cx 20 d_X10_dryland_16 (by decide) ?_
  exact hb20 p0 p1 (1 : Int32) M7 hF
/-! SunnyPansModel.isSo -/
theorem d_X10_isSo_0 : decode cX10_isSo 0 = .ok (.aload_n 0, 1) := by decide +kernel
theorem d_X10_isSo_1 : decode cX10_isSo 1 = .ok (.getfield 58, 3) := by decide +kernel
theorem d_X10_isSo_4 : decode cX10_isSo 4 = .ok (.aload_n 0, 1) := by decide +kernel
theorem d_X10_isSo_5 : decode cX10_isSo 5 = .ok (.getfield 61, 3) := by decide +kernel
theorem d_X10_isSo_8 : decode cX10_isSo 8 = .ok (.invokestatic 315, 3) := by decide +kernel
theorem d_X10_isSo_11 : decode cX10_isSo 11 = .ok (.aload_n 0, 1) := by decide +kernel
theorem d_X10_isSo_12 : decode cX10_isSo 12 = .ok (.getfield 61, 3) := by decide +kernel
theorem d_X10_isSo_15 : decode cX10_isSo 15 = .ok (.sipush 128, 3) := by decide +kernel
theorem d_X10_isSo_18 : decode cX10_isSo 18 = .ok (.iload_n 1, 1) := by decide +kernel
theorem d_X10_isSo_19 : decode cX10_isSo 19 = .ok (.iadd, 1) := by decide +kernel
theorem d_X10_isSo_20 : decode cX10_isSo 20 = .ok (.iload_n 2, 1) := by decide +kernel
theorem d_X10_isSo_21 : decode cX10_isSo 21 = .ok (.iastore, 1) := by decide +kernel
theorem d_X10_isSo_22 : decode cX10_isSo 22 = .ok (.iconst 0, 1) := by decide +kernel
theorem d_X10_isSo_23 : decode cX10_isSo 23 = .ok (.istore_n 3, 1) := by decide +kernel
theorem d_X10_isSo_24 : decode cX10_isSo 24 = .ok (.iload_n 3, 1) := by decide +kernel
theorem d_X10_isSo_25 : decode cX10_isSo 25 = .ok (.aload_n 0, 1) := by decide +kernel
theorem d_X10_isSo_26 : decode cX10_isSo 26 = .ok (.getfield 23, 3) := by decide +kernel
theorem d_X10_isSo_29 : decode cX10_isSo 29 = .ok (.iconst 2, 1) := by decide +kernel
theorem d_X10_isSo_30 : decode cX10_isSo 30 = .ok (.iaload, 1) := by decide +kernel
theorem d_X10_isSo_31 : decode cX10_isSo 31 = .ok (.if_icmp .ge 17, 3) := by decide +kernel
theorem d_X10_isSo_34 : decode cX10_isSo 34 = .ok (.aload_n 0, 1) := by decide +kernel
theorem d_X10_isSo_35 : decode cX10_isSo 35 = .ok (.aload_n 0, 1) := by decide +kernel
theorem d_X10_isSo_36 : decode cX10_isSo 36 = .ok (.getfield 61, 3) := by decide +kernel
theorem d_X10_isSo_39 : decode cX10_isSo 39 = .ok (.invokevirtual 299, 3) := by decide +kernel
theorem d_X10_isSo_42 : decode cX10_isSo 42 = .ok (.iinc 3 1, 3) := by decide +kernel
theorem d_X10_isSo_45 : decode cX10_isSo 45 = .ok (.goto (-21), 3) := by decide +kernel
theorem d_X10_isSo_48 : decode cX10_isSo 48 = .ok (.iconst 0, 1) := by decide +kernel
theorem d_X10_isSo_49 : decode cX10_isSo 49 = .ok (.istore_n 3, 1) := by decide +kernel
theorem d_X10_isSo_50 : decode cX10_isSo 50 = .ok (.iload_n 3, 1) := by decide +kernel
theorem d_X10_isSo_51 : decode cX10_isSo 51 = .ok (.aload_n 0, 1) := by decide +kernel
theorem d_X10_isSo_52 : decode cX10_isSo 52 = .ok (.getfield 175, 3) := by decide +kernel
theorem d_X10_isSo_55 : decode cX10_isSo 55 = .ok (.if_icmp .ge 37, 3) := by decide +kernel
theorem d_X10_isSo_58 : decode cX10_isSo 58 = .ok (.aload_n 0, 1) := by decide +kernel
theorem d_X10_isSo_59 : decode cX10_isSo 59 = .ok (.getfield 61, 3) := by decide +kernel
theorem d_X10_isSo_62 : decode cX10_isSo 62 = .ok (.iconst 0, 1) := by decide +kernel
theorem d_X10_isSo_63 : decode cX10_isSo 63 = .ok (.aload_n 0, 1) := by decide +kernel
theorem d_X10_isSo_64 : decode cX10_isSo 64 = .ok (.getfield 43, 3) := by decide +kernel
theorem d_X10_isSo_67 : decode cX10_isSo 67 = .ok (.iload_n 3, 1) := by decide +kernel
theorem d_X10_isSo_68 : decode cX10_isSo 68 = .ok (.aaload, 1) := by decide +kernel
theorem d_X10_isSo_69 : decode cX10_isSo 69 = .ok (.iconst 0, 1) := by decide +kernel
theorem d_X10_isSo_70 : decode cX10_isSo 70 = .ok (.iaload, 1) := by decide +kernel
theorem d_X10_isSo_71 : decode cX10_isSo 71 = .ok (.iadd, 1) := by decide +kernel
theorem d_X10_isSo_72 : decode cX10_isSo 72 = .ok (.iaload, 1) := by decide +kernel
theorem d_X10_isSo_73 : decode cX10_isSo 73 = .ok (.aload_n 0, 1) := by decide +kernel
theorem d_X10_isSo_74 : decode cX10_isSo 74 = .ok (.getfield 43, 3) := by decide +kernel
theorem d_X10_isSo_77 : decode cX10_isSo 77 = .ok (.iload_n 3, 1) := by decide +kernel
theorem d_X10_isSo_78 : decode cX10_isSo 78 = .ok (.aaload, 1) := by decide +kernel
theorem d_X10_isSo_79 : decode cX10_isSo 79 = .ok (.iconst 1, 1) := by decide +kernel
theorem d_X10_isSo_80 : decode cX10_isSo 80 = .ok (.iaload, 1) := by decide +kernel
theorem d_X10_isSo_81 : decode cX10_isSo 81 = .ok (.if_icmp .eq 5, 3) := by decide +kernel
theorem d_X10_isSo_84 : decode cX10_isSo 84 = .ok (.iconst 0, 1) := by decide +kernel
theorem d_X10_isSo_85 : decode cX10_isSo 85 = .ok (.ireturn, 1) := by decide +kernel
theorem d_X10_isSo_86 : decode cX10_isSo 86 = .ok (.iinc 3 1, 3) := by decide +kernel
theorem d_X10_isSo_89 : decode cX10_isSo 89 = .ok (.goto (-39), 3) := by decide +kernel
theorem d_X10_isSo_92 : decode cX10_isSo 92 = .ok (.iconst 1, 1) := by decide +kernel
theorem d_X10_isSo_93 : decode cX10_isSo 93 = .ok (.ireturn, 1) := by decide +kernel
noncomputable def F_X10_isSo_50 (p0 : Int32) (p1 : Int32) (self50 : Int32 → zMem → Option (Int32 × zMem)) (b50_L3 : Int32) (M : zMem) : Option (Int32 × zMem) :=
  if (M.1 0 30) ≤ b50_L3 then
    some ((1 : Int32), M)
  else
    gin b50_L3 8 <|
    gin ((0 : Int32) + (M.1 (350 + (1 + 1 * b50_L3.toNatClampNeg)) 0)) 195 <|
    if (M.1 452 ((0 : Int32) + (M.1 (350 + (1 + 1 * b50_L3.toNatClampNeg)) 0)).toNatClampNeg) = (M.1 (350 + (1 + 1 * b50_L3.toNatClampNeg)) 1) then
      self50 (b50_L3 + 1) M
    else
      some ((0 : Int32), M)
noncomputable def F_X10_isSo_24 (p0 : Int32) (p1 : Int32) (self24 : Int32 → zMem → Option (Int32 × zMem)) (b24_L3 : Int32) (M : zMem) : Option (Int32 × zMem) :=
  if (M.1 4 2) ≤ b24_L3 then
    itF (fun _ _ => none) (F_X10_isSo_50 p0 p1) zFuel (0 : Int32) M
  else
    zbv (F_X10_hourEnds M 452) fun M3 =>
    self24 (b24_L3 + 1) M3
noncomputable def F_X10_isSo (M : zMem) (p0 : Int32) (p1 : Int32) : Option (Int32 × zMem) :=
  zbv (F_X10_copies M 451 452) fun M4 =>
  gin ((128 : Int32) + p0) 195 <|
  zl (zI M4 452 (((128 : Int32) + p0).toNatClampNeg) p1) fun M6 =>
  itF (fun _ _ => none) (F_X10_isSo_24 p0 p1) zFuel (0 : Int32) M6
def rm_X10_isSo : Room := { frames := 9, cells := 0, slots := 0, locals := 240 }
set_option maxHeartbeats 4000000 in
set_option maxRecDepth 100000 in
theorem c_X10_isSo (l : Launch) {G : zG} {ad : Nat → Nat} {n : Nat} (hA : zInj ad n) (M : zMem) (p0 : Int32) (p1 : Int32) (hT : zT shM n 0 11) {r9 : Int32} {M9 : zMem} (hF : F_X10_isSo M p0 p1 = some (r9, M9)) : zM l yX10_isSo cX10_isSo 4 (some .boolean) rm_X10_isSo G shM ad n M [.ref (ad 0), .int p0, .int p1] (some (.int r9)) M9 := by
  refine zM_of hA (by decide +kernel) (lv := [(0, .ref (ad 0)), (1, .int p0), (2, .int p1)]) (Nat.le_of_ble_eq_true rfl) rfl (fun p e s m args below meth c A cx hr => ?_)
  have hL50 : ∀ (fuel : Nat), ∀ (b50_L3 : Int32) (M : zMem), itF (fun _ _ => none) (F_X10_isSo_50 p0 p1) fuel b50_L3 M = some (r9, M9) → zJ p l e rm_X10_isSo s m args below meth c G shM ad n A 4 (MQ below (zQ G shM ad n M9 (some (.int r9)) A) args s 0 0 A) 0 0 M 50 [(0, .ref (ad 0)), (3, .int b50_L3)] [] := by
    intro fuel
    induction fuel with
    | zero => intro b50_L3 M hF; cases hF
    | succ fuel hs50 =>
      intro b50_L3 M hF
      have hF : F_X10_isSo_50 p0 p1 (itF (fun _ _ => none) (F_X10_isSo_50 p0 p1) fuel) b50_L3 M = some (r9, M9) := hF
      generalize itF (fun _ _ => none) (F_X10_isSo_50 p0 p1) fuel = self50 at hs50 hF
      unfold F_X10_isSo_50 at hF
      refine z_iload_n cx d_X10_isSo_50 1 rfl ?_
      refine z_aload_n cx d_X10_isSo_51 0 rfl ?_
      refine z_getI cx hT fg_SunnyPansModel_175 d_X10_isSo_52 ?_
      refine z_icmp_ge cx 92 d_X10_isSo_55 (by decide) hF (fun hF => ?_) (fun hF => ?_)
      · refine z_iconst (v := 1) cx d_X10_isSo_92 ki_1 ?_
        exact z_iret cx hr nb1 hF d_X10_isSo_93
      refine z_aload_n cx d_X10_isSo_58 0 rfl ?_
      refine z_getR cx hT fg_SunnyPansModel_61 452 rfl d_X10_isSo_59 ?_
      refine z_iconst (v := 0) cx d_X10_isSo_62 ki_0 ?_
      refine z_aload_n cx d_X10_isSo_63 0 rfl ?_
      refine z_getR cx hT fg_SunnyPansModel_43 350 rfl d_X10_isSo_64 ?_
      refine z_iload_n cx d_X10_isSo_67 1 rfl ?_
      obtain ⟨hi1, hF⟩ := gin_inv hF
      refine z_aald cx (tfM_11_350 hT) za_32 hi1 (350 + (1 + 1 * b50_L3.toNatClampNeg)) rfl d_X10_isSo_68 ?_
      refine z_iconst (v := 0) cx d_X10_isSo_69 ki_0 ?_
      refine z_iald cx (teM_32 (tfM_11_350 hT) hi1) za_27 (zvp (by decide +kernel)) 0 rfl d_X10_isSo_70 ?_
      refine z_iadd cx d_X10_isSo_71 ?_
      obtain ⟨hi2, hF⟩ := gin_inv hF
      refine z_iald cx (tfM_11_452 hT) za_36 hi2 (((0 : Int32) + (M.1 (350 + (1 + 1 * b50_L3.toNatClampNeg)) 0)).toNatClampNeg) rfl d_X10_isSo_72 ?_
      refine z_aload_n cx d_X10_isSo_73 0 rfl ?_
      refine z_getR cx hT fg_SunnyPansModel_43 350 rfl d_X10_isSo_74 ?_
      refine z_iload_n cx d_X10_isSo_77 1 rfl ?_
      refine z_aald cx (tfM_11_350 hT) za_32 hi1 (350 + (1 + 1 * b50_L3.toNatClampNeg)) rfl d_X10_isSo_78 ?_
      refine z_iconst (v := 1) cx d_X10_isSo_79 ki_1 ?_
      refine z_iald cx (teM_32 (tfM_11_350 hT) hi1) za_27 (zvp (by decide +kernel)) 1 rfl d_X10_isSo_80 ?_
      refine z_icmp_eq cx 86 d_X10_isSo_81 (by decide) hF (fun hF => ?_) (fun hF => ?_)
      · refine z_iinc cx 3 1 [(3, .int (b50_L3 + 1)), (0, .ref (ad 0))] d_X10_isSo_86 1 rfl ki_1 (by decide) rfl ?_
        refine z_goto cx 50 d_X10_isSo_89 (by decide) ?_
        exact z_lv [1, 0] _ rfl (hs50 (b50_L3 + 1) M hF)
      refine z_iconst (v := 0) cx d_X10_isSo_84 ki_0 ?_
      exact z_iret cx hr nb0 hF d_X10_isSo_85
  have hL24 : ∀ (fuel : Nat), ∀ (b24_L3 : Int32) (M : zMem), itF (fun _ _ => none) (F_X10_isSo_24 p0 p1) fuel b24_L3 M = some (r9, M9) → zJ p l e rm_X10_isSo s m args below meth c G shM ad n A 4 (MQ below (zQ G shM ad n M9 (some (.int r9)) A) args s 0 0 A) 0 0 M 24 [(0, .ref (ad 0)), (3, .int b24_L3)] [] := by
    intro fuel
    induction fuel with
    | zero => intro b24_L3 M hF; cases hF
    | succ fuel hs24 =>
      intro b24_L3 M hF
      have hF : F_X10_isSo_24 p0 p1 (itF (fun _ _ => none) (F_X10_isSo_24 p0 p1) fuel) b24_L3 M = some (r9, M9) := hF
      generalize itF (fun _ _ => none) (F_X10_isSo_24 p0 p1) fuel = self24 at hs24 hF
      unfold F_X10_isSo_24 at hF
      refine z_iload_n cx d_X10_isSo_24 1 rfl ?_
      refine z_aload_n cx d_X10_isSo_25 0 rfl ?_
      refine z_getR cx hT fg_SunnyPansModel_23 4 rfl d_X10_isSo_26 ?_
      refine z_iconst (v := 2) cx d_X10_isSo_29 ki_2 ?_
      refine z_iald cx (tfM_11_4 hT) za_28 (zvp (by decide +kernel)) 2 rfl d_X10_isSo_30 ?_
      refine z_icmp_ge cx 48 d_X10_isSo_31 (by decide) hF (fun hF => ?_) (fun hF => ?_)
      · refine z_iconst (v := 0) cx d_X10_isSo_48 ki_0 ?_
        refine z_istore_n cx 3 [(3, .int (0 : Int32)), (0, .ref (ad 0))] d_X10_isSo_49 rfl (by decide) rfl ?_
        exact z_lv [1, 0] _ rfl (hL50 zFuel (0 : Int32) M hF)
      refine z_aload_n cx d_X10_isSo_34 0 rfl ?_
      refine z_aload_n cx d_X10_isSo_35 0 rfl ?_
      refine z_getR cx hT fg_SunnyPansModel_61 452 rfl d_X10_isSo_36 ?_
      obtain ⟨M3, hc, hF⟩ := zbv_inv hF
      refine z_callV cx (As := [.ref (ad 452)]) (rest := []) (c_X10_hourEnds l cx.2.2.2.1.1 M 452 hT (tfM_11_452 hT) hc) hT zo_11 cv_SunnyPansModel_299 ⟨rfl, rfl, Nat.le_of_ble_eq_true rfl, Nat.le_of_ble_eq_true rfl⟩ rfl rfl ⟨Nat.zero_le _, Nat.zero_le _⟩ (Nat.le_of_ble_eq_true rfl) d_X10_isSo_39 ?_
      refine z_iinc cx 3 1 [(3, .int (b24_L3 + 1)), (0, .ref (ad 0))] d_X10_isSo_42 1 rfl ki_1 (by decide) rfl ?_
      refine z_goto cx 24 d_X10_isSo_45 (by decide) ?_
      exact z_lv [1, 0] _ rfl (hs24 (b24_L3 + 1) M3 hF)
  unfold F_X10_isSo at hF
  refine z_aload_n cx d_X10_isSo_0 0 rfl ?_
  refine z_getR cx hT fg_SunnyPansModel_58 451 rfl d_X10_isSo_1 ?_
  refine z_aload_n cx d_X10_isSo_4 0 rfl ?_
  refine z_getR cx hT fg_SunnyPansModel_61 452 rfl d_X10_isSo_5 ?_
  obtain ⟨M4, hc, hF⟩ := zbv_inv hF
  refine z_callS cx (As := [.ref (ad 451), .ref (ad 452)]) (rest := []) (c_X10_copies l cx.2.2.2.1.1 M 451 452 (tfM_11_451 hT) (tfM_11_452 hT) hc) cs_SunnyPansModel_315 ⟨rfl, rfl, Nat.le_of_ble_eq_true rfl, Nat.le_of_ble_eq_true rfl⟩ rfl rfl ⟨Nat.zero_le _, Nat.zero_le _⟩ (Nat.le_of_ble_eq_true rfl) d_X10_isSo_8 ?_
  refine z_aload_n cx d_X10_isSo_11 0 rfl ?_
  refine z_getR cx hT fg_SunnyPansModel_61 452 rfl d_X10_isSo_12 ?_
  refine z_sipush (v := 128) cx d_X10_isSo_15 ks_128 ?_
  refine z_iload_n cx d_X10_isSo_18 1 rfl ?_
  refine z_iadd cx d_X10_isSo_19 ?_
  refine z_iload_n cx d_X10_isSo_20 2 rfl ?_
  obtain ⟨hi5, hF⟩ := gin_inv hF
  refine z_iast cx (tfM_11_452 hT) za_36 hi5 (((128 : Int32) + p0).toNatClampNeg) rfl d_X10_isSo_21 ?_
  refine z_nmM hF (fun M6 hF => ?_)
  refine z_iconst (v := 0) cx d_X10_isSo_22 ki_0 ?_
  refine z_istore_n cx 3 [(3, .int (0 : Int32)), (0, .ref (ad 0)), (1, .int p0), (2, .int p1)] d_X10_isSo_23 rfl (by decide) rfl ?_
  exact z_lv [1, 0] _ rfl (hL24 zFuel (0 : Int32) M6 hF)
/-! SunnyPansModel.fits -/
set_option maxRecDepth 100000 in
theorem wd_1855 : Cond.code yX10_isSo cX10_isSo 4 (some .boolean) ∈ tbG := tw8 75 rfl rfl
set_option maxRecDepth 100000 in
theorem wd_1852 : Cond.methodLink "SunnyPansModel" 357 yX10_isSo ∈ tbG := tw8 72 rfl rfl
set_option maxRecDepth 100000 in
theorem wd_1854 : Cond.instanceMethod yX10_isSo ∈ tbG := tw8 74 rfl rfl
theorem wd_91 : Cond.selects "SunnyPansModel" yX10_isSo yX10_isSo ∈ tbG := tw 91 (by decide +kernel) rfl
theorem cv_SunnyPansModel_357 : zCV "SunnyPansModel" 357 "SunnyPansModel" yX10_isSo cX10_isSo 4 (some .boolean) 2 := zCV_of wd_1852 wd_1854 wd_91 wd_111 wd_1855 (by decide +kernel)
theorem d_X10_fits_0 : decode cX10_fits 0 = .ok (.aload_n 0, 1) := by decide +kernel
theorem d_X10_fits_1 : decode cX10_fits 1 = .ok (.iconst 0, 1) := by decide +kernel
theorem d_X10_fits_2 : decode cX10_fits 2 = .ok (.putfield 82, 3) := by decide +kernel
theorem d_X10_fits_5 : decode cX10_fits 5 = .ok (.aload_n 0, 1) := by decide +kernel
theorem d_X10_fits_6 : decode cX10_fits 6 = .ok (.iload_n 1, 1) := by decide +kernel
theorem d_X10_fits_7 : decode cX10_fits 7 = .ok (.iconst 1, 1) := by decide +kernel
theorem d_X10_fits_8 : decode cX10_fits 8 = .ok (.sipush 999, 3) := by decide +kernel
theorem d_X10_fits_11 : decode cX10_fits 11 = .ok (.invokestatic 116, 3) := by decide +kernel
theorem d_X10_fits_14 : decode cX10_fits 14 = .ok (.ifCond .eq 12, 3) := by decide +kernel
theorem d_X10_fits_17 : decode cX10_fits 17 = .ok (.iload_n 2, 1) := by decide +kernel
theorem d_X10_fits_18 : decode cX10_fits 18 = .ok (.iconst 0, 1) := by decide +kernel
theorem d_X10_fits_19 : decode cX10_fits 19 = .ok (.iconst 1, 1) := by decide +kernel
theorem d_X10_fits_20 : decode cX10_fits 20 = .ok (.invokestatic 116, 3) := by decide +kernel
theorem d_X10_fits_23 : decode cX10_fits 23 = .ok (.ifCond .ne 7, 3) := by decide +kernel
theorem d_X10_fits_26 : decode cX10_fits 26 = .ok (.iconst 1, 1) := by decide +kernel
theorem d_X10_fits_27 : decode cX10_fits 27 = .ok (.goto 4, 3) := by decide +kernel
theorem d_X10_fits_30 : decode cX10_fits 30 = .ok (.iconst 0, 1) := by decide +kernel
theorem d_X10_fits_31 : decode cX10_fits 31 = .ok (.iconst 1, 1) := by decide +kernel
theorem d_X10_fits_32 : decode cX10_fits 32 = .ok (.iconst 1, 1) := by decide +kernel
theorem d_X10_fits_33 : decode cX10_fits 33 = .ok (.invokevirtual 155, 3) := by decide +kernel
theorem d_X10_fits_36 : decode cX10_fits 36 = .ok (.ifCond .eq 5, 3) := by decide +kernel
theorem d_X10_fits_39 : decode cX10_fits 39 = .ok (.iconst 0, 1) := by decide +kernel
theorem d_X10_fits_40 : decode cX10_fits 40 = .ok (.ireturn, 1) := by decide +kernel
theorem d_X10_fits_41 : decode cX10_fits 41 = .ok (.iconst 0, 1) := by decide +kernel
theorem d_X10_fits_42 : decode cX10_fits 42 = .ok (.istore_n 3, 1) := by decide +kernel
theorem d_X10_fits_43 : decode cX10_fits 43 = .ok (.iconst (-1), 1) := by decide +kernel
theorem d_X10_fits_44 : decode cX10_fits 44 = .ok (.istore 4, 2) := by decide +kernel
theorem d_X10_fits_46 : decode cX10_fits 46 = .ok (.iconst 0, 1) := by decide +kernel
theorem d_X10_fits_47 : decode cX10_fits 47 = .ok (.istore 5, 2) := by decide +kernel
theorem d_X10_fits_49 : decode cX10_fits 49 = .ok (.iload 5, 2) := by decide +kernel
theorem d_X10_fits_51 : decode cX10_fits 51 = .ok (.bipush 64, 2) := by decide +kernel
theorem d_X10_fits_53 : decode cX10_fits 53 = .ok (.if_icmp .ge 47, 3) := by decide +kernel
theorem d_X10_fits_56 : decode cX10_fits 56 = .ok (.aload_n 0, 1) := by decide +kernel
theorem d_X10_fits_57 : decode cX10_fits 57 = .ok (.iload 5, 2) := by decide +kernel
theorem d_X10_fits_59 : decode cX10_fits 59 = .ok (.invokevirtual 348, 3) := by decide +kernel
theorem d_X10_fits_62 : decode cX10_fits 62 = .ok (.ifCond .eq 32, 3) := by decide +kernel
theorem d_X10_fits_65 : decode cX10_fits 65 = .ok (.aload_n 0, 1) := by decide +kernel
theorem d_X10_fits_66 : decode cX10_fits 66 = .ok (.iload 5, 2) := by decide +kernel
theorem d_X10_fits_68 : decode cX10_fits 68 = .ok (.iload_n 1, 1) := by decide +kernel
theorem d_X10_fits_69 : decode cX10_fits 69 = .ok (.invokevirtual 357, 3) := by decide +kernel
theorem d_X10_fits_72 : decode cX10_fits 72 = .ok (.ifCond .ne 6, 3) := by decide +kernel
theorem d_X10_fits_75 : decode cX10_fits 75 = .ok (.goto 19, 3) := by decide +kernel
theorem d_X10_fits_78 : decode cX10_fits 78 = .ok (.iload_n 3, 1) := by decide +kernel
theorem d_X10_fits_79 : decode cX10_fits 79 = .ok (.ifCond .ne 8, 3) := by decide +kernel
theorem d_X10_fits_82 : decode cX10_fits 82 = .ok (.iload 5, 2) := by decide +kernel
theorem d_X10_fits_84 : decode cX10_fits 84 = .ok (.goto 5, 3) := by decide +kernel
theorem d_X10_fits_87 : decode cX10_fits 87 = .ok (.iload 4, 2) := by decide +kernel
theorem d_X10_fits_89 : decode cX10_fits 89 = .ok (.istore 4, 2) := by decide +kernel
theorem d_X10_fits_91 : decode cX10_fits 91 = .ok (.iinc 3 1, 3) := by decide +kernel
theorem d_X10_fits_94 : decode cX10_fits 94 = .ok (.iinc 5 1, 3) := by decide +kernel
theorem d_X10_fits_97 : decode cX10_fits 97 = .ok (.goto (-48), 3) := by decide +kernel
theorem d_X10_fits_100 : decode cX10_fits 100 = .ok (.iload_n 2, 1) := by decide +kernel
theorem d_X10_fits_101 : decode cX10_fits 101 = .ok (.ifCond .ne 7, 3) := by decide +kernel
theorem d_X10_fits_104 : decode cX10_fits 104 = .ok (.iload_n 3, 1) := by decide +kernel
theorem d_X10_fits_105 : decode cX10_fits 105 = .ok (.goto 8, 3) := by decide +kernel
theorem d_X10_fits_108 : decode cX10_fits 108 = .ok (.iload 4, 2) := by decide +kernel
theorem d_X10_fits_110 : decode cX10_fits 110 = .ok (.invokestatic 345, 3) := by decide +kernel
theorem d_X10_fits_113 : decode cX10_fits 113 = .ok (.ireturn, 1) := by decide +kernel
noncomputable def F_X10_fits_94 (p0 : Int32) (p1 : Int32) (self49 : Int32 → Int32 → Int32 → Int32 → Int32 → zMem → Option (Int32 × zMem)) (b94_L1 : Int32) (b94_L2 : Int32) (b94_L3 : Int32) (b94_L4 : Int32) (b94_L5 : Int32) (M : zMem) : Option (Int32 × zMem) :=
  self49 b94_L1 b94_L2 b94_L3 b94_L4 (b94_L5 + 1) M
noncomputable def F_X10_fits_89 (p0 : Int32) (p1 : Int32) (self49 : Int32 → Int32 → Int32 → Int32 → Int32 → zMem → Option (Int32 × zMem)) (b89_L1 : Int32) (b89_L2 : Int32) (b89_L3 : Int32) (b89_L5 : Int32) (b89_S0 : Int32) (M : zMem) : Option (Int32 × zMem) :=
  F_X10_fits_94 p0 p1 self49 b89_L1 b89_L2 (b89_L3 + 1) b89_S0 b89_L5 M
noncomputable def F_X10_fits_49 (p0 : Int32) (p1 : Int32) (self49 : Int32 → Int32 → Int32 → Int32 → Int32 → zMem → Option (Int32 × zMem)) (b49_L1 : Int32) (b49_L2 : Int32) (b49_L3 : Int32) (b49_L4 : Int32) (b49_L5 : Int32) (M : zMem) : Option (Int32 × zMem) :=
  if (64 : Int32) ≤ b49_L5 then
    if b49_L2 = 0 then
      some (b49_L3, M)
    else
      zb (F_X10_asTold M b49_L4) fun v2 M1 =>
      some (v2, M1)
  else
    zb (F_X10_isFree M b49_L5) fun v4 M3 =>
    if v4 = 0 then
      F_X10_fits_94 p0 p1 self49 b49_L1 b49_L2 b49_L3 b49_L4 b49_L5 M3
    else
      zb (F_X10_isSo M3 b49_L5 b49_L1) fun v6 M5 =>
      if v6 = 0 then
        F_X10_fits_94 p0 p1 self49 b49_L1 b49_L2 b49_L3 b49_L4 b49_L5 M5
      else
        if b49_L3 = 0 then
          F_X10_fits_89 p0 p1 self49 b49_L1 b49_L2 b49_L3 b49_L5 b49_L5 M5
        else
          F_X10_fits_89 p0 p1 self49 b49_L1 b49_L2 b49_L3 b49_L5 b49_L4 M5
noncomputable def F_X10_fits_31 (p0 : Int32) (p1 : Int32) (b31_L1 : Int32) (b31_L2 : Int32) (b31_S1 : Int32) (M : zMem) : Option (Int32 × zMem) :=
  zb (F_X10_bad M b31_S1 (1 : Int32) (1 : Int32)) fun v8 M7 =>
  if v8 = 0 then
    itF (fun _ _ _ _ _ _ => none) (F_X10_fits_49 p0 p1) zFuel b31_L1 b31_L2 (0 : Int32) (-1 : Int32) (0 : Int32) M7
  else
    some ((0 : Int32), M7)
noncomputable def F_X10_fits (M : zMem) (p0 : Int32) (p1 : Int32) : Option (Int32 × zMem) :=
  zl (zI M 0 0 (0 : Int32)) fun M9 =>
  zb (F_X10_in M9 p0 (1 : Int32) (999 : Int32)) fun v11 M10 =>
  if v11 = 0 then
    F_X10_fits_31 p0 p1 p0 p1 (1 : Int32) M10
  else
    zb (F_X10_in M10 p1 (0 : Int32) (1 : Int32)) fun v13 M12 =>
    if v13 = 0 then
      F_X10_fits_31 p0 p1 p0 p1 (1 : Int32) M12
    else
      F_X10_fits_31 p0 p1 p0 p1 (0 : Int32) M12
def rm_X10_fits : Room := { frames := 10, cells := 0, slots := 0, locals := 263 }
set_option maxHeartbeats 4000000 in
set_option maxRecDepth 100000 in
theorem c_X10_fits (l : Launch) {G : zG} {ad : Nat → Nat} {n : Nat} (hA : zInj ad n) (M : zMem) (p0 : Int32) (p1 : Int32) (hT : zT shM n 0 11) {r9 : Int32} {M9 : zMem} (hF : F_X10_fits M p0 p1 = some (r9, M9)) : zM l yX10_fits cX10_fits 6 (some .int) rm_X10_fits G shM ad n M [.ref (ad 0), .int p0, .int p1] (some (.int r9)) M9 := by
  refine zM_of hA (by decide +kernel) (lv := [(0, .ref (ad 0)), (1, .int p0), (2, .int p1)]) (Nat.le_of_ble_eq_true rfl) rfl (fun p e s m args below meth c A cx hr => ?_)
  have hb94 : ∀ (self49 : Int32 → Int32 → Int32 → Int32 → Int32 → zMem → Option (Int32 × zMem)) (hs49 : ∀ (b49_L1 : Int32) (b49_L2 : Int32) (b49_L3 : Int32) (b49_L4 : Int32) (b49_L5 : Int32) (M : zMem), self49 b49_L1 b49_L2 b49_L3 b49_L4 b49_L5 M = some (r9, M9) → zJ p l e rm_X10_fits s m args below meth c G shM ad n A 6 (MQ below (zQ G shM ad n M9 (some (.int r9)) A) args s 0 0 A) 0 0 M 49 [(0, .ref (ad 0)), (1, .int b49_L1), (2, .int b49_L2), (3, .int b49_L3), (4, .int b49_L4), (5, .int b49_L5)] []), ∀ (b94_L1 : Int32) (b94_L2 : Int32) (b94_L3 : Int32) (b94_L4 : Int32) (b94_L5 : Int32) (M : zMem), F_X10_fits_94 p0 p1 self49 b94_L1 b94_L2 b94_L3 b94_L4 b94_L5 M = some (r9, M9) → zJ p l e rm_X10_fits s m args below meth c G shM ad n A 6 (MQ below (zQ G shM ad n M9 (some (.int r9)) A) args s 0 0 A) 0 0 M 94 [(0, .ref (ad 0)), (1, .int b94_L1), (2, .int b94_L2), (3, .int b94_L3), (4, .int b94_L4), (5, .int b94_L5)] [] := by
    intro self49 hs49 b94_L1 b94_L2 b94_L3 b94_L4 b94_L5 M hF
    unfold F_X10_fits_94 at hF
    refine z_iinc cx 5 1 [(5, .int (b94_L5 + 1)), (0, .ref (ad 0)), (1, .int b94_L1), (2, .int b94_L2), (3, .int b94_L3), (4, .int b94_L4)] d_X10_fits_94 5 rfl ki_1 (by decide) rfl ?_
    refine z_goto cx 49 d_X10_fits_97 (by decide) ?_
    exact z_lv [1, 2, 3, 4, 5, 0] _ rfl (hs49 b94_L1 b94_L2 b94_L3 b94_L4 (b94_L5 + 1) M hF)
  have hb89 : ∀ (self49 : Int32 → Int32 → Int32 → Int32 → Int32 → zMem → Option (Int32 × zMem)) (hs49 : ∀ (b49_L1 : Int32) (b49_L2 : Int32) (b49_L3 : Int32) (b49_L4 : Int32) (b49_L5 : Int32) (M : zMem), self49 b49_L1 b49_L2 b49_L3 b49_L4 b49_L5 M = some (r9, M9) → zJ p l e rm_X10_fits s m args below meth c G shM ad n A 6 (MQ below (zQ G shM ad n M9 (some (.int r9)) A) args s 0 0 A) 0 0 M 49 [(0, .ref (ad 0)), (1, .int b49_L1), (2, .int b49_L2), (3, .int b49_L3), (4, .int b49_L4), (5, .int b49_L5)] []), ∀ (b89_L1 : Int32) (b89_L2 : Int32) (b89_L3 : Int32) (b89_L5 : Int32) (b89_S0 : Int32) (M : zMem), F_X10_fits_89 p0 p1 self49 b89_L1 b89_L2 b89_L3 b89_L5 b89_S0 M = some (r9, M9) → zJ p l e rm_X10_fits s m args below meth c G shM ad n A 6 (MQ below (zQ G shM ad n M9 (some (.int r9)) A) args s 0 0 A) 0 0 M 89 [(0, .ref (ad 0)), (1, .int b89_L1), (2, .int b89_L2), (3, .int b89_L3), (5, .int b89_L5)] [.int b89_S0] := by
    intro self49 hs49 b89_L1 b89_L2 b89_L3 b89_L5 b89_S0 M hF
    unfold F_X10_fits_89 at hF
    refine z_istore cx 4 [(4, .int b89_S0), (0, .ref (ad 0)), (1, .int b89_L1), (2, .int b89_L2), (3, .int b89_L3), (5, .int b89_L5)] d_X10_fits_89 (by decide) rfl ?_
    refine z_iinc cx 3 1 [(3, .int (b89_L3 + 1)), (4, .int b89_S0), (0, .ref (ad 0)), (1, .int b89_L1), (2, .int b89_L2), (5, .int b89_L5)] d_X10_fits_91 4 rfl ki_1 (by decide) rfl ?_
    exact z_lv [2, 3, 4, 0, 1, 5] _ rfl (hb94 self49 hs49 b89_L1 b89_L2 (b89_L3 + 1) b89_S0 b89_L5 M hF)
  have hL49 : ∀ (fuel : Nat), ∀ (b49_L1 : Int32) (b49_L2 : Int32) (b49_L3 : Int32) (b49_L4 : Int32) (b49_L5 : Int32) (M : zMem), itF (fun _ _ _ _ _ _ => none) (F_X10_fits_49 p0 p1) fuel b49_L1 b49_L2 b49_L3 b49_L4 b49_L5 M = some (r9, M9) → zJ p l e rm_X10_fits s m args below meth c G shM ad n A 6 (MQ below (zQ G shM ad n M9 (some (.int r9)) A) args s 0 0 A) 0 0 M 49 [(0, .ref (ad 0)), (1, .int b49_L1), (2, .int b49_L2), (3, .int b49_L3), (4, .int b49_L4), (5, .int b49_L5)] [] := by
    intro fuel
    induction fuel with
    | zero => intro b49_L1 b49_L2 b49_L3 b49_L4 b49_L5 M hF; cases hF
    | succ fuel hs49 =>
      intro b49_L1 b49_L2 b49_L3 b49_L4 b49_L5 M hF
      have hF : F_X10_fits_49 p0 p1 (itF (fun _ _ _ _ _ _ => none) (F_X10_fits_49 p0 p1) fuel) b49_L1 b49_L2 b49_L3 b49_L4 b49_L5 M = some (r9, M9) := hF
      generalize itF (fun _ _ _ _ _ _ => none) (F_X10_fits_49 p0 p1) fuel = self49 at hs49 hF
      unfold F_X10_fits_49 at hF
      refine z_iload cx d_X10_fits_49 5 rfl ?_
      refine z_bipush (v := 64) cx d_X10_fits_51 kb_64 ?_
      refine z_icmp_ge cx 100 d_X10_fits_53 (by decide) hF (fun hF => ?_) (fun hF => ?_)
      · refine z_iload_n cx d_X10_fits_100 2 rfl ?_
        refine z_if_ne cx 108 d_X10_fits_101 (by decide) hF (fun hF => ?_) (fun hF => ?_)
        · refine z_iload cx d_X10_fits_108 4 rfl ?_
          obtain ⟨v2, M1, hc, hF⟩ := zb_inv hF
          refine z_callS cx (As := [.int b49_L4]) (rest := []) (c_X10_asTold l cx.2.2.2.1.1 M b49_L4  hc) cs_SunnyPansModel_345 ⟨rfl, rfl, Nat.le_of_ble_eq_true rfl, Nat.le_of_ble_eq_true rfl⟩ rfl rfl ⟨Nat.zero_le _, Nat.zero_le _⟩ (Nat.le_of_ble_eq_true rfl) d_X10_fits_110 ?_
          exact z_iret cx hr rfl hF d_X10_fits_113
        refine z_iload_n cx d_X10_fits_104 3 rfl ?_
        refine z_goto cx 113 d_X10_fits_105 (by decide) ?_
        exact z_iret cx hr rfl hF d_X10_fits_113
      refine z_aload_n cx d_X10_fits_56 0 rfl ?_
      refine z_iload cx d_X10_fits_57 5 rfl ?_
      obtain ⟨v4, M3, hc, hF⟩ := zb_inv hF
      refine z_callV cx (As := [.int b49_L5]) (rest := []) (c_X10_isFree l cx.2.2.2.1.1 M b49_L5 hT hc) hT zo_11 cv_SunnyPansModel_348 ⟨rfl, rfl, Nat.le_of_ble_eq_true rfl, Nat.le_of_ble_eq_true rfl⟩ rfl rfl ⟨Nat.zero_le _, Nat.zero_le _⟩ (Nat.le_of_ble_eq_true rfl) d_X10_fits_59 ?_
      refine z_if_eq cx 94 d_X10_fits_62 (by decide) hF (fun hF => ?_) (fun hF => ?_)
      · exact hb94 self49 hs49 b49_L1 b49_L2 b49_L3 b49_L4 b49_L5 M3 hF
      refine z_aload_n cx d_X10_fits_65 0 rfl ?_
      refine z_iload cx d_X10_fits_66 5 rfl ?_
      refine z_iload_n cx d_X10_fits_68 1 rfl ?_
      obtain ⟨v6, M5, hc, hF⟩ := zb_inv hF
      refine z_callV cx (As := [.int b49_L5, .int b49_L1]) (rest := []) (c_X10_isSo l cx.2.2.2.1.1 M3 b49_L5 b49_L1 hT hc) hT zo_11 cv_SunnyPansModel_357 ⟨rfl, rfl, Nat.le_of_ble_eq_true rfl, Nat.le_of_ble_eq_true rfl⟩ rfl rfl ⟨Nat.zero_le _, Nat.zero_le _⟩ (Nat.le_of_ble_eq_true rfl) d_X10_fits_69 ?_
      refine z_if_ne cx 78 d_X10_fits_72 (by decide) hF (fun hF => ?_) (fun hF => ?_)
      · refine z_iload_n cx d_X10_fits_78 3 rfl ?_
        refine z_if_ne cx 87 d_X10_fits_79 (by decide) hF (fun hF => ?_) (fun hF => ?_)
        · refine z_iload cx d_X10_fits_87 4 rfl ?_
          exact z_lv [0, 1, 2, 3, 5] _ rfl (hb89 self49 hs49 b49_L1 b49_L2 b49_L3 b49_L5 b49_L4 M5 hF)
        refine z_iload cx d_X10_fits_82 5 rfl ?_
        refine z_goto cx 89 d_X10_fits_84 (by decide) ?_
        exact z_lv [0, 1, 2, 3, 5] _ rfl (hb89 self49 hs49 b49_L1 b49_L2 b49_L3 b49_L5 b49_L5 M5 hF)
      refine z_goto cx 94 d_X10_fits_75 (by decide) ?_
      exact hb94 self49 hs49 b49_L1 b49_L2 b49_L3 b49_L4 b49_L5 M5 hF
  have hb31 : ∀ (b31_L1 : Int32) (b31_L2 : Int32) (b31_S1 : Int32) (M : zMem), F_X10_fits_31 p0 p1 b31_L1 b31_L2 b31_S1 M = some (r9, M9) → zJ p l e rm_X10_fits s m args below meth c G shM ad n A 6 (MQ below (zQ G shM ad n M9 (some (.int r9)) A) args s 0 0 A) 0 0 M 31 [(0, .ref (ad 0)), (1, .int b31_L1), (2, .int b31_L2)] [.int b31_S1, .ref (ad 0)] := by
    intro b31_L1 b31_L2 b31_S1 M hF
    unfold F_X10_fits_31 at hF
    refine z_iconst (v := 1) cx d_X10_fits_31 ki_1 ?_
    refine z_iconst (v := 1) cx d_X10_fits_32 ki_1 ?_
    obtain ⟨v8, M7, hc, hF⟩ := zb_inv hF
    refine z_callV cx (As := [.int b31_S1, .int (1 : Int32), .int (1 : Int32)]) (rest := []) (c_X10_bad l cx.2.2.2.1.1 M b31_S1 (1 : Int32) (1 : Int32) hT hc) hT zo_11 cv_SunnyPansModel_155 ⟨rfl, rfl, Nat.le_of_ble_eq_true rfl, Nat.le_of_ble_eq_true rfl⟩ rfl rfl ⟨Nat.zero_le _, Nat.zero_le _⟩ (Nat.le_of_ble_eq_true rfl) d_X10_fits_33 ?_
    refine z_if_eq cx 41 d_X10_fits_36 (by decide) hF (fun hF => ?_) (fun hF => ?_)
    · refine z_iconst (v := 0) cx d_X10_fits_41 ki_0 ?_
      refine z_istore_n cx 3 [(3, .int (0 : Int32)), (0, .ref (ad 0)), (1, .int b31_L1), (2, .int b31_L2)] d_X10_fits_42 rfl (by decide) rfl ?_
      refine z_iconst (v := -1) cx d_X10_fits_43 ki_m1 ?_
      refine z_istore cx 4 [(4, .int (-1 : Int32)), (3, .int (0 : Int32)), (0, .ref (ad 0)), (1, .int b31_L1), (2, .int b31_L2)] d_X10_fits_44 (by decide) rfl ?_
      refine z_iconst (v := 0) cx d_X10_fits_46 ki_0 ?_
      refine z_istore cx 5 [(5, .int (0 : Int32)), (4, .int (-1 : Int32)), (3, .int (0 : Int32)), (0, .ref (ad 0)), (1, .int b31_L1), (2, .int b31_L2)] d_X10_fits_47 (by decide) rfl ?_
      exact z_lv [3, 4, 5, 2, 1, 0] _ rfl (hL49 zFuel b31_L1 b31_L2 (0 : Int32) (-1 : Int32) (0 : Int32) M7 hF)
    refine z_iconst (v := 0) cx d_X10_fits_39 ki_0 ?_
    exact z_iret cx hr rfl hF d_X10_fits_40
  unfold F_X10_fits at hF
  refine z_aload_n cx d_X10_fits_0 0 rfl ?_
  refine z_iconst (v := 0) cx d_X10_fits_1 ki_0 ?_
  refine z_putI cx hT fp_SunnyPansModel_82 d_X10_fits_2 ?_
  refine z_nmM hF (fun M9 hF => ?_)
  refine z_aload_n cx d_X10_fits_5 0 rfl ?_
  refine z_iload_n cx d_X10_fits_6 1 rfl ?_
  refine z_iconst (v := 1) cx d_X10_fits_7 ki_1 ?_
  refine z_sipush (v := 999) cx d_X10_fits_8 ks_999 ?_
  obtain ⟨v11, M10, hc, hF⟩ := zb_inv hF
  refine z_callS cx (As := [.int p0, .int (1 : Int32), .int (999 : Int32)]) (rest := [.ref (ad 0)]) (c_X10_in l cx.2.2.2.1.1 M9 p0 (1 : Int32) (999 : Int32)  hc) cs_SunnyPansModel_116 ⟨rfl, rfl, Nat.le_of_ble_eq_true rfl, Nat.le_of_ble_eq_true rfl⟩ rfl rfl ⟨Nat.zero_le _, Nat.zero_le _⟩ (Nat.le_of_ble_eq_true rfl) d_X10_fits_11 ?_
  refine z_if_eq cx 26 d_X10_fits_14 (by decide) hF (fun hF => ?_) (fun hF => ?_)
  · refine z_iconst (v := 1) cx d_X10_fits_26 ki_1 ?_
    refine z_goto cx 31 d_X10_fits_27 (by decide) ?_
    exact hb31 p0 p1 (1 : Int32) M10 hF
  refine z_iload_n cx d_X10_fits_17 2 rfl ?_
  refine z_iconst (v := 0) cx d_X10_fits_18 ki_0 ?_
  refine z_iconst (v := 1) cx d_X10_fits_19 ki_1 ?_
  obtain ⟨v13, M12, hc, hF⟩ := zb_inv hF
  refine z_callS cx (As := [.int p1, .int (0 : Int32), .int (1 : Int32)]) (rest := [.ref (ad 0)]) (c_X10_in l cx.2.2.2.1.1 M10 p1 (0 : Int32) (1 : Int32)  hc) cs_SunnyPansModel_116 ⟨rfl, rfl, Nat.le_of_ble_eq_true rfl, Nat.le_of_ble_eq_true rfl⟩ rfl rfl ⟨Nat.zero_le _, Nat.zero_le _⟩ (Nat.le_of_ble_eq_true rfl) d_X10_fits_20 ?_
  refine z_if_ne cx 30 d_X10_fits_23 (by decide) hF (fun hF => ?_) (fun hF => ?_)
  · refine z_iconst (v := 0) cx d_X10_fits_30 ki_0 ?_
    exact hb31 p0 p1 (0 : Int32) M12 hF
  refine z_iconst (v := 1) cx d_X10_fits_26 ki_1 ?_
  refine z_goto cx 31 d_X10_fits_27 (by decide) ?_
  exact hb31 p0 p1 (1 : Int32) M12 hF
