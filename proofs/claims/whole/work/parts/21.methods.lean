/-! SunnyPansModel.poured -/
theorem d_X10_poured_0 : decode cX10_poured 0 = .ok (.aload_n 0, 1) := by decide +kernel
theorem d_X10_poured_1 : decode cX10_poured 1 = .ok (.iconst 0, 1) := by decide +kernel
theorem d_X10_poured_2 : decode cX10_poured 2 = .ok (.putfield 82, 3) := by decide +kernel
theorem d_X10_poured_5 : decode cX10_poured 5 = .ok (.aload_n 0, 1) := by decide +kernel
theorem d_X10_poured_6 : decode cX10_poured 6 = .ok (.aload_n 0, 1) := by decide +kernel
theorem d_X10_poured_7 : decode cX10_poured 7 = .ok (.iload_n 1, 1) := by decide +kernel
theorem d_X10_poured_8 : decode cX10_poured 8 = .ok (.iload_n 2, 1) := by decide +kernel
theorem d_X10_poured_9 : decode cX10_poured 9 = .ok (.invokevirtual 237, 3) := by decide +kernel
theorem d_X10_poured_12 : decode cX10_poured 12 = .ok (.ifCond .ne 7, 3) := by decide +kernel
theorem d_X10_poured_15 : decode cX10_poured 15 = .ok (.iconst 1, 1) := by decide +kernel
theorem d_X10_poured_16 : decode cX10_poured 16 = .ok (.goto 4, 3) := by decide +kernel
theorem d_X10_poured_19 : decode cX10_poured 19 = .ok (.iconst 0, 1) := by decide +kernel
theorem d_X10_poured_20 : decode cX10_poured 20 = .ok (.iconst 1, 1) := by decide +kernel
theorem d_X10_poured_21 : decode cX10_poured 21 = .ok (.iconst 0, 1) := by decide +kernel
theorem d_X10_poured_22 : decode cX10_poured 22 = .ok (.invokevirtual 155, 3) := by decide +kernel
theorem d_X10_poured_25 : decode cX10_poured 25 = .ok (.ifCond .ne 28, 3) := by decide +kernel
theorem d_X10_poured_28 : decode cX10_poured 28 = .ok (.aload_n 0, 1) := by decide +kernel
theorem d_X10_poured_29 : decode cX10_poured 29 = .ok (.iload_n 3, 1) := by decide +kernel
theorem d_X10_poured_30 : decode cX10_poured 30 = .ok (.iconst 1, 1) := by decide +kernel
theorem d_X10_poured_31 : decode cX10_poured 31 = .ok (.sipush 999, 3) := by decide +kernel
theorem d_X10_poured_34 : decode cX10_poured 34 = .ok (.invokestatic 116, 3) := by decide +kernel
theorem d_X10_poured_37 : decode cX10_poured 37 = .ok (.ifCond .ne 7, 3) := by decide +kernel
theorem d_X10_poured_40 : decode cX10_poured 40 = .ok (.iconst 1, 1) := by decide +kernel
theorem d_X10_poured_41 : decode cX10_poured 41 = .ok (.goto 4, 3) := by decide +kernel
theorem d_X10_poured_44 : decode cX10_poured 44 = .ok (.iconst 0, 1) := by decide +kernel
theorem d_X10_poured_45 : decode cX10_poured 45 = .ok (.iconst 2, 1) := by decide +kernel
theorem d_X10_poured_46 : decode cX10_poured 46 = .ok (.iconst 1, 1) := by decide +kernel
theorem d_X10_poured_47 : decode cX10_poured 47 = .ok (.invokevirtual 155, 3) := by decide +kernel
theorem d_X10_poured_50 : decode cX10_poured 50 = .ok (.ifCond .eq 5, 3) := by decide +kernel
theorem d_X10_poured_53 : decode cX10_poured 53 = .ok (.iconst 0, 1) := by decide +kernel
theorem d_X10_poured_54 : decode cX10_poured 54 = .ok (.ireturn, 1) := by decide +kernel
theorem d_X10_poured_55 : decode cX10_poured 55 = .ok (.aload_n 0, 1) := by decide +kernel
theorem d_X10_poured_56 : decode cX10_poured 56 = .ok (.getfield 58, 3) := by decide +kernel
theorem d_X10_poured_59 : decode cX10_poured 59 = .ok (.aload_n 0, 1) := by decide +kernel
theorem d_X10_poured_60 : decode cX10_poured 60 = .ok (.getfield 61, 3) := by decide +kernel
theorem d_X10_poured_63 : decode cX10_poured 63 = .ok (.invokestatic 315, 3) := by decide +kernel
theorem d_X10_poured_66 : decode cX10_poured 66 = .ok (.aload_n 0, 1) := by decide +kernel
theorem d_X10_poured_67 : decode cX10_poured 67 = .ok (.getfield 61, 3) := by decide +kernel
theorem d_X10_poured_70 : decode cX10_poured 70 = .ok (.bipush 8, 2) := by decide +kernel
theorem d_X10_poured_72 : decode cX10_poured 72 = .ok (.iload_n 2, 1) := by decide +kernel
theorem d_X10_poured_73 : decode cX10_poured 73 = .ok (.imul, 1) := by decide +kernel
theorem d_X10_poured_74 : decode cX10_poured 74 = .ok (.iload_n 1, 1) := by decide +kernel
theorem d_X10_poured_75 : decode cX10_poured 75 = .ok (.iadd, 1) := by decide +kernel
theorem d_X10_poured_76 : decode cX10_poured 76 = .ok (.iload_n 3, 1) := by decide +kernel
theorem d_X10_poured_77 : decode cX10_poured 77 = .ok (.invokestatic 287, 3) := by decide +kernel
theorem d_X10_poured_80 : decode cX10_poured 80 = .ok (.ifCond .eq 19, 3) := by decide +kernel
theorem d_X10_poured_83 : decode cX10_poured 83 = .ok (.aload_n 0, 1) := by decide +kernel
theorem d_X10_poured_84 : decode cX10_poured 84 = .ok (.getfield 61, 3) := by decide +kernel
theorem d_X10_poured_87 : decode cX10_poured 87 = .ok (.bipush 8, 2) := by decide +kernel
theorem d_X10_poured_89 : decode cX10_poured 89 = .ok (.iload_n 2, 1) := by decide +kernel
theorem d_X10_poured_90 : decode cX10_poured 90 = .ok (.imul, 1) := by decide +kernel
theorem d_X10_poured_91 : decode cX10_poured 91 = .ok (.iload_n 1, 1) := by decide +kernel
theorem d_X10_poured_92 : decode cX10_poured 92 = .ok (.iadd, 1) := by decide +kernel
theorem d_X10_poured_93 : decode cX10_poured 93 = .ok (.invokestatic 330, 3) := by decide +kernel
theorem d_X10_poured_96 : decode cX10_poured 96 = .ok (.goto 4, 3) := by decide +kernel
theorem d_X10_poured_99 : decode cX10_poured 99 = .ok (.iconst (-1), 1) := by decide +kernel
theorem d_X10_poured_100 : decode cX10_poured 100 = .ok (.ireturn, 1) := by decide +kernel
noncomputable def F_X10_poured_45 (p0 : Int32) (p1 : Int32) (p2 : Int32) (b45_L1 : Int32) (b45_L2 : Int32) (b45_L3 : Int32) (b45_S1 : Int32) (M : zMem) : Option (Int32 × zMem) :=
  zb (F_X10_bad M b45_S1 (2 : Int32) (1 : Int32)) fun v2 M1 =>
  if v2 = 0 then
    zbv (F_X10_copies M1 451 452) fun M3 =>
    zb (F_X10_lets M3 452 (((8 : Int32) * b45_L2) + b45_L1) b45_L3) fun v5 M4 =>
    if v5 = 0 then
      some ((-1 : Int32), M4)
    else
      zb (F_X10_strength M4 452 (((8 : Int32) * b45_L2) + b45_L1)) fun v7 M6 =>
      some (v7, M6)
  else
    some ((0 : Int32), M1)
noncomputable def F_X10_poured_20 (p0 : Int32) (p1 : Int32) (p2 : Int32) (b20_L1 : Int32) (b20_L2 : Int32) (b20_L3 : Int32) (b20_S1 : Int32) (M : zMem) : Option (Int32 × zMem) :=
  zb (F_X10_bad M b20_S1 (1 : Int32) (0 : Int32)) fun v9 M8 =>
  if v9 = 0 then
    zb (F_X10_in M8 b20_L3 (1 : Int32) (999 : Int32)) fun v11 M10 =>
    if v11 = 0 then
      F_X10_poured_45 p0 p1 p2 b20_L1 b20_L2 b20_L3 (1 : Int32) M10
    else
      F_X10_poured_45 p0 p1 p2 b20_L1 b20_L2 b20_L3 (0 : Int32) M10
  else
    some ((0 : Int32), M8)
noncomputable def F_X10_poured (M : zMem) (p0 : Int32) (p1 : Int32) (p2 : Int32) : Option (Int32 × zMem) :=
  zl (zI M 0 0 (0 : Int32)) fun M12 =>
  zb (F_X10_isWithin M12 p0 p1) fun v14 M13 =>
  if v14 = 0 then
    F_X10_poured_20 p0 p1 p2 p0 p1 p2 (1 : Int32) M13
  else
    F_X10_poured_20 p0 p1 p2 p0 p1 p2 (0 : Int32) M13
def rm_X10_poured : Room := { frames := 4, cells := 0, slots := 0, locals := 124 }
set_option maxHeartbeats 4000000 in
set_option maxRecDepth 100000 in
theorem c_X10_poured (l : Launch) {G : zG} {ad : Nat → Nat} {n : Nat} (hA : zInj ad n) (M : zMem) (p0 : Int32) (p1 : Int32) (p2 : Int32) (hT : zT shM n 0 11) {r9 : Int32} {M9 : zMem} (hF : F_X10_poured M p0 p1 p2 = some (r9, M9)) : zM l yX10_poured cX10_poured 4 (some .int) rm_X10_poured G shM ad n M [.ref (ad 0), .int p0, .int p1, .int p2] (some (.int r9)) M9 := by
  refine zM_of hA (by decide +kernel) (lv := [(0, .ref (ad 0)), (1, .int p0), (2, .int p1), (3, .int p2)]) (Nat.le_of_ble_eq_true rfl) rfl (fun p e s m args below meth c A cx hr => ?_)
  have hb45 : ∀ (b45_L1 : Int32) (b45_L2 : Int32) (b45_L3 : Int32) (b45_S1 : Int32) (M : zMem), F_X10_poured_45 p0 p1 p2 b45_L1 b45_L2 b45_L3 b45_S1 M = some (r9, M9) → zJ p l e rm_X10_poured s m args below meth c G shM ad n A 4 (MQ below (zQ G shM ad n M9 (some (.int r9)) A) args s 0 0 A) 0 0 M 45 [(0, .ref (ad 0)), (1, .int b45_L1), (2, .int b45_L2), (3, .int b45_L3)] [.int b45_S1, .ref (ad 0)] := by
    intro b45_L1 b45_L2 b45_L3 b45_S1 M hF
    unfold F_X10_poured_45 at hF
    refine z_iconst (v := 2) cx d_X10_poured_45 ki_2 ?_
    refine z_iconst (v := 1) cx d_X10_poured_46 ki_1 ?_
    obtain ⟨v2, M1, hc, hF⟩ := zb_inv hF
    refine z_callV cx (As := [.int b45_S1, .int (2 : Int32), .int (1 : Int32)]) (rest := []) (c_X10_bad l cx.2.2.2.1.1 M b45_S1 (2 : Int32) (1 : Int32) hT hc) hT zo_11 cv_SunnyPansModel_155 ⟨rfl, rfl, Nat.le_of_ble_eq_true rfl, Nat.le_of_ble_eq_true rfl⟩ rfl rfl ⟨Nat.zero_le _, Nat.zero_le _⟩ (Nat.le_of_ble_eq_true rfl) d_X10_poured_47 ?_
    refine z_if_eq cx 55 d_X10_poured_50 (by decide) hF (fun hF => ?_) (fun hF => ?_)
    · refine z_aload_n cx d_X10_poured_55 0 rfl ?_
      refine z_getR cx hT fg_SunnyPansModel_58 451 rfl d_X10_poured_56 ?_
      refine z_aload_n cx d_X10_poured_59 0 rfl ?_
      refine z_getR cx hT fg_SunnyPansModel_61 452 rfl d_X10_poured_60 ?_
      obtain ⟨M3, hc, hF⟩ := zbv_inv hF
      refine z_callS cx (As := [.ref (ad 451), .ref (ad 452)]) (rest := []) (c_X10_copies l cx.2.2.2.1.1 M1 451 452 (tfM_11_451 hT) (tfM_11_452 hT) hc) cs_SunnyPansModel_315 ⟨rfl, rfl, Nat.le_of_ble_eq_true rfl, Nat.le_of_ble_eq_true rfl⟩ rfl rfl ⟨Nat.zero_le _, Nat.zero_le _⟩ (Nat.le_of_ble_eq_true rfl) d_X10_poured_63 ?_
      refine z_aload_n cx d_X10_poured_66 0 rfl ?_
      refine z_getR cx hT fg_SunnyPansModel_61 452 rfl d_X10_poured_67 ?_
      refine z_bipush (v := 8) cx d_X10_poured_70 kb_8 ?_
      refine z_iload_n cx d_X10_poured_72 2 rfl ?_
      refine z_imul cx d_X10_poured_73 ?_
      refine z_iload_n cx d_X10_poured_74 1 rfl ?_
      refine z_iadd cx d_X10_poured_75 ?_
      refine z_iload_n cx d_X10_poured_76 3 rfl ?_
      obtain ⟨v5, M4, hc, hF⟩ := zb_inv hF
      refine z_callS cx (As := [.ref (ad 452), .int (((8 : Int32) * b45_L2) + b45_L1), .int b45_L3]) (rest := []) (c_X10_lets l cx.2.2.2.1.1 M3 452 (((8 : Int32) * b45_L2) + b45_L1) b45_L3 (tfM_11_452 hT) hc) cs_SunnyPansModel_287 ⟨rfl, rfl, Nat.le_of_ble_eq_true rfl, Nat.le_of_ble_eq_true rfl⟩ rfl rfl ⟨Nat.zero_le _, Nat.zero_le _⟩ (Nat.le_of_ble_eq_true rfl) d_X10_poured_77 ?_
      refine z_if_eq cx 99 d_X10_poured_80 (by decide) hF (fun hF => ?_) (fun hF => ?_)
      · refine z_iconst (v := -1) cx d_X10_poured_99 ki_m1 ?_
        exact z_iret cx hr rfl hF d_X10_poured_100
      refine z_aload_n cx d_X10_poured_83 0 rfl ?_
      refine z_getR cx hT fg_SunnyPansModel_61 452 rfl d_X10_poured_84 ?_
      refine z_bipush (v := 8) cx d_X10_poured_87 kb_8 ?_
      refine z_iload_n cx d_X10_poured_89 2 rfl ?_
      refine z_imul cx d_X10_poured_90 ?_
      refine z_iload_n cx d_X10_poured_91 1 rfl ?_
      refine z_iadd cx d_X10_poured_92 ?_
      obtain ⟨v7, M6, hc, hF⟩ := zb_inv hF
      refine z_callS cx (As := [.ref (ad 452), .int (((8 : Int32) * b45_L2) + b45_L1)]) (rest := []) (c_X10_strength l cx.2.2.2.1.1 M4 452 (((8 : Int32) * b45_L2) + b45_L1) (tfM_11_452 hT) hc) cs_SunnyPansModel_330 ⟨rfl, rfl, Nat.le_of_ble_eq_true rfl, Nat.le_of_ble_eq_true rfl⟩ rfl rfl ⟨Nat.zero_le _, Nat.zero_le _⟩ (Nat.le_of_ble_eq_true rfl) d_X10_poured_93 ?_
      refine z_goto cx 100 d_X10_poured_96 (by decide) ?_
      exact z_iret cx hr rfl hF d_X10_poured_100
    refine z_iconst (v := 0) cx d_X10_poured_53 ki_0 ?_
    exact z_iret cx hr rfl hF d_X10_poured_54
  have hb20 : ∀ (b20_L1 : Int32) (b20_L2 : Int32) (b20_L3 : Int32) (b20_S1 : Int32) (M : zMem), F_X10_poured_20 p0 p1 p2 b20_L1 b20_L2 b20_L3 b20_S1 M = some (r9, M9) → zJ p l e rm_X10_poured s m args below meth c G shM ad n A 4 (MQ below (zQ G shM ad n M9 (some (.int r9)) A) args s 0 0 A) 0 0 M 20 [(0, .ref (ad 0)), (1, .int b20_L1), (2, .int b20_L2), (3, .int b20_L3)] [.int b20_S1, .ref (ad 0)] := by
    intro b20_L1 b20_L2 b20_L3 b20_S1 M hF
    unfold F_X10_poured_20 at hF
    refine z_iconst (v := 1) cx d_X10_poured_20 ki_1 ?_
    refine z_iconst (v := 0) cx d_X10_poured_21 ki_0 ?_
    obtain ⟨v9, M8, hc, hF⟩ := zb_inv hF
    refine z_callV cx (As := [.int b20_S1, .int (1 : Int32), .int (0 : Int32)]) (rest := []) (c_X10_bad l cx.2.2.2.1.1 M b20_S1 (1 : Int32) (0 : Int32) hT hc) hT zo_11 cv_SunnyPansModel_155 ⟨rfl, rfl, Nat.le_of_ble_eq_true rfl, Nat.le_of_ble_eq_true rfl⟩ rfl rfl ⟨Nat.zero_le _, Nat.zero_le _⟩ (Nat.le_of_ble_eq_true rfl) d_X10_poured_22 ?_
    refine z_if_ne cx 53 d_X10_poured_25 (by decide) hF (fun hF => ?_) (fun hF => ?_)
    · refine z_iconst (v := 0) cx d_X10_poured_53 ki_0 ?_
      exact z_iret cx hr rfl hF d_X10_poured_54
    refine z_aload_n cx d_X10_poured_28 0 rfl ?_
    refine z_iload_n cx d_X10_poured_29 3 rfl ?_
    refine z_iconst (v := 1) cx d_X10_poured_30 ki_1 ?_
    refine z_sipush (v := 999) cx d_X10_poured_31 ks_999 ?_
    obtain ⟨v11, M10, hc, hF⟩ := zb_inv hF
    refine z_callS cx (As := [.int b20_L3, .int (1 : Int32), .int (999 : Int32)]) (rest := [.ref (ad 0)]) (c_X10_in l cx.2.2.2.1.1 M8 b20_L3 (1 : Int32) (999 : Int32)  hc) cs_SunnyPansModel_116 ⟨rfl, rfl, Nat.le_of_ble_eq_true rfl, Nat.le_of_ble_eq_true rfl⟩ rfl rfl ⟨Nat.zero_le _, Nat.zero_le _⟩ (Nat.le_of_ble_eq_true rfl) d_X10_poured_34 ?_
    refine z_if_ne cx 44 d_X10_poured_37 (by decide) hF (fun hF => ?_) (fun hF => ?_)
    · refine z_iconst (v := 0) cx d_X10_poured_44 ki_0 ?_
      exact hb45 b20_L1 b20_L2 b20_L3 (0 : Int32) M10 hF
    refine z_iconst (v := 1) cx d_X10_poured_40 ki_1 ?_
    refine z_goto cx 45 d_X10_poured_41 (by decide) ?_
    exact hb45 b20_L1 b20_L2 b20_L3 (1 : Int32) M10 hF
  unfold F_X10_poured at hF
  refine z_aload_n cx d_X10_poured_0 0 rfl ?_
  refine z_iconst (v := 0) cx d_X10_poured_1 ki_0 ?_
  refine z_putI cx hT fp_SunnyPansModel_82 d_X10_poured_2 ?_
  refine z_nmM hF (fun M12 hF => ?_)
  refine z_aload_n cx d_X10_poured_5 0 rfl ?_
  refine z_aload_n cx d_X10_poured_6 0 rfl ?_
  refine z_iload_n cx d_X10_poured_7 1 rfl ?_
  refine z_iload_n cx d_X10_poured_8 2 rfl ?_
  obtain ⟨v14, M13, hc, hF⟩ := zb_inv hF
  refine z_callV cx (As := [.int p0, .int p1]) (rest := [.ref (ad 0)]) (c_X10_isWithin l cx.2.2.2.1.1 M12 p0 p1 hT hc) hT zo_11 cv_SunnyPansModel_237 ⟨rfl, rfl, Nat.le_of_ble_eq_true rfl, Nat.le_of_ble_eq_true rfl⟩ rfl rfl ⟨Nat.zero_le _, Nat.zero_le _⟩ (Nat.le_of_ble_eq_true rfl) d_X10_poured_9 ?_
  refine z_if_ne cx 19 d_X10_poured_12 (by decide) hF (fun hF => ?_) (fun hF => ?_)
  · refine z_iconst (v := 0) cx d_X10_poured_19 ki_0 ?_
    exact hb20 p0 p1 p2 (0 : Int32) M13 hF
  refine z_iconst (v := 1) cx d_X10_poured_15 ki_1 ?_
  refine z_goto cx 20 d_X10_poured_16 (by decide) ?_
  exact hb20 p0 p1 p2 (1 : Int32) M13 hF
/-! SunnyPansModel.draw -/
set_option maxRecDepth 100000 in
theorem wd_1434 : Cond.fieldLink "SunnyPansModel" 376 "SunnyPansModel" "lots" "I" ∈ tbG := tw6 134 rfl rfl
theorem fg_SunnyPansModel_376 : zGetI "SunnyPansModel" 376 10 11 39 := ⟨RX10, TX10, 40, rfl, by decide, uw_10, wd_1434, fun _ _ _ _ _ _ => ⟨_, rfl, rfl⟩⟩
set_option maxRecDepth 100000 in
theorem wd_1939 : Cond.constant "SunnyPansModel" 379 (1103515245) ∈ tbG := tw8 159 rfl rfl
theorem fp_SunnyPansModel_376 : zPutI "SunnyPansModel" 376 10 11 39 := ⟨zc_10, fg_SunnyPansModel_376, ⟨RX10, TX10, 40, rfl, rfl, by decide +kernel⟩, fun _ _ _ _ _ _ _ => ⟨_, rfl, Nat.le_of_ble_eq_true rfl, rfl⟩⟩
theorem d_X10_draw_0 : decode cX10_draw 0 = .ok (.aload_n 0, 1) := by decide +kernel
theorem d_X10_draw_1 : decode cX10_draw 1 = .ok (.aload_n 0, 1) := by decide +kernel
theorem d_X10_draw_2 : decode cX10_draw 2 = .ok (.getfield 376, 3) := by decide +kernel
theorem d_X10_draw_5 : decode cX10_draw 5 = .ok (.ldc_w 379, 3) := by decide +kernel
theorem d_X10_draw_8 : decode cX10_draw 8 = .ok (.imul, 1) := by decide +kernel
theorem d_X10_draw_9 : decode cX10_draw 9 = .ok (.sipush 12345, 3) := by decide +kernel
theorem d_X10_draw_12 : decode cX10_draw 12 = .ok (.iadd, 1) := by decide +kernel
theorem d_X10_draw_13 : decode cX10_draw 13 = .ok (.putfield 376, 3) := by decide +kernel
theorem d_X10_draw_16 : decode cX10_draw 16 = .ok (.aload_n 0, 1) := by decide +kernel
theorem d_X10_draw_17 : decode cX10_draw 17 = .ok (.getfield 376, 3) := by decide +kernel
theorem d_X10_draw_20 : decode cX10_draw 20 = .ok (.bipush 16, 2) := by decide +kernel
theorem d_X10_draw_22 : decode cX10_draw 22 = .ok (.ishr, 1) := by decide +kernel
theorem d_X10_draw_23 : decode cX10_draw 23 = .ok (.sipush 32767, 3) := by decide +kernel
theorem d_X10_draw_26 : decode cX10_draw 26 = .ok (.iand, 1) := by decide +kernel
theorem d_X10_draw_27 : decode cX10_draw 27 = .ok (.iload_n 1, 1) := by decide +kernel
theorem d_X10_draw_28 : decode cX10_draw 28 = .ok (.irem, 1) := by decide +kernel
theorem d_X10_draw_29 : decode cX10_draw 29 = .ok (.ireturn, 1) := by decide +kernel
noncomputable def F_X10_draw (M : zMem) (p0 : Int32) : Option (Int32 × zMem) :=
  zl (zI M 0 39 (((M.1 0 39) * (1103515245 : Int32)) + (12345 : Int32))) fun M1 =>
  gd (!(p0 == 0)) <|
  some (((((M1.1 0 39) >>> ((16 : Int32) &&& 31)) &&& (32767 : Int32)) - (((M1.1 0 39) >>> ((16 : Int32) &&& 31)) &&& (32767 : Int32)) / p0 * p0), M1)
def rm_X10_draw : Room := { frames := 2, cells := 0, slots := 0, locals := 80 }
set_option maxHeartbeats 4000000 in
set_option maxRecDepth 100000 in
theorem c_X10_draw (l : Launch) {G : zG} {ad : Nat → Nat} {n : Nat} (hA : zInj ad n) (M : zMem) (p0 : Int32) (hT : zT shM n 0 11) {r9 : Int32} {M9 : zMem} (hF : F_X10_draw M p0 = some (r9, M9)) : zM l yX10_draw cX10_draw 2 (some .int) rm_X10_draw G shM ad n M [.ref (ad 0), .int p0] (some (.int r9)) M9 := by
  refine zM_of hA (by decide +kernel) (lv := [(0, .ref (ad 0)), (1, .int p0)]) (Nat.le_of_ble_eq_true rfl) rfl (fun p e s m args below meth c A cx hr => ?_)
  unfold F_X10_draw at hF
  refine z_aload_n cx d_X10_draw_0 0 rfl ?_
  refine z_aload_n cx d_X10_draw_1 0 rfl ?_
  refine z_getI cx hT fg_SunnyPansModel_376 d_X10_draw_2 ?_
  refine z_ldcw cx wd_1939 d_X10_draw_5 ?_
  refine z_imul cx d_X10_draw_8 ?_
  refine z_sipush (v := 12345) cx d_X10_draw_9 ks_12345 ?_
  refine z_iadd cx d_X10_draw_12 ?_
  refine z_putI cx hT fp_SunnyPansModel_376 d_X10_draw_13 ?_
  refine z_nmM hF (fun M1 hF => ?_)
  refine z_aload_n cx d_X10_draw_16 0 rfl ?_
  refine z_getI cx hT fg_SunnyPansModel_376 d_X10_draw_17 ?_
  refine z_bipush (v := 16) cx d_X10_draw_20 kb_16 ?_
  refine z_ishr cx d_X10_draw_22 ?_
  refine z_sipush (v := 32767) cx d_X10_draw_23 ks_32767 ?_
  refine z_iand cx d_X10_draw_26 ?_
  refine z_iload_n cx d_X10_draw_27 1 rfl ?_
  obtain ⟨hz2, hF⟩ := gd_inv hF
  refine z_irem cx d_X10_draw_28 (zne hz2) ?_
  exact z_iret cx hr rfl hF d_X10_draw_29
/-! SunnyPansModel.summerBy -/
set_option maxRecDepth 100000 in
theorem wd_1938 : Cond.code yX10_draw cX10_draw 2 (some .int) ∈ tbG := tw8 158 rfl rfl
set_option maxRecDepth 100000 in
theorem wd_1935 : Cond.methodLink "SunnyPansModel" 380 yX10_draw ∈ tbG := tw8 155 rfl rfl
set_option maxRecDepth 100000 in
theorem wd_1937 : Cond.instanceMethod yX10_draw ∈ tbG := tw8 157 rfl rfl
theorem wd_97 : Cond.selects "SunnyPansModel" yX10_draw yX10_draw ∈ tbG := tw 97 (by decide +kernel) rfl
theorem cv_SunnyPansModel_380 : zCV "SunnyPansModel" 380 "SunnyPansModel" yX10_draw cX10_draw 2 (some .int) 1 := zCV_of wd_1935 wd_1937 wd_97 wd_111 wd_1938 (by decide +kernel)
theorem d_X10_summerBy_0 : decode cX10_summerBy 0 = .ok (.aload_n 0, 1) := by decide +kernel
theorem d_X10_summerBy_1 : decode cX10_summerBy 1 = .ok (.getfield 58, 3) := by decide +kernel
theorem d_X10_summerBy_4 : decode cX10_summerBy 4 = .ok (.aload_n 0, 1) := by decide +kernel
theorem d_X10_summerBy_5 : decode cX10_summerBy 5 = .ok (.getfield 61, 3) := by decide +kernel
theorem d_X10_summerBy_8 : decode cX10_summerBy 8 = .ok (.invokestatic 315, 3) := by decide +kernel
theorem d_X10_summerBy_11 : decode cX10_summerBy 11 = .ok (.aload_n 0, 1) := by decide +kernel
theorem d_X10_summerBy_12 : decode cX10_summerBy 12 = .ok (.iload_n 1, 1) := by decide +kernel
theorem d_X10_summerBy_13 : decode cX10_summerBy 13 = .ok (.putfield 376, 3) := by decide +kernel
theorem d_X10_summerBy_16 : decode cX10_summerBy 16 = .ok (.iconst 0, 1) := by decide +kernel
theorem d_X10_summerBy_17 : decode cX10_summerBy 17 = .ok (.istore 4, 2) := by decide +kernel
theorem d_X10_summerBy_19 : decode cX10_summerBy 19 = .ok (.iload 4, 2) := by decide +kernel
theorem d_X10_summerBy_21 : decode cX10_summerBy 21 = .ok (.iload_n 2, 1) := by decide +kernel
theorem d_X10_summerBy_22 : decode cX10_summerBy 22 = .ok (.if_icmp .ge 97, 3) := by decide +kernel
theorem d_X10_summerBy_25 : decode cX10_summerBy 25 = .ok (.aload_n 0, 1) := by decide +kernel
theorem d_X10_summerBy_26 : decode cX10_summerBy 26 = .ok (.aload_n 0, 1) := by decide +kernel
theorem d_X10_summerBy_27 : decode cX10_summerBy 27 = .ok (.getfield 23, 3) := by decide +kernel
theorem d_X10_summerBy_30 : decode cX10_summerBy 30 = .ok (.iconst 0, 1) := by decide +kernel
theorem d_X10_summerBy_31 : decode cX10_summerBy 31 = .ok (.iaload, 1) := by decide +kernel
theorem d_X10_summerBy_32 : decode cX10_summerBy 32 = .ok (.invokevirtual 380, 3) := by decide +kernel
theorem d_X10_summerBy_35 : decode cX10_summerBy 35 = .ok (.istore 5, 2) := by decide +kernel
theorem d_X10_summerBy_37 : decode cX10_summerBy 37 = .ok (.bipush 8, 2) := by decide +kernel
theorem d_X10_summerBy_39 : decode cX10_summerBy 39 = .ok (.aload_n 0, 1) := by decide +kernel
theorem d_X10_summerBy_40 : decode cX10_summerBy 40 = .ok (.aload_n 0, 1) := by decide +kernel
theorem d_X10_summerBy_41 : decode cX10_summerBy 41 = .ok (.getfield 23, 3) := by decide +kernel
theorem d_X10_summerBy_44 : decode cX10_summerBy 44 = .ok (.iconst 1, 1) := by decide +kernel
theorem d_X10_summerBy_45 : decode cX10_summerBy 45 = .ok (.iaload, 1) := by decide +kernel
theorem d_X10_summerBy_46 : decode cX10_summerBy 46 = .ok (.invokevirtual 380, 3) := by decide +kernel
theorem d_X10_summerBy_49 : decode cX10_summerBy 49 = .ok (.imul, 1) := by decide +kernel
theorem d_X10_summerBy_50 : decode cX10_summerBy 50 = .ok (.iload 5, 2) := by decide +kernel
theorem d_X10_summerBy_52 : decode cX10_summerBy 52 = .ok (.iadd, 1) := by decide +kernel
theorem d_X10_summerBy_53 : decode cX10_summerBy 53 = .ok (.istore 6, 2) := by decide +kernel
theorem d_X10_summerBy_55 : decode cX10_summerBy 55 = .ok (.aload_n 0, 1) := by decide +kernel
theorem d_X10_summerBy_56 : decode cX10_summerBy 56 = .ok (.bipush 16, 2) := by decide +kernel
theorem d_X10_summerBy_58 : decode cX10_summerBy 58 = .ok (.invokevirtual 380, 3) := by decide +kernel
theorem d_X10_summerBy_61 : decode cX10_summerBy 61 = .ok (.iload_n 3, 1) := by decide +kernel
theorem d_X10_summerBy_62 : decode cX10_summerBy 62 = .ok (.if_icmp .ge 24, 3) := by decide +kernel
theorem d_X10_summerBy_65 : decode cX10_summerBy 65 = .ok (.aload_n 0, 1) := by decide +kernel
theorem d_X10_summerBy_66 : decode cX10_summerBy 66 = .ok (.getfield 61, 3) := by decide +kernel
theorem d_X10_summerBy_69 : decode cX10_summerBy 69 = .ok (.iload 6, 2) := by decide +kernel
theorem d_X10_summerBy_71 : decode cX10_summerBy 71 = .ok (.aload_n 0, 1) := by decide +kernel
theorem d_X10_summerBy_72 : decode cX10_summerBy 72 = .ok (.bipush 99, 2) := by decide +kernel
theorem d_X10_summerBy_74 : decode cX10_summerBy 74 = .ok (.invokevirtual 380, 3) := by decide +kernel
theorem d_X10_summerBy_77 : decode cX10_summerBy 77 = .ok (.iconst 1, 1) := by decide +kernel
theorem d_X10_summerBy_78 : decode cX10_summerBy 78 = .ok (.iadd, 1) := by decide +kernel
theorem d_X10_summerBy_79 : decode cX10_summerBy 79 = .ok (.invokestatic 287, 3) := by decide +kernel
theorem d_X10_summerBy_82 : decode cX10_summerBy 82 = .ok (.pop, 1) := by decide +kernel
theorem d_X10_summerBy_83 : decode cX10_summerBy 83 = .ok (.goto 13, 3) := by decide +kernel
theorem d_X10_summerBy_86 : decode cX10_summerBy 86 = .ok (.aload_n 0, 1) := by decide +kernel
theorem d_X10_summerBy_87 : decode cX10_summerBy 87 = .ok (.getfield 61, 3) := by decide +kernel
theorem d_X10_summerBy_90 : decode cX10_summerBy 90 = .ok (.iload 6, 2) := by decide +kernel
theorem d_X10_summerBy_92 : decode cX10_summerBy 92 = .ok (.invokestatic 293, 3) := by decide +kernel
theorem d_X10_summerBy_95 : decode cX10_summerBy 95 = .ok (.pop, 1) := by decide +kernel
theorem d_X10_summerBy_96 : decode cX10_summerBy 96 = .ok (.aload_n 0, 1) := by decide +kernel
theorem d_X10_summerBy_97 : decode cX10_summerBy 97 = .ok (.getfield 23, 3) := by decide +kernel
theorem d_X10_summerBy_100 : decode cX10_summerBy 100 = .ok (.iconst 2, 1) := by decide +kernel
theorem d_X10_summerBy_101 : decode cX10_summerBy 101 = .ok (.iaload, 1) := by decide +kernel
theorem d_X10_summerBy_102 : decode cX10_summerBy 102 = .ok (.ifCond .le 11, 3) := by decide +kernel
theorem d_X10_summerBy_105 : decode cX10_summerBy 105 = .ok (.aload_n 0, 1) := by decide +kernel
theorem d_X10_summerBy_106 : decode cX10_summerBy 106 = .ok (.aload_n 0, 1) := by decide +kernel
theorem d_X10_summerBy_107 : decode cX10_summerBy 107 = .ok (.getfield 61, 3) := by decide +kernel
theorem d_X10_summerBy_110 : decode cX10_summerBy 110 = .ok (.invokevirtual 299, 3) := by decide +kernel
theorem d_X10_summerBy_113 : decode cX10_summerBy 113 = .ok (.iinc 4 1, 3) := by decide +kernel
theorem d_X10_summerBy_116 : decode cX10_summerBy 116 = .ok (.goto (-97), 3) := by decide +kernel
theorem d_X10_summerBy_119 : decode cX10_summerBy 119 = .ok (.return_, 1) := by decide +kernel
noncomputable def F_X10_summerBy_113 (p0 : Int32) (p1 : Int32) (p2 : Int32) (self19 : Int32 → Int32 → Int32 → zMem → Option (zMem)) (b113_L2 : Int32) (b113_L3 : Int32) (b113_L4 : Int32) (M : zMem) : Option (zMem) :=
  self19 b113_L2 b113_L3 (b113_L4 + 1) M
noncomputable def F_X10_summerBy_96 (p0 : Int32) (p1 : Int32) (p2 : Int32) (self19 : Int32 → Int32 → Int32 → zMem → Option (zMem)) (b96_L2 : Int32) (b96_L3 : Int32) (b96_L4 : Int32) (M : zMem) : Option (zMem) :=
  if (M.1 4 2) ≤ 0 then
    F_X10_summerBy_113 p0 p1 p2 self19 b96_L2 b96_L3 b96_L4 M
  else
    zbv (F_X10_hourEnds M 452) fun M1 =>
    F_X10_summerBy_113 p0 p1 p2 self19 b96_L2 b96_L3 b96_L4 M1
noncomputable def F_X10_summerBy_19 (p0 : Int32) (p1 : Int32) (p2 : Int32) (self19 : Int32 → Int32 → Int32 → zMem → Option (zMem)) (b19_L2 : Int32) (b19_L3 : Int32) (b19_L4 : Int32) (M : zMem) : Option (zMem) :=
  if b19_L2 ≤ b19_L4 then
    some M
  else
    zb (F_X10_draw M (M.1 4 0)) fun v3 M2 =>
    zb (F_X10_draw M2 (M2.1 4 1)) fun v5 M4 =>
    zl (((8 : Int32) * v5) + v3) fun v6 =>
    zb (F_X10_draw M4 (16 : Int32)) fun v8 M7 =>
    if b19_L3 ≤ v8 then
      zb (F_X10_carts M7 452 v6) fun v10 M9 =>
      F_X10_summerBy_96 p0 p1 p2 self19 b19_L2 b19_L3 b19_L4 M9
    else
      zb (F_X10_draw M7 (99 : Int32)) fun v12 M11 =>
      zb (F_X10_lets M11 452 v6 (v12 + (1 : Int32))) fun v14 M13 =>
      F_X10_summerBy_96 p0 p1 p2 self19 b19_L2 b19_L3 b19_L4 M13
noncomputable def F_X10_summerBy (M : zMem) (p0 : Int32) (p1 : Int32) (p2 : Int32) : Option (zMem) :=
  zbv (F_X10_copies M 451 452) fun M15 =>
  zl (zI M15 0 39 p0) fun M16 =>
  itF (fun _ _ _ _ => none) (F_X10_summerBy_19 p0 p1 p2) zFuel p1 p2 (0 : Int32) M16
def rm_X10_summerBy : Room := { frames := 9, cells := 0, slots := 0, locals := 240 }
set_option maxHeartbeats 4000000 in
set_option maxRecDepth 100000 in
theorem c_X10_summerBy (l : Launch) {G : zG} {ad : Nat → Nat} {n : Nat} (hA : zInj ad n) (M : zMem) (p0 : Int32) (p1 : Int32) (p2 : Int32) (hT : zT shM n 0 11) {M9 : zMem} (hF : F_X10_summerBy M p0 p1 p2 = some M9) : zM l yX10_summerBy cX10_summerBy 7 none rm_X10_summerBy G shM ad n M [.ref (ad 0), .int p0, .int p1, .int p2] none M9 := by
  refine zM_of hA (by decide +kernel) (lv := [(0, .ref (ad 0)), (1, .int p0), (2, .int p1), (3, .int p2)]) (Nat.le_of_ble_eq_true rfl) rfl (fun p e s m args below meth c A cx hr => ?_)
  have hb113 : ∀ (self19 : Int32 → Int32 → Int32 → zMem → Option (zMem)) (hs19 : ∀ (b19_L2 : Int32) (b19_L3 : Int32) (b19_L4 : Int32) (M : zMem), self19 b19_L2 b19_L3 b19_L4 M = some M9 → zJ p l e rm_X10_summerBy s m args below meth c G shM ad n A 7 (MQ below (zQ G shM ad n M9 none A) args s 0 0 A) 0 0 M 19 [(0, .ref (ad 0)), (2, .int b19_L2), (3, .int b19_L3), (4, .int b19_L4)] []), ∀ (b113_L2 : Int32) (b113_L3 : Int32) (b113_L4 : Int32) (M : zMem), F_X10_summerBy_113 p0 p1 p2 self19 b113_L2 b113_L3 b113_L4 M = some M9 → zJ p l e rm_X10_summerBy s m args below meth c G shM ad n A 7 (MQ below (zQ G shM ad n M9 none A) args s 0 0 A) 0 0 M 113 [(0, .ref (ad 0)), (2, .int b113_L2), (3, .int b113_L3), (4, .int b113_L4)] [] := by
    intro self19 hs19 b113_L2 b113_L3 b113_L4 M hF
    unfold F_X10_summerBy_113 at hF
    refine z_iinc cx 4 1 [(4, .int (b113_L4 + 1)), (0, .ref (ad 0)), (2, .int b113_L2), (3, .int b113_L3)] d_X10_summerBy_113 3 rfl ki_1 (by decide) rfl ?_
    refine z_goto cx 19 d_X10_summerBy_116 (by decide) ?_
    exact z_lv [1, 2, 3, 0] _ rfl (hs19 b113_L2 b113_L3 (b113_L4 + 1) M hF)
  have hb96 : ∀ (self19 : Int32 → Int32 → Int32 → zMem → Option (zMem)) (hs19 : ∀ (b19_L2 : Int32) (b19_L3 : Int32) (b19_L4 : Int32) (M : zMem), self19 b19_L2 b19_L3 b19_L4 M = some M9 → zJ p l e rm_X10_summerBy s m args below meth c G shM ad n A 7 (MQ below (zQ G shM ad n M9 none A) args s 0 0 A) 0 0 M 19 [(0, .ref (ad 0)), (2, .int b19_L2), (3, .int b19_L3), (4, .int b19_L4)] []), ∀ (b96_L2 : Int32) (b96_L3 : Int32) (b96_L4 : Int32) (M : zMem), F_X10_summerBy_96 p0 p1 p2 self19 b96_L2 b96_L3 b96_L4 M = some M9 → zJ p l e rm_X10_summerBy s m args below meth c G shM ad n A 7 (MQ below (zQ G shM ad n M9 none A) args s 0 0 A) 0 0 M 96 [(0, .ref (ad 0)), (2, .int b96_L2), (3, .int b96_L3), (4, .int b96_L4)] [] := by
    intro self19 hs19 b96_L2 b96_L3 b96_L4 M hF
    unfold F_X10_summerBy_96 at hF
    refine z_aload_n cx d_X10_summerBy_96 0 rfl ?_
    refine z_getR cx hT fg_SunnyPansModel_23 4 rfl d_X10_summerBy_97 ?_
    refine z_iconst (v := 2) cx d_X10_summerBy_100 ki_2 ?_
    refine z_iald cx (tfM_11_4 hT) za_28 (zvp (by decide +kernel)) 2 rfl d_X10_summerBy_101 ?_
    refine z_if_le cx 113 d_X10_summerBy_102 (by decide) hF (fun hF => ?_) (fun hF => ?_)
    · exact hb113 self19 hs19 b96_L2 b96_L3 b96_L4 M hF
    refine z_aload_n cx d_X10_summerBy_105 0 rfl ?_
    refine z_aload_n cx d_X10_summerBy_106 0 rfl ?_
    refine z_getR cx hT fg_SunnyPansModel_61 452 rfl d_X10_summerBy_107 ?_
    obtain ⟨M1, hc, hF⟩ := zbv_inv hF
    refine z_callV cx (As := [.ref (ad 452)]) (rest := []) (c_X10_hourEnds l cx.2.2.2.1.1 M 452 hT (tfM_11_452 hT) hc) hT zo_11 cv_SunnyPansModel_299 ⟨rfl, rfl, Nat.le_of_ble_eq_true rfl, Nat.le_of_ble_eq_true rfl⟩ rfl rfl ⟨Nat.zero_le _, Nat.zero_le _⟩ (Nat.le_of_ble_eq_true rfl) d_X10_summerBy_110 ?_
    exact hb113 self19 hs19 b96_L2 b96_L3 b96_L4 M1 hF
  have hL19 : ∀ (fuel : Nat), ∀ (b19_L2 : Int32) (b19_L3 : Int32) (b19_L4 : Int32) (M : zMem), itF (fun _ _ _ _ => none) (F_X10_summerBy_19 p0 p1 p2) fuel b19_L2 b19_L3 b19_L4 M = some M9 → zJ p l e rm_X10_summerBy s m args below meth c G shM ad n A 7 (MQ below (zQ G shM ad n M9 none A) args s 0 0 A) 0 0 M 19 [(0, .ref (ad 0)), (2, .int b19_L2), (3, .int b19_L3), (4, .int b19_L4)] [] := by
    intro fuel
    induction fuel with
    | zero => intro b19_L2 b19_L3 b19_L4 M hF; cases hF
    | succ fuel hs19 =>
      intro b19_L2 b19_L3 b19_L4 M hF
      have hF : F_X10_summerBy_19 p0 p1 p2 (itF (fun _ _ _ _ => none) (F_X10_summerBy_19 p0 p1 p2) fuel) b19_L2 b19_L3 b19_L4 M = some M9 := hF
      generalize itF (fun _ _ _ _ => none) (F_X10_summerBy_19 p0 p1 p2) fuel = self19 at hs19 hF
      unfold F_X10_summerBy_19 at hF
      refine z_iload cx d_X10_summerBy_19 3 rfl ?_
      refine z_iload_n cx d_X10_summerBy_21 1 rfl ?_
      refine z_icmp_ge cx 119 d_X10_summerBy_22 (by decide) hF (fun hF => ?_) (fun hF => ?_)
      · exact z_vret cx hr hF d_X10_summerBy_119
      refine z_aload_n cx d_X10_summerBy_25 0 rfl ?_
      refine z_aload_n cx d_X10_summerBy_26 0 rfl ?_
      refine z_getR cx hT fg_SunnyPansModel_23 4 rfl d_X10_summerBy_27 ?_
      refine z_iconst (v := 0) cx d_X10_summerBy_30 ki_0 ?_
      refine z_iald cx (tfM_11_4 hT) za_28 (zvp (by decide +kernel)) 0 rfl d_X10_summerBy_31 ?_
      obtain ⟨v3, M2, hc, hF⟩ := zb_inv hF
      refine z_callV cx (As := [.int (M.1 4 0)]) (rest := []) (c_X10_draw l cx.2.2.2.1.1 M (M.1 4 0) hT hc) hT zo_11 cv_SunnyPansModel_380 ⟨rfl, rfl, Nat.le_of_ble_eq_true rfl, Nat.le_of_ble_eq_true rfl⟩ rfl rfl ⟨Nat.zero_le _, Nat.zero_le _⟩ (Nat.le_of_ble_eq_true rfl) d_X10_summerBy_32 ?_
      refine z_istore cx 5 [(5, .int v3), (0, .ref (ad 0)), (2, .int b19_L2), (3, .int b19_L3), (4, .int b19_L4)] d_X10_summerBy_35 (by decide) rfl ?_
      refine z_bipush (v := 8) cx d_X10_summerBy_37 kb_8 ?_
      refine z_aload_n cx d_X10_summerBy_39 1 rfl ?_
      refine z_aload_n cx d_X10_summerBy_40 1 rfl ?_
      refine z_getR cx hT fg_SunnyPansModel_23 4 rfl d_X10_summerBy_41 ?_
      refine z_iconst (v := 1) cx d_X10_summerBy_44 ki_1 ?_
      refine z_iald cx (tfM_11_4 hT) za_28 (zvp (by decide +kernel)) 1 rfl d_X10_summerBy_45 ?_
      obtain ⟨v5, M4, hc, hF⟩ := zb_inv hF
      refine z_callV cx (As := [.int (M2.1 4 1)]) (rest := [.int (8 : Int32)]) (c_X10_draw l cx.2.2.2.1.1 M2 (M2.1 4 1) hT hc) hT zo_11 cv_SunnyPansModel_380 ⟨rfl, rfl, Nat.le_of_ble_eq_true rfl, Nat.le_of_ble_eq_true rfl⟩ rfl rfl ⟨Nat.zero_le _, Nat.zero_le _⟩ (Nat.le_of_ble_eq_true rfl) d_X10_summerBy_46 ?_
      refine z_imul cx d_X10_summerBy_49 ?_
      refine z_iload cx d_X10_summerBy_50 0 rfl ?_
      refine z_iadd cx d_X10_summerBy_52 ?_
      refine z_nm hF (fun v6 hF => ?_)
      refine z_istore cx 6 [(6, .int v6), (5, .int v3), (0, .ref (ad 0)), (2, .int b19_L2), (3, .int b19_L3), (4, .int b19_L4)] d_X10_summerBy_53 (by decide) rfl ?_
      refine z_aload_n cx d_X10_summerBy_55 2 rfl ?_
      refine z_bipush (v := 16) cx d_X10_summerBy_56 kb_16 ?_
      obtain ⟨v8, M7, hc, hF⟩ := zb_inv hF
      refine z_callV cx (As := [.int (16 : Int32)]) (rest := []) (c_X10_draw l cx.2.2.2.1.1 M4 (16 : Int32) hT hc) hT zo_11 cv_SunnyPansModel_380 ⟨rfl, rfl, Nat.le_of_ble_eq_true rfl, Nat.le_of_ble_eq_true rfl⟩ rfl rfl ⟨Nat.zero_le _, Nat.zero_le _⟩ (Nat.le_of_ble_eq_true rfl) d_X10_summerBy_58 ?_
      refine z_iload_n cx d_X10_summerBy_61 4 rfl ?_
      refine z_icmp_ge cx 86 d_X10_summerBy_62 (by decide) hF (fun hF => ?_) (fun hF => ?_)
      · refine z_aload_n cx d_X10_summerBy_86 2 rfl ?_
        refine z_getR cx hT fg_SunnyPansModel_61 452 rfl d_X10_summerBy_87 ?_
        refine z_iload cx d_X10_summerBy_90 0 rfl ?_
        obtain ⟨v10, M9, hc, hF⟩ := zb_inv hF
        refine z_callS cx (As := [.ref (ad 452), .int v6]) (rest := []) (c_X10_carts l cx.2.2.2.1.1 M7 452 v6 (tfM_11_452 hT) hc) cs_SunnyPansModel_293 ⟨rfl, rfl, Nat.le_of_ble_eq_true rfl, Nat.le_of_ble_eq_true rfl⟩ rfl rfl ⟨Nat.zero_le _, Nat.zero_le _⟩ (Nat.le_of_ble_eq_true rfl) d_X10_summerBy_92 ?_
        refine z_pop cx d_X10_summerBy_95 rfl ?_
        exact z_lv [2, 3, 4, 5] _ rfl (hb96 self19 hs19 b19_L2 b19_L3 b19_L4 M9 hF)
      refine z_aload_n cx d_X10_summerBy_65 2 rfl ?_
      refine z_getR cx hT fg_SunnyPansModel_61 452 rfl d_X10_summerBy_66 ?_
      refine z_iload cx d_X10_summerBy_69 0 rfl ?_
      refine z_aload_n cx d_X10_summerBy_71 2 rfl ?_
      refine z_bipush (v := 99) cx d_X10_summerBy_72 kb_99 ?_
      obtain ⟨v12, M11, hc, hF⟩ := zb_inv hF
      refine z_callV cx (As := [.int (99 : Int32)]) (rest := [.int v6, .ref (ad 452)]) (c_X10_draw l cx.2.2.2.1.1 M7 (99 : Int32) hT hc) hT zo_11 cv_SunnyPansModel_380 ⟨rfl, rfl, Nat.le_of_ble_eq_true rfl, Nat.le_of_ble_eq_true rfl⟩ rfl rfl ⟨Nat.zero_le _, Nat.zero_le _⟩ (Nat.le_of_ble_eq_true rfl) d_X10_summerBy_74 ?_
      refine z_iconst (v := 1) cx d_X10_summerBy_77 ki_1 ?_
      refine z_iadd cx d_X10_summerBy_78 ?_
      obtain ⟨v14, M13, hc, hF⟩ := zb_inv hF
      refine z_callS cx (As := [.ref (ad 452), .int v6, .int (v12 + (1 : Int32))]) (rest := []) (c_X10_lets l cx.2.2.2.1.1 M11 452 v6 (v12 + (1 : Int32)) (tfM_11_452 hT) hc) cs_SunnyPansModel_287 ⟨rfl, rfl, Nat.le_of_ble_eq_true rfl, Nat.le_of_ble_eq_true rfl⟩ rfl rfl ⟨Nat.zero_le _, Nat.zero_le _⟩ (Nat.le_of_ble_eq_true rfl) d_X10_summerBy_79 ?_
      refine z_pop cx d_X10_summerBy_82 rfl ?_
      refine z_goto cx 96 d_X10_summerBy_83 (by decide) ?_
      exact z_lv [2, 3, 4, 5] _ rfl (hb96 self19 hs19 b19_L2 b19_L3 b19_L4 M13 hF)
  unfold F_X10_summerBy at hF
  refine z_aload_n cx d_X10_summerBy_0 0 rfl ?_
  refine z_getR cx hT fg_SunnyPansModel_58 451 rfl d_X10_summerBy_1 ?_
  refine z_aload_n cx d_X10_summerBy_4 0 rfl ?_
  refine z_getR cx hT fg_SunnyPansModel_61 452 rfl d_X10_summerBy_5 ?_
  obtain ⟨M15, hc, hF⟩ := zbv_inv hF
  refine z_callS cx (As := [.ref (ad 451), .ref (ad 452)]) (rest := []) (c_X10_copies l cx.2.2.2.1.1 M 451 452 (tfM_11_451 hT) (tfM_11_452 hT) hc) cs_SunnyPansModel_315 ⟨rfl, rfl, Nat.le_of_ble_eq_true rfl, Nat.le_of_ble_eq_true rfl⟩ rfl rfl ⟨Nat.zero_le _, Nat.zero_le _⟩ (Nat.le_of_ble_eq_true rfl) d_X10_summerBy_8 ?_
  refine z_aload_n cx d_X10_summerBy_11 0 rfl ?_
  refine z_iload_n cx d_X10_summerBy_12 1 rfl ?_
  refine z_putI cx hT fp_SunnyPansModel_376 d_X10_summerBy_13 ?_
  refine z_nmM hF (fun M16 hF => ?_)
  refine z_iconst (v := 0) cx d_X10_summerBy_16 ki_0 ?_
  refine z_istore cx 4 [(4, .int (0 : Int32)), (0, .ref (ad 0)), (1, .int p0), (2, .int p1), (3, .int p2)] d_X10_summerBy_17 (by decide) rfl ?_
  exact z_lv [1, 3, 4, 0] _ rfl (hL19 zFuel p1 p2 (0 : Int32) M16 hF)
/-! SunnyPansModel.isSummer -/
theorem d_X10_isSummer_0 : decode cX10_isSummer 0 = .ok (.iload_n 0, 1) := by decide +kernel
theorem d_X10_isSummer_1 : decode cX10_isSummer 1 = .ok (.iconst 1, 1) := by decide +kernel
theorem d_X10_isSummer_2 : decode cX10_isSummer 2 = .ok (.bipush 96, 2) := by decide +kernel
theorem d_X10_isSummer_4 : decode cX10_isSummer 4 = .ok (.invokestatic 116, 3) := by decide +kernel
theorem d_X10_isSummer_7 : decode cX10_isSummer 7 = .ok (.ifCond .eq 17, 3) := by decide +kernel
theorem d_X10_isSummer_10 : decode cX10_isSummer 10 = .ok (.iload_n 1, 1) := by decide +kernel
theorem d_X10_isSummer_11 : decode cX10_isSummer 11 = .ok (.iconst 0, 1) := by decide +kernel
theorem d_X10_isSummer_12 : decode cX10_isSummer 12 = .ok (.bipush 16, 2) := by decide +kernel
theorem d_X10_isSummer_14 : decode cX10_isSummer 14 = .ok (.invokestatic 116, 3) := by decide +kernel
theorem d_X10_isSummer_17 : decode cX10_isSummer 17 = .ok (.ifCond .eq 7, 3) := by decide +kernel
theorem d_X10_isSummer_20 : decode cX10_isSummer 20 = .ok (.iconst 1, 1) := by decide +kernel
theorem d_X10_isSummer_21 : decode cX10_isSummer 21 = .ok (.goto 4, 3) := by decide +kernel
theorem d_X10_isSummer_24 : decode cX10_isSummer 24 = .ok (.iconst 0, 1) := by decide +kernel
theorem d_X10_isSummer_25 : decode cX10_isSummer 25 = .ok (.ireturn, 1) := by decide +kernel
noncomputable def F_X10_isSummer (M : zMem) (p0 : Int32) (p1 : Int32) : Option (Int32 × zMem) :=
  zb (F_X10_in M p0 (1 : Int32) (96 : Int32)) fun v2 M1 =>
  if v2 = 0 then
    some ((0 : Int32), M1)
  else
    zb (F_X10_in M1 p1 (0 : Int32) (16 : Int32)) fun v4 M3 =>
    if v4 = 0 then
      some ((0 : Int32), M3)
    else
      some ((1 : Int32), M3)
def rm_X10_isSummer : Room := { frames := 3, cells := 0, slots := 0, locals := 102 }
set_option maxHeartbeats 4000000 in
set_option maxRecDepth 100000 in
theorem c_X10_isSummer (l : Launch) {G : zG} {ad : Nat → Nat} {n : Nat} (hA : zInj ad n) (M : zMem) (p0 : Int32) (p1 : Int32) {r9 : Int32} {M9 : zMem} (hF : F_X10_isSummer M p0 p1 = some (r9, M9)) : zM l yX10_isSummer cX10_isSummer 2 (some .boolean) rm_X10_isSummer G shM ad n M [.int p0, .int p1] (some (.int r9)) M9 := by
  refine zM_of hA (by decide +kernel) (lv := [(0, .int p0), (1, .int p1)]) (Nat.le_of_ble_eq_true rfl) rfl (fun p e s m args below meth c A cx hr => ?_)
  unfold F_X10_isSummer at hF
  refine z_iload_n cx d_X10_isSummer_0 0 rfl ?_
  refine z_iconst (v := 1) cx d_X10_isSummer_1 ki_1 ?_
  refine z_bipush (v := 96) cx d_X10_isSummer_2 kb_96 ?_
  obtain ⟨v2, M1, hc, hF⟩ := zb_inv hF
  refine z_callS cx (As := [.int p0, .int (1 : Int32), .int (96 : Int32)]) (rest := []) (c_X10_in l cx.2.2.2.1.1 M p0 (1 : Int32) (96 : Int32)  hc) cs_SunnyPansModel_116 ⟨rfl, rfl, Nat.le_of_ble_eq_true rfl, Nat.le_of_ble_eq_true rfl⟩ rfl rfl ⟨Nat.zero_le _, Nat.zero_le _⟩ (Nat.le_of_ble_eq_true rfl) d_X10_isSummer_4 ?_
  refine z_if_eq cx 24 d_X10_isSummer_7 (by decide) hF (fun hF => ?_) (fun hF => ?_)
  · refine z_iconst (v := 0) cx d_X10_isSummer_24 ki_0 ?_
    exact z_iret cx hr nb0 hF d_X10_isSummer_25
  refine z_iload_n cx d_X10_isSummer_10 1 rfl ?_
  refine z_iconst (v := 0) cx d_X10_isSummer_11 ki_0 ?_
  refine z_bipush (v := 16) cx d_X10_isSummer_12 kb_16 ?_
  obtain ⟨v4, M3, hc, hF⟩ := zb_inv hF
  refine z_callS cx (As := [.int p1, .int (0 : Int32), .int (16 : Int32)]) (rest := []) (c_X10_in l cx.2.2.2.1.1 M1 p1 (0 : Int32) (16 : Int32)  hc) cs_SunnyPansModel_116 ⟨rfl, rfl, Nat.le_of_ble_eq_true rfl, Nat.le_of_ble_eq_true rfl⟩ rfl rfl ⟨Nat.zero_le _, Nat.zero_le _⟩ (Nat.le_of_ble_eq_true rfl) d_X10_isSummer_14 ?_
  refine z_if_eq cx 24 d_X10_isSummer_17 (by decide) hF (fun hF => ?_) (fun hF => ?_)
  · refine z_iconst (v := 0) cx d_X10_isSummer_24 ki_0 ?_
    exact z_iret cx hr nb0 hF d_X10_isSummer_25
  refine z_iconst (v := 1) cx d_X10_isSummer_20 ki_1 ?_
  refine z_goto cx 25 d_X10_isSummer_21 (by decide) ?_
  exact z_iret cx hr nb1 hF d_X10_isSummer_25
/-! SunnyPansModel.summer -/
set_option maxRecDepth 100000 in
theorem wd_1934 : Cond.code yX10_summerBy cX10_summerBy 7 none ∈ tbG := tw8 154 rfl rfl
set_option maxRecDepth 100000 in
theorem wd_1931 : Cond.methodLink "SunnyPansModel" 386 yX10_summerBy ∈ tbG := tw8 151 rfl rfl
set_option maxRecDepth 100000 in
theorem wd_1933 : Cond.instanceMethod yX10_summerBy ∈ tbG := tw8 153 rfl rfl
theorem wd_96 : Cond.selects "SunnyPansModel" yX10_summerBy yX10_summerBy ∈ tbG := tw 96 (by decide +kernel) rfl
theorem cv_SunnyPansModel_386 : zCV "SunnyPansModel" 386 "SunnyPansModel" yX10_summerBy cX10_summerBy 7 none 3 := zCV_of wd_1931 wd_1933 wd_96 wd_111 wd_1934 (by decide +kernel)
set_option maxRecDepth 100000 in
theorem wd_1930 : Cond.code yX10_isSummer cX10_isSummer 2 (some .boolean) ∈ tbG := tw8 150 rfl rfl
set_option maxRecDepth 100000 in
theorem wd_1928 : Cond.methodLink "SunnyPansModel" 383 yX10_isSummer ∈ tbG := tw8 148 rfl rfl
set_option maxRecDepth 100000 in
theorem wd_1929 : Cond.static yX10_isSummer ∈ tbG := tw8 149 rfl rfl
theorem cs_SunnyPansModel_383 : zCS "SunnyPansModel" 383 yX10_isSummer cX10_isSummer 2 (some .boolean) 2 := zCS_of wd_1928 wd_1929 wd_111 wd_1930 (by decide +kernel)
theorem d_X10_summer_0 : decode cX10_summer 0 = .ok (.aload_n 0, 1) := by decide +kernel
theorem d_X10_summer_1 : decode cX10_summer 1 = .ok (.iconst 0, 1) := by decide +kernel
theorem d_X10_summer_2 : decode cX10_summer 2 = .ok (.putfield 82, 3) := by decide +kernel
theorem d_X10_summer_5 : decode cX10_summer 5 = .ok (.aload_n 0, 1) := by decide +kernel
theorem d_X10_summer_6 : decode cX10_summer 6 = .ok (.iload_n 2, 1) := by decide +kernel
theorem d_X10_summer_7 : decode cX10_summer 7 = .ok (.iload_n 3, 1) := by decide +kernel
theorem d_X10_summer_8 : decode cX10_summer 8 = .ok (.invokestatic 383, 3) := by decide +kernel
theorem d_X10_summer_11 : decode cX10_summer 11 = .ok (.ifCond .eq 13, 3) := by decide +kernel
theorem d_X10_summer_14 : decode cX10_summer 14 = .ok (.iload 4, 2) := by decide +kernel
theorem d_X10_summer_16 : decode cX10_summer 16 = .ok (.iconst 0, 1) := by decide +kernel
theorem d_X10_summer_17 : decode cX10_summer 17 = .ok (.iconst 3, 1) := by decide +kernel
theorem d_X10_summer_18 : decode cX10_summer 18 = .ok (.invokestatic 116, 3) := by decide +kernel
theorem d_X10_summer_21 : decode cX10_summer 21 = .ok (.ifCond .ne 7, 3) := by decide +kernel
theorem d_X10_summer_24 : decode cX10_summer 24 = .ok (.iconst 1, 1) := by decide +kernel
theorem d_X10_summer_25 : decode cX10_summer 25 = .ok (.goto 4, 3) := by decide +kernel
theorem d_X10_summer_28 : decode cX10_summer 28 = .ok (.iconst 0, 1) := by decide +kernel
theorem d_X10_summer_29 : decode cX10_summer 29 = .ok (.iconst 1, 1) := by decide +kernel
theorem d_X10_summer_30 : decode cX10_summer 30 = .ok (.iconst 1, 1) := by decide +kernel
theorem d_X10_summer_31 : decode cX10_summer 31 = .ok (.invokevirtual 155, 3) := by decide +kernel
theorem d_X10_summer_34 : decode cX10_summer 34 = .ok (.ifCond .eq 5, 3) := by decide +kernel
theorem d_X10_summer_37 : decode cX10_summer 37 = .ok (.iconst 0, 1) := by decide +kernel
theorem d_X10_summer_38 : decode cX10_summer 38 = .ok (.ireturn, 1) := by decide +kernel
theorem d_X10_summer_39 : decode cX10_summer 39 = .ok (.aload_n 0, 1) := by decide +kernel
theorem d_X10_summer_40 : decode cX10_summer 40 = .ok (.iload_n 1, 1) := by decide +kernel
theorem d_X10_summer_41 : decode cX10_summer 41 = .ok (.iload_n 2, 1) := by decide +kernel
theorem d_X10_summer_42 : decode cX10_summer 42 = .ok (.iload_n 3, 1) := by decide +kernel
theorem d_X10_summer_43 : decode cX10_summer 43 = .ok (.invokevirtual 386, 3) := by decide +kernel
theorem d_X10_summer_46 : decode cX10_summer 46 = .ok (.iload 4, 2) := by decide +kernel
theorem d_X10_summer_48 : decode cX10_summer 48 = .ok (.ifCond .ne 14, 3) := by decide +kernel
theorem d_X10_summer_51 : decode cX10_summer 51 = .ok (.aload_n 0, 1) := by decide +kernel
theorem d_X10_summer_52 : decode cX10_summer 52 = .ok (.getfield 61, 3) := by decide +kernel
theorem d_X10_summer_55 : decode cX10_summer 55 = .ok (.iconst 0, 1) := by decide +kernel
theorem d_X10_summer_56 : decode cX10_summer 56 = .ok (.invokestatic 319, 3) := by decide +kernel
theorem d_X10_summer_59 : decode cX10_summer 59 = .ok (.goto 47, 3) := by decide +kernel
theorem d_X10_summer_62 : decode cX10_summer 62 = .ok (.iload 4, 2) := by decide +kernel
theorem d_X10_summer_64 : decode cX10_summer 64 = .ok (.iconst 1, 1) := by decide +kernel
theorem d_X10_summer_65 : decode cX10_summer 65 = .ok (.if_icmp .ne 15, 3) := by decide +kernel
theorem d_X10_summer_68 : decode cX10_summer 68 = .ok (.aload_n 0, 1) := by decide +kernel
theorem d_X10_summer_69 : decode cX10_summer 69 = .ok (.getfield 61, 3) := by decide +kernel
theorem d_X10_summer_72 : decode cX10_summer 72 = .ok (.bipush 64, 2) := by decide +kernel
theorem d_X10_summer_74 : decode cX10_summer 74 = .ok (.invokestatic 319, 3) := by decide +kernel
theorem d_X10_summer_77 : decode cX10_summer 77 = .ok (.goto 29, 3) := by decide +kernel
theorem d_X10_summer_80 : decode cX10_summer 80 = .ok (.iload 4, 2) := by decide +kernel
theorem d_X10_summer_82 : decode cX10_summer 82 = .ok (.iconst 2, 1) := by decide +kernel
theorem d_X10_summer_83 : decode cX10_summer 83 = .ok (.if_icmp .ne 14, 3) := by decide +kernel
theorem d_X10_summer_86 : decode cX10_summer 86 = .ok (.aload_n 0, 1) := by decide +kernel
theorem d_X10_summer_87 : decode cX10_summer 87 = .ok (.getfield 61, 3) := by decide +kernel
theorem d_X10_summer_90 : decode cX10_summer 90 = .ok (.sipush 194, 3) := by decide +kernel
theorem d_X10_summer_93 : decode cX10_summer 93 = .ok (.iaload, 1) := by decide +kernel
theorem d_X10_summer_94 : decode cX10_summer 94 = .ok (.goto 12, 3) := by decide +kernel
theorem d_X10_summer_97 : decode cX10_summer 97 = .ok (.aload_n 0, 1) := by decide +kernel
theorem d_X10_summer_98 : decode cX10_summer 98 = .ok (.aload_n 0, 1) := by decide +kernel
theorem d_X10_summer_99 : decode cX10_summer 99 = .ok (.getfield 61, 3) := by decide +kernel
theorem d_X10_summer_102 : decode cX10_summer 102 = .ok (.iconst 0, 1) := by decide +kernel
theorem d_X10_summer_103 : decode cX10_summer 103 = .ok (.invokevirtual 326, 3) := by decide +kernel
theorem d_X10_summer_106 : decode cX10_summer 106 = .ok (.ireturn, 1) := by decide +kernel
noncomputable def F_X10_summer_29 (p0 : Int32) (p1 : Int32) (p2 : Int32) (p3 : Int32) (b29_L1 : Int32) (b29_L2 : Int32) (b29_L3 : Int32) (b29_L4 : Int32) (b29_S1 : Int32) (M : zMem) : Option (Int32 × zMem) :=
  zb (F_X10_bad M b29_S1 (1 : Int32) (1 : Int32)) fun v2 M1 =>
  if v2 = 0 then
    zbv (F_X10_summerBy M1 b29_L1 b29_L2 b29_L3) fun M3 =>
    if b29_L4 = 0 then
      zb (F_X10_together M3 452 (0 : Int32)) fun v9 M8 =>
      some (v9, M8)
    else
      if b29_L4 = (1 : Int32) then
        zb (F_X10_together M3 452 (64 : Int32)) fun v7 M6 =>
        some (v7, M6)
      else
        if b29_L4 = (2 : Int32) then
          some ((M3.1 452 194), M3)
        else
          zb (F_X10_dryOnes M3 452 (0 : Int32)) fun v5 M4 =>
          some (v5, M4)
  else
    some ((0 : Int32), M1)
noncomputable def F_X10_summer (M : zMem) (p0 : Int32) (p1 : Int32) (p2 : Int32) (p3 : Int32) : Option (Int32 × zMem) :=
  zl (zI M 0 0 (0 : Int32)) fun M10 =>
  zb (F_X10_isSummer M10 p1 p2) fun v12 M11 =>
  if v12 = 0 then
    F_X10_summer_29 p0 p1 p2 p3 p0 p1 p2 p3 (1 : Int32) M11
  else
    zb (F_X10_in M11 p3 (0 : Int32) (3 : Int32)) fun v14 M13 =>
    if v14 = 0 then
      F_X10_summer_29 p0 p1 p2 p3 p0 p1 p2 p3 (1 : Int32) M13
    else
      F_X10_summer_29 p0 p1 p2 p3 p0 p1 p2 p3 (0 : Int32) M13
def rm_X10_summer : Room := { frames := 10, cells := 0, slots := 0, locals := 266 }
set_option maxHeartbeats 4000000 in
set_option maxRecDepth 100000 in
theorem c_X10_summer (l : Launch) {G : zG} {ad : Nat → Nat} {n : Nat} (hA : zInj ad n) (M : zMem) (p0 : Int32) (p1 : Int32) (p2 : Int32) (p3 : Int32) (hT : zT shM n 0 11) {r9 : Int32} {M9 : zMem} (hF : F_X10_summer M p0 p1 p2 p3 = some (r9, M9)) : zM l yX10_summer cX10_summer 5 (some .int) rm_X10_summer G shM ad n M [.ref (ad 0), .int p0, .int p1, .int p2, .int p3] (some (.int r9)) M9 := by
  refine zM_of hA (by decide +kernel) (lv := [(0, .ref (ad 0)), (1, .int p0), (2, .int p1), (3, .int p2), (4, .int p3)]) (Nat.le_of_ble_eq_true rfl) rfl (fun p e s m args below meth c A cx hr => ?_)
  have hb29 : ∀ (b29_L1 : Int32) (b29_L2 : Int32) (b29_L3 : Int32) (b29_L4 : Int32) (b29_S1 : Int32) (M : zMem), F_X10_summer_29 p0 p1 p2 p3 b29_L1 b29_L2 b29_L3 b29_L4 b29_S1 M = some (r9, M9) → zJ p l e rm_X10_summer s m args below meth c G shM ad n A 5 (MQ below (zQ G shM ad n M9 (some (.int r9)) A) args s 0 0 A) 0 0 M 29 [(0, .ref (ad 0)), (1, .int b29_L1), (2, .int b29_L2), (3, .int b29_L3), (4, .int b29_L4)] [.int b29_S1, .ref (ad 0)] := by
    intro b29_L1 b29_L2 b29_L3 b29_L4 b29_S1 M hF
    unfold F_X10_summer_29 at hF
    refine z_iconst (v := 1) cx d_X10_summer_29 ki_1 ?_
    refine z_iconst (v := 1) cx d_X10_summer_30 ki_1 ?_
    obtain ⟨v2, M1, hc, hF⟩ := zb_inv hF
    refine z_callV cx (As := [.int b29_S1, .int (1 : Int32), .int (1 : Int32)]) (rest := []) (c_X10_bad l cx.2.2.2.1.1 M b29_S1 (1 : Int32) (1 : Int32) hT hc) hT zo_11 cv_SunnyPansModel_155 ⟨rfl, rfl, Nat.le_of_ble_eq_true rfl, Nat.le_of_ble_eq_true rfl⟩ rfl rfl ⟨Nat.zero_le _, Nat.zero_le _⟩ (Nat.le_of_ble_eq_true rfl) d_X10_summer_31 ?_
    refine z_if_eq cx 39 d_X10_summer_34 (by decide) hF (fun hF => ?_) (fun hF => ?_)
    · refine z_aload_n cx d_X10_summer_39 0 rfl ?_
      refine z_iload_n cx d_X10_summer_40 1 rfl ?_
      refine z_iload_n cx d_X10_summer_41 2 rfl ?_
      refine z_iload_n cx d_X10_summer_42 3 rfl ?_
      obtain ⟨M3, hc, hF⟩ := zbv_inv hF
      refine z_callV cx (As := [.int b29_L1, .int b29_L2, .int b29_L3]) (rest := []) (c_X10_summerBy l cx.2.2.2.1.1 M1 b29_L1 b29_L2 b29_L3 hT hc) hT zo_11 cv_SunnyPansModel_386 ⟨rfl, rfl, Nat.le_of_ble_eq_true rfl, Nat.le_of_ble_eq_true rfl⟩ rfl rfl ⟨Nat.zero_le _, Nat.zero_le _⟩ (Nat.le_of_ble_eq_true rfl) d_X10_summer_43 ?_
      refine z_iload cx d_X10_summer_46 4 rfl ?_
      refine z_if_ne cx 62 d_X10_summer_48 (by decide) hF (fun hF => ?_) (fun hF => ?_)
      · refine z_iload cx d_X10_summer_62 4 rfl ?_
        refine z_iconst (v := 1) cx d_X10_summer_64 ki_1 ?_
        refine z_icmp_ne cx 80 d_X10_summer_65 (by decide) hF (fun hF => ?_) (fun hF => ?_)
        · refine z_iload cx d_X10_summer_80 4 rfl ?_
          refine z_iconst (v := 2) cx d_X10_summer_82 ki_2 ?_
          refine z_icmp_ne cx 97 d_X10_summer_83 (by decide) hF (fun hF => ?_) (fun hF => ?_)
          · refine z_aload_n cx d_X10_summer_97 0 rfl ?_
            refine z_aload_n cx d_X10_summer_98 0 rfl ?_
            refine z_getR cx hT fg_SunnyPansModel_61 452 rfl d_X10_summer_99 ?_
            refine z_iconst (v := 0) cx d_X10_summer_102 ki_0 ?_
            obtain ⟨v5, M4, hc, hF⟩ := zb_inv hF
            refine z_callV cx (As := [.ref (ad 452), .int (0 : Int32)]) (rest := []) (c_X10_dryOnes l cx.2.2.2.1.1 M3 452 (0 : Int32) hT (tfM_11_452 hT) hc) hT zo_11 cv_SunnyPansModel_326 ⟨rfl, rfl, Nat.le_of_ble_eq_true rfl, Nat.le_of_ble_eq_true rfl⟩ rfl rfl ⟨Nat.zero_le _, Nat.zero_le _⟩ (Nat.le_of_ble_eq_true rfl) d_X10_summer_103 ?_
            exact z_iret cx hr rfl hF d_X10_summer_106
          refine z_aload_n cx d_X10_summer_86 0 rfl ?_
          refine z_getR cx hT fg_SunnyPansModel_61 452 rfl d_X10_summer_87 ?_
          refine z_sipush (v := 194) cx d_X10_summer_90 ks_194 ?_
          refine z_iald cx (tfM_11_452 hT) za_36 (zvp (by decide +kernel)) 194 rfl d_X10_summer_93 ?_
          refine z_goto cx 106 d_X10_summer_94 (by decide) ?_
          exact z_iret cx hr rfl hF d_X10_summer_106
        refine z_aload_n cx d_X10_summer_68 0 rfl ?_
        refine z_getR cx hT fg_SunnyPansModel_61 452 rfl d_X10_summer_69 ?_
        refine z_bipush (v := 64) cx d_X10_summer_72 kb_64 ?_
        obtain ⟨v7, M6, hc, hF⟩ := zb_inv hF
        refine z_callS cx (As := [.ref (ad 452), .int (64 : Int32)]) (rest := []) (c_X10_together l cx.2.2.2.1.1 M3 452 (64 : Int32) (tfM_11_452 hT) hc) cs_SunnyPansModel_319 ⟨rfl, rfl, Nat.le_of_ble_eq_true rfl, Nat.le_of_ble_eq_true rfl⟩ rfl rfl ⟨Nat.zero_le _, Nat.zero_le _⟩ (Nat.le_of_ble_eq_true rfl) d_X10_summer_74 ?_
        refine z_goto cx 106 d_X10_summer_77 (by decide) ?_
        exact z_iret cx hr rfl hF d_X10_summer_106
      refine z_aload_n cx d_X10_summer_51 0 rfl ?_
      refine z_getR cx hT fg_SunnyPansModel_61 452 rfl d_X10_summer_52 ?_
      refine z_iconst (v := 0) cx d_X10_summer_55 ki_0 ?_
      obtain ⟨v9, M8, hc, hF⟩ := zb_inv hF
      refine z_callS cx (As := [.ref (ad 452), .int (0 : Int32)]) (rest := []) (c_X10_together l cx.2.2.2.1.1 M3 452 (0 : Int32) (tfM_11_452 hT) hc) cs_SunnyPansModel_319 ⟨rfl, rfl, Nat.le_of_ble_eq_true rfl, Nat.le_of_ble_eq_true rfl⟩ rfl rfl ⟨Nat.zero_le _, Nat.zero_le _⟩ (Nat.le_of_ble_eq_true rfl) d_X10_summer_56 ?_
      refine z_goto cx 106 d_X10_summer_59 (by decide) ?_
      exact z_iret cx hr rfl hF d_X10_summer_106
    refine z_iconst (v := 0) cx d_X10_summer_37 ki_0 ?_
    exact z_iret cx hr rfl hF d_X10_summer_38
  unfold F_X10_summer at hF
  refine z_aload_n cx d_X10_summer_0 0 rfl ?_
  refine z_iconst (v := 0) cx d_X10_summer_1 ki_0 ?_
  refine z_putI cx hT fp_SunnyPansModel_82 d_X10_summer_2 ?_
  refine z_nmM hF (fun M10 hF => ?_)
  refine z_aload_n cx d_X10_summer_5 0 rfl ?_
  refine z_iload_n cx d_X10_summer_6 2 rfl ?_
  refine z_iload_n cx d_X10_summer_7 3 rfl ?_
  obtain ⟨v12, M11, hc, hF⟩ := zb_inv hF
  refine z_callS cx (As := [.int p1, .int p2]) (rest := [.ref (ad 0)]) (c_X10_isSummer l cx.2.2.2.1.1 M10 p1 p2  hc) cs_SunnyPansModel_383 ⟨rfl, rfl, Nat.le_of_ble_eq_true rfl, Nat.le_of_ble_eq_true rfl⟩ rfl rfl ⟨Nat.zero_le _, Nat.zero_le _⟩ (Nat.le_of_ble_eq_true rfl) d_X10_summer_8 ?_
  refine z_if_eq cx 24 d_X10_summer_11 (by decide) hF (fun hF => ?_) (fun hF => ?_)
  · refine z_iconst (v := 1) cx d_X10_summer_24 ki_1 ?_
    refine z_goto cx 29 d_X10_summer_25 (by decide) ?_
    exact hb29 p0 p1 p2 p3 (1 : Int32) M11 hF
  refine z_iload cx d_X10_summer_14 4 rfl ?_
  refine z_iconst (v := 0) cx d_X10_summer_16 ki_0 ?_
  refine z_iconst (v := 3) cx d_X10_summer_17 ki_3 ?_
  obtain ⟨v14, M13, hc, hF⟩ := zb_inv hF
  refine z_callS cx (As := [.int p3, .int (0 : Int32), .int (3 : Int32)]) (rest := [.ref (ad 0)]) (c_X10_in l cx.2.2.2.1.1 M11 p3 (0 : Int32) (3 : Int32)  hc) cs_SunnyPansModel_116 ⟨rfl, rfl, Nat.le_of_ble_eq_true rfl, Nat.le_of_ble_eq_true rfl⟩ rfl rfl ⟨Nat.zero_le _, Nat.zero_le _⟩ (Nat.le_of_ble_eq_true rfl) d_X10_summer_18 ?_
  refine z_if_ne cx 28 d_X10_summer_21 (by decide) hF (fun hF => ?_) (fun hF => ?_)
  · refine z_iconst (v := 0) cx d_X10_summer_28 ki_0 ?_
    exact hb29 p0 p1 p2 p3 (0 : Int32) M13 hF
  refine z_iconst (v := 1) cx d_X10_summer_24 ki_1 ?_
  refine z_goto cx 29 d_X10_summer_25 (by decide) ?_
  exact hb29 p0 p1 p2 p3 (1 : Int32) M13 hF
/-! SunnyPansModel.span -/
theorem d_X10_span_0 : decode cX10_span 0 = .ok (.aload_n 0, 1) := by decide +kernel
theorem d_X10_span_1 : decode cX10_span 1 = .ok (.iconst 0, 1) := by decide +kernel
theorem d_X10_span_2 : decode cX10_span 2 = .ok (.putfield 82, 3) := by decide +kernel
theorem d_X10_span_5 : decode cX10_span 5 = .ok (.aload_n 0, 1) := by decide +kernel
theorem d_X10_span_6 : decode cX10_span 6 = .ok (.aload_n 0, 1) := by decide +kernel
theorem d_X10_span_7 : decode cX10_span 7 = .ok (.iload 6, 2) := by decide +kernel
theorem d_X10_span_9 : decode cX10_span 9 = .ok (.iload 7, 2) := by decide +kernel
theorem d_X10_span_11 : decode cX10_span 11 = .ok (.invokevirtual 237, 3) := by decide +kernel
theorem d_X10_span_14 : decode cX10_span 14 = .ok (.ifCond .ne 7, 3) := by decide +kernel
theorem d_X10_span_17 : decode cX10_span 17 = .ok (.iconst 1, 1) := by decide +kernel
theorem d_X10_span_18 : decode cX10_span 18 = .ok (.goto 4, 3) := by decide +kernel
theorem d_X10_span_21 : decode cX10_span 21 = .ok (.iconst 0, 1) := by decide +kernel
theorem d_X10_span_22 : decode cX10_span 22 = .ok (.iconst 1, 1) := by decide +kernel
theorem d_X10_span_23 : decode cX10_span 23 = .ok (.iconst 0, 1) := by decide +kernel
theorem d_X10_span_24 : decode cX10_span 24 = .ok (.invokevirtual 155, 3) := by decide +kernel
theorem d_X10_span_27 : decode cX10_span 27 = .ok (.ifCond .ne 46, 3) := by decide +kernel
theorem d_X10_span_30 : decode cX10_span 30 = .ok (.aload_n 0, 1) := by decide +kernel
theorem d_X10_span_31 : decode cX10_span 31 = .ok (.iload_n 2, 1) := by decide +kernel
theorem d_X10_span_32 : decode cX10_span 32 = .ok (.iconst 1, 1) := by decide +kernel
theorem d_X10_span_33 : decode cX10_span 33 = .ok (.bipush 10, 2) := by decide +kernel
theorem d_X10_span_35 : decode cX10_span 35 = .ok (.invokestatic 116, 3) := by decide +kernel
theorem d_X10_span_38 : decode cX10_span 38 = .ok (.ifCond .eq 22, 3) := by decide +kernel
theorem d_X10_span_41 : decode cX10_span 41 = .ok (.iload_n 3, 1) := by decide +kernel
theorem d_X10_span_42 : decode cX10_span 42 = .ok (.iload 4, 2) := by decide +kernel
theorem d_X10_span_44 : decode cX10_span 44 = .ok (.invokestatic 383, 3) := by decide +kernel
theorem d_X10_span_47 : decode cX10_span 47 = .ok (.ifCond .eq 13, 3) := by decide +kernel
theorem d_X10_span_50 : decode cX10_span 50 = .ok (.iload 5, 2) := by decide +kernel
theorem d_X10_span_52 : decode cX10_span 52 = .ok (.iconst 0, 1) := by decide +kernel
theorem d_X10_span_53 : decode cX10_span 53 = .ok (.iconst 2, 1) := by decide +kernel
theorem d_X10_span_54 : decode cX10_span 54 = .ok (.invokestatic 116, 3) := by decide +kernel
theorem d_X10_span_57 : decode cX10_span 57 = .ok (.ifCond .ne 7, 3) := by decide +kernel
theorem d_X10_span_60 : decode cX10_span 60 = .ok (.iconst 1, 1) := by decide +kernel
theorem d_X10_span_61 : decode cX10_span 61 = .ok (.goto 4, 3) := by decide +kernel
theorem d_X10_span_64 : decode cX10_span 64 = .ok (.iconst 0, 1) := by decide +kernel
theorem d_X10_span_65 : decode cX10_span 65 = .ok (.iconst 2, 1) := by decide +kernel
theorem d_X10_span_66 : decode cX10_span 66 = .ok (.iconst 1, 1) := by decide +kernel
theorem d_X10_span_67 : decode cX10_span 67 = .ok (.invokevirtual 155, 3) := by decide +kernel
theorem d_X10_span_70 : decode cX10_span 70 = .ok (.ifCond .eq 5, 3) := by decide +kernel
theorem d_X10_span_73 : decode cX10_span 73 = .ok (.iconst 0, 1) := by decide +kernel
theorem d_X10_span_74 : decode cX10_span 74 = .ok (.ireturn, 1) := by decide +kernel
theorem d_X10_span_75 : decode cX10_span 75 = .ok (.iconst (-1), 1) := by decide +kernel
theorem d_X10_span_76 : decode cX10_span 76 = .ok (.istore 8, 2) := by decide +kernel
theorem d_X10_span_78 : decode cX10_span 78 = .ok (.iconst 0, 1) := by decide +kernel
theorem d_X10_span_79 : decode cX10_span 79 = .ok (.istore 9, 2) := by decide +kernel
theorem d_X10_span_81 : decode cX10_span 81 = .ok (.iconst 0, 1) := by decide +kernel
theorem d_X10_span_82 : decode cX10_span 82 = .ok (.istore 10, 2) := by decide +kernel
theorem d_X10_span_84 : decode cX10_span 84 = .ok (.iconst 0, 1) := by decide +kernel
theorem d_X10_span_85 : decode cX10_span 85 = .ok (.istore 11, 2) := by decide +kernel
theorem d_X10_span_87 : decode cX10_span 87 = .ok (.iload 11, 2) := by decide +kernel
theorem d_X10_span_89 : decode cX10_span 89 = .ok (.iload_n 2, 1) := by decide +kernel
theorem d_X10_span_90 : decode cX10_span 90 = .ok (.if_icmp .ge 87, 3) := by decide +kernel
theorem d_X10_span_93 : decode cX10_span 93 = .ok (.aload_n 0, 1) := by decide +kernel
theorem d_X10_span_94 : decode cX10_span 94 = .ok (.iload_n 1, 1) := by decide +kernel
theorem d_X10_span_95 : decode cX10_span 95 = .ok (.iload 11, 2) := by decide +kernel
theorem d_X10_span_97 : decode cX10_span 97 = .ok (.iadd, 1) := by decide +kernel
theorem d_X10_span_98 : decode cX10_span 98 = .ok (.iload_n 3, 1) := by decide +kernel
theorem d_X10_span_99 : decode cX10_span 99 = .ok (.iload 4, 2) := by decide +kernel
theorem d_X10_span_101 : decode cX10_span 101 = .ok (.invokevirtual 386, 3) := by decide +kernel
theorem d_X10_span_104 : decode cX10_span 104 = .ok (.aload_n 0, 1) := by decide +kernel
theorem d_X10_span_105 : decode cX10_span 105 = .ok (.getfield 61, 3) := by decide +kernel
theorem d_X10_span_108 : decode cX10_span 108 = .ok (.iconst 0, 1) := by decide +kernel
theorem d_X10_span_109 : decode cX10_span 109 = .ok (.invokestatic 319, 3) := by decide +kernel
theorem d_X10_span_112 : decode cX10_span 112 = .ok (.istore 12, 2) := by decide +kernel
theorem d_X10_span_114 : decode cX10_span 114 = .ok (.iload 8, 2) := by decide +kernel
theorem d_X10_span_116 : decode cX10_span 116 = .ok (.iconst (-1), 1) := by decide +kernel
theorem d_X10_span_117 : decode cX10_span 117 = .ok (.if_icmp .ne 8, 3) := by decide +kernel
theorem d_X10_span_120 : decode cX10_span 120 = .ok (.iload 12, 2) := by decide +kernel
theorem d_X10_span_122 : decode cX10_span 122 = .ok (.goto 10, 3) := by decide +kernel
theorem d_X10_span_125 : decode cX10_span 125 = .ok (.iload 8, 2) := by decide +kernel
theorem d_X10_span_127 : decode cX10_span 127 = .ok (.iload 12, 2) := by decide +kernel
theorem d_X10_span_129 : decode cX10_span 129 = .ok (.invokestatic 215, 3) := by decide +kernel
theorem d_X10_span_132 : decode cX10_span 132 = .ok (.istore 8, 2) := by decide +kernel
theorem d_X10_span_134 : decode cX10_span 134 = .ok (.iload 9, 2) := by decide +kernel
theorem d_X10_span_136 : decode cX10_span 136 = .ok (.iload 12, 2) := by decide +kernel
theorem d_X10_span_138 : decode cX10_span 138 = .ok (.invokestatic 218, 3) := by decide +kernel
theorem d_X10_span_141 : decode cX10_span 141 = .ok (.istore 9, 2) := by decide +kernel
theorem d_X10_span_143 : decode cX10_span 143 = .ok (.iload 10, 2) := by decide +kernel
theorem d_X10_span_145 : decode cX10_span 145 = .ok (.aload_n 0, 1) := by decide +kernel
theorem d_X10_span_146 : decode cX10_span 146 = .ok (.getfield 61, 3) := by decide +kernel
theorem d_X10_span_149 : decode cX10_span 149 = .ok (.bipush 8, 2) := by decide +kernel
theorem d_X10_span_151 : decode cX10_span 151 = .ok (.iload 7, 2) := by decide +kernel
theorem d_X10_span_153 : decode cX10_span 153 = .ok (.imul, 1) := by decide +kernel
theorem d_X10_span_154 : decode cX10_span 154 = .ok (.iload 6, 2) := by decide +kernel
theorem d_X10_span_156 : decode cX10_span 156 = .ok (.iadd, 1) := by decide +kernel
theorem d_X10_span_157 : decode cX10_span 157 = .ok (.invokestatic 280, 3) := by decide +kernel
theorem d_X10_span_160 : decode cX10_span 160 = .ok (.ifCond .eq 7, 3) := by decide +kernel
theorem d_X10_span_163 : decode cX10_span 163 = .ok (.iconst 1, 1) := by decide +kernel
theorem d_X10_span_164 : decode cX10_span 164 = .ok (.goto 4, 3) := by decide +kernel
theorem d_X10_span_167 : decode cX10_span 167 = .ok (.iconst 0, 1) := by decide +kernel
theorem d_X10_span_168 : decode cX10_span 168 = .ok (.iadd, 1) := by decide +kernel
theorem d_X10_span_169 : decode cX10_span 169 = .ok (.istore 10, 2) := by decide +kernel
theorem d_X10_span_171 : decode cX10_span 171 = .ok (.iinc 11 1, 3) := by decide +kernel
theorem d_X10_span_174 : decode cX10_span 174 = .ok (.goto (-87), 3) := by decide +kernel
theorem d_X10_span_177 : decode cX10_span 177 = .ok (.iload 5, 2) := by decide +kernel
theorem d_X10_span_179 : decode cX10_span 179 = .ok (.ifCond .ne 8, 3) := by decide +kernel
theorem d_X10_span_182 : decode cX10_span 182 = .ok (.iload 8, 2) := by decide +kernel
theorem d_X10_span_184 : decode cX10_span 184 = .ok (.goto 16, 3) := by decide +kernel
theorem d_X10_span_187 : decode cX10_span 187 = .ok (.iload 5, 2) := by decide +kernel
theorem d_X10_span_189 : decode cX10_span 189 = .ok (.iconst 1, 1) := by decide +kernel
theorem d_X10_span_190 : decode cX10_span 190 = .ok (.if_icmp .ne 8, 3) := by decide +kernel
theorem d_X10_span_193 : decode cX10_span 193 = .ok (.iload 9, 2) := by decide +kernel
theorem d_X10_span_195 : decode cX10_span 195 = .ok (.goto 5, 3) := by decide +kernel
theorem d_X10_span_198 : decode cX10_span 198 = .ok (.iload 10, 2) := by decide +kernel
theorem d_X10_span_200 : decode cX10_span 200 = .ok (.ireturn, 1) := by decide +kernel
noncomputable def F_X10_span_168 (p0 : Int32) (p1 : Int32) (p2 : Int32) (p3 : Int32) (p4 : Int32) (p5 : Int32) (p6 : Int32) (self87 : Int32 → Int32 → Int32 → Int32 → Int32 → Int32 → Int32 → Int32 → Int32 → Int32 → Int32 → zMem → Option (Int32 × zMem)) (b168_L1 : Int32) (b168_L2 : Int32) (b168_L3 : Int32) (b168_L4 : Int32) (b168_L5 : Int32) (b168_L6 : Int32) (b168_L7 : Int32) (b168_L8 : Int32) (b168_L9 : Int32) (b168_L11 : Int32) (b168_S0 : Int32) (b168_S1 : Int32) (M : zMem) : Option (Int32 × zMem) :=
  zl (b168_S0 + b168_S1) fun v1 =>
  self87 b168_L1 b168_L2 b168_L3 b168_L4 b168_L5 b168_L6 b168_L7 b168_L8 b168_L9 v1 (b168_L11 + 1) M
noncomputable def F_X10_span_132 (p0 : Int32) (p1 : Int32) (p2 : Int32) (p3 : Int32) (p4 : Int32) (p5 : Int32) (p6 : Int32) (self87 : Int32 → Int32 → Int32 → Int32 → Int32 → Int32 → Int32 → Int32 → Int32 → Int32 → Int32 → zMem → Option (Int32 × zMem)) (b132_L1 : Int32) (b132_L2 : Int32) (b132_L3 : Int32) (b132_L4 : Int32) (b132_L5 : Int32) (b132_L6 : Int32) (b132_L7 : Int32) (b132_L9 : Int32) (b132_L10 : Int32) (b132_L11 : Int32) (b132_L12 : Int32) (b132_S0 : Int32) (M : zMem) : Option (Int32 × zMem) :=
  zb (F_X10_more M b132_L9 b132_L12) fun v3 M2 =>
  zb (F_X10_isDry M2 452 (((8 : Int32) * b132_L7) + b132_L6)) fun v5 M4 =>
  if v5 = 0 then
    F_X10_span_168 p0 p1 p2 p3 p4 p5 p6 self87 b132_L1 b132_L2 b132_L3 b132_L4 b132_L5 b132_L6 b132_L7 b132_S0 v3 b132_L11 b132_L10 (0 : Int32) M4
  else
    F_X10_span_168 p0 p1 p2 p3 p4 p5 p6 self87 b132_L1 b132_L2 b132_L3 b132_L4 b132_L5 b132_L6 b132_L7 b132_S0 v3 b132_L11 b132_L10 (1 : Int32) M4
noncomputable def F_X10_span_87 (p0 : Int32) (p1 : Int32) (p2 : Int32) (p3 : Int32) (p4 : Int32) (p5 : Int32) (p6 : Int32) (self87 : Int32 → Int32 → Int32 → Int32 → Int32 → Int32 → Int32 → Int32 → Int32 → Int32 → Int32 → zMem → Option (Int32 × zMem)) (b87_L1 : Int32) (b87_L2 : Int32) (b87_L3 : Int32) (b87_L4 : Int32) (b87_L5 : Int32) (b87_L6 : Int32) (b87_L7 : Int32) (b87_L8 : Int32) (b87_L9 : Int32) (b87_L10 : Int32) (b87_L11 : Int32) (M : zMem) : Option (Int32 × zMem) :=
  if b87_L2 ≤ b87_L11 then
    if b87_L5 = 0 then
      some (b87_L8, M)
    else
      if b87_L5 = (1 : Int32) then
        some (b87_L9, M)
      else
        some (b87_L10, M)
  else
    zbv (F_X10_summerBy M (b87_L1 + b87_L11) b87_L3 b87_L4) fun M6 =>
    zb (F_X10_together M6 452 (0 : Int32)) fun v8 M7 =>
    if b87_L8 = (-1 : Int32) then
      F_X10_span_132 p0 p1 p2 p3 p4 p5 p6 self87 b87_L1 b87_L2 b87_L3 b87_L4 b87_L5 b87_L6 b87_L7 b87_L9 b87_L10 b87_L11 v8 v8 M7
    else
      zb (F_X10_less M7 b87_L8 v8) fun v10 M9 =>
      F_X10_span_132 p0 p1 p2 p3 p4 p5 p6 self87 b87_L1 b87_L2 b87_L3 b87_L4 b87_L5 b87_L6 b87_L7 b87_L9 b87_L10 b87_L11 v8 v10 M9
noncomputable def F_X10_span_65 (p0 : Int32) (p1 : Int32) (p2 : Int32) (p3 : Int32) (p4 : Int32) (p5 : Int32) (p6 : Int32) (b65_L1 : Int32) (b65_L2 : Int32) (b65_L3 : Int32) (b65_L4 : Int32) (b65_L5 : Int32) (b65_L6 : Int32) (b65_L7 : Int32) (b65_S1 : Int32) (M : zMem) : Option (Int32 × zMem) :=
  zb (F_X10_bad M b65_S1 (2 : Int32) (1 : Int32)) fun v12 M11 =>
  if v12 = 0 then
    itF (fun _ _ _ _ _ _ _ _ _ _ _ _ => none) (F_X10_span_87 p0 p1 p2 p3 p4 p5 p6) zFuel b65_L1 b65_L2 b65_L3 b65_L4 b65_L5 b65_L6 b65_L7 (-1 : Int32) (0 : Int32) (0 : Int32) (0 : Int32) M11
  else
    some ((0 : Int32), M11)
noncomputable def F_X10_span_22 (p0 : Int32) (p1 : Int32) (p2 : Int32) (p3 : Int32) (p4 : Int32) (p5 : Int32) (p6 : Int32) (b22_L1 : Int32) (b22_L2 : Int32) (b22_L3 : Int32) (b22_L4 : Int32) (b22_L5 : Int32) (b22_L6 : Int32) (b22_L7 : Int32) (b22_S1 : Int32) (M : zMem) : Option (Int32 × zMem) :=
  zb (F_X10_bad M b22_S1 (1 : Int32) (0 : Int32)) fun v14 M13 =>
  if v14 = 0 then
    zb (F_X10_in M13 b22_L2 (1 : Int32) (10 : Int32)) fun v16 M15 =>
    if v16 = 0 then
      F_X10_span_65 p0 p1 p2 p3 p4 p5 p6 b22_L1 b22_L2 b22_L3 b22_L4 b22_L5 b22_L6 b22_L7 (1 : Int32) M15
    else
      zb (F_X10_isSummer M15 b22_L3 b22_L4) fun v18 M17 =>
      if v18 = 0 then
        F_X10_span_65 p0 p1 p2 p3 p4 p5 p6 b22_L1 b22_L2 b22_L3 b22_L4 b22_L5 b22_L6 b22_L7 (1 : Int32) M17
      else
        zb (F_X10_in M17 b22_L5 (0 : Int32) (2 : Int32)) fun v20 M19 =>
        if v20 = 0 then
          F_X10_span_65 p0 p1 p2 p3 p4 p5 p6 b22_L1 b22_L2 b22_L3 b22_L4 b22_L5 b22_L6 b22_L7 (1 : Int32) M19
        else
          F_X10_span_65 p0 p1 p2 p3 p4 p5 p6 b22_L1 b22_L2 b22_L3 b22_L4 b22_L5 b22_L6 b22_L7 (0 : Int32) M19
  else
    some ((0 : Int32), M13)
noncomputable def F_X10_span (M : zMem) (p0 : Int32) (p1 : Int32) (p2 : Int32) (p3 : Int32) (p4 : Int32) (p5 : Int32) (p6 : Int32) : Option (Int32 × zMem) :=
  zl (zI M 0 0 (0 : Int32)) fun M21 =>
  zb (F_X10_isWithin M21 p5 p6) fun v23 M22 =>
  if v23 = 0 then
    F_X10_span_22 p0 p1 p2 p3 p4 p5 p6 p0 p1 p2 p3 p4 p5 p6 (1 : Int32) M22
  else
    F_X10_span_22 p0 p1 p2 p3 p4 p5 p6 p0 p1 p2 p3 p4 p5 p6 (0 : Int32) M22
def rm_X10_span : Room := { frames := 10, cells := 0, slots := 0, locals := 266 }
set_option maxHeartbeats 4000000 in
set_option maxRecDepth 100000 in
theorem c_X10_span (l : Launch) {G : zG} {ad : Nat → Nat} {n : Nat} (hA : zInj ad n) (M : zMem) (p0 : Int32) (p1 : Int32) (p2 : Int32) (p3 : Int32) (p4 : Int32) (p5 : Int32) (p6 : Int32) (hT : zT shM n 0 11) {r9 : Int32} {M9 : zMem} (hF : F_X10_span M p0 p1 p2 p3 p4 p5 p6 = some (r9, M9)) : zM l yX10_span cX10_span 13 (some .int) rm_X10_span G shM ad n M [.ref (ad 0), .int p0, .int p1, .int p2, .int p3, .int p4, .int p5, .int p6] (some (.int r9)) M9 := by
  refine zM_of hA (by decide +kernel) (lv := [(0, .ref (ad 0)), (1, .int p0), (2, .int p1), (3, .int p2), (4, .int p3), (5, .int p4), (6, .int p5), (7, .int p6)]) (Nat.le_of_ble_eq_true rfl) rfl (fun p e s m args below meth c A cx hr => ?_)
  have hb168 : ∀ (self87 : Int32 → Int32 → Int32 → Int32 → Int32 → Int32 → Int32 → Int32 → Int32 → Int32 → Int32 → zMem → Option (Int32 × zMem)) (hs87 : ∀ (b87_L1 : Int32) (b87_L2 : Int32) (b87_L3 : Int32) (b87_L4 : Int32) (b87_L5 : Int32) (b87_L6 : Int32) (b87_L7 : Int32) (b87_L8 : Int32) (b87_L9 : Int32) (b87_L10 : Int32) (b87_L11 : Int32) (M : zMem), self87 b87_L1 b87_L2 b87_L3 b87_L4 b87_L5 b87_L6 b87_L7 b87_L8 b87_L9 b87_L10 b87_L11 M = some (r9, M9) → zJ p l e rm_X10_span s m args below meth c G shM ad n A 13 (MQ below (zQ G shM ad n M9 (some (.int r9)) A) args s 0 0 A) 0 0 M 87 [(0, .ref (ad 0)), (1, .int b87_L1), (2, .int b87_L2), (3, .int b87_L3), (4, .int b87_L4), (5, .int b87_L5), (6, .int b87_L6), (7, .int b87_L7), (8, .int b87_L8), (9, .int b87_L9), (10, .int b87_L10), (11, .int b87_L11)] []), ∀ (b168_L1 : Int32) (b168_L2 : Int32) (b168_L3 : Int32) (b168_L4 : Int32) (b168_L5 : Int32) (b168_L6 : Int32) (b168_L7 : Int32) (b168_L8 : Int32) (b168_L9 : Int32) (b168_L11 : Int32) (b168_S0 : Int32) (b168_S1 : Int32) (M : zMem), F_X10_span_168 p0 p1 p2 p3 p4 p5 p6 self87 b168_L1 b168_L2 b168_L3 b168_L4 b168_L5 b168_L6 b168_L7 b168_L8 b168_L9 b168_L11 b168_S0 b168_S1 M = some (r9, M9) → zJ p l e rm_X10_span s m args below meth c G shM ad n A 13 (MQ below (zQ G shM ad n M9 (some (.int r9)) A) args s 0 0 A) 0 0 M 168 [(0, .ref (ad 0)), (1, .int b168_L1), (2, .int b168_L2), (3, .int b168_L3), (4, .int b168_L4), (5, .int b168_L5), (6, .int b168_L6), (7, .int b168_L7), (8, .int b168_L8), (9, .int b168_L9), (11, .int b168_L11)] [.int b168_S1, .int b168_S0] := by
    intro self87 hs87 b168_L1 b168_L2 b168_L3 b168_L4 b168_L5 b168_L6 b168_L7 b168_L8 b168_L9 b168_L11 b168_S0 b168_S1 M hF
    unfold F_X10_span_168 at hF
    refine z_iadd cx d_X10_span_168 ?_
    refine z_nm hF (fun v1 hF => ?_)
    refine z_istore cx 10 [(10, .int v1), (0, .ref (ad 0)), (1, .int b168_L1), (2, .int b168_L2), (3, .int b168_L3), (4, .int b168_L4), (5, .int b168_L5), (6, .int b168_L6), (7, .int b168_L7), (8, .int b168_L8), (9, .int b168_L9), (11, .int b168_L11)] d_X10_span_169 (by decide) rfl ?_
    refine z_iinc cx 11 1 [(11, .int (b168_L11 + 1)), (10, .int v1), (0, .ref (ad 0)), (1, .int b168_L1), (2, .int b168_L2), (3, .int b168_L3), (4, .int b168_L4), (5, .int b168_L5), (6, .int b168_L6), (7, .int b168_L7), (8, .int b168_L8), (9, .int b168_L9)] d_X10_span_171 11 rfl ki_1 (by decide) rfl ?_
    refine z_goto cx 87 d_X10_span_174 (by decide) ?_
    exact z_lv [2, 3, 4, 5, 6, 7, 8, 9, 10, 11, 1, 0] _ rfl (hs87 b168_L1 b168_L2 b168_L3 b168_L4 b168_L5 b168_L6 b168_L7 b168_L8 b168_L9 v1 (b168_L11 + 1) M hF)
  have hb132 : ∀ (self87 : Int32 → Int32 → Int32 → Int32 → Int32 → Int32 → Int32 → Int32 → Int32 → Int32 → Int32 → zMem → Option (Int32 × zMem)) (hs87 : ∀ (b87_L1 : Int32) (b87_L2 : Int32) (b87_L3 : Int32) (b87_L4 : Int32) (b87_L5 : Int32) (b87_L6 : Int32) (b87_L7 : Int32) (b87_L8 : Int32) (b87_L9 : Int32) (b87_L10 : Int32) (b87_L11 : Int32) (M : zMem), self87 b87_L1 b87_L2 b87_L3 b87_L4 b87_L5 b87_L6 b87_L7 b87_L8 b87_L9 b87_L10 b87_L11 M = some (r9, M9) → zJ p l e rm_X10_span s m args below meth c G shM ad n A 13 (MQ below (zQ G shM ad n M9 (some (.int r9)) A) args s 0 0 A) 0 0 M 87 [(0, .ref (ad 0)), (1, .int b87_L1), (2, .int b87_L2), (3, .int b87_L3), (4, .int b87_L4), (5, .int b87_L5), (6, .int b87_L6), (7, .int b87_L7), (8, .int b87_L8), (9, .int b87_L9), (10, .int b87_L10), (11, .int b87_L11)] []), ∀ (b132_L1 : Int32) (b132_L2 : Int32) (b132_L3 : Int32) (b132_L4 : Int32) (b132_L5 : Int32) (b132_L6 : Int32) (b132_L7 : Int32) (b132_L9 : Int32) (b132_L10 : Int32) (b132_L11 : Int32) (b132_L12 : Int32) (b132_S0 : Int32) (M : zMem), F_X10_span_132 p0 p1 p2 p3 p4 p5 p6 self87 b132_L1 b132_L2 b132_L3 b132_L4 b132_L5 b132_L6 b132_L7 b132_L9 b132_L10 b132_L11 b132_L12 b132_S0 M = some (r9, M9) → zJ p l e rm_X10_span s m args below meth c G shM ad n A 13 (MQ below (zQ G shM ad n M9 (some (.int r9)) A) args s 0 0 A) 0 0 M 132 [(0, .ref (ad 0)), (1, .int b132_L1), (2, .int b132_L2), (3, .int b132_L3), (4, .int b132_L4), (5, .int b132_L5), (6, .int b132_L6), (7, .int b132_L7), (9, .int b132_L9), (10, .int b132_L10), (11, .int b132_L11), (12, .int b132_L12)] [.int b132_S0] := by
    intro self87 hs87 b132_L1 b132_L2 b132_L3 b132_L4 b132_L5 b132_L6 b132_L7 b132_L9 b132_L10 b132_L11 b132_L12 b132_S0 M hF
    unfold F_X10_span_132 at hF
    refine z_istore cx 8 [(8, .int b132_S0), (0, .ref (ad 0)), (1, .int b132_L1), (2, .int b132_L2), (3, .int b132_L3), (4, .int b132_L4), (5, .int b132_L5), (6, .int b132_L6), (7, .int b132_L7), (9, .int b132_L9), (10, .int b132_L10), (11, .int b132_L11), (12, .int b132_L12)] d_X10_span_132 (by decide) rfl ?_
    refine z_iload cx d_X10_span_134 9 rfl ?_
    refine z_iload cx d_X10_span_136 12 rfl ?_
    obtain ⟨v3, M2, hc, hF⟩ := zb_inv hF
    refine z_callS cx (As := [.int b132_L9, .int b132_L12]) (rest := []) (c_X10_more l cx.2.2.2.1.1 M b132_L9 b132_L12  hc) cs_SunnyPansModel_218 ⟨rfl, rfl, Nat.le_of_ble_eq_true rfl, Nat.le_of_ble_eq_true rfl⟩ rfl rfl ⟨Nat.zero_le _, Nat.zero_le _⟩ (Nat.le_of_ble_eq_true rfl) d_X10_span_138 ?_
    refine z_istore cx 9 [(9, .int v3), (8, .int b132_S0), (0, .ref (ad 0)), (1, .int b132_L1), (2, .int b132_L2), (3, .int b132_L3), (4, .int b132_L4), (5, .int b132_L5), (6, .int b132_L6), (7, .int b132_L7), (10, .int b132_L10), (11, .int b132_L11), (12, .int b132_L12)] d_X10_span_141 (by decide) rfl ?_
    refine z_iload cx d_X10_span_143 10 rfl ?_
    refine z_aload_n cx d_X10_span_145 2 rfl ?_
    refine z_getR cx hT fg_SunnyPansModel_61 452 rfl d_X10_span_146 ?_
    refine z_bipush (v := 8) cx d_X10_span_149 kb_8 ?_
    refine z_iload cx d_X10_span_151 9 rfl ?_
    refine z_imul cx d_X10_span_153 ?_
    refine z_iload cx d_X10_span_154 8 rfl ?_
    refine z_iadd cx d_X10_span_156 ?_
    obtain ⟨v5, M4, hc, hF⟩ := zb_inv hF
    refine z_callS cx (As := [.ref (ad 452), .int (((8 : Int32) * b132_L7) + b132_L6)]) (rest := [.int b132_L10]) (c_X10_isDry l cx.2.2.2.1.1 M2 452 (((8 : Int32) * b132_L7) + b132_L6) (tfM_11_452 hT) hc) cs_SunnyPansModel_280 ⟨rfl, rfl, Nat.le_of_ble_eq_true rfl, Nat.le_of_ble_eq_true rfl⟩ rfl rfl ⟨Nat.zero_le _, Nat.zero_le _⟩ (Nat.le_of_ble_eq_true rfl) d_X10_span_157 ?_
    refine z_if_eq cx 167 d_X10_span_160 (by decide) hF (fun hF => ?_) (fun hF => ?_)
    · refine z_iconst (v := 0) cx d_X10_span_167 ki_0 ?_
      exact z_lv [2, 3, 4, 5, 6, 7, 8, 9, 1, 0, 11] _ rfl (hb168 self87 hs87 b132_L1 b132_L2 b132_L3 b132_L4 b132_L5 b132_L6 b132_L7 b132_S0 v3 b132_L11 b132_L10 (0 : Int32) M4 hF)
    refine z_iconst (v := 1) cx d_X10_span_163 ki_1 ?_
    refine z_goto cx 168 d_X10_span_164 (by decide) ?_
    exact z_lv [2, 3, 4, 5, 6, 7, 8, 9, 1, 0, 11] _ rfl (hb168 self87 hs87 b132_L1 b132_L2 b132_L3 b132_L4 b132_L5 b132_L6 b132_L7 b132_S0 v3 b132_L11 b132_L10 (1 : Int32) M4 hF)
  have hL87 : ∀ (fuel : Nat), ∀ (b87_L1 : Int32) (b87_L2 : Int32) (b87_L3 : Int32) (b87_L4 : Int32) (b87_L5 : Int32) (b87_L6 : Int32) (b87_L7 : Int32) (b87_L8 : Int32) (b87_L9 : Int32) (b87_L10 : Int32) (b87_L11 : Int32) (M : zMem), itF (fun _ _ _ _ _ _ _ _ _ _ _ _ => none) (F_X10_span_87 p0 p1 p2 p3 p4 p5 p6) fuel b87_L1 b87_L2 b87_L3 b87_L4 b87_L5 b87_L6 b87_L7 b87_L8 b87_L9 b87_L10 b87_L11 M = some (r9, M9) → zJ p l e rm_X10_span s m args below meth c G shM ad n A 13 (MQ below (zQ G shM ad n M9 (some (.int r9)) A) args s 0 0 A) 0 0 M 87 [(0, .ref (ad 0)), (1, .int b87_L1), (2, .int b87_L2), (3, .int b87_L3), (4, .int b87_L4), (5, .int b87_L5), (6, .int b87_L6), (7, .int b87_L7), (8, .int b87_L8), (9, .int b87_L9), (10, .int b87_L10), (11, .int b87_L11)] [] := by
    intro fuel
    induction fuel with
    | zero => intro b87_L1 b87_L2 b87_L3 b87_L4 b87_L5 b87_L6 b87_L7 b87_L8 b87_L9 b87_L10 b87_L11 M hF; cases hF
    | succ fuel hs87 =>
      intro b87_L1 b87_L2 b87_L3 b87_L4 b87_L5 b87_L6 b87_L7 b87_L8 b87_L9 b87_L10 b87_L11 M hF
      have hF : F_X10_span_87 p0 p1 p2 p3 p4 p5 p6 (itF (fun _ _ _ _ _ _ _ _ _ _ _ _ => none) (F_X10_span_87 p0 p1 p2 p3 p4 p5 p6) fuel) b87_L1 b87_L2 b87_L3 b87_L4 b87_L5 b87_L6 b87_L7 b87_L8 b87_L9 b87_L10 b87_L11 M = some (r9, M9) := hF
      generalize itF (fun _ _ _ _ _ _ _ _ _ _ _ _ => none) (F_X10_span_87 p0 p1 p2 p3 p4 p5 p6) fuel = self87 at hs87 hF
      unfold F_X10_span_87 at hF
      refine z_iload cx d_X10_span_87 11 rfl ?_
      refine z_iload_n cx d_X10_span_89 2 rfl ?_
      refine z_icmp_ge cx 177 d_X10_span_90 (by decide) hF (fun hF => ?_) (fun hF => ?_)
      · refine z_iload cx d_X10_span_177 5 rfl ?_
        refine z_if_ne cx 187 d_X10_span_179 (by decide) hF (fun hF => ?_) (fun hF => ?_)
        · refine z_iload cx d_X10_span_187 5 rfl ?_
          refine z_iconst (v := 1) cx d_X10_span_189 ki_1 ?_
          refine z_icmp_ne cx 198 d_X10_span_190 (by decide) hF (fun hF => ?_) (fun hF => ?_)
          · refine z_iload cx d_X10_span_198 10 rfl ?_
            exact z_iret cx hr rfl hF d_X10_span_200
          refine z_iload cx d_X10_span_193 9 rfl ?_
          refine z_goto cx 200 d_X10_span_195 (by decide) ?_
          exact z_iret cx hr rfl hF d_X10_span_200
        refine z_iload cx d_X10_span_182 8 rfl ?_
        refine z_goto cx 200 d_X10_span_184 (by decide) ?_
        exact z_iret cx hr rfl hF d_X10_span_200
      refine z_aload_n cx d_X10_span_93 0 rfl ?_
      refine z_iload_n cx d_X10_span_94 1 rfl ?_
      refine z_iload cx d_X10_span_95 11 rfl ?_
      refine z_iadd cx d_X10_span_97 ?_
      refine z_iload_n cx d_X10_span_98 3 rfl ?_
      refine z_iload cx d_X10_span_99 4 rfl ?_
      obtain ⟨M6, hc, hF⟩ := zbv_inv hF
      refine z_callV cx (As := [.int (b87_L1 + b87_L11), .int b87_L3, .int b87_L4]) (rest := []) (c_X10_summerBy l cx.2.2.2.1.1 M (b87_L1 + b87_L11) b87_L3 b87_L4 hT hc) hT zo_11 cv_SunnyPansModel_386 ⟨rfl, rfl, Nat.le_of_ble_eq_true rfl, Nat.le_of_ble_eq_true rfl⟩ rfl rfl ⟨Nat.zero_le _, Nat.zero_le _⟩ (Nat.le_of_ble_eq_true rfl) d_X10_span_101 ?_
      refine z_aload_n cx d_X10_span_104 0 rfl ?_
      refine z_getR cx hT fg_SunnyPansModel_61 452 rfl d_X10_span_105 ?_
      refine z_iconst (v := 0) cx d_X10_span_108 ki_0 ?_
      obtain ⟨v8, M7, hc, hF⟩ := zb_inv hF
      refine z_callS cx (As := [.ref (ad 452), .int (0 : Int32)]) (rest := []) (c_X10_together l cx.2.2.2.1.1 M6 452 (0 : Int32) (tfM_11_452 hT) hc) cs_SunnyPansModel_319 ⟨rfl, rfl, Nat.le_of_ble_eq_true rfl, Nat.le_of_ble_eq_true rfl⟩ rfl rfl ⟨Nat.zero_le _, Nat.zero_le _⟩ (Nat.le_of_ble_eq_true rfl) d_X10_span_109 ?_
      refine z_istore cx 12 [(12, .int v8), (0, .ref (ad 0)), (1, .int b87_L1), (2, .int b87_L2), (3, .int b87_L3), (4, .int b87_L4), (5, .int b87_L5), (6, .int b87_L6), (7, .int b87_L7), (8, .int b87_L8), (9, .int b87_L9), (10, .int b87_L10), (11, .int b87_L11)] d_X10_span_112 (by decide) rfl ?_
      refine z_iload cx d_X10_span_114 9 rfl ?_
      refine z_iconst (v := -1) cx d_X10_span_116 ki_m1 ?_
      refine z_icmp_ne cx 125 d_X10_span_117 (by decide) hF (fun hF => ?_) (fun hF => ?_)
      · refine z_iload cx d_X10_span_125 9 rfl ?_
        refine z_iload cx d_X10_span_127 0 rfl ?_
        obtain ⟨v10, M9, hc, hF⟩ := zb_inv hF
        refine z_callS cx (As := [.int b87_L8, .int v8]) (rest := []) (c_X10_less l cx.2.2.2.1.1 M7 b87_L8 v8  hc) cs_SunnyPansModel_215 ⟨rfl, rfl, Nat.le_of_ble_eq_true rfl, Nat.le_of_ble_eq_true rfl⟩ rfl rfl ⟨Nat.zero_le _, Nat.zero_le _⟩ (Nat.le_of_ble_eq_true rfl) d_X10_span_129 ?_
        exact z_lv [1, 2, 3, 4, 5, 6, 7, 8, 10, 11, 12, 0] _ rfl (hb132 self87 hs87 b87_L1 b87_L2 b87_L3 b87_L4 b87_L5 b87_L6 b87_L7 b87_L9 b87_L10 b87_L11 v8 v10 M9 hF)
      refine z_iload cx d_X10_span_120 0 rfl ?_
      refine z_goto cx 132 d_X10_span_122 (by decide) ?_
      exact z_lv [1, 2, 3, 4, 5, 6, 7, 8, 10, 11, 12, 0] _ rfl (hb132 self87 hs87 b87_L1 b87_L2 b87_L3 b87_L4 b87_L5 b87_L6 b87_L7 b87_L9 b87_L10 b87_L11 v8 v8 M7 hF)
  have hb65 : ∀ (b65_L1 : Int32) (b65_L2 : Int32) (b65_L3 : Int32) (b65_L4 : Int32) (b65_L5 : Int32) (b65_L6 : Int32) (b65_L7 : Int32) (b65_S1 : Int32) (M : zMem), F_X10_span_65 p0 p1 p2 p3 p4 p5 p6 b65_L1 b65_L2 b65_L3 b65_L4 b65_L5 b65_L6 b65_L7 b65_S1 M = some (r9, M9) → zJ p l e rm_X10_span s m args below meth c G shM ad n A 13 (MQ below (zQ G shM ad n M9 (some (.int r9)) A) args s 0 0 A) 0 0 M 65 [(0, .ref (ad 0)), (1, .int b65_L1), (2, .int b65_L2), (3, .int b65_L3), (4, .int b65_L4), (5, .int b65_L5), (6, .int b65_L6), (7, .int b65_L7)] [.int b65_S1, .ref (ad 0)] := by
    intro b65_L1 b65_L2 b65_L3 b65_L4 b65_L5 b65_L6 b65_L7 b65_S1 M hF
    unfold F_X10_span_65 at hF
    refine z_iconst (v := 2) cx d_X10_span_65 ki_2 ?_
    refine z_iconst (v := 1) cx d_X10_span_66 ki_1 ?_
    obtain ⟨v12, M11, hc, hF⟩ := zb_inv hF
    refine z_callV cx (As := [.int b65_S1, .int (2 : Int32), .int (1 : Int32)]) (rest := []) (c_X10_bad l cx.2.2.2.1.1 M b65_S1 (2 : Int32) (1 : Int32) hT hc) hT zo_11 cv_SunnyPansModel_155 ⟨rfl, rfl, Nat.le_of_ble_eq_true rfl, Nat.le_of_ble_eq_true rfl⟩ rfl rfl ⟨Nat.zero_le _, Nat.zero_le _⟩ (Nat.le_of_ble_eq_true rfl) d_X10_span_67 ?_
    refine z_if_eq cx 75 d_X10_span_70 (by decide) hF (fun hF => ?_) (fun hF => ?_)
    · refine z_iconst (v := -1) cx d_X10_span_75 ki_m1 ?_
      refine z_istore cx 8 [(8, .int (-1 : Int32)), (0, .ref (ad 0)), (1, .int b65_L1), (2, .int b65_L2), (3, .int b65_L3), (4, .int b65_L4), (5, .int b65_L5), (6, .int b65_L6), (7, .int b65_L7)] d_X10_span_76 (by decide) rfl ?_
      refine z_iconst (v := 0) cx d_X10_span_78 ki_0 ?_
      refine z_istore cx 9 [(9, .int (0 : Int32)), (8, .int (-1 : Int32)), (0, .ref (ad 0)), (1, .int b65_L1), (2, .int b65_L2), (3, .int b65_L3), (4, .int b65_L4), (5, .int b65_L5), (6, .int b65_L6), (7, .int b65_L7)] d_X10_span_79 (by decide) rfl ?_
      refine z_iconst (v := 0) cx d_X10_span_81 ki_0 ?_
      refine z_istore cx 10 [(10, .int (0 : Int32)), (9, .int (0 : Int32)), (8, .int (-1 : Int32)), (0, .ref (ad 0)), (1, .int b65_L1), (2, .int b65_L2), (3, .int b65_L3), (4, .int b65_L4), (5, .int b65_L5), (6, .int b65_L6), (7, .int b65_L7)] d_X10_span_82 (by decide) rfl ?_
      refine z_iconst (v := 0) cx d_X10_span_84 ki_0 ?_
      refine z_istore cx 11 [(11, .int (0 : Int32)), (10, .int (0 : Int32)), (9, .int (0 : Int32)), (8, .int (-1 : Int32)), (0, .ref (ad 0)), (1, .int b65_L1), (2, .int b65_L2), (3, .int b65_L3), (4, .int b65_L4), (5, .int b65_L5), (6, .int b65_L6), (7, .int b65_L7)] d_X10_span_85 (by decide) rfl ?_
      exact z_lv [4, 5, 6, 7, 8, 9, 10, 11, 3, 2, 1, 0] _ rfl (hL87 zFuel b65_L1 b65_L2 b65_L3 b65_L4 b65_L5 b65_L6 b65_L7 (-1 : Int32) (0 : Int32) (0 : Int32) (0 : Int32) M11 hF)
    refine z_iconst (v := 0) cx d_X10_span_73 ki_0 ?_
    exact z_iret cx hr rfl hF d_X10_span_74
  have hb22 : ∀ (b22_L1 : Int32) (b22_L2 : Int32) (b22_L3 : Int32) (b22_L4 : Int32) (b22_L5 : Int32) (b22_L6 : Int32) (b22_L7 : Int32) (b22_S1 : Int32) (M : zMem), F_X10_span_22 p0 p1 p2 p3 p4 p5 p6 b22_L1 b22_L2 b22_L3 b22_L4 b22_L5 b22_L6 b22_L7 b22_S1 M = some (r9, M9) → zJ p l e rm_X10_span s m args below meth c G shM ad n A 13 (MQ below (zQ G shM ad n M9 (some (.int r9)) A) args s 0 0 A) 0 0 M 22 [(0, .ref (ad 0)), (1, .int b22_L1), (2, .int b22_L2), (3, .int b22_L3), (4, .int b22_L4), (5, .int b22_L5), (6, .int b22_L6), (7, .int b22_L7)] [.int b22_S1, .ref (ad 0)] := by
    intro b22_L1 b22_L2 b22_L3 b22_L4 b22_L5 b22_L6 b22_L7 b22_S1 M hF
    unfold F_X10_span_22 at hF
    refine z_iconst (v := 1) cx d_X10_span_22 ki_1 ?_
    refine z_iconst (v := 0) cx d_X10_span_23 ki_0 ?_
    obtain ⟨v14, M13, hc, hF⟩ := zb_inv hF
    refine z_callV cx (As := [.int b22_S1, .int (1 : Int32), .int (0 : Int32)]) (rest := []) (c_X10_bad l cx.2.2.2.1.1 M b22_S1 (1 : Int32) (0 : Int32) hT hc) hT zo_11 cv_SunnyPansModel_155 ⟨rfl, rfl, Nat.le_of_ble_eq_true rfl, Nat.le_of_ble_eq_true rfl⟩ rfl rfl ⟨Nat.zero_le _, Nat.zero_le _⟩ (Nat.le_of_ble_eq_true rfl) d_X10_span_24 ?_
    refine z_if_ne cx 73 d_X10_span_27 (by decide) hF (fun hF => ?_) (fun hF => ?_)
    · refine z_iconst (v := 0) cx d_X10_span_73 ki_0 ?_
      exact z_iret cx hr rfl hF d_X10_span_74
    refine z_aload_n cx d_X10_span_30 0 rfl ?_
    refine z_iload_n cx d_X10_span_31 2 rfl ?_
    refine z_iconst (v := 1) cx d_X10_span_32 ki_1 ?_
    refine z_bipush (v := 10) cx d_X10_span_33 kb_10 ?_
    obtain ⟨v16, M15, hc, hF⟩ := zb_inv hF
    refine z_callS cx (As := [.int b22_L2, .int (1 : Int32), .int (10 : Int32)]) (rest := [.ref (ad 0)]) (c_X10_in l cx.2.2.2.1.1 M13 b22_L2 (1 : Int32) (10 : Int32)  hc) cs_SunnyPansModel_116 ⟨rfl, rfl, Nat.le_of_ble_eq_true rfl, Nat.le_of_ble_eq_true rfl⟩ rfl rfl ⟨Nat.zero_le _, Nat.zero_le _⟩ (Nat.le_of_ble_eq_true rfl) d_X10_span_35 ?_
    refine z_if_eq cx 60 d_X10_span_38 (by decide) hF (fun hF => ?_) (fun hF => ?_)
    · refine z_iconst (v := 1) cx d_X10_span_60 ki_1 ?_
      refine z_goto cx 65 d_X10_span_61 (by decide) ?_
      exact hb65 b22_L1 b22_L2 b22_L3 b22_L4 b22_L5 b22_L6 b22_L7 (1 : Int32) M15 hF
    refine z_iload_n cx d_X10_span_41 3 rfl ?_
    refine z_iload cx d_X10_span_42 4 rfl ?_
    obtain ⟨v18, M17, hc, hF⟩ := zb_inv hF
    refine z_callS cx (As := [.int b22_L3, .int b22_L4]) (rest := [.ref (ad 0)]) (c_X10_isSummer l cx.2.2.2.1.1 M15 b22_L3 b22_L4  hc) cs_SunnyPansModel_383 ⟨rfl, rfl, Nat.le_of_ble_eq_true rfl, Nat.le_of_ble_eq_true rfl⟩ rfl rfl ⟨Nat.zero_le _, Nat.zero_le _⟩ (Nat.le_of_ble_eq_true rfl) d_X10_span_44 ?_
    refine z_if_eq cx 60 d_X10_span_47 (by decide) hF (fun hF => ?_) (fun hF => ?_)
    · refine z_iconst (v := 1) cx d_X10_span_60 ki_1 ?_
      refine z_goto cx 65 d_X10_span_61 (by decide) ?_
      exact hb65 b22_L1 b22_L2 b22_L3 b22_L4 b22_L5 b22_L6 b22_L7 (1 : Int32) M17 hF
    refine z_iload cx d_X10_span_50 5 rfl ?_
    refine z_iconst (v := 0) cx d_X10_span_52 ki_0 ?_
    refine z_iconst (v := 2) cx d_X10_span_53 ki_2 ?_
    obtain ⟨v20, M19, hc, hF⟩ := zb_inv hF
    refine z_callS cx (As := [.int b22_L5, .int (0 : Int32), .int (2 : Int32)]) (rest := [.ref (ad 0)]) (c_X10_in l cx.2.2.2.1.1 M17 b22_L5 (0 : Int32) (2 : Int32)  hc) cs_SunnyPansModel_116 ⟨rfl, rfl, Nat.le_of_ble_eq_true rfl, Nat.le_of_ble_eq_true rfl⟩ rfl rfl ⟨Nat.zero_le _, Nat.zero_le _⟩ (Nat.le_of_ble_eq_true rfl) d_X10_span_54 ?_
    refine z_if_ne cx 64 d_X10_span_57 (by decide) hF (fun hF => ?_) (fun hF => ?_)
    · refine z_iconst (v := 0) cx d_X10_span_64 ki_0 ?_
      exact hb65 b22_L1 b22_L2 b22_L3 b22_L4 b22_L5 b22_L6 b22_L7 (0 : Int32) M19 hF
    refine z_iconst (v := 1) cx d_X10_span_60 ki_1 ?_
    refine z_goto cx 65 d_X10_span_61 (by decide) ?_
    exact hb65 b22_L1 b22_L2 b22_L3 b22_L4 b22_L5 b22_L6 b22_L7 (1 : Int32) M19 hF
  unfold F_X10_span at hF
  refine z_aload_n cx d_X10_span_0 0 rfl ?_
  refine z_iconst (v := 0) cx d_X10_span_1 ki_0 ?_
  refine z_putI cx hT fp_SunnyPansModel_82 d_X10_span_2 ?_
  refine z_nmM hF (fun M21 hF => ?_)
  refine z_aload_n cx d_X10_span_5 0 rfl ?_
  refine z_aload_n cx d_X10_span_6 0 rfl ?_
  refine z_iload cx d_X10_span_7 6 rfl ?_
  refine z_iload cx d_X10_span_9 7 rfl ?_
  obtain ⟨v23, M22, hc, hF⟩ := zb_inv hF
  refine z_callV cx (As := [.int p5, .int p6]) (rest := [.ref (ad 0)]) (c_X10_isWithin l cx.2.2.2.1.1 M21 p5 p6 hT hc) hT zo_11 cv_SunnyPansModel_237 ⟨rfl, rfl, Nat.le_of_ble_eq_true rfl, Nat.le_of_ble_eq_true rfl⟩ rfl rfl ⟨Nat.zero_le _, Nat.zero_le _⟩ (Nat.le_of_ble_eq_true rfl) d_X10_span_11 ?_
  refine z_if_ne cx 21 d_X10_span_14 (by decide) hF (fun hF => ?_) (fun hF => ?_)
  · refine z_iconst (v := 0) cx d_X10_span_21 ki_0 ?_
    exact hb22 p0 p1 p2 p3 p4 p5 p6 (0 : Int32) M22 hF
  refine z_iconst (v := 1) cx d_X10_span_17 ki_1 ?_
  refine z_goto cx 22 d_X10_span_18 (by decide) ?_
  exact hb22 p0 p1 p2 p3 p4 p5 p6 (1 : Int32) M22 hF
/-! SunnyPansModel.puts -/
set_option maxRecDepth 100000 in
theorem wd_1429 : Cond.fieldLink "SunnyPansModel" 390 "SunnyPansModel" "spot" "I" ∈ tbG := tw6 129 rfl rfl
theorem fg_SunnyPansModel_390 : zGetI "SunnyPansModel" 390 10 11 34 := ⟨RX10, TX10, 40, rfl, by decide, uw_10, wd_1429, fun _ _ _ _ _ _ => ⟨_, rfl, rfl⟩⟩
theorem fp_SunnyPansModel_390 : zPutI "SunnyPansModel" 390 10 11 34 := ⟨zc_10, fg_SunnyPansModel_390, ⟨RX10, TX10, 40, rfl, rfl, by decide +kernel⟩, fun _ _ _ _ _ _ _ => ⟨_, rfl, Nat.le_of_ble_eq_true rfl, rfl⟩⟩
theorem za_39 : zArrI 39 3316 := fun _ _ _ _ _ _ => rfl
theorem d_X10_puts_0 : decode cX10_puts 0 = .ok (.iload_n 3, 1) := by decide +kernel
theorem d_X10_puts_1 : decode cX10_puts 1 = .ok (.ifCond .ne 10, 3) := by decide +kernel
theorem d_X10_puts_4 : decode cX10_puts 4 = .ok (.aload_n 1, 1) := by decide +kernel
theorem d_X10_puts_5 : decode cX10_puts 5 = .ok (.aload_n 0, 1) := by decide +kernel
theorem d_X10_puts_6 : decode cX10_puts 6 = .ok (.getfield 390, 3) := by decide +kernel
theorem d_X10_puts_9 : decode cX10_puts 9 = .ok (.iload_n 2, 1) := by decide +kernel
theorem d_X10_puts_10 : decode cX10_puts 10 = .ok (.iastore, 1) := by decide +kernel
theorem d_X10_puts_11 : decode cX10_puts 11 = .ok (.aload_n 0, 1) := by decide +kernel
theorem d_X10_puts_12 : decode cX10_puts 12 = .ok (.dup, 1) := by decide +kernel
theorem d_X10_puts_13 : decode cX10_puts 13 = .ok (.getfield 390, 3) := by decide +kernel
theorem d_X10_puts_16 : decode cX10_puts 16 = .ok (.iconst 1, 1) := by decide +kernel
theorem d_X10_puts_17 : decode cX10_puts 17 = .ok (.iadd, 1) := by decide +kernel
theorem d_X10_puts_18 : decode cX10_puts 18 = .ok (.putfield 390, 3) := by decide +kernel
theorem d_X10_puts_21 : decode cX10_puts 21 = .ok (.aload_n 1, 1) := by decide +kernel
theorem d_X10_puts_22 : decode cX10_puts 22 = .ok (.aload_n 0, 1) := by decide +kernel
theorem d_X10_puts_23 : decode cX10_puts 23 = .ok (.getfield 390, 3) := by decide +kernel
theorem d_X10_puts_26 : decode cX10_puts 26 = .ok (.iconst 1, 1) := by decide +kernel
theorem d_X10_puts_27 : decode cX10_puts 27 = .ok (.isub, 1) := by decide +kernel
theorem d_X10_puts_28 : decode cX10_puts 28 = .ok (.iaload, 1) := by decide +kernel
theorem d_X10_puts_29 : decode cX10_puts 29 = .ok (.ireturn, 1) := by decide +kernel
noncomputable def F_X10_puts_11 (p0 : Nat) (p1 : Int32) (p2 : Int32) (M : zMem) : Option (Int32 × zMem) :=
  zl (zI M 0 34 ((M.1 0 34) + (1 : Int32))) fun M1 =>
  gin ((M1.1 0 34) - (1 : Int32)) 3316 <|
  some ((M1.1 p0 ((M1.1 0 34) - (1 : Int32)).toNatClampNeg), M1)
noncomputable def F_X10_puts (M : zMem) (p0 : Nat) (p1 : Int32) (p2 : Int32) : Option (Int32 × zMem) :=
  if p2 = 0 then
    gin (M.1 0 34) 3316 <|
    zl (zI M p0 ((M.1 0 34).toNatClampNeg) p1) fun M4 =>
    F_X10_puts_11 p0 p1 p2 M4
  else
    F_X10_puts_11 p0 p1 p2 M
def rm_X10_puts : Room := { frames := 2, cells := 0, slots := 0, locals := 80 }
set_option maxHeartbeats 4000000 in
set_option maxRecDepth 100000 in
theorem c_X10_puts (l : Launch) {G : zG} {ad : Nat → Nat} {n : Nat} (hA : zInj ad n) (M : zMem) (p0 : Nat) (p1 : Int32) (p2 : Int32) (hT : zT shM n 0 11) (hT_p0 : zT shM n p0 39) {r9 : Int32} {M9 : zMem} (hF : F_X10_puts M p0 p1 p2 = some (r9, M9)) : zM l yX10_puts cX10_puts 4 (some .int) rm_X10_puts G shM ad n M [.ref (ad 0), .ref (ad p0), .int p1, .int p2] (some (.int r9)) M9 := by
  refine zM_of hA (by decide +kernel) (lv := [(0, .ref (ad 0)), (1, .ref (ad p0)), (2, .int p1), (3, .int p2)]) (Nat.le_of_ble_eq_true rfl) rfl (fun p e s m args below meth c A cx hr => ?_)
  have hb11 : ∀ (M : zMem), F_X10_puts_11 p0 p1 p2 M = some (r9, M9) → zJ p l e rm_X10_puts s m args below meth c G shM ad n A 4 (MQ below (zQ G shM ad n M9 (some (.int r9)) A) args s 0 0 A) 0 0 M 11 [(0, .ref (ad 0)), (1, .ref (ad p0))] [] := by
    intro M hF
    unfold F_X10_puts_11 at hF
    refine z_aload_n cx d_X10_puts_11 0 rfl ?_
    refine z_dup cx d_X10_puts_12 rfl ?_
    refine z_getI cx hT fg_SunnyPansModel_390 d_X10_puts_13 ?_
    refine z_iconst (v := 1) cx d_X10_puts_16 ki_1 ?_
    refine z_iadd cx d_X10_puts_17 ?_
    refine z_putI cx hT fp_SunnyPansModel_390 d_X10_puts_18 ?_
    refine z_nmM hF (fun M1 hF => ?_)
    refine z_aload_n cx d_X10_puts_21 1 rfl ?_
    refine z_aload_n cx d_X10_puts_22 0 rfl ?_
    refine z_getI cx hT fg_SunnyPansModel_390 d_X10_puts_23 ?_
    refine z_iconst (v := 1) cx d_X10_puts_26 ki_1 ?_
    refine z_isub cx d_X10_puts_27 ?_
    obtain ⟨hi2, hF⟩ := gin_inv hF
    refine z_iald cx hT_p0 za_39 hi2 (((M1.1 0 34) - (1 : Int32)).toNatClampNeg) rfl d_X10_puts_28 ?_
    exact z_iret cx hr rfl hF d_X10_puts_29
  unfold F_X10_puts at hF
  refine z_iload_n cx d_X10_puts_0 3 rfl ?_
  refine z_if_ne cx 11 d_X10_puts_1 (by decide) hF (fun hF => ?_) (fun hF => ?_)
  · exact z_lv [0, 1] _ rfl (hb11 M hF)
  refine z_aload_n cx d_X10_puts_4 1 rfl ?_
  refine z_aload_n cx d_X10_puts_5 0 rfl ?_
  refine z_getI cx hT fg_SunnyPansModel_390 d_X10_puts_6 ?_
  refine z_iload_n cx d_X10_puts_9 2 rfl ?_
  obtain ⟨hi3, hF⟩ := gin_inv hF
  refine z_iast cx hT_p0 za_39 hi3 ((M.1 0 34).toNatClampNeg) rfl d_X10_puts_10 ?_
  refine z_nmM hF (fun M4 hF => ?_)
  exact z_lv [0, 1] _ rfl (hb11 M4 hF)
/-! SunnyPansModel.putsAll -/
set_option maxRecDepth 100000 in
theorem wd_1955 : Cond.code yX10_puts cX10_puts 4 (some .int) ∈ tbG := tw8 175 rfl rfl
set_option maxRecDepth 100000 in
theorem wd_1952 : Cond.methodLink "SunnyPansModel" 393 yX10_puts ∈ tbG := tw8 172 rfl rfl
set_option maxRecDepth 100000 in
theorem wd_1954 : Cond.instanceMethod yX10_puts ∈ tbG := tw8 174 rfl rfl
theorem wd_99 : Cond.selects "SunnyPansModel" yX10_puts yX10_puts ∈ tbG := tw 99 (by decide +kernel) rfl
theorem cv_SunnyPansModel_393 : zCV "SunnyPansModel" 393 "SunnyPansModel" yX10_puts cX10_puts 4 (some .int) 3 := zCV_of wd_1952 wd_1954 wd_99 wd_111 wd_1955 (by decide +kernel)
theorem d_X10_putsAll_0 : decode cX10_putsAll 0 = .ok (.aload_n 0, 1) := by decide +kernel
theorem d_X10_putsAll_1 : decode cX10_putsAll 1 = .ok (.iconst 0, 1) := by decide +kernel
theorem d_X10_putsAll_2 : decode cX10_putsAll 2 = .ok (.putfield 390, 3) := by decide +kernel
theorem d_X10_putsAll_5 : decode cX10_putsAll 5 = .ok (.aload_n 0, 1) := by decide +kernel
theorem d_X10_putsAll_6 : decode cX10_putsAll 6 = .ok (.aload_n 0, 1) := by decide +kernel
theorem d_X10_putsAll_7 : decode cX10_putsAll 7 = .ok (.aload_n 1, 1) := by decide +kernel
theorem d_X10_putsAll_8 : decode cX10_putsAll 8 = .ok (.aload_n 0, 1) := by decide +kernel
theorem d_X10_putsAll_9 : decode cX10_putsAll 9 = .ok (.getfield 178, 3) := by decide +kernel
theorem d_X10_putsAll_12 : decode cX10_putsAll 12 = .ok (.iload_n 2, 1) := by decide +kernel
theorem d_X10_putsAll_13 : decode cX10_putsAll 13 = .ok (.invokevirtual 393, 3) := by decide +kernel
theorem d_X10_putsAll_16 : decode cX10_putsAll 16 = .ok (.putfield 178, 3) := by decide +kernel
theorem d_X10_putsAll_19 : decode cX10_putsAll 19 = .ok (.iconst 0, 1) := by decide +kernel
theorem d_X10_putsAll_20 : decode cX10_putsAll 20 = .ok (.istore_n 3, 1) := by decide +kernel
theorem d_X10_putsAll_21 : decode cX10_putsAll 21 = .ok (.iload_n 3, 1) := by decide +kernel
theorem d_X10_putsAll_22 : decode cX10_putsAll 22 = .ok (.sipush 195, 3) := by decide +kernel
theorem d_X10_putsAll_25 : decode cX10_putsAll 25 = .ok (.if_icmp .ge 27, 3) := by decide +kernel
theorem d_X10_putsAll_28 : decode cX10_putsAll 28 = .ok (.aload_n 0, 1) := by decide +kernel
theorem d_X10_putsAll_29 : decode cX10_putsAll 29 = .ok (.getfield 58, 3) := by decide +kernel
theorem d_X10_putsAll_32 : decode cX10_putsAll 32 = .ok (.iload_n 3, 1) := by decide +kernel
theorem d_X10_putsAll_33 : decode cX10_putsAll 33 = .ok (.aload_n 0, 1) := by decide +kernel
theorem d_X10_putsAll_34 : decode cX10_putsAll 34 = .ok (.aload_n 1, 1) := by decide +kernel
theorem d_X10_putsAll_35 : decode cX10_putsAll 35 = .ok (.aload_n 0, 1) := by decide +kernel
theorem d_X10_putsAll_36 : decode cX10_putsAll 36 = .ok (.getfield 58, 3) := by decide +kernel
theorem d_X10_putsAll_39 : decode cX10_putsAll 39 = .ok (.iload_n 3, 1) := by decide +kernel
theorem d_X10_putsAll_40 : decode cX10_putsAll 40 = .ok (.iaload, 1) := by decide +kernel
theorem d_X10_putsAll_41 : decode cX10_putsAll 41 = .ok (.iload_n 2, 1) := by decide +kernel
theorem d_X10_putsAll_42 : decode cX10_putsAll 42 = .ok (.invokevirtual 393, 3) := by decide +kernel
theorem d_X10_putsAll_45 : decode cX10_putsAll 45 = .ok (.iastore, 1) := by decide +kernel
theorem d_X10_putsAll_46 : decode cX10_putsAll 46 = .ok (.iinc 3 1, 3) := by decide +kernel
theorem d_X10_putsAll_49 : decode cX10_putsAll 49 = .ok (.goto (-28), 3) := by decide +kernel
theorem d_X10_putsAll_52 : decode cX10_putsAll 52 = .ok (.iconst 0, 1) := by decide +kernel
theorem d_X10_putsAll_53 : decode cX10_putsAll 53 = .ok (.istore_n 3, 1) := by decide +kernel
theorem d_X10_putsAll_54 : decode cX10_putsAll 54 = .ok (.iload_n 3, 1) := by decide +kernel
theorem d_X10_putsAll_55 : decode cX10_putsAll 55 = .ok (.bipush 16, 2) := by decide +kernel
theorem d_X10_putsAll_57 : decode cX10_putsAll 57 = .ok (.if_icmp .ge 50, 3) := by decide +kernel
theorem d_X10_putsAll_60 : decode cX10_putsAll 60 = .ok (.iconst 0, 1) := by decide +kernel
theorem d_X10_putsAll_61 : decode cX10_putsAll 61 = .ok (.istore 4, 2) := by decide +kernel
theorem d_X10_putsAll_63 : decode cX10_putsAll 63 = .ok (.iload 4, 2) := by decide +kernel
theorem d_X10_putsAll_65 : decode cX10_putsAll 65 = .ok (.sipush 195, 3) := by decide +kernel
theorem d_X10_putsAll_68 : decode cX10_putsAll 68 = .ok (.if_icmp .ge 33, 3) := by decide +kernel
theorem d_X10_putsAll_71 : decode cX10_putsAll 71 = .ok (.aload_n 0, 1) := by decide +kernel
theorem d_X10_putsAll_72 : decode cX10_putsAll 72 = .ok (.getfield 64, 3) := by decide +kernel
theorem d_X10_putsAll_75 : decode cX10_putsAll 75 = .ok (.iload_n 3, 1) := by decide +kernel
theorem d_X10_putsAll_76 : decode cX10_putsAll 76 = .ok (.aaload, 1) := by decide +kernel
theorem d_X10_putsAll_77 : decode cX10_putsAll 77 = .ok (.iload 4, 2) := by decide +kernel
theorem d_X10_putsAll_79 : decode cX10_putsAll 79 = .ok (.aload_n 0, 1) := by decide +kernel
theorem d_X10_putsAll_80 : decode cX10_putsAll 80 = .ok (.aload_n 1, 1) := by decide +kernel
theorem d_X10_putsAll_81 : decode cX10_putsAll 81 = .ok (.aload_n 0, 1) := by decide +kernel
theorem d_X10_putsAll_82 : decode cX10_putsAll 82 = .ok (.getfield 64, 3) := by decide +kernel
theorem d_X10_putsAll_85 : decode cX10_putsAll 85 = .ok (.iload_n 3, 1) := by decide +kernel
theorem d_X10_putsAll_86 : decode cX10_putsAll 86 = .ok (.aaload, 1) := by decide +kernel
theorem d_X10_putsAll_87 : decode cX10_putsAll 87 = .ok (.iload 4, 2) := by decide +kernel
theorem d_X10_putsAll_89 : decode cX10_putsAll 89 = .ok (.iaload, 1) := by decide +kernel
theorem d_X10_putsAll_90 : decode cX10_putsAll 90 = .ok (.iload_n 2, 1) := by decide +kernel
theorem d_X10_putsAll_91 : decode cX10_putsAll 91 = .ok (.invokevirtual 393, 3) := by decide +kernel
theorem d_X10_putsAll_94 : decode cX10_putsAll 94 = .ok (.iastore, 1) := by decide +kernel
theorem d_X10_putsAll_95 : decode cX10_putsAll 95 = .ok (.iinc 4 1, 3) := by decide +kernel
theorem d_X10_putsAll_98 : decode cX10_putsAll 98 = .ok (.goto (-35), 3) := by decide +kernel
theorem d_X10_putsAll_101 : decode cX10_putsAll 101 = .ok (.iinc 3 1, 3) := by decide +kernel
theorem d_X10_putsAll_104 : decode cX10_putsAll 104 = .ok (.goto (-50), 3) := by decide +kernel
theorem d_X10_putsAll_107 : decode cX10_putsAll 107 = .ok (.return_, 1) := by decide +kernel
noncomputable def F_X10_putsAll_63 (p0 : Nat) (p1 : Int32) (self54 : Int32 → Int32 → zMem → Option (zMem)) (self63 : Int32 → Int32 → Int32 → zMem → Option (zMem)) (b63_L2 : Int32) (b63_L3 : Int32) (b63_L4 : Int32) (M : zMem) : Option (zMem) :=
  if (195 : Int32) ≤ b63_L4 then
    self54 b63_L2 (b63_L3 + 1) M
  else
    gin b63_L3 16 <|
    gin b63_L4 195 <|
    zb (F_X10_puts M p0 (M.1 (453 + (1 + 1 * b63_L3.toNatClampNeg)) b63_L4.toNatClampNeg) b63_L2) fun v4 M3 =>
    zl (zI M3 (453 + (1 + 1 * b63_L3.toNatClampNeg)) b63_L4.toNatClampNeg v4) fun M5 =>
    self63 b63_L2 b63_L3 (b63_L4 + 1) M5
noncomputable def F_X10_putsAll_54 (p0 : Nat) (p1 : Int32) (self54 : Int32 → Int32 → zMem → Option (zMem)) (b54_L2 : Int32) (b54_L3 : Int32) (M : zMem) : Option (zMem) :=
  if (16 : Int32) ≤ b54_L3 then
    some M
  else
    itF (fun _ _ _ _ => none) (F_X10_putsAll_63 p0 p1 self54) zFuel b54_L2 b54_L3 (0 : Int32) M
noncomputable def F_X10_putsAll_21 (p0 : Nat) (p1 : Int32) (self21 : Int32 → Int32 → zMem → Option (zMem)) (b21_L2 : Int32) (b21_L3 : Int32) (M : zMem) : Option (zMem) :=
  if (195 : Int32) ≤ b21_L3 then
    itF (fun _ _ _ => none) (F_X10_putsAll_54 p0 p1) zFuel b21_L2 (0 : Int32) M
  else
    gin b21_L3 195 <|
    zb (F_X10_puts M p0 (M.1 451 b21_L3.toNatClampNeg) b21_L2) fun v8 M7 =>
    zl (zI M7 451 b21_L3.toNatClampNeg v8) fun M9 =>
    self21 b21_L2 (b21_L3 + 1) M9
noncomputable def F_X10_putsAll (M : zMem) (p0 : Nat) (p1 : Int32) : Option (zMem) :=
  zl (zI M 0 34 (0 : Int32)) fun M10 =>
  zb (F_X10_puts M10 p0 (M10.1 0 31) p1) fun v12 M11 =>
  zl (zI M11 0 31 v12) fun M13 =>
  itF (fun _ _ _ => none) (F_X10_putsAll_21 p0 p1) zFuel p1 (0 : Int32) M13
def rm_X10_putsAll : Room := { frames := 3, cells := 0, slots := 0, locals := 103 }
set_option maxHeartbeats 4000000 in
set_option maxRecDepth 100000 in
theorem c_X10_putsAll (l : Launch) {G : zG} {ad : Nat → Nat} {n : Nat} (hA : zInj ad n) (M : zMem) (p0 : Nat) (p1 : Int32) (hT : zT shM n 0 11) (hT_p0 : zT shM n p0 39) {M9 : zMem} (hF : F_X10_putsAll M p0 p1 = some M9) : zM l yX10_putsAll cX10_putsAll 5 none rm_X10_putsAll G shM ad n M [.ref (ad 0), .ref (ad p0), .int p1] none M9 := by
  refine zM_of hA (by decide +kernel) (lv := [(0, .ref (ad 0)), (1, .ref (ad p0)), (2, .int p1)]) (Nat.le_of_ble_eq_true rfl) rfl (fun p e s m args below meth c A cx hr => ?_)
  have hL63 : ∀ (self54 : Int32 → Int32 → zMem → Option (zMem)) (hs54 : ∀ (b54_L2 : Int32) (b54_L3 : Int32) (M : zMem), self54 b54_L2 b54_L3 M = some M9 → zJ p l e rm_X10_putsAll s m args below meth c G shM ad n A 5 (MQ below (zQ G shM ad n M9 none A) args s 0 0 A) 0 0 M 54 [(0, .ref (ad 0)), (1, .ref (ad p0)), (2, .int b54_L2), (3, .int b54_L3)] []) (fuel : Nat), ∀ (b63_L2 : Int32) (b63_L3 : Int32) (b63_L4 : Int32) (M : zMem), itF (fun _ _ _ _ => none) (F_X10_putsAll_63 p0 p1 self54) fuel b63_L2 b63_L3 b63_L4 M = some M9 → zJ p l e rm_X10_putsAll s m args below meth c G shM ad n A 5 (MQ below (zQ G shM ad n M9 none A) args s 0 0 A) 0 0 M 63 [(0, .ref (ad 0)), (1, .ref (ad p0)), (2, .int b63_L2), (3, .int b63_L3), (4, .int b63_L4)] [] := by
    intro self54 hs54 fuel
    induction fuel with
    | zero => intro b63_L2 b63_L3 b63_L4 M hF; cases hF
    | succ fuel hs63 =>
      intro b63_L2 b63_L3 b63_L4 M hF
      have hF : F_X10_putsAll_63 p0 p1 self54 (itF (fun _ _ _ _ => none) (F_X10_putsAll_63 p0 p1 self54) fuel) b63_L2 b63_L3 b63_L4 M = some M9 := hF
      generalize itF (fun _ _ _ _ => none) (F_X10_putsAll_63 p0 p1 self54) fuel = self63 at hs63 hF
      unfold F_X10_putsAll_63 at hF
      refine z_iload cx d_X10_putsAll_63 4 rfl ?_
      refine z_sipush (v := 195) cx d_X10_putsAll_65 ks_195 ?_
      refine z_icmp_ge cx 101 d_X10_putsAll_68 (by decide) hF (fun hF => ?_) (fun hF => ?_)
      · refine z_iinc cx 3 1 [(3, .int (b63_L3 + 1)), (0, .ref (ad 0)), (1, .ref (ad p0)), (2, .int b63_L2), (4, .int b63_L4)] d_X10_putsAll_101 3 rfl ki_1 (by decide) rfl ?_
        refine z_goto cx 54 d_X10_putsAll_104 (by decide) ?_
        exact z_lv [1, 2, 3, 0] _ rfl (hs54 b63_L2 (b63_L3 + 1) M hF)
      refine z_aload_n cx d_X10_putsAll_71 0 rfl ?_
      refine z_getR cx hT fg_SunnyPansModel_64 453 rfl d_X10_putsAll_72 ?_
      refine z_iload_n cx d_X10_putsAll_75 3 rfl ?_
      obtain ⟨hi1, hF⟩ := gin_inv hF
      refine z_aald cx (tfM_11_453 hT) za_37 hi1 (453 + (1 + 1 * b63_L3.toNatClampNeg)) rfl d_X10_putsAll_76 ?_
      refine z_iload cx d_X10_putsAll_77 4 rfl ?_
      refine z_aload_n cx d_X10_putsAll_79 0 rfl ?_
      refine z_aload_n cx d_X10_putsAll_80 1 rfl ?_
      refine z_aload_n cx d_X10_putsAll_81 0 rfl ?_
      refine z_getR cx hT fg_SunnyPansModel_64 453 rfl d_X10_putsAll_82 ?_
      refine z_iload_n cx d_X10_putsAll_85 3 rfl ?_
      refine z_aald cx (tfM_11_453 hT) za_37 hi1 (453 + (1 + 1 * b63_L3.toNatClampNeg)) rfl d_X10_putsAll_86 ?_
      refine z_iload cx d_X10_putsAll_87 4 rfl ?_
      obtain ⟨hi2, hF⟩ := gin_inv hF
      refine z_iald cx (teM_37 (tfM_11_453 hT) hi1) za_36 hi2 b63_L4.toNatClampNeg rfl d_X10_putsAll_89 ?_
      refine z_iload_n cx d_X10_putsAll_90 2 rfl ?_
      obtain ⟨v4, M3, hc, hF⟩ := zb_inv hF
      refine z_callV cx (As := [.ref (ad p0), .int (M.1 (453 + (1 + 1 * b63_L3.toNatClampNeg)) b63_L4.toNatClampNeg), .int b63_L2]) (rest := [.int b63_L4, .ref (ad (453 + (1 + 1 * b63_L3.toNatClampNeg)))]) (c_X10_puts l cx.2.2.2.1.1 M p0 (M.1 (453 + (1 + 1 * b63_L3.toNatClampNeg)) b63_L4.toNatClampNeg) b63_L2 hT hT_p0 hc) hT zo_11 cv_SunnyPansModel_393 ⟨rfl, rfl, Nat.le_of_ble_eq_true rfl, Nat.le_of_ble_eq_true rfl⟩ rfl rfl ⟨Nat.zero_le _, Nat.zero_le _⟩ (Nat.le_of_ble_eq_true rfl) d_X10_putsAll_91 ?_
      refine z_iast cx (teM_37 (tfM_11_453 hT) hi1) za_36 hi2 b63_L4.toNatClampNeg rfl d_X10_putsAll_94 ?_
      refine z_nmM hF (fun M5 hF => ?_)
      refine z_iinc cx 4 1 [(4, .int (b63_L4 + 1)), (0, .ref (ad 0)), (1, .ref (ad p0)), (2, .int b63_L2), (3, .int b63_L3)] d_X10_putsAll_95 4 rfl ki_1 (by decide) rfl ?_
      refine z_goto cx 63 d_X10_putsAll_98 (by decide) ?_
      exact z_lv [1, 2, 3, 4, 0] _ rfl (hs63 b63_L2 b63_L3 (b63_L4 + 1) M5 hF)
  have hL54 : ∀ (fuel : Nat), ∀ (b54_L2 : Int32) (b54_L3 : Int32) (M : zMem), itF (fun _ _ _ => none) (F_X10_putsAll_54 p0 p1) fuel b54_L2 b54_L3 M = some M9 → zJ p l e rm_X10_putsAll s m args below meth c G shM ad n A 5 (MQ below (zQ G shM ad n M9 none A) args s 0 0 A) 0 0 M 54 [(0, .ref (ad 0)), (1, .ref (ad p0)), (2, .int b54_L2), (3, .int b54_L3)] [] := by
    intro fuel
    induction fuel with
    | zero => intro b54_L2 b54_L3 M hF; cases hF
    | succ fuel hs54 =>
      intro b54_L2 b54_L3 M hF
      have hF : F_X10_putsAll_54 p0 p1 (itF (fun _ _ _ => none) (F_X10_putsAll_54 p0 p1) fuel) b54_L2 b54_L3 M = some M9 := hF
      generalize itF (fun _ _ _ => none) (F_X10_putsAll_54 p0 p1) fuel = self54 at hs54 hF
      unfold F_X10_putsAll_54 at hF
      refine z_iload_n cx d_X10_putsAll_54 3 rfl ?_
      refine z_bipush (v := 16) cx d_X10_putsAll_55 kb_16 ?_
      refine z_icmp_ge cx 107 d_X10_putsAll_57 (by decide) hF (fun hF => ?_) (fun hF => ?_)
      · exact z_vret cx hr hF d_X10_putsAll_107
      refine z_iconst (v := 0) cx d_X10_putsAll_60 ki_0 ?_
      refine z_istore cx 4 [(4, .int (0 : Int32)), (0, .ref (ad 0)), (1, .ref (ad p0)), (2, .int b54_L2), (3, .int b54_L3)] d_X10_putsAll_61 (by decide) rfl ?_
      exact z_lv [1, 2, 3, 4, 0] _ rfl (hL63 self54 hs54 zFuel b54_L2 b54_L3 (0 : Int32) M hF)
  have hL21 : ∀ (fuel : Nat), ∀ (b21_L2 : Int32) (b21_L3 : Int32) (M : zMem), itF (fun _ _ _ => none) (F_X10_putsAll_21 p0 p1) fuel b21_L2 b21_L3 M = some M9 → zJ p l e rm_X10_putsAll s m args below meth c G shM ad n A 5 (MQ below (zQ G shM ad n M9 none A) args s 0 0 A) 0 0 M 21 [(0, .ref (ad 0)), (1, .ref (ad p0)), (2, .int b21_L2), (3, .int b21_L3)] [] := by
    intro fuel
    induction fuel with
    | zero => intro b21_L2 b21_L3 M hF; cases hF
    | succ fuel hs21 =>
      intro b21_L2 b21_L3 M hF
      have hF : F_X10_putsAll_21 p0 p1 (itF (fun _ _ _ => none) (F_X10_putsAll_21 p0 p1) fuel) b21_L2 b21_L3 M = some M9 := hF
      generalize itF (fun _ _ _ => none) (F_X10_putsAll_21 p0 p1) fuel = self21 at hs21 hF
      unfold F_X10_putsAll_21 at hF
      refine z_iload_n cx d_X10_putsAll_21 3 rfl ?_
      refine z_sipush (v := 195) cx d_X10_putsAll_22 ks_195 ?_
      refine z_icmp_ge cx 52 d_X10_putsAll_25 (by decide) hF (fun hF => ?_) (fun hF => ?_)
      · refine z_iconst (v := 0) cx d_X10_putsAll_52 ki_0 ?_
        refine z_istore_n cx 3 [(3, .int (0 : Int32)), (0, .ref (ad 0)), (1, .ref (ad p0)), (2, .int b21_L2)] d_X10_putsAll_53 rfl (by decide) rfl ?_
        exact z_lv [1, 2, 3, 0] _ rfl (hL54 zFuel b21_L2 (0 : Int32) M hF)
      refine z_aload_n cx d_X10_putsAll_28 0 rfl ?_
      refine z_getR cx hT fg_SunnyPansModel_58 451 rfl d_X10_putsAll_29 ?_
      refine z_iload_n cx d_X10_putsAll_32 3 rfl ?_
      refine z_aload_n cx d_X10_putsAll_33 0 rfl ?_
      refine z_aload_n cx d_X10_putsAll_34 1 rfl ?_
      refine z_aload_n cx d_X10_putsAll_35 0 rfl ?_
      refine z_getR cx hT fg_SunnyPansModel_58 451 rfl d_X10_putsAll_36 ?_
      refine z_iload_n cx d_X10_putsAll_39 3 rfl ?_
      obtain ⟨hi6, hF⟩ := gin_inv hF
      refine z_iald cx (tfM_11_451 hT) za_36 hi6 b21_L3.toNatClampNeg rfl d_X10_putsAll_40 ?_
      refine z_iload_n cx d_X10_putsAll_41 2 rfl ?_
      obtain ⟨v8, M7, hc, hF⟩ := zb_inv hF
      refine z_callV cx (As := [.ref (ad p0), .int (M.1 451 b21_L3.toNatClampNeg), .int b21_L2]) (rest := [.int b21_L3, .ref (ad 451)]) (c_X10_puts l cx.2.2.2.1.1 M p0 (M.1 451 b21_L3.toNatClampNeg) b21_L2 hT hT_p0 hc) hT zo_11 cv_SunnyPansModel_393 ⟨rfl, rfl, Nat.le_of_ble_eq_true rfl, Nat.le_of_ble_eq_true rfl⟩ rfl rfl ⟨Nat.zero_le _, Nat.zero_le _⟩ (Nat.le_of_ble_eq_true rfl) d_X10_putsAll_42 ?_
      refine z_iast cx (tfM_11_451 hT) za_36 hi6 b21_L3.toNatClampNeg rfl d_X10_putsAll_45 ?_
      refine z_nmM hF (fun M9 hF => ?_)
      refine z_iinc cx 3 1 [(3, .int (b21_L3 + 1)), (0, .ref (ad 0)), (1, .ref (ad p0)), (2, .int b21_L2)] d_X10_putsAll_46 3 rfl ki_1 (by decide) rfl ?_
      refine z_goto cx 21 d_X10_putsAll_49 (by decide) ?_
      exact z_lv [1, 2, 3, 0] _ rfl (hs21 b21_L2 (b21_L3 + 1) M9 hF)
  unfold F_X10_putsAll at hF
  refine z_aload_n cx d_X10_putsAll_0 0 rfl ?_
  refine z_iconst (v := 0) cx d_X10_putsAll_1 ki_0 ?_
  refine z_putI cx hT fp_SunnyPansModel_390 d_X10_putsAll_2 ?_
  refine z_nmM hF (fun M10 hF => ?_)
  refine z_aload_n cx d_X10_putsAll_5 0 rfl ?_
  refine z_aload_n cx d_X10_putsAll_6 0 rfl ?_
  refine z_aload_n cx d_X10_putsAll_7 1 rfl ?_
  refine z_aload_n cx d_X10_putsAll_8 0 rfl ?_
  refine z_getI cx hT fg_SunnyPansModel_178 d_X10_putsAll_9 ?_
  refine z_iload_n cx d_X10_putsAll_12 2 rfl ?_
  obtain ⟨v12, M11, hc, hF⟩ := zb_inv hF
  refine z_callV cx (As := [.ref (ad p0), .int (M10.1 0 31), .int p1]) (rest := [.ref (ad 0)]) (c_X10_puts l cx.2.2.2.1.1 M10 p0 (M10.1 0 31) p1 hT hT_p0 hc) hT zo_11 cv_SunnyPansModel_393 ⟨rfl, rfl, Nat.le_of_ble_eq_true rfl, Nat.le_of_ble_eq_true rfl⟩ rfl rfl ⟨Nat.zero_le _, Nat.zero_le _⟩ (Nat.le_of_ble_eq_true rfl) d_X10_putsAll_13 ?_
  refine z_putI cx hT fp_SunnyPansModel_178 d_X10_putsAll_16 ?_
  refine z_nmM hF (fun M13 hF => ?_)
  refine z_iconst (v := 0) cx d_X10_putsAll_19 ki_0 ?_
  refine z_istore_n cx 3 [(3, .int (0 : Int32)), (0, .ref (ad 0)), (1, .ref (ad p0)), (2, .int p1)] d_X10_putsAll_20 rfl (by decide) rfl ?_
  exact z_lv [1, 2, 3, 0] _ rfl (hL21 zFuel p1 (0 : Int32) M13 hF)
/-! SunnyPansModel.image -/
theorem tfM_11_470 {n k : Nat} (h : zT shM n k 11) : zT shM n (k + 470) 38 := zT_off h (shM_f (by decide) (by decide +kernel)) (by decide) (by decide)
set_option maxRecDepth 100000 in
theorem wd_1424 : Cond.fieldLink "SunnyPansModel" 67 "SunnyPansModel" "kept" "[[I" ∈ tbG := tw6 124 rfl rfl
theorem fg_SunnyPansModel_67 : zGetR "SunnyPansModel" 67 10 11 29 470 := ⟨RX10, TX10, 40, rfl, by decide, uw_10, wd_1424, fun _ _ _ _ _ _ => ⟨_, rfl, rfl⟩⟩
theorem za_38 : zArrR 38 3 4 1 1 := ⟨by decide, fun _ _ _ _ _ _ => rfl⟩
theorem teM_38 {n k : Nat} {i : Int32} (h : zT shM n k 38) (hi : vp_in i 3) : zT shM n (k + (1 + 1 * i.toNatClampNeg)) 39 := by
  have hlt : i.toNatClampNeg < 3 := Nat.not_le.mp fun q => hi (Or.inr q)
  have h2 : k + 4 ≤ n := h.2.2
  exact ⟨shM_e (by decide) (by decide +kernel) k h.1 _ hlt, by omega, by show _ + 1 ≤ n; omega⟩
set_option maxRecDepth 100000 in
theorem wd_1951 : Cond.code yX10_putsAll cX10_putsAll 5 none ∈ tbG := tw8 171 rfl rfl
set_option maxRecDepth 100000 in
theorem wd_1948 : Cond.methodLink "SunnyPansModel" 397 yX10_putsAll ∈ tbG := tw8 168 rfl rfl
set_option maxRecDepth 100000 in
theorem wd_1950 : Cond.instanceMethod yX10_putsAll ∈ tbG := tw8 170 rfl rfl
theorem wd_98 : Cond.selects "SunnyPansModel" yX10_putsAll yX10_putsAll ∈ tbG := tw 98 (by decide +kernel) rfl
theorem cv_SunnyPansModel_397 : zCV "SunnyPansModel" 397 "SunnyPansModel" yX10_putsAll cX10_putsAll 5 none 2 := zCV_of wd_1948 wd_1950 wd_98 wd_111 wd_1951 (by decide +kernel)
theorem d_X10_image_0 : decode cX10_image 0 = .ok (.aload_n 0, 1) := by decide +kernel
theorem d_X10_image_1 : decode cX10_image 1 = .ok (.iconst 0, 1) := by decide +kernel
theorem d_X10_image_2 : decode cX10_image 2 = .ok (.putfield 82, 3) := by decide +kernel
theorem d_X10_image_5 : decode cX10_image 5 = .ok (.aload_n 0, 1) := by decide +kernel
theorem d_X10_image_6 : decode cX10_image 6 = .ok (.getfield 184, 3) := by decide +kernel
theorem d_X10_image_9 : decode cX10_image 9 = .ok (.iconst 3, 1) := by decide +kernel
theorem d_X10_image_10 : decode cX10_image 10 = .ok (.if_icmp .ne 5, 3) := by decide +kernel
theorem d_X10_image_13 : decode cX10_image 13 = .ok (.iconst (-1), 1) := by decide +kernel
theorem d_X10_image_14 : decode cX10_image 14 = .ok (.ireturn, 1) := by decide +kernel
theorem d_X10_image_15 : decode cX10_image 15 = .ok (.aload_n 0, 1) := by decide +kernel
theorem d_X10_image_16 : decode cX10_image 16 = .ok (.aload_n 0, 1) := by decide +kernel
theorem d_X10_image_17 : decode cX10_image 17 = .ok (.getfield 67, 3) := by decide +kernel
theorem d_X10_image_20 : decode cX10_image 20 = .ok (.aload_n 0, 1) := by decide +kernel
theorem d_X10_image_21 : decode cX10_image 21 = .ok (.getfield 184, 3) := by decide +kernel
theorem d_X10_image_24 : decode cX10_image 24 = .ok (.aaload, 1) := by decide +kernel
theorem d_X10_image_25 : decode cX10_image 25 = .ok (.iconst 0, 1) := by decide +kernel
theorem d_X10_image_26 : decode cX10_image 26 = .ok (.invokevirtual 397, 3) := by decide +kernel
theorem d_X10_image_29 : decode cX10_image 29 = .ok (.aload_n 0, 1) := by decide +kernel
theorem d_X10_image_30 : decode cX10_image 30 = .ok (.dup, 1) := by decide +kernel
theorem d_X10_image_31 : decode cX10_image 31 = .ok (.getfield 184, 3) := by decide +kernel
theorem d_X10_image_34 : decode cX10_image 34 = .ok (.iconst 1, 1) := by decide +kernel
theorem d_X10_image_35 : decode cX10_image 35 = .ok (.iadd, 1) := by decide +kernel
theorem d_X10_image_36 : decode cX10_image 36 = .ok (.putfield 184, 3) := by decide +kernel
theorem d_X10_image_39 : decode cX10_image 39 = .ok (.aload_n 0, 1) := by decide +kernel
theorem d_X10_image_40 : decode cX10_image 40 = .ok (.getfield 184, 3) := by decide +kernel
theorem d_X10_image_43 : decode cX10_image 43 = .ok (.ireturn, 1) := by decide +kernel
noncomputable def F_X10_image (M : zMem)  : Option (Int32 × zMem) :=
  zl (zI M 0 0 (0 : Int32)) fun M1 =>
  if (M1.1 0 33) = (3 : Int32) then
    some ((-1 : Int32), M1)
  else
    gin (M1.1 0 33) 3 <|
    zbv (F_X10_putsAll M1 (470 + (1 + 1 * (M1.1 0 33).toNatClampNeg)) (0 : Int32)) fun M3 =>
    zl (zI M3 0 33 ((M3.1 0 33) + (1 : Int32))) fun M4 =>
    some ((M4.1 0 33), M4)
def rm_X10_image : Room := { frames := 4, cells := 0, slots := 0, locals := 127 }
set_option maxHeartbeats 4000000 in
set_option maxRecDepth 100000 in
theorem c_X10_image (l : Launch) {G : zG} {ad : Nat → Nat} {n : Nat} (hA : zInj ad n) (M : zMem)  (hT : zT shM n 0 11) {r9 : Int32} {M9 : zMem} (hF : F_X10_image M  = some (r9, M9)) : zM l yX10_image cX10_image 1 (some .int) rm_X10_image G shM ad n M [.ref (ad 0)] (some (.int r9)) M9 := by
  refine zM_of hA (by decide +kernel) (lv := [(0, .ref (ad 0))]) (Nat.le_of_ble_eq_true rfl) rfl (fun p e s m args below meth c A cx hr => ?_)
  unfold F_X10_image at hF
  refine z_aload_n cx d_X10_image_0 0 rfl ?_
  refine z_iconst (v := 0) cx d_X10_image_1 ki_0 ?_
  refine z_putI cx hT fp_SunnyPansModel_82 d_X10_image_2 ?_
  refine z_nmM hF (fun M1 hF => ?_)
  refine z_aload_n cx d_X10_image_5 0 rfl ?_
  refine z_getI cx hT fg_SunnyPansModel_184 d_X10_image_6 ?_
  refine z_iconst (v := 3) cx d_X10_image_9 ki_3 ?_
  refine z_icmp_ne cx 15 d_X10_image_10 (by decide) hF (fun hF => ?_) (fun hF => ?_)
  · refine z_aload_n cx d_X10_image_15 0 rfl ?_
    refine z_aload_n cx d_X10_image_16 0 rfl ?_
    refine z_getR cx hT fg_SunnyPansModel_67 470 rfl d_X10_image_17 ?_
    refine z_aload_n cx d_X10_image_20 0 rfl ?_
    refine z_getI cx hT fg_SunnyPansModel_184 d_X10_image_21 ?_
    obtain ⟨hi2, hF⟩ := gin_inv hF
    refine z_aald cx (tfM_11_470 hT) za_38 hi2 (470 + (1 + 1 * (M1.1 0 33).toNatClampNeg)) rfl d_X10_image_24 ?_
    refine z_iconst (v := 0) cx d_X10_image_25 ki_0 ?_
    obtain ⟨M3, hc, hF⟩ := zbv_inv hF
    refine z_callV cx (As := [.ref (ad (470 + (1 + 1 * (M1.1 0 33).toNatClampNeg))), .int (0 : Int32)]) (rest := []) (c_X10_putsAll l cx.2.2.2.1.1 M1 (470 + (1 + 1 * (M1.1 0 33).toNatClampNeg)) (0 : Int32) hT (teM_38 (tfM_11_470 hT) hi2) hc) hT zo_11 cv_SunnyPansModel_397 ⟨rfl, rfl, Nat.le_of_ble_eq_true rfl, Nat.le_of_ble_eq_true rfl⟩ rfl rfl ⟨Nat.zero_le _, Nat.zero_le _⟩ (Nat.le_of_ble_eq_true rfl) d_X10_image_26 ?_
    refine z_aload_n cx d_X10_image_29 0 rfl ?_
    refine z_dup cx d_X10_image_30 rfl ?_
    refine z_getI cx hT fg_SunnyPansModel_184 d_X10_image_31 ?_
    refine z_iconst (v := 1) cx d_X10_image_34 ki_1 ?_
    refine z_iadd cx d_X10_image_35 ?_
    refine z_putI cx hT fp_SunnyPansModel_184 d_X10_image_36 ?_
    refine z_nmM hF (fun M4 hF => ?_)
    refine z_aload_n cx d_X10_image_39 0 rfl ?_
    refine z_getI cx hT fg_SunnyPansModel_184 d_X10_image_40 ?_
    exact z_iret cx hr rfl hF d_X10_image_43
  refine z_iconst (v := -1) cx d_X10_image_13 ki_m1 ?_
  exact z_iret cx hr rfl hF d_X10_image_14
/-! SunnyPansModel.restore -/
theorem d_X10_restore_0 : decode cX10_restore 0 = .ok (.aload_n 0, 1) := by decide +kernel
theorem d_X10_restore_1 : decode cX10_restore 1 = .ok (.iconst 0, 1) := by decide +kernel
theorem d_X10_restore_2 : decode cX10_restore 2 = .ok (.putfield 82, 3) := by decide +kernel
theorem d_X10_restore_5 : decode cX10_restore 5 = .ok (.aload_n 0, 1) := by decide +kernel
theorem d_X10_restore_6 : decode cX10_restore 6 = .ok (.getfield 184, 3) := by decide +kernel
theorem d_X10_restore_9 : decode cX10_restore 9 = .ok (.ifCond .ne 5, 3) := by decide +kernel
theorem d_X10_restore_12 : decode cX10_restore 12 = .ok (.iconst (-1), 1) := by decide +kernel
theorem d_X10_restore_13 : decode cX10_restore 13 = .ok (.ireturn, 1) := by decide +kernel
theorem d_X10_restore_14 : decode cX10_restore 14 = .ok (.aload_n 0, 1) := by decide +kernel
theorem d_X10_restore_15 : decode cX10_restore 15 = .ok (.dup, 1) := by decide +kernel
theorem d_X10_restore_16 : decode cX10_restore 16 = .ok (.getfield 184, 3) := by decide +kernel
theorem d_X10_restore_19 : decode cX10_restore 19 = .ok (.iconst 1, 1) := by decide +kernel
theorem d_X10_restore_20 : decode cX10_restore 20 = .ok (.isub, 1) := by decide +kernel
theorem d_X10_restore_21 : decode cX10_restore 21 = .ok (.putfield 184, 3) := by decide +kernel
theorem d_X10_restore_24 : decode cX10_restore 24 = .ok (.aload_n 0, 1) := by decide +kernel
theorem d_X10_restore_25 : decode cX10_restore 25 = .ok (.aload_n 0, 1) := by decide +kernel
theorem d_X10_restore_26 : decode cX10_restore 26 = .ok (.getfield 67, 3) := by decide +kernel
theorem d_X10_restore_29 : decode cX10_restore 29 = .ok (.aload_n 0, 1) := by decide +kernel
theorem d_X10_restore_30 : decode cX10_restore 30 = .ok (.getfield 184, 3) := by decide +kernel
theorem d_X10_restore_33 : decode cX10_restore 33 = .ok (.aaload, 1) := by decide +kernel
theorem d_X10_restore_34 : decode cX10_restore 34 = .ok (.iconst 1, 1) := by decide +kernel
theorem d_X10_restore_35 : decode cX10_restore 35 = .ok (.invokevirtual 397, 3) := by decide +kernel
theorem d_X10_restore_38 : decode cX10_restore 38 = .ok (.aload_n 0, 1) := by decide +kernel
theorem d_X10_restore_39 : decode cX10_restore 39 = .ok (.iconst 0, 1) := by decide +kernel
theorem d_X10_restore_40 : decode cX10_restore 40 = .ok (.putfield 181, 3) := by decide +kernel
theorem d_X10_restore_43 : decode cX10_restore 43 = .ok (.aload_n 0, 1) := by decide +kernel
theorem d_X10_restore_44 : decode cX10_restore 44 = .ok (.getfield 184, 3) := by decide +kernel
theorem d_X10_restore_47 : decode cX10_restore 47 = .ok (.ireturn, 1) := by decide +kernel
noncomputable def F_X10_restore (M : zMem)  : Option (Int32 × zMem) :=
  zl (zI M 0 0 (0 : Int32)) fun M1 =>
  if (M1.1 0 33) = 0 then
    some ((-1 : Int32), M1)
  else
    zl (zI M1 0 33 ((M1.1 0 33) - (1 : Int32))) fun M2 =>
    gin (M2.1 0 33) 3 <|
    zbv (F_X10_putsAll M2 (470 + (1 + 1 * (M2.1 0 33).toNatClampNeg)) (1 : Int32)) fun M4 =>
    zl (zI M4 0 32 (0 : Int32)) fun M5 =>
    some ((M5.1 0 33), M5)
def rm_X10_restore : Room := { frames := 4, cells := 0, slots := 0, locals := 127 }
set_option maxHeartbeats 4000000 in
set_option maxRecDepth 100000 in
theorem c_X10_restore (l : Launch) {G : zG} {ad : Nat → Nat} {n : Nat} (hA : zInj ad n) (M : zMem)  (hT : zT shM n 0 11) {r9 : Int32} {M9 : zMem} (hF : F_X10_restore M  = some (r9, M9)) : zM l yX10_restore cX10_restore 1 (some .int) rm_X10_restore G shM ad n M [.ref (ad 0)] (some (.int r9)) M9 := by
  refine zM_of hA (by decide +kernel) (lv := [(0, .ref (ad 0))]) (Nat.le_of_ble_eq_true rfl) rfl (fun p e s m args below meth c A cx hr => ?_)
  unfold F_X10_restore at hF
  refine z_aload_n cx d_X10_restore_0 0 rfl ?_
  refine z_iconst (v := 0) cx d_X10_restore_1 ki_0 ?_
  refine z_putI cx hT fp_SunnyPansModel_82 d_X10_restore_2 ?_
  refine z_nmM hF (fun M1 hF => ?_)
  refine z_aload_n cx d_X10_restore_5 0 rfl ?_
  refine z_getI cx hT fg_SunnyPansModel_184 d_X10_restore_6 ?_
  refine z_if_ne cx 14 d_X10_restore_9 (by decide) hF (fun hF => ?_) (fun hF => ?_)
  · refine z_aload_n cx d_X10_restore_14 0 rfl ?_
    refine z_dup cx d_X10_restore_15 rfl ?_
    refine z_getI cx hT fg_SunnyPansModel_184 d_X10_restore_16 ?_
    refine z_iconst (v := 1) cx d_X10_restore_19 ki_1 ?_
    refine z_isub cx d_X10_restore_20 ?_
    refine z_putI cx hT fp_SunnyPansModel_184 d_X10_restore_21 ?_
    refine z_nmM hF (fun M2 hF => ?_)
    refine z_aload_n cx d_X10_restore_24 0 rfl ?_
    refine z_aload_n cx d_X10_restore_25 0 rfl ?_
    refine z_getR cx hT fg_SunnyPansModel_67 470 rfl d_X10_restore_26 ?_
    refine z_aload_n cx d_X10_restore_29 0 rfl ?_
    refine z_getI cx hT fg_SunnyPansModel_184 d_X10_restore_30 ?_
    obtain ⟨hi3, hF⟩ := gin_inv hF
    refine z_aald cx (tfM_11_470 hT) za_38 hi3 (470 + (1 + 1 * (M2.1 0 33).toNatClampNeg)) rfl d_X10_restore_33 ?_
    refine z_iconst (v := 1) cx d_X10_restore_34 ki_1 ?_
    obtain ⟨M4, hc, hF⟩ := zbv_inv hF
    refine z_callV cx (As := [.ref (ad (470 + (1 + 1 * (M2.1 0 33).toNatClampNeg))), .int (1 : Int32)]) (rest := []) (c_X10_putsAll l cx.2.2.2.1.1 M2 (470 + (1 + 1 * (M2.1 0 33).toNatClampNeg)) (1 : Int32) hT (teM_38 (tfM_11_470 hT) hi3) hc) hT zo_11 cv_SunnyPansModel_397 ⟨rfl, rfl, Nat.le_of_ble_eq_true rfl, Nat.le_of_ble_eq_true rfl⟩ rfl rfl ⟨Nat.zero_le _, Nat.zero_le _⟩ (Nat.le_of_ble_eq_true rfl) d_X10_restore_35 ?_
    refine z_aload_n cx d_X10_restore_38 0 rfl ?_
    refine z_iconst (v := 0) cx d_X10_restore_39 ki_0 ?_
    refine z_putI cx hT fp_SunnyPansModel_181 d_X10_restore_40 ?_
    refine z_nmM hF (fun M5 hF => ?_)
    refine z_aload_n cx d_X10_restore_43 0 rfl ?_
    refine z_getI cx hT fg_SunnyPansModel_184 d_X10_restore_44 ?_
    exact z_iret cx hr rfl hF d_X10_restore_47
  refine z_iconst (v := -1) cx d_X10_restore_12 ki_m1 ?_
  exact z_iret cx hr rfl hF d_X10_restore_13
/-! SunnyPansModel.status -/
theorem d_X10_status_0 : decode cX10_status 0 = .ok (.aload_n 0, 1) := by decide +kernel
theorem d_X10_status_1 : decode cX10_status 1 = .ok (.iconst 0, 1) := by decide +kernel
theorem d_X10_status_2 : decode cX10_status 2 = .ok (.putfield 82, 3) := by decide +kernel
theorem d_X10_status_5 : decode cX10_status 5 = .ok (.iload_n 1, 1) := by decide +kernel
theorem d_X10_status_6 : decode cX10_status 6 = .ok (.iconst 0, 1) := by decide +kernel
theorem d_X10_status_7 : decode cX10_status 7 = .ok (.iconst 1, 1) := by decide +kernel
theorem d_X10_status_8 : decode cX10_status 8 = .ok (.invokestatic 116, 3) := by decide +kernel
theorem d_X10_status_11 : decode cX10_status 11 = .ok (.ifCond .eq 12, 3) := by decide +kernel
theorem d_X10_status_14 : decode cX10_status 14 = .ok (.aload_n 0, 1) := by decide +kernel
theorem d_X10_status_15 : decode cX10_status 15 = .ok (.getfield 17, 3) := by decide +kernel
theorem d_X10_status_18 : decode cX10_status 18 = .ok (.iload_n 1, 1) := by decide +kernel
theorem d_X10_status_19 : decode cX10_status 19 = .ok (.iaload, 1) := by decide +kernel
theorem d_X10_status_20 : decode cX10_status 20 = .ok (.goto 4, 3) := by decide +kernel
theorem d_X10_status_23 : decode cX10_status 23 = .ok (.iconst (-1), 1) := by decide +kernel
theorem d_X10_status_24 : decode cX10_status 24 = .ok (.ireturn, 1) := by decide +kernel
noncomputable def F_X10_status (M : zMem) (p0 : Int32) : Option (Int32 × zMem) :=
  zl (zI M 0 0 (0 : Int32)) fun M1 =>
  zb (F_X10_in M1 p0 (0 : Int32) (1 : Int32)) fun v3 M2 =>
  if v3 = 0 then
    some ((-1 : Int32), M2)
  else
    gin p0 2 <|
    some ((M2.1 2 p0.toNatClampNeg), M2)
def rm_X10_status : Room := { frames := 3, cells := 0, slots := 0, locals := 102 }
set_option maxHeartbeats 4000000 in
set_option maxRecDepth 100000 in
theorem c_X10_status (l : Launch) {G : zG} {ad : Nat → Nat} {n : Nat} (hA : zInj ad n) (M : zMem) (p0 : Int32) (hT : zT shM n 0 11) {r9 : Int32} {M9 : zMem} (hF : F_X10_status M p0 = some (r9, M9)) : zM l yX10_status cX10_status 2 (some .int) rm_X10_status G shM ad n M [.ref (ad 0), .int p0] (some (.int r9)) M9 := by
  refine zM_of hA (by decide +kernel) (lv := [(0, .ref (ad 0)), (1, .int p0)]) (Nat.le_of_ble_eq_true rfl) rfl (fun p e s m args below meth c A cx hr => ?_)
  unfold F_X10_status at hF
  refine z_aload_n cx d_X10_status_0 0 rfl ?_
  refine z_iconst (v := 0) cx d_X10_status_1 ki_0 ?_
  refine z_putI cx hT fp_SunnyPansModel_82 d_X10_status_2 ?_
  refine z_nmM hF (fun M1 hF => ?_)
  refine z_iload_n cx d_X10_status_5 1 rfl ?_
  refine z_iconst (v := 0) cx d_X10_status_6 ki_0 ?_
  refine z_iconst (v := 1) cx d_X10_status_7 ki_1 ?_
  obtain ⟨v3, M2, hc, hF⟩ := zb_inv hF
  refine z_callS cx (As := [.int p0, .int (0 : Int32), .int (1 : Int32)]) (rest := []) (c_X10_in l cx.2.2.2.1.1 M1 p0 (0 : Int32) (1 : Int32)  hc) cs_SunnyPansModel_116 ⟨rfl, rfl, Nat.le_of_ble_eq_true rfl, Nat.le_of_ble_eq_true rfl⟩ rfl rfl ⟨Nat.zero_le _, Nat.zero_le _⟩ (Nat.le_of_ble_eq_true rfl) d_X10_status_8 ?_
  refine z_if_eq cx 23 d_X10_status_11 (by decide) hF (fun hF => ?_) (fun hF => ?_)
  · refine z_iconst (v := -1) cx d_X10_status_23 ki_m1 ?_
    exact z_iret cx hr rfl hF d_X10_status_24
  refine z_aload_n cx d_X10_status_14 0 rfl ?_
  refine z_getR cx hT fg_SunnyPansModel_17 2 rfl d_X10_status_15 ?_
  refine z_iload_n cx d_X10_status_18 1 rfl ?_
  obtain ⟨hi4, hF⟩ := gin_inv hF
  refine z_iald cx (tfM_11_2 hT) za_27 hi4 p0.toNatClampNeg rfl d_X10_status_19 ?_
  refine z_goto cx 24 d_X10_status_20 (by decide) ?_
  exact z_iret cx hr rfl hF d_X10_status_24
/-! SunnyPansModel.count -/
theorem d_X10_count_0 : decode cX10_count 0 = .ok (.aload_n 0, 1) := by decide +kernel
theorem d_X10_count_1 : decode cX10_count 1 = .ok (.iconst 0, 1) := by decide +kernel
theorem d_X10_count_2 : decode cX10_count 2 = .ok (.putfield 82, 3) := by decide +kernel
theorem d_X10_count_5 : decode cX10_count 5 = .ok (.iload_n 1, 1) := by decide +kernel
theorem d_X10_count_6 : decode cX10_count 6 = .ok (.ifCond .ne 10, 3) := by decide +kernel
theorem d_X10_count_9 : decode cX10_count 9 = .ok (.aload_n 0, 1) := by decide +kernel
theorem d_X10_count_10 : decode cX10_count 10 = .ok (.getfield 184, 3) := by decide +kernel
theorem d_X10_count_13 : decode cX10_count 13 = .ok (.goto 28, 3) := by decide +kernel
theorem d_X10_count_16 : decode cX10_count 16 = .ok (.iload_n 1, 1) := by decide +kernel
theorem d_X10_count_17 : decode cX10_count 17 = .ok (.iconst 1, 1) := by decide +kernel
theorem d_X10_count_18 : decode cX10_count 18 = .ok (.if_icmp .ne 10, 3) := by decide +kernel
theorem d_X10_count_21 : decode cX10_count 21 = .ok (.aload_n 0, 1) := by decide +kernel
theorem d_X10_count_22 : decode cX10_count 22 = .ok (.getfield 85, 3) := by decide +kernel
theorem d_X10_count_25 : decode cX10_count 25 = .ok (.goto 16, 3) := by decide +kernel
theorem d_X10_count_28 : decode cX10_count 28 = .ok (.iload_n 1, 1) := by decide +kernel
theorem d_X10_count_29 : decode cX10_count 29 = .ok (.iconst 2, 1) := by decide +kernel
theorem d_X10_count_30 : decode cX10_count 30 = .ok (.if_icmp .ne 10, 3) := by decide +kernel
theorem d_X10_count_33 : decode cX10_count 33 = .ok (.aload_n 0, 1) := by decide +kernel
theorem d_X10_count_34 : decode cX10_count 34 = .ok (.getfield 178, 3) := by decide +kernel
theorem d_X10_count_37 : decode cX10_count 37 = .ok (.goto 4, 3) := by decide +kernel
theorem d_X10_count_40 : decode cX10_count 40 = .ok (.iconst (-1), 1) := by decide +kernel
theorem d_X10_count_41 : decode cX10_count 41 = .ok (.ireturn, 1) := by decide +kernel
noncomputable def F_X10_count (M : zMem) (p0 : Int32) : Option (Int32 × zMem) :=
  zl (zI M 0 0 (0 : Int32)) fun M1 =>
  if p0 = 0 then
    some ((M1.1 0 33), M1)
  else
    if p0 = (1 : Int32) then
      some ((M1.1 0 1), M1)
    else
      if p0 = (2 : Int32) then
        some ((M1.1 0 31), M1)
      else
        some ((-1 : Int32), M1)
def rm_X10_count : Room := { frames := 2, cells := 0, slots := 0, locals := 80 }
set_option maxHeartbeats 4000000 in
set_option maxRecDepth 100000 in
theorem c_X10_count (l : Launch) {G : zG} {ad : Nat → Nat} {n : Nat} (hA : zInj ad n) (M : zMem) (p0 : Int32) (hT : zT shM n 0 11) {r9 : Int32} {M9 : zMem} (hF : F_X10_count M p0 = some (r9, M9)) : zM l yX10_count cX10_count 2 (some .int) rm_X10_count G shM ad n M [.ref (ad 0), .int p0] (some (.int r9)) M9 := by
  refine zM_of hA (by decide +kernel) (lv := [(0, .ref (ad 0)), (1, .int p0)]) (Nat.le_of_ble_eq_true rfl) rfl (fun p e s m args below meth c A cx hr => ?_)
  unfold F_X10_count at hF
  refine z_aload_n cx d_X10_count_0 0 rfl ?_
  refine z_iconst (v := 0) cx d_X10_count_1 ki_0 ?_
  refine z_putI cx hT fp_SunnyPansModel_82 d_X10_count_2 ?_
  refine z_nmM hF (fun M1 hF => ?_)
  refine z_iload_n cx d_X10_count_5 1 rfl ?_
  refine z_if_ne cx 16 d_X10_count_6 (by decide) hF (fun hF => ?_) (fun hF => ?_)
  · refine z_iload_n cx d_X10_count_16 1 rfl ?_
    refine z_iconst (v := 1) cx d_X10_count_17 ki_1 ?_
    refine z_icmp_ne cx 28 d_X10_count_18 (by decide) hF (fun hF => ?_) (fun hF => ?_)
    · refine z_iload_n cx d_X10_count_28 1 rfl ?_
      refine z_iconst (v := 2) cx d_X10_count_29 ki_2 ?_
      refine z_icmp_ne cx 40 d_X10_count_30 (by decide) hF (fun hF => ?_) (fun hF => ?_)
      · refine z_iconst (v := -1) cx d_X10_count_40 ki_m1 ?_
        exact z_iret cx hr rfl hF d_X10_count_41
      refine z_aload_n cx d_X10_count_33 0 rfl ?_
      refine z_getI cx hT fg_SunnyPansModel_178 d_X10_count_34 ?_
      refine z_goto cx 41 d_X10_count_37 (by decide) ?_
      exact z_iret cx hr rfl hF d_X10_count_41
    refine z_aload_n cx d_X10_count_21 0 rfl ?_
    refine z_getI cx hT fg_SunnyPansModel_85 d_X10_count_22 ?_
    refine z_goto cx 41 d_X10_count_25 (by decide) ?_
    exact z_iret cx hr rfl hF d_X10_count_41
  refine z_aload_n cx d_X10_count_9 0 rfl ?_
  refine z_getI cx hT fg_SunnyPansModel_184 d_X10_count_10 ?_
  refine z_goto cx 41 d_X10_count_13 (by decide) ?_
  exact z_iret cx hr rfl hF d_X10_count_41
