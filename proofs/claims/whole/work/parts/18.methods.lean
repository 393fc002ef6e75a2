/-! SunnyPansModel.rains -/
set_option maxRecDepth 100000 in
theorem wd_1684 : Cond.code yX10_isHere cX10_isHere 2 (some .boolean) ∈ tbG := tw7 144 rfl rfl
set_option maxRecDepth 100000 in
theorem wd_1681 : Cond.methodLink "SunnyPansModel" 284 yX10_isHere ∈ tbG := tw7 141 rfl rfl
set_option maxRecDepth 100000 in
theorem wd_1683 : Cond.instanceMethod yX10_isHere ∈ tbG := tw7 143 rfl rfl
theorem wd_71 : Cond.selects "SunnyPansModel" yX10_isHere yX10_isHere ∈ tbG := tw 71 (by decide +kernel) rfl
theorem cv_SunnyPansModel_284 : zCV "SunnyPansModel" 284 "SunnyPansModel" yX10_isHere cX10_isHere 2 (some .boolean) 1 := zCV_of wd_1681 wd_1683 wd_71 wd_111 wd_1684 (by decide +kernel)
theorem d_X10_rains_0 : decode cX10_rains 0 = .ok (.iconst 0, 1) := by decide +kernel
theorem d_X10_rains_1 : decode cX10_rains 1 = .ok (.istore_n 3, 1) := by decide +kernel
theorem d_X10_rains_2 : decode cX10_rains 2 = .ok (.iload_n 3, 1) := by decide +kernel
theorem d_X10_rains_3 : decode cX10_rains 3 = .ok (.bipush 64, 2) := by decide +kernel
theorem d_X10_rains_5 : decode cX10_rains 5 = .ok (.if_icmp .ge 71, 3) := by decide +kernel
theorem d_X10_rains_8 : decode cX10_rains 8 = .ok (.aload_n 0, 1) := by decide +kernel
theorem d_X10_rains_9 : decode cX10_rains 9 = .ok (.iload_n 3, 1) := by decide +kernel
theorem d_X10_rains_10 : decode cX10_rains 10 = .ok (.invokevirtual 284, 3) := by decide +kernel
theorem d_X10_rains_13 : decode cX10_rains 13 = .ok (.ifCond .ne 6, 3) := by decide +kernel
theorem d_X10_rains_16 : decode cX10_rains 16 = .ok (.goto 54, 3) := by decide +kernel
theorem d_X10_rains_19 : decode cX10_rains 19 = .ok (.aload_n 1, 1) := by decide +kernel
theorem d_X10_rains_20 : decode cX10_rains 20 = .ok (.sipush 128, 3) := by decide +kernel
theorem d_X10_rains_23 : decode cX10_rains 23 = .ok (.iload_n 3, 1) := by decide +kernel
theorem d_X10_rains_24 : decode cX10_rains 24 = .ok (.iadd, 1) := by decide +kernel
theorem d_X10_rains_25 : decode cX10_rains 25 = .ok (.iaload, 1) := by decide +kernel
theorem d_X10_rains_26 : decode cX10_rains 26 = .ok (.ifCond .le 26, 3) := by decide +kernel
theorem d_X10_rains_29 : decode cX10_rains 29 = .ok (.aload_n 1, 1) := by decide +kernel
theorem d_X10_rains_30 : decode cX10_rains 30 = .ok (.sipush 128, 3) := by decide +kernel
theorem d_X10_rains_33 : decode cX10_rains 33 = .ok (.iload_n 3, 1) := by decide +kernel
theorem d_X10_rains_34 : decode cX10_rains 34 = .ok (.iadd, 1) := by decide +kernel
theorem d_X10_rains_35 : decode cX10_rains 35 = .ok (.iconst 0, 1) := by decide +kernel
theorem d_X10_rains_36 : decode cX10_rains 36 = .ok (.aload_n 1, 1) := by decide +kernel
theorem d_X10_rains_37 : decode cX10_rains 37 = .ok (.sipush 128, 3) := by decide +kernel
theorem d_X10_rains_40 : decode cX10_rains 40 = .ok (.iload_n 3, 1) := by decide +kernel
theorem d_X10_rains_41 : decode cX10_rains 41 = .ok (.iadd, 1) := by decide +kernel
theorem d_X10_rains_42 : decode cX10_rains 42 = .ok (.iaload, 1) := by decide +kernel
theorem d_X10_rains_43 : decode cX10_rains 43 = .ok (.iload_n 2, 1) := by decide +kernel
theorem d_X10_rains_44 : decode cX10_rains 44 = .ok (.isub, 1) := by decide +kernel
theorem d_X10_rains_45 : decode cX10_rains 45 = .ok (.invokestatic 218, 3) := by decide +kernel
theorem d_X10_rains_48 : decode cX10_rains 48 = .ok (.iastore, 1) := by decide +kernel
theorem d_X10_rains_49 : decode cX10_rains 49 = .ok (.goto 21, 3) := by decide +kernel
theorem d_X10_rains_52 : decode cX10_rains 52 = .ok (.aload_n 1, 1) := by decide +kernel
theorem d_X10_rains_53 : decode cX10_rains 53 = .ok (.iconst 0, 1) := by decide +kernel
theorem d_X10_rains_54 : decode cX10_rains 54 = .ok (.iload_n 3, 1) := by decide +kernel
theorem d_X10_rains_55 : decode cX10_rains 55 = .ok (.iadd, 1) := by decide +kernel
theorem d_X10_rains_56 : decode cX10_rains 56 = .ok (.sipush 9999, 3) := by decide +kernel
theorem d_X10_rains_59 : decode cX10_rains 59 = .ok (.aload_n 1, 1) := by decide +kernel
theorem d_X10_rains_60 : decode cX10_rains 60 = .ok (.iconst 0, 1) := by decide +kernel
theorem d_X10_rains_61 : decode cX10_rains 61 = .ok (.iload_n 3, 1) := by decide +kernel
theorem d_X10_rains_62 : decode cX10_rains 62 = .ok (.iadd, 1) := by decide +kernel
theorem d_X10_rains_63 : decode cX10_rains 63 = .ok (.iaload, 1) := by decide +kernel
theorem d_X10_rains_64 : decode cX10_rains 64 = .ok (.iload_n 2, 1) := by decide +kernel
theorem d_X10_rains_65 : decode cX10_rains 65 = .ok (.iadd, 1) := by decide +kernel
theorem d_X10_rains_66 : decode cX10_rains 66 = .ok (.invokestatic 215, 3) := by decide +kernel
theorem d_X10_rains_69 : decode cX10_rains 69 = .ok (.iastore, 1) := by decide +kernel
theorem d_X10_rains_70 : decode cX10_rains 70 = .ok (.iinc 3 1, 3) := by decide +kernel
theorem d_X10_rains_73 : decode cX10_rains 73 = .ok (.goto (-71), 3) := by decide +kernel
theorem d_X10_rains_76 : decode cX10_rains 76 = .ok (.return_, 1) := by decide +kernel
noncomputable def F_X10_rains_70 (p0 : Nat) (p1 : Int32) (self2 : Int32 → Int32 → zMem → Option (zMem)) (b70_L2 : Int32) (b70_L3 : Int32) (M : zMem) : Option (zMem) :=
  self2 b70_L2 (b70_L3 + 1) M
noncomputable def F_X10_rains_2 (p0 : Nat) (p1 : Int32) (self2 : Int32 → Int32 → zMem → Option (zMem)) (b2_L2 : Int32) (b2_L3 : Int32) (M : zMem) : Option (zMem) :=
  if (64 : Int32) ≤ b2_L3 then
    some M
  else
    zb (F_X10_isHere M b2_L3) fun v2 M1 =>
    if v2 = 0 then
      F_X10_rains_70 p0 p1 self2 b2_L2 b2_L3 M1
    else
      gin ((128 : Int32) + b2_L3) 195 <|
      if (M1.1 p0 ((128 : Int32) + b2_L3).toNatClampNeg) ≤ 0 then
        gin ((0 : Int32) + b2_L3) 195 <|
        zb (F_X10_less M1 (9999 : Int32) ((M1.1 p0 ((0 : Int32) + b2_L3).toNatClampNeg) + b2_L2)) fun v6 M5 =>
        zl (zI M5 p0 (((0 : Int32) + b2_L3).toNatClampNeg) v6) fun M7 =>
        F_X10_rains_70 p0 p1 self2 b2_L2 b2_L3 M7
      else
        zb (F_X10_more M1 (0 : Int32) ((M1.1 p0 ((128 : Int32) + b2_L3).toNatClampNeg) - b2_L2)) fun v9 M8 =>
        zl (zI M8 p0 (((128 : Int32) + b2_L3).toNatClampNeg) v9) fun M10 =>
        F_X10_rains_70 p0 p1 self2 b2_L2 b2_L3 M10
noncomputable def F_X10_rains (M : zMem) (p0 : Nat) (p1 : Int32) : Option (zMem) :=
  itF (fun _ _ _ => none) (F_X10_rains_2 p0 p1) zFuel p1 (0 : Int32) M
def rm_X10_rains : Room := { frames := 5, cells := 0, slots := 0, locals := 145 }
set_option maxHeartbeats 4000000 in
set_option maxRecDepth 100000 in
theorem c_X10_rains (l : Launch) {G : zG} {ad : Nat → Nat} {n : Nat} (hA : zInj ad n) (M : zMem) (p0 : Nat) (p1 : Int32) (hT : zT shM n 0 11) (hT_p0 : zT shM n p0 36) {M9 : zMem} (hF : F_X10_rains M p0 p1 = some M9) : zM l yX10_rains cX10_rains 4 none rm_X10_rains G shM ad n M [.ref (ad 0), .ref (ad p0), .int p1] none M9 := by
  refine zM_of hA (by decide +kernel) (lv := [(0, .ref (ad 0)), (1, .ref (ad p0)), (2, .int p1)]) (Nat.le_of_ble_eq_true rfl) rfl (fun p e s m args below meth c A cx hr => ?_)
  have hb70 : ∀ (self2 : Int32 → Int32 → zMem → Option (zMem)) (hs2 : ∀ (b2_L2 : Int32) (b2_L3 : Int32) (M : zMem), self2 b2_L2 b2_L3 M = some M9 → zJ p l e rm_X10_rains s m args below meth c G shM ad n A 4 (MQ below (zQ G shM ad n M9 none A) args s 0 0 A) 0 0 M 2 [(0, .ref (ad 0)), (1, .ref (ad p0)), (2, .int b2_L2), (3, .int b2_L3)] []), ∀ (b70_L2 : Int32) (b70_L3 : Int32) (M : zMem), F_X10_rains_70 p0 p1 self2 b70_L2 b70_L3 M = some M9 → zJ p l e rm_X10_rains s m args below meth c G shM ad n A 4 (MQ below (zQ G shM ad n M9 none A) args s 0 0 A) 0 0 M 70 [(0, .ref (ad 0)), (1, .ref (ad p0)), (2, .int b70_L2), (3, .int b70_L3)] [] := by
    intro self2 hs2 b70_L2 b70_L3 M hF
    unfold F_X10_rains_70 at hF
    refine z_iinc cx 3 1 [(3, .int (b70_L3 + 1)), (0, .ref (ad 0)), (1, .ref (ad p0)), (2, .int b70_L2)] d_X10_rains_70 3 rfl ki_1 (by decide) rfl ?_
    refine z_goto cx 2 d_X10_rains_73 (by decide) ?_
    exact z_lv [1, 2, 3, 0] _ rfl (hs2 b70_L2 (b70_L3 + 1) M hF)
  have hL2 : ∀ (fuel : Nat), ∀ (b2_L2 : Int32) (b2_L3 : Int32) (M : zMem), itF (fun _ _ _ => none) (F_X10_rains_2 p0 p1) fuel b2_L2 b2_L3 M = some M9 → zJ p l e rm_X10_rains s m args below meth c G shM ad n A 4 (MQ below (zQ G shM ad n M9 none A) args s 0 0 A) 0 0 M 2 [(0, .ref (ad 0)), (1, .ref (ad p0)), (2, .int b2_L2), (3, .int b2_L3)] [] := by
    intro fuel
    induction fuel with
    | zero => intro b2_L2 b2_L3 M hF; cases hF
    | succ fuel hs2 =>
      intro b2_L2 b2_L3 M hF
      have hF : F_X10_rains_2 p0 p1 (itF (fun _ _ _ => none) (F_X10_rains_2 p0 p1) fuel) b2_L2 b2_L3 M = some M9 := hF
      generalize itF (fun _ _ _ => none) (F_X10_rains_2 p0 p1) fuel = self2 at hs2 hF
      unfold F_X10_rains_2 at hF
      refine z_iload_n cx d_X10_rains_2 3 rfl ?_
      refine z_bipush (v := 64) cx d_X10_rains_3 kb_64 ?_
      refine z_icmp_ge cx 76 d_X10_rains_5 (by decide) hF (fun hF => ?_) (fun hF => ?_)
      · exact z_vret cx hr hF d_X10_rains_76
      refine z_aload_n cx d_X10_rains_8 0 rfl ?_
      refine z_iload_n cx d_X10_rains_9 3 rfl ?_
      obtain ⟨v2, M1, hc, hF⟩ := zb_inv hF
      refine z_callV cx (As := [.int b2_L3]) (rest := []) (c_X10_isHere l cx.2.2.2.1.1 M b2_L3 hT hc) hT zo_11 cv_SunnyPansModel_284 ⟨rfl, rfl, Nat.le_of_ble_eq_true rfl, Nat.le_of_ble_eq_true rfl⟩ rfl rfl ⟨Nat.zero_le _, Nat.zero_le _⟩ (Nat.le_of_ble_eq_true rfl) d_X10_rains_10 ?_
      refine z_if_ne cx 19 d_X10_rains_13 (by decide) hF (fun hF => ?_) (fun hF => ?_)
      · refine z_aload_n cx d_X10_rains_19 1 rfl ?_
        refine z_sipush (v := 128) cx d_X10_rains_20 ks_128 ?_
        refine z_iload_n cx d_X10_rains_23 3 rfl ?_
        refine z_iadd cx d_X10_rains_24 ?_
        obtain ⟨hi3, hF⟩ := gin_inv hF
        refine z_iald cx hT_p0 za_36 hi3 (((128 : Int32) + b2_L3).toNatClampNeg) rfl d_X10_rains_25 ?_
        refine z_if_le cx 52 d_X10_rains_26 (by decide) hF (fun hF => ?_) (fun hF => ?_)
        · refine z_aload_n cx d_X10_rains_52 1 rfl ?_
          refine z_iconst (v := 0) cx d_X10_rains_53 ki_0 ?_
          refine z_iload_n cx d_X10_rains_54 3 rfl ?_
          refine z_iadd cx d_X10_rains_55 ?_
          refine z_sipush (v := 9999) cx d_X10_rains_56 ks_9999 ?_
          refine z_aload_n cx d_X10_rains_59 1 rfl ?_
          refine z_iconst (v := 0) cx d_X10_rains_60 ki_0 ?_
          refine z_iload_n cx d_X10_rains_61 3 rfl ?_
          refine z_iadd cx d_X10_rains_62 ?_
          obtain ⟨hi4, hF⟩ := gin_inv hF
          refine z_iald cx hT_p0 za_36 hi4 (((0 : Int32) + b2_L3).toNatClampNeg) rfl d_X10_rains_63 ?_
          refine z_iload_n cx d_X10_rains_64 2 rfl ?_
          refine z_iadd cx d_X10_rains_65 ?_
          obtain ⟨v6, M5, hc, hF⟩ := zb_inv hF
          refine z_callS cx (As := [.int (9999 : Int32), .int ((M1.1 p0 ((0 : Int32) + b2_L3).toNatClampNeg) + b2_L2)]) (rest := [.int ((0 : Int32) + b2_L3), .ref (ad p0)]) (c_X10_less l cx.2.2.2.1.1 M1 (9999 : Int32) ((M1.1 p0 ((0 : Int32) + b2_L3).toNatClampNeg) + b2_L2)  hc) cs_SunnyPansModel_215 ⟨rfl, rfl, Nat.le_of_ble_eq_true rfl, Nat.le_of_ble_eq_true rfl⟩ rfl rfl ⟨Nat.zero_le _, Nat.zero_le _⟩ (Nat.le_of_ble_eq_true rfl) d_X10_rains_66 ?_
          refine z_iast cx hT_p0 za_36 hi4 (((0 : Int32) + b2_L3).toNatClampNeg) rfl d_X10_rains_69 ?_
          refine z_nmM hF (fun M7 hF => ?_)
          exact hb70 self2 hs2 b2_L2 b2_L3 M7 hF
        refine z_aload_n cx d_X10_rains_29 1 rfl ?_
        refine z_sipush (v := 128) cx d_X10_rains_30 ks_128 ?_
        refine z_iload_n cx d_X10_rains_33 3 rfl ?_
        refine z_iadd cx d_X10_rains_34 ?_
        refine z_iconst (v := 0) cx d_X10_rains_35 ki_0 ?_
        refine z_aload_n cx d_X10_rains_36 1 rfl ?_
        refine z_sipush (v := 128) cx d_X10_rains_37 ks_128 ?_
        refine z_iload_n cx d_X10_rains_40 3 rfl ?_
        refine z_iadd cx d_X10_rains_41 ?_
        refine z_iald cx hT_p0 za_36 hi3 (((128 : Int32) + b2_L3).toNatClampNeg) rfl d_X10_rains_42 ?_
        refine z_iload_n cx d_X10_rains_43 2 rfl ?_
        refine z_isub cx d_X10_rains_44 ?_
        obtain ⟨v9, M8, hc, hF⟩ := zb_inv hF
        refine z_callS cx (As := [.int (0 : Int32), .int ((M1.1 p0 ((128 : Int32) + b2_L3).toNatClampNeg) - b2_L2)]) (rest := [.int ((128 : Int32) + b2_L3), .ref (ad p0)]) (c_X10_more l cx.2.2.2.1.1 M1 (0 : Int32) ((M1.1 p0 ((128 : Int32) + b2_L3).toNatClampNeg) - b2_L2)  hc) cs_SunnyPansModel_218 ⟨rfl, rfl, Nat.le_of_ble_eq_true rfl, Nat.le_of_ble_eq_true rfl⟩ rfl rfl ⟨Nat.zero_le _, Nat.zero_le _⟩ (Nat.le_of_ble_eq_true rfl) d_X10_rains_45 ?_
        refine z_iast cx hT_p0 za_36 hi3 (((128 : Int32) + b2_L3).toNatClampNeg) rfl d_X10_rains_48 ?_
        refine z_nmM hF (fun M10 hF => ?_)
        refine z_goto cx 70 d_X10_rains_49 (by decide) ?_
        exact hb70 self2 hs2 b2_L2 b2_L3 M10 hF
      refine z_goto cx 70 d_X10_rains_16 (by decide) ?_
      exact hb70 self2 hs2 b2_L2 b2_L3 M1 hF
  unfold F_X10_rains at hF
  refine z_iconst (v := 0) cx d_X10_rains_0 ki_0 ?_
  refine z_istore_n cx 3 [(3, .int (0 : Int32)), (0, .ref (ad 0)), (1, .ref (ad p0)), (2, .int p1)] d_X10_rains_1 rfl (by decide) rfl ?_
  exact z_lv [1, 2, 3, 0] _ rfl (hL2 zFuel p1 (0 : Int32) M hF)
/-! SunnyPansModel.lets -/
theorem d_X10_lets_0 : decode cX10_lets 0 = .ok (.aload_n 0, 1) := by decide +kernel
theorem d_X10_lets_1 : decode cX10_lets 1 = .ok (.sipush 128, 3) := by decide +kernel
theorem d_X10_lets_4 : decode cX10_lets 4 = .ok (.iload_n 1, 1) := by decide +kernel
theorem d_X10_lets_5 : decode cX10_lets 5 = .ok (.iadd, 1) := by decide +kernel
theorem d_X10_lets_6 : decode cX10_lets 6 = .ok (.iaload, 1) := by decide +kernel
theorem d_X10_lets_7 : decode cX10_lets 7 = .ok (.ifCond .gt 33, 3) := by decide +kernel
theorem d_X10_lets_10 : decode cX10_lets 10 = .ok (.aload_n 0, 1) := by decide +kernel
theorem d_X10_lets_11 : decode cX10_lets 11 = .ok (.iconst 0, 1) := by decide +kernel
theorem d_X10_lets_12 : decode cX10_lets 12 = .ok (.iload_n 1, 1) := by decide +kernel
theorem d_X10_lets_13 : decode cX10_lets 13 = .ok (.iadd, 1) := by decide +kernel
theorem d_X10_lets_14 : decode cX10_lets 14 = .ok (.iaload, 1) := by decide +kernel
theorem d_X10_lets_15 : decode cX10_lets 15 = .ok (.iload_n 2, 1) := by decide +kernel
theorem d_X10_lets_16 : decode cX10_lets 16 = .ok (.iadd, 1) := by decide +kernel
theorem d_X10_lets_17 : decode cX10_lets 17 = .ok (.sipush 9999, 3) := by decide +kernel
theorem d_X10_lets_20 : decode cX10_lets 20 = .ok (.if_icmp .gt 20, 3) := by decide +kernel
theorem d_X10_lets_23 : decode cX10_lets 23 = .ok (.aload_n 0, 1) := by decide +kernel
theorem d_X10_lets_24 : decode cX10_lets 24 = .ok (.bipush 64, 2) := by decide +kernel
theorem d_X10_lets_26 : decode cX10_lets 26 = .ok (.iload_n 1, 1) := by decide +kernel
theorem d_X10_lets_27 : decode cX10_lets 27 = .ok (.iadd, 1) := by decide +kernel
theorem d_X10_lets_28 : decode cX10_lets 28 = .ok (.iaload, 1) := by decide +kernel
theorem d_X10_lets_29 : decode cX10_lets 29 = .ok (.iload_n 2, 1) := by decide +kernel
theorem d_X10_lets_30 : decode cX10_lets 30 = .ok (.bipush 8, 2) := by decide +kernel
theorem d_X10_lets_32 : decode cX10_lets 32 = .ok (.idiv, 1) := by decide +kernel
theorem d_X10_lets_33 : decode cX10_lets 33 = .ok (.iadd, 1) := by decide +kernel
theorem d_X10_lets_34 : decode cX10_lets 34 = .ok (.sipush 9999, 3) := by decide +kernel
theorem d_X10_lets_37 : decode cX10_lets 37 = .ok (.if_icmp .le 5, 3) := by decide +kernel
theorem d_X10_lets_40 : decode cX10_lets 40 = .ok (.iconst 0, 1) := by decide +kernel
theorem d_X10_lets_41 : decode cX10_lets 41 = .ok (.ireturn, 1) := by decide +kernel
theorem d_X10_lets_42 : decode cX10_lets 42 = .ok (.aload_n 0, 1) := by decide +kernel
theorem d_X10_lets_43 : decode cX10_lets 43 = .ok (.iconst 0, 1) := by decide +kernel
theorem d_X10_lets_44 : decode cX10_lets 44 = .ok (.iload_n 1, 1) := by decide +kernel
theorem d_X10_lets_45 : decode cX10_lets 45 = .ok (.iadd, 1) := by decide +kernel
theorem d_X10_lets_46 : decode cX10_lets 46 = .ok (.dup2, 1) := by decide +kernel
theorem d_X10_lets_47 : decode cX10_lets 47 = .ok (.iaload, 1) := by decide +kernel
theorem d_X10_lets_48 : decode cX10_lets 48 = .ok (.iload_n 2, 1) := by decide +kernel
theorem d_X10_lets_49 : decode cX10_lets 49 = .ok (.iadd, 1) := by decide +kernel
theorem d_X10_lets_50 : decode cX10_lets 50 = .ok (.iastore, 1) := by decide +kernel
theorem d_X10_lets_51 : decode cX10_lets 51 = .ok (.aload_n 0, 1) := by decide +kernel
theorem d_X10_lets_52 : decode cX10_lets 52 = .ok (.bipush 64, 2) := by decide +kernel
theorem d_X10_lets_54 : decode cX10_lets 54 = .ok (.iload_n 1, 1) := by decide +kernel
theorem d_X10_lets_55 : decode cX10_lets 55 = .ok (.iadd, 1) := by decide +kernel
theorem d_X10_lets_56 : decode cX10_lets 56 = .ok (.dup2, 1) := by decide +kernel
theorem d_X10_lets_57 : decode cX10_lets 57 = .ok (.iaload, 1) := by decide +kernel
theorem d_X10_lets_58 : decode cX10_lets 58 = .ok (.iload_n 2, 1) := by decide +kernel
theorem d_X10_lets_59 : decode cX10_lets 59 = .ok (.bipush 8, 2) := by decide +kernel
theorem d_X10_lets_61 : decode cX10_lets 61 = .ok (.idiv, 1) := by decide +kernel
theorem d_X10_lets_62 : decode cX10_lets 62 = .ok (.iadd, 1) := by decide +kernel
theorem d_X10_lets_63 : decode cX10_lets 63 = .ok (.iastore, 1) := by decide +kernel
theorem d_X10_lets_64 : decode cX10_lets 64 = .ok (.iconst 1, 1) := by decide +kernel
theorem d_X10_lets_65 : decode cX10_lets 65 = .ok (.ireturn, 1) := by decide +kernel
noncomputable def F_X10_lets (M : zMem) (p0 : Nat) (p1 : Int32) (p2 : Int32) : Option (Int32 × zMem) :=
  gin ((128 : Int32) + p1) 195 <|
  if 0 < (M.1 p0 ((128 : Int32) + p1).toNatClampNeg) then
    some ((0 : Int32), M)
  else
    gin ((0 : Int32) + p1) 195 <|
    if (9999 : Int32) < ((M.1 p0 ((0 : Int32) + p1).toNatClampNeg) + p2) then
      some ((0 : Int32), M)
    else
      gin ((64 : Int32) + p1) 195 <|
      if ((M.1 p0 ((64 : Int32) + p1).toNatClampNeg) + (p2 / (8 : Int32))) ≤ (9999 : Int32) then
        zl (zI M p0 (((0 : Int32) + p1).toNatClampNeg) ((M.1 p0 ((0 : Int32) + p1).toNatClampNeg) + p2)) fun M4 =>
        zl (zI M4 p0 (((64 : Int32) + p1).toNatClampNeg) ((M4.1 p0 ((64 : Int32) + p1).toNatClampNeg) + (p2 / (8 : Int32)))) fun M5 =>
        some ((1 : Int32), M5)
      else
        some ((0 : Int32), M)
def rm_X10_lets : Room := { frames := 2, cells := 0, slots := 0, locals := 80 }
set_option maxHeartbeats 4000000 in
set_option maxRecDepth 100000 in
theorem c_X10_lets (l : Launch) {G : zG} {ad : Nat → Nat} {n : Nat} (hA : zInj ad n) (M : zMem) (p0 : Nat) (p1 : Int32) (p2 : Int32) (hT_p0 : zT shM n p0 36) {r9 : Int32} {M9 : zMem} (hF : F_X10_lets M p0 p1 p2 = some (r9, M9)) : zM l yX10_lets cX10_lets 3 (some .boolean) rm_X10_lets G shM ad n M [.ref (ad p0), .int p1, .int p2] (some (.int r9)) M9 := by
  refine zM_of hA (by decide +kernel) (lv := [(0, .ref (ad p0)), (1, .int p1), (2, .int p2)]) (Nat.le_of_ble_eq_true rfl) rfl (fun p e s m args below meth c A cx hr => ?_)
  unfold F_X10_lets at hF
  refine z_aload_n cx d_X10_lets_0 0 rfl ?_
  refine z_sipush (v := 128) cx d_X10_lets_1 ks_128 ?_
  refine z_iload_n cx d_X10_lets_4 1 rfl ?_
  refine z_iadd cx d_X10_lets_5 ?_
  obtain ⟨hi1, hF⟩ := gin_inv hF
  refine z_iald cx hT_p0 za_36 hi1 (((128 : Int32) + p1).toNatClampNeg) rfl d_X10_lets_6 ?_
  refine z_if_gt cx 40 d_X10_lets_7 (by decide) hF (fun hF => ?_) (fun hF => ?_)
  · refine z_iconst (v := 0) cx d_X10_lets_40 ki_0 ?_
    exact z_iret cx hr nb0 hF d_X10_lets_41
  refine z_aload_n cx d_X10_lets_10 0 rfl ?_
  refine z_iconst (v := 0) cx d_X10_lets_11 ki_0 ?_
  refine z_iload_n cx d_X10_lets_12 1 rfl ?_
  refine z_iadd cx d_X10_lets_13 ?_
  obtain ⟨hi2, hF⟩ := gin_inv hF
  refine z_iald cx hT_p0 za_36 hi2 (((0 : Int32) + p1).toNatClampNeg) rfl d_X10_lets_14 ?_
  refine z_iload_n cx d_X10_lets_15 2 rfl ?_
  refine z_iadd cx d_X10_lets_16 ?_
  refine z_sipush (v := 9999) cx d_X10_lets_17 ks_9999 ?_
  refine z_icmp_gt cx 40 d_X10_lets_20 (by decide) hF (fun hF => ?_) (fun hF => ?_)
  · refine z_iconst (v := 0) cx d_X10_lets_40 ki_0 ?_
    exact z_iret cx hr nb0 hF d_X10_lets_41
  refine z_aload_n cx d_X10_lets_23 0 rfl ?_
  refine z_bipush (v := 64) cx d_X10_lets_24 kb_64 ?_
  refine z_iload_n cx d_X10_lets_26 1 rfl ?_
  refine z_iadd cx d_X10_lets_27 ?_
  obtain ⟨hi3, hF⟩ := gin_inv hF
  refine z_iald cx hT_p0 za_36 hi3 (((64 : Int32) + p1).toNatClampNeg) rfl d_X10_lets_28 ?_
  refine z_iload_n cx d_X10_lets_29 2 rfl ?_
  refine z_bipush (v := 8) cx d_X10_lets_30 kb_8 ?_
  refine z_idiv cx d_X10_lets_32 (by decide) ?_
  refine z_iadd cx d_X10_lets_33 ?_
  refine z_sipush (v := 9999) cx d_X10_lets_34 ks_9999 ?_
  refine z_icmp_le cx 42 d_X10_lets_37 (by decide) hF (fun hF => ?_) (fun hF => ?_)
  · refine z_aload_n cx d_X10_lets_42 0 rfl ?_
    refine z_iconst (v := 0) cx d_X10_lets_43 ki_0 ?_
    refine z_iload_n cx d_X10_lets_44 1 rfl ?_
    refine z_iadd cx d_X10_lets_45 ?_
    refine z_dup2 cx d_X10_lets_46 rfl rfl ?_
    refine z_iald cx hT_p0 za_36 hi2 (((0 : Int32) + p1).toNatClampNeg) rfl d_X10_lets_47 ?_
    refine z_iload_n cx d_X10_lets_48 2 rfl ?_
    refine z_iadd cx d_X10_lets_49 ?_
    refine z_iast cx hT_p0 za_36 hi2 (((0 : Int32) + p1).toNatClampNeg) rfl d_X10_lets_50 ?_
    refine z_nmM hF (fun M4 hF => ?_)
    refine z_aload_n cx d_X10_lets_51 0 rfl ?_
    refine z_bipush (v := 64) cx d_X10_lets_52 kb_64 ?_
    refine z_iload_n cx d_X10_lets_54 1 rfl ?_
    refine z_iadd cx d_X10_lets_55 ?_
    refine z_dup2 cx d_X10_lets_56 rfl rfl ?_
    refine z_iald cx hT_p0 za_36 hi3 (((64 : Int32) + p1).toNatClampNeg) rfl d_X10_lets_57 ?_
    refine z_iload_n cx d_X10_lets_58 2 rfl ?_
    refine z_bipush (v := 8) cx d_X10_lets_59 kb_8 ?_
    refine z_idiv cx d_X10_lets_61 (by decide) ?_
    refine z_iadd cx d_X10_lets_62 ?_
    refine z_iast cx hT_p0 za_36 hi3 (((64 : Int32) + p1).toNatClampNeg) rfl d_X10_lets_63 ?_
    refine z_nmM hF (fun M5 hF => ?_)
    refine z_iconst (v := 1) cx d_X10_lets_64 ki_1 ?_
    exact z_iret cx hr nb1 hF d_X10_lets_65
  refine z_iconst (v := 0) cx d_X10_lets_40 ki_0 ?_
  exact z_iret cx hr nb0 hF d_X10_lets_41
/-! SunnyPansModel.carts -/
theorem ks_194 : (Int16.ofInt (194)).toInt32 = (194 : Int32) := by decide +kernel
theorem d_X10_carts_0 : decode cX10_carts 0 = .ok (.aload_n 0, 1) := by decide +kernel
theorem d_X10_carts_1 : decode cX10_carts 1 = .ok (.sipush 128, 3) := by decide +kernel
theorem d_X10_carts_4 : decode cX10_carts 4 = .ok (.iload_n 1, 1) := by decide +kernel
theorem d_X10_carts_5 : decode cX10_carts 5 = .ok (.iadd, 1) := by decide +kernel
theorem d_X10_carts_6 : decode cX10_carts 6 = .ok (.iaload, 1) := by decide +kernel
theorem d_X10_carts_7 : decode cX10_carts 7 = .ok (.ifCond .ne 5, 3) := by decide +kernel
theorem d_X10_carts_10 : decode cX10_carts 10 = .ok (.iconst 0, 1) := by decide +kernel
theorem d_X10_carts_11 : decode cX10_carts 11 = .ok (.ireturn, 1) := by decide +kernel
theorem d_X10_carts_12 : decode cX10_carts 12 = .ok (.aload_n 0, 1) := by decide +kernel
theorem d_X10_carts_13 : decode cX10_carts 13 = .ok (.sipush 194, 3) := by decide +kernel
theorem d_X10_carts_16 : decode cX10_carts 16 = .ok (.dup2, 1) := by decide +kernel
theorem d_X10_carts_17 : decode cX10_carts 17 = .ok (.iaload, 1) := by decide +kernel
theorem d_X10_carts_18 : decode cX10_carts 18 = .ok (.aload_n 0, 1) := by decide +kernel
theorem d_X10_carts_19 : decode cX10_carts 19 = .ok (.sipush 128, 3) := by decide +kernel
theorem d_X10_carts_22 : decode cX10_carts 22 = .ok (.iload_n 1, 1) := by decide +kernel
theorem d_X10_carts_23 : decode cX10_carts 23 = .ok (.iadd, 1) := by decide +kernel
theorem d_X10_carts_24 : decode cX10_carts 24 = .ok (.iaload, 1) := by decide +kernel
theorem d_X10_carts_25 : decode cX10_carts 25 = .ok (.iadd, 1) := by decide +kernel
theorem d_X10_carts_26 : decode cX10_carts 26 = .ok (.iastore, 1) := by decide +kernel
theorem d_X10_carts_27 : decode cX10_carts 27 = .ok (.aload_n 0, 1) := by decide +kernel
theorem d_X10_carts_28 : decode cX10_carts 28 = .ok (.sipush 128, 3) := by decide +kernel
theorem d_X10_carts_31 : decode cX10_carts 31 = .ok (.iload_n 1, 1) := by decide +kernel
theorem d_X10_carts_32 : decode cX10_carts 32 = .ok (.iadd, 1) := by decide +kernel
theorem d_X10_carts_33 : decode cX10_carts 33 = .ok (.iconst 0, 1) := by decide +kernel
theorem d_X10_carts_34 : decode cX10_carts 34 = .ok (.iastore, 1) := by decide +kernel
theorem d_X10_carts_35 : decode cX10_carts 35 = .ok (.iconst 1, 1) := by decide +kernel
theorem d_X10_carts_36 : decode cX10_carts 36 = .ok (.ireturn, 1) := by decide +kernel
noncomputable def F_X10_carts (M : zMem) (p0 : Nat) (p1 : Int32) : Option (Int32 × zMem) :=
  gin ((128 : Int32) + p1) 195 <|
  if (M.1 p0 ((128 : Int32) + p1).toNatClampNeg) = 0 then
    some ((0 : Int32), M)
  else
    zl (zI M p0 194 ((M.1 p0 194) + (M.1 p0 ((128 : Int32) + p1).toNatClampNeg))) fun M2 =>
    zl (zI M2 p0 (((128 : Int32) + p1).toNatClampNeg) (0 : Int32)) fun M3 =>
    some ((1 : Int32), M3)
def rm_X10_carts : Room := { frames := 2, cells := 0, slots := 0, locals := 80 }
set_option maxHeartbeats 4000000 in
set_option maxRecDepth 100000 in
theorem c_X10_carts (l : Launch) {G : zG} {ad : Nat → Nat} {n : Nat} (hA : zInj ad n) (M : zMem) (p0 : Nat) (p1 : Int32) (hT_p0 : zT shM n p0 36) {r9 : Int32} {M9 : zMem} (hF : F_X10_carts M p0 p1 = some (r9, M9)) : zM l yX10_carts cX10_carts 2 (some .boolean) rm_X10_carts G shM ad n M [.ref (ad p0), .int p1] (some (.int r9)) M9 := by
  refine zM_of hA (by decide +kernel) (lv := [(0, .ref (ad p0)), (1, .int p1)]) (Nat.le_of_ble_eq_true rfl) rfl (fun p e s m args below meth c A cx hr => ?_)
  unfold F_X10_carts at hF
  refine z_aload_n cx d_X10_carts_0 0 rfl ?_
  refine z_sipush (v := 128) cx d_X10_carts_1 ks_128 ?_
  refine z_iload_n cx d_X10_carts_4 1 rfl ?_
  refine z_iadd cx d_X10_carts_5 ?_
  obtain ⟨hi1, hF⟩ := gin_inv hF
  refine z_iald cx hT_p0 za_36 hi1 (((128 : Int32) + p1).toNatClampNeg) rfl d_X10_carts_6 ?_
  refine z_if_ne cx 12 d_X10_carts_7 (by decide) hF (fun hF => ?_) (fun hF => ?_)
  · refine z_aload_n cx d_X10_carts_12 0 rfl ?_
    refine z_sipush (v := 194) cx d_X10_carts_13 ks_194 ?_
    refine z_dup2 cx d_X10_carts_16 rfl rfl ?_
    refine z_iald cx hT_p0 za_36 (zvp (by decide +kernel)) 194 rfl d_X10_carts_17 ?_
    refine z_aload_n cx d_X10_carts_18 0 rfl ?_
    refine z_sipush (v := 128) cx d_X10_carts_19 ks_128 ?_
    refine z_iload_n cx d_X10_carts_22 1 rfl ?_
    refine z_iadd cx d_X10_carts_23 ?_
    refine z_iald cx hT_p0 za_36 hi1 (((128 : Int32) + p1).toNatClampNeg) rfl d_X10_carts_24 ?_
    refine z_iadd cx d_X10_carts_25 ?_
    refine z_iast cx hT_p0 za_36 (zvp (by decide +kernel)) 194 rfl d_X10_carts_26 ?_
    refine z_nmM hF (fun M2 hF => ?_)
    refine z_aload_n cx d_X10_carts_27 0 rfl ?_
    refine z_sipush (v := 128) cx d_X10_carts_28 ks_128 ?_
    refine z_iload_n cx d_X10_carts_31 1 rfl ?_
    refine z_iadd cx d_X10_carts_32 ?_
    refine z_iconst (v := 0) cx d_X10_carts_33 ki_0 ?_
    refine z_iast cx hT_p0 za_36 hi1 (((128 : Int32) + p1).toNatClampNeg) rfl d_X10_carts_34 ?_
    refine z_nmM hF (fun M3 hF => ?_)
    refine z_iconst (v := 1) cx d_X10_carts_35 ki_1 ?_
    exact z_iret cx hr nb1 hF d_X10_carts_36
  refine z_iconst (v := 0) cx d_X10_carts_10 ki_0 ?_
  exact z_iret cx hr nb0 hF d_X10_carts_11
/-! SunnyPansModel.does -/
set_option maxRecDepth 100000 in
theorem wd_1698 : Cond.code yX10_hourEnds cX10_hourEnds 3 none ∈ tbG := tw7 158 rfl rfl
set_option maxRecDepth 100000 in
theorem wd_1695 : Cond.methodLink "SunnyPansModel" 299 yX10_hourEnds ∈ tbG := tw7 155 rfl rfl
set_option maxRecDepth 100000 in
theorem wd_1697 : Cond.instanceMethod yX10_hourEnds ∈ tbG := tw7 157 rfl rfl
theorem wd_73 : Cond.selects "SunnyPansModel" yX10_hourEnds yX10_hourEnds ∈ tbG := tw 73 (by decide +kernel) rfl
theorem cv_SunnyPansModel_299 : zCV "SunnyPansModel" 299 "SunnyPansModel" yX10_hourEnds cX10_hourEnds 3 none 1 := zCV_of wd_1695 wd_1697 wd_73 wd_111 wd_1698 (by decide +kernel)
set_option maxRecDepth 100000 in
theorem wd_1680 : Cond.code yX10_rains cX10_rains 4 none ∈ tbG := tw7 140 rfl rfl
set_option maxRecDepth 100000 in
theorem wd_1677 : Cond.methodLink "SunnyPansModel" 296 yX10_rains ∈ tbG := tw7 137 rfl rfl
set_option maxRecDepth 100000 in
theorem wd_1679 : Cond.instanceMethod yX10_rains ∈ tbG := tw7 139 rfl rfl
theorem wd_70 : Cond.selects "SunnyPansModel" yX10_rains yX10_rains ∈ tbG := tw 70 (by decide +kernel) rfl
theorem cv_SunnyPansModel_296 : zCV "SunnyPansModel" 296 "SunnyPansModel" yX10_rains cX10_rains 4 none 2 := zCV_of wd_1677 wd_1679 wd_70 wd_111 wd_1680 (by decide +kernel)
set_option maxRecDepth 100000 in
theorem wd_1676 : Cond.code yX10_carts cX10_carts 2 (some .boolean) ∈ tbG := tw7 136 rfl rfl
set_option maxRecDepth 100000 in
theorem wd_1674 : Cond.methodLink "SunnyPansModel" 293 yX10_carts ∈ tbG := tw7 134 rfl rfl
set_option maxRecDepth 100000 in
theorem wd_1675 : Cond.static yX10_carts ∈ tbG := tw7 135 rfl rfl
theorem cs_SunnyPansModel_293 : zCS "SunnyPansModel" 293 yX10_carts cX10_carts 2 (some .boolean) 2 := zCS_of wd_1674 wd_1675 wd_111 wd_1676 (by decide +kernel)
set_option maxRecDepth 100000 in
theorem wd_1670 : Cond.code yX10_canRake cX10_canRake 4 (some .boolean) ∈ tbG := tw7 130 rfl rfl
set_option maxRecDepth 100000 in
theorem wd_1667 : Cond.methodLink "SunnyPansModel" 290 yX10_canRake ∈ tbG := tw7 127 rfl rfl
set_option maxRecDepth 100000 in
theorem wd_1669 : Cond.instanceMethod yX10_canRake ∈ tbG := tw7 129 rfl rfl
theorem wd_69 : Cond.selects "SunnyPansModel" yX10_canRake yX10_canRake ∈ tbG := tw 69 (by decide +kernel) rfl
theorem cv_SunnyPansModel_290 : zCV "SunnyPansModel" 290 "SunnyPansModel" yX10_canRake cX10_canRake 4 (some .boolean) 3 := zCV_of wd_1667 wd_1669 wd_69 wd_111 wd_1670 (by decide +kernel)
set_option maxRecDepth 100000 in
theorem wd_1666 : Cond.code yX10_lets cX10_lets 3 (some .boolean) ∈ tbG := tw7 126 rfl rfl
set_option maxRecDepth 100000 in
theorem wd_1664 : Cond.methodLink "SunnyPansModel" 287 yX10_lets ∈ tbG := tw7 124 rfl rfl
set_option maxRecDepth 100000 in
theorem wd_1665 : Cond.static yX10_lets ∈ tbG := tw7 125 rfl rfl
theorem cs_SunnyPansModel_287 : zCS "SunnyPansModel" 287 yX10_lets cX10_lets 3 (some .boolean) 3 := zCS_of wd_1664 wd_1665 wd_111 wd_1666 (by decide +kernel)
theorem d_X10_does_0 : decode cX10_does 0 = .ok (.aload_n 2, 1) := by decide +kernel
theorem d_X10_does_1 : decode cX10_does 1 = .ok (.iconst 1, 1) := by decide +kernel
theorem d_X10_does_2 : decode cX10_does 2 = .ok (.iaload, 1) := by decide +kernel
theorem d_X10_does_3 : decode cX10_does 3 = .ok (.istore_n 3, 1) := by decide +kernel
theorem d_X10_does_4 : decode cX10_does 4 = .ok (.aload_n 2, 1) := by decide +kernel
theorem d_X10_does_5 : decode cX10_does 5 = .ok (.iconst 0, 1) := by decide +kernel
theorem d_X10_does_6 : decode cX10_does 6 = .ok (.iaload, 1) := by decide +kernel
theorem d_X10_does_7 : decode cX10_does 7 = .ok (.tableswitch 93 0 3 #[29, 38, 79, 85], 29) := by decide +kernel
theorem d_X10_does_36 : decode cX10_does 36 = .ok (.aload_n 1, 1) := by decide +kernel
theorem d_X10_does_37 : decode cX10_does 37 = .ok (.iload_n 3, 1) := by decide +kernel
theorem d_X10_does_38 : decode cX10_does 38 = .ok (.aload_n 2, 1) := by decide +kernel
theorem d_X10_does_39 : decode cX10_does 39 = .ok (.iconst 2, 1) := by decide +kernel
theorem d_X10_does_40 : decode cX10_does 40 = .ok (.iaload, 1) := by decide +kernel
theorem d_X10_does_41 : decode cX10_does 41 = .ok (.invokestatic 287, 3) := by decide +kernel
theorem d_X10_does_44 : decode cX10_does 44 = .ok (.ireturn, 1) := by decide +kernel
theorem d_X10_does_45 : decode cX10_does 45 = .ok (.aload_n 0, 1) := by decide +kernel
theorem d_X10_does_46 : decode cX10_does 46 = .ok (.aload_n 1, 1) := by decide +kernel
theorem d_X10_does_47 : decode cX10_does 47 = .ok (.iload_n 3, 1) := by decide +kernel
theorem d_X10_does_48 : decode cX10_does 48 = .ok (.aload_n 2, 1) := by decide +kernel
theorem d_X10_does_49 : decode cX10_does 49 = .ok (.iconst 2, 1) := by decide +kernel
theorem d_X10_does_50 : decode cX10_does 50 = .ok (.iaload, 1) := by decide +kernel
theorem d_X10_does_51 : decode cX10_does 51 = .ok (.invokevirtual 290, 3) := by decide +kernel
theorem d_X10_does_54 : decode cX10_does 54 = .ok (.ifCond .ne 5, 3) := by decide +kernel
theorem d_X10_does_57 : decode cX10_does 57 = .ok (.iconst 0, 1) := by decide +kernel
theorem d_X10_does_58 : decode cX10_does 58 = .ok (.ireturn, 1) := by decide +kernel
theorem d_X10_does_59 : decode cX10_does 59 = .ok (.aload_n 1, 1) := by decide +kernel
theorem d_X10_does_60 : decode cX10_does 60 = .ok (.sipush 128, 3) := by decide +kernel
theorem d_X10_does_63 : decode cX10_does 63 = .ok (.aload_n 2, 1) := by decide +kernel
theorem d_X10_does_64 : decode cX10_does 64 = .ok (.iconst 2, 1) := by decide +kernel
theorem d_X10_does_65 : decode cX10_does 65 = .ok (.iaload, 1) := by decide +kernel
theorem d_X10_does_66 : decode cX10_does 66 = .ok (.iadd, 1) := by decide +kernel
theorem d_X10_does_67 : decode cX10_does 67 = .ok (.dup2, 1) := by decide +kernel
theorem d_X10_does_68 : decode cX10_does 68 = .ok (.iaload, 1) := by decide +kernel
theorem d_X10_does_69 : decode cX10_does 69 = .ok (.aload_n 1, 1) := by decide +kernel
theorem d_X10_does_70 : decode cX10_does 70 = .ok (.bipush 64, 2) := by decide +kernel
theorem d_X10_does_72 : decode cX10_does 72 = .ok (.iload_n 3, 1) := by decide +kernel
theorem d_X10_does_73 : decode cX10_does 73 = .ok (.iadd, 1) := by decide +kernel
theorem d_X10_does_74 : decode cX10_does 74 = .ok (.iaload, 1) := by decide +kernel
theorem d_X10_does_75 : decode cX10_does 75 = .ok (.iadd, 1) := by decide +kernel
theorem d_X10_does_76 : decode cX10_does 76 = .ok (.iastore, 1) := by decide +kernel
theorem d_X10_does_77 : decode cX10_does 77 = .ok (.aload_n 1, 1) := by decide +kernel
theorem d_X10_does_78 : decode cX10_does 78 = .ok (.bipush 64, 2) := by decide +kernel
theorem d_X10_does_80 : decode cX10_does 80 = .ok (.iload_n 3, 1) := by decide +kernel
theorem d_X10_does_81 : decode cX10_does 81 = .ok (.iadd, 1) := by decide +kernel
theorem d_X10_does_82 : decode cX10_does 82 = .ok (.iconst 0, 1) := by decide +kernel
theorem d_X10_does_83 : decode cX10_does 83 = .ok (.iastore, 1) := by decide +kernel
theorem d_X10_does_84 : decode cX10_does 84 = .ok (.iconst 1, 1) := by decide +kernel
theorem d_X10_does_85 : decode cX10_does 85 = .ok (.ireturn, 1) := by decide +kernel
theorem d_X10_does_86 : decode cX10_does 86 = .ok (.aload_n 1, 1) := by decide +kernel
theorem d_X10_does_87 : decode cX10_does 87 = .ok (.iload_n 3, 1) := by decide +kernel
theorem d_X10_does_88 : decode cX10_does 88 = .ok (.invokestatic 293, 3) := by decide +kernel
theorem d_X10_does_91 : decode cX10_does 91 = .ok (.ireturn, 1) := by decide +kernel
theorem d_X10_does_92 : decode cX10_does 92 = .ok (.aload_n 0, 1) := by decide +kernel
theorem d_X10_does_93 : decode cX10_does 93 = .ok (.aload_n 1, 1) := by decide +kernel
theorem d_X10_does_94 : decode cX10_does 94 = .ok (.iload_n 3, 1) := by decide +kernel
theorem d_X10_does_95 : decode cX10_does 95 = .ok (.invokevirtual 296, 3) := by decide +kernel
theorem d_X10_does_98 : decode cX10_does 98 = .ok (.iconst 1, 1) := by decide +kernel
theorem d_X10_does_99 : decode cX10_does 99 = .ok (.ireturn, 1) := by decide +kernel
theorem d_X10_does_100 : decode cX10_does 100 = .ok (.aload_n 0, 1) := by decide +kernel
theorem d_X10_does_101 : decode cX10_does 101 = .ok (.getfield 23, 3) := by decide +kernel
theorem d_X10_does_104 : decode cX10_does 104 = .ok (.iconst 2, 1) := by decide +kernel
theorem d_X10_does_105 : decode cX10_does 105 = .ok (.iaload, 1) := by decide +kernel
theorem d_X10_does_106 : decode cX10_does 106 = .ok (.ifCond .eq 14, 3) := by decide +kernel
theorem d_X10_does_109 : decode cX10_does 109 = .ok (.aload_n 1, 1) := by decide +kernel
theorem d_X10_does_110 : decode cX10_does 110 = .ok (.sipush 192, 3) := by decide +kernel
theorem d_X10_does_113 : decode cX10_does 113 = .ok (.iaload, 1) := by decide +kernel
theorem d_X10_does_114 : decode cX10_does 114 = .ok (.sipush 400, 3) := by decide +kernel
theorem d_X10_does_117 : decode cX10_does 117 = .ok (.if_icmp .lt 5, 3) := by decide +kernel
theorem d_X10_does_120 : decode cX10_does 120 = .ok (.iconst 0, 1) := by decide +kernel
theorem d_X10_does_121 : decode cX10_does 121 = .ok (.ireturn, 1) := by decide +kernel
theorem d_X10_does_122 : decode cX10_does 122 = .ok (.aload_n 0, 1) := by decide +kernel
theorem d_X10_does_123 : decode cX10_does 123 = .ok (.aload_n 1, 1) := by decide +kernel
theorem d_X10_does_124 : decode cX10_does 124 = .ok (.invokevirtual 299, 3) := by decide +kernel
theorem d_X10_does_127 : decode cX10_does 127 = .ok (.iconst 1, 1) := by decide +kernel
theorem d_X10_does_128 : decode cX10_does 128 = .ok (.ireturn, 1) := by decide +kernel
noncomputable def F_X10_does_100 (p0 : Nat) (p1 : Nat) (M : zMem) : Option (Int32 × zMem) :=
  if (M.1 4 2) = 0 then
    some ((0 : Int32), M)
  else
    if (M.1 p0 192) < (400 : Int32) then
      zbv (F_X10_hourEnds M p0) fun M1 =>
      some ((1 : Int32), M1)
    else
      some ((0 : Int32), M)
noncomputable def F_X10_does_92 (p0 : Nat) (p1 : Nat) (b92_L3 : Int32) (M : zMem) : Option (Int32 × zMem) :=
  zbv (F_X10_rains M p0 b92_L3) fun M2 =>
  some ((1 : Int32), M2)
noncomputable def F_X10_does_86 (p0 : Nat) (p1 : Nat) (b86_L3 : Int32) (M : zMem) : Option (Int32 × zMem) :=
  zb (F_X10_carts M p0 b86_L3) fun v4 M3 =>
  gd (v4 == 0 || v4 == 1) <|
  some (v4, M3)
noncomputable def F_X10_does_45 (p0 : Nat) (p1 : Nat) (b45_L3 : Int32) (M : zMem) : Option (Int32 × zMem) :=
  zb (F_X10_canRake M p0 b45_L3 (M.1 p1 2)) fun v7 M6 =>
  if v7 = 0 then
    some ((0 : Int32), M6)
  else
    gin ((128 : Int32) + (M6.1 p1 2)) 195 <|
    gin ((64 : Int32) + b45_L3) 195 <|
    zl (zI M6 p0 (((128 : Int32) + (M6.1 p1 2)).toNatClampNeg) ((M6.1 p0 ((128 : Int32) + (M6.1 p1 2)).toNatClampNeg) + (M6.1 p0 ((64 : Int32) + b45_L3).toNatClampNeg))) fun M10 =>
    zl (zI M10 p0 (((64 : Int32) + b45_L3).toNatClampNeg) (0 : Int32)) fun M11 =>
    some ((1 : Int32), M11)
noncomputable def F_X10_does_36 (p0 : Nat) (p1 : Nat) (b36_L3 : Int32) (M : zMem) : Option (Int32 × zMem) :=
  zb (F_X10_lets M p0 b36_L3 (M.1 p1 2)) fun v13 M12 =>
  gd (v13 == 0 || v13 == 1) <|
  some (v13, M12)
noncomputable def F_X10_does (M : zMem) (p0 : Nat) (p1 : Nat) : Option (Int32 × zMem) :=
  zl (M.1 p1 1) fun v15 =>
  if (M.1 p1 0) = 0 then
    F_X10_does_36 p0 p1 v15 M
  else
  if (M.1 p1 0) = 1 then
    F_X10_does_45 p0 p1 v15 M
  else
  if (M.1 p1 0) = 2 then
    F_X10_does_86 p0 p1 v15 M
  else
  if (M.1 p1 0) = 3 then
    F_X10_does_92 p0 p1 v15 M
  else
  F_X10_does_100 p0 p1 M
def rm_X10_does : Room := { frames := 9, cells := 0, slots := 0, locals := 240 }
set_option maxHeartbeats 4000000 in
set_option maxRecDepth 100000 in
theorem c_X10_does (l : Launch) {G : zG} {ad : Nat → Nat} {n : Nat} (hA : zInj ad n) (M : zMem) (p0 : Nat) (p1 : Nat) (hT : zT shM n 0 11) (hT_p0 : zT shM n p0 36) (hT_p1 : zT shM n p1 35) {r9 : Int32} {M9 : zMem} (hF : F_X10_does M p0 p1 = some (r9, M9)) : zM l yX10_does cX10_does 4 (some .boolean) rm_X10_does G shM ad n M [.ref (ad 0), .ref (ad p0), .ref (ad p1)] (some (.int r9)) M9 := by
  refine zM_of hA (by decide +kernel) (lv := [(0, .ref (ad 0)), (1, .ref (ad p0)), (2, .ref (ad p1))]) (Nat.le_of_ble_eq_true rfl) rfl (fun p e s m args below meth c A cx hr => ?_)
  have hb100 : ∀ (M : zMem), F_X10_does_100 p0 p1 M = some (r9, M9) → zJ p l e rm_X10_does s m args below meth c G shM ad n A 4 (MQ below (zQ G shM ad n M9 (some (.int r9)) A) args s 0 0 A) 0 0 M 100 [(0, .ref (ad 0)), (1, .ref (ad p0))] [] := by
    intro M hF
    unfold F_X10_does_100 at hF
    refine z_aload_n cx d_X10_does_100 0 rfl ?_
    refine z_getR cx hT fg_SunnyPansModel_23 4 rfl d_X10_does_101 ?_
    refine z_iconst (v := 2) cx d_X10_does_104 ki_2 ?_
    refine z_iald cx (tfM_11_4 hT) za_28 (zvp (by decide +kernel)) 2 rfl d_X10_does_105 ?_
    refine z_if_eq cx 120 d_X10_does_106 (by decide) hF (fun hF => ?_) (fun hF => ?_)
    · refine z_iconst (v := 0) cx d_X10_does_120 ki_0 ?_
      exact z_iret cx hr nb0 hF d_X10_does_121
    refine z_aload_n cx d_X10_does_109 1 rfl ?_
    refine z_sipush (v := 192) cx d_X10_does_110 ks_192 ?_
    refine z_iald cx hT_p0 za_36 (zvp (by decide +kernel)) 192 rfl d_X10_does_113 ?_
    refine z_sipush (v := 400) cx d_X10_does_114 ks_400 ?_
    refine z_icmp_lt cx 122 d_X10_does_117 (by decide) hF (fun hF => ?_) (fun hF => ?_)
    · refine z_aload_n cx d_X10_does_122 0 rfl ?_
      refine z_aload_n cx d_X10_does_123 1 rfl ?_
      obtain ⟨M1, hc, hF⟩ := zbv_inv hF
      refine z_callV cx (As := [.ref (ad p0)]) (rest := []) (c_X10_hourEnds l cx.2.2.2.1.1 M p0 hT hT_p0 hc) hT zo_11 cv_SunnyPansModel_299 ⟨rfl, rfl, Nat.le_of_ble_eq_true rfl, Nat.le_of_ble_eq_true rfl⟩ rfl rfl ⟨Nat.zero_le _, Nat.zero_le _⟩ (Nat.le_of_ble_eq_true rfl) d_X10_does_124 ?_
      refine z_iconst (v := 1) cx d_X10_does_127 ki_1 ?_
      exact z_iret cx hr nb1 hF d_X10_does_128
    refine z_iconst (v := 0) cx d_X10_does_120 ki_0 ?_
    exact z_iret cx hr nb0 hF d_X10_does_121
  have hb92 : ∀ (b92_L3 : Int32) (M : zMem), F_X10_does_92 p0 p1 b92_L3 M = some (r9, M9) → zJ p l e rm_X10_does s m args below meth c G shM ad n A 4 (MQ below (zQ G shM ad n M9 (some (.int r9)) A) args s 0 0 A) 0 0 M 92 [(0, .ref (ad 0)), (1, .ref (ad p0)), (3, .int b92_L3)] [] := by
    intro b92_L3 M hF
    unfold F_X10_does_92 at hF
    refine z_aload_n cx d_X10_does_92 0 rfl ?_
    refine z_aload_n cx d_X10_does_93 1 rfl ?_
    refine z_iload_n cx d_X10_does_94 2 rfl ?_
    obtain ⟨M2, hc, hF⟩ := zbv_inv hF
    refine z_callV cx (As := [.ref (ad p0), .int b92_L3]) (rest := []) (c_X10_rains l cx.2.2.2.1.1 M p0 b92_L3 hT hT_p0 hc) hT zo_11 cv_SunnyPansModel_296 ⟨rfl, rfl, Nat.le_of_ble_eq_true rfl, Nat.le_of_ble_eq_true rfl⟩ rfl rfl ⟨Nat.zero_le _, Nat.zero_le _⟩ (Nat.le_of_ble_eq_true rfl) d_X10_does_95 ?_
    refine z_iconst (v := 1) cx d_X10_does_98 ki_1 ?_
    exact z_iret cx hr nb1 hF d_X10_does_99
  have hb86 : ∀ (b86_L3 : Int32) (M : zMem), F_X10_does_86 p0 p1 b86_L3 M = some (r9, M9) → zJ p l e rm_X10_does s m args below meth c G shM ad n A 4 (MQ below (zQ G shM ad n M9 (some (.int r9)) A) args s 0 0 A) 0 0 M 86 [(1, .ref (ad p0)), (3, .int b86_L3)] [] := by
    intro b86_L3 M hF
    unfold F_X10_does_86 at hF
    refine z_aload_n cx d_X10_does_86 0 rfl ?_
    refine z_iload_n cx d_X10_does_87 1 rfl ?_
    obtain ⟨v4, M3, hc, hF⟩ := zb_inv hF
    refine z_callS cx (As := [.ref (ad p0), .int b86_L3]) (rest := []) (c_X10_carts l cx.2.2.2.1.1 M p0 b86_L3 hT_p0 hc) cs_SunnyPansModel_293 ⟨rfl, rfl, Nat.le_of_ble_eq_true rfl, Nat.le_of_ble_eq_true rfl⟩ rfl rfl ⟨Nat.zero_le _, Nat.zero_le _⟩ (Nat.le_of_ble_eq_true rfl) d_X10_does_88 ?_
    obtain ⟨hn5, hF⟩ := gd_inv hF
    exact z_iret cx hr (nbx hn5) hF d_X10_does_91
  have hb45 : ∀ (b45_L3 : Int32) (M : zMem), F_X10_does_45 p0 p1 b45_L3 M = some (r9, M9) → zJ p l e rm_X10_does s m args below meth c G shM ad n A 4 (MQ below (zQ G shM ad n M9 (some (.int r9)) A) args s 0 0 A) 0 0 M 45 [(0, .ref (ad 0)), (1, .ref (ad p0)), (2, .ref (ad p1)), (3, .int b45_L3)] [] := by
    intro b45_L3 M hF
    unfold F_X10_does_45 at hF
    refine z_aload_n cx d_X10_does_45 0 rfl ?_
    refine z_aload_n cx d_X10_does_46 1 rfl ?_
    refine z_iload_n cx d_X10_does_47 3 rfl ?_
    refine z_aload_n cx d_X10_does_48 2 rfl ?_
    refine z_iconst (v := 2) cx d_X10_does_49 ki_2 ?_
    refine z_iald cx hT_p1 za_35 (zvp (by decide +kernel)) 2 rfl d_X10_does_50 ?_
    obtain ⟨v7, M6, hc, hF⟩ := zb_inv hF
    refine z_callV cx (As := [.ref (ad p0), .int b45_L3, .int (M.1 p1 2)]) (rest := []) (c_X10_canRake l cx.2.2.2.1.1 M p0 b45_L3 (M.1 p1 2) hT hT_p0 hc) hT zo_11 cv_SunnyPansModel_290 ⟨rfl, rfl, Nat.le_of_ble_eq_true rfl, Nat.le_of_ble_eq_true rfl⟩ rfl rfl ⟨Nat.zero_le _, Nat.zero_le _⟩ (Nat.le_of_ble_eq_true rfl) d_X10_does_51 ?_
    refine z_if_ne cx 59 d_X10_does_54 (by decide) hF (fun hF => ?_) (fun hF => ?_)
    · refine z_aload_n cx d_X10_does_59 1 rfl ?_
      refine z_sipush (v := 128) cx d_X10_does_60 ks_128 ?_
      refine z_aload_n cx d_X10_does_63 2 rfl ?_
      refine z_iconst (v := 2) cx d_X10_does_64 ki_2 ?_
      refine z_iald cx hT_p1 za_35 (zvp (by decide +kernel)) 2 rfl d_X10_does_65 ?_
      refine z_iadd cx d_X10_does_66 ?_
      refine z_dup2 cx d_X10_does_67 rfl rfl ?_
      obtain ⟨hi8, hF⟩ := gin_inv hF
      refine z_iald cx hT_p0 za_36 hi8 (((128 : Int32) + (M6.1 p1 2)).toNatClampNeg) rfl d_X10_does_68 ?_
      refine z_aload_n cx d_X10_does_69 1 rfl ?_
      refine z_bipush (v := 64) cx d_X10_does_70 kb_64 ?_
      refine z_iload_n cx d_X10_does_72 3 rfl ?_
      refine z_iadd cx d_X10_does_73 ?_
      obtain ⟨hi9, hF⟩ := gin_inv hF
      refine z_iald cx hT_p0 za_36 hi9 (((64 : Int32) + b45_L3).toNatClampNeg) rfl d_X10_does_74 ?_
      refine z_iadd cx d_X10_does_75 ?_
      refine z_iast cx hT_p0 za_36 hi8 (((128 : Int32) + (M6.1 p1 2)).toNatClampNeg) rfl d_X10_does_76 ?_
      refine z_nmM hF (fun M10 hF => ?_)
      refine z_aload_n cx d_X10_does_77 1 rfl ?_
      refine z_bipush (v := 64) cx d_X10_does_78 kb_64 ?_
      refine z_iload_n cx d_X10_does_80 3 rfl ?_
      refine z_iadd cx d_X10_does_81 ?_
      refine z_iconst (v := 0) cx d_X10_does_82 ki_0 ?_
      refine z_iast cx hT_p0 za_36 hi9 (((64 : Int32) + b45_L3).toNatClampNeg) rfl d_X10_does_83 ?_
      refine z_nmM hF (fun M11 hF => ?_)
      refine z_iconst (v := 1) cx d_X10_does_84 ki_1 ?_
      exact z_iret cx hr nb1 hF d_X10_does_85
    refine z_iconst (v := 0) cx d_X10_does_57 ki_0 ?_
    exact z_iret cx hr nb0 hF d_X10_does_58
  have hb36 : ∀ (b36_L3 : Int32) (M : zMem), F_X10_does_36 p0 p1 b36_L3 M = some (r9, M9) → zJ p l e rm_X10_does s m args below meth c G shM ad n A 4 (MQ below (zQ G shM ad n M9 (some (.int r9)) A) args s 0 0 A) 0 0 M 36 [(1, .ref (ad p0)), (2, .ref (ad p1)), (3, .int b36_L3)] [] := by
    intro b36_L3 M hF
    unfold F_X10_does_36 at hF
    refine z_aload_n cx d_X10_does_36 0 rfl ?_
    refine z_iload_n cx d_X10_does_37 2 rfl ?_
    refine z_aload_n cx d_X10_does_38 1 rfl ?_
    refine z_iconst (v := 2) cx d_X10_does_39 ki_2 ?_
    refine z_iald cx hT_p1 za_35 (zvp (by decide +kernel)) 2 rfl d_X10_does_40 ?_
    obtain ⟨v13, M12, hc, hF⟩ := zb_inv hF
    refine z_callS cx (As := [.ref (ad p0), .int b36_L3, .int (M.1 p1 2)]) (rest := []) (c_X10_lets l cx.2.2.2.1.1 M p0 b36_L3 (M.1 p1 2) hT_p0 hc) cs_SunnyPansModel_287 ⟨rfl, rfl, Nat.le_of_ble_eq_true rfl, Nat.le_of_ble_eq_true rfl⟩ rfl rfl ⟨Nat.zero_le _, Nat.zero_le _⟩ (Nat.le_of_ble_eq_true rfl) d_X10_does_41 ?_
    obtain ⟨hn14, hF⟩ := gd_inv hF
    exact z_iret cx hr (nbx hn14) hF d_X10_does_44
  unfold F_X10_does at hF
  refine z_aload_n cx d_X10_does_0 2 rfl ?_
  refine z_iconst (v := 1) cx d_X10_does_1 ki_1 ?_
  refine z_iald cx hT_p1 za_35 (zvp (by decide +kernel)) 1 rfl d_X10_does_2 ?_
  refine z_nm hF (fun v15 hF => ?_)
  refine z_istore_n cx 3 [(3, .int v15), (0, .ref (ad 0)), (1, .ref (ad p0)), (2, .ref (ad p1))] d_X10_does_3 rfl (by decide) rfl ?_
  refine z_aload_n cx d_X10_does_4 3 rfl ?_
  refine z_iconst (v := 0) cx d_X10_does_5 ki_0 ?_
  refine z_iald cx hT_p1 za_35 (zvp (by decide +kernel)) 0 rfl d_X10_does_6 ?_
  by_cases q0 : (M.1 p1 0) = 0
  · rw [if_pos q0] at hF
    refine z_tabIn cx 36 d_X10_does_7 (by rw [q0]; decide +kernel) (by rw [q0]; decide +kernel) (by rw [q0]; rfl) (by decide) ?_
    exact z_lv [2, 3, 0] _ rfl (hb36 v15 M hF)
  rw [if_neg q0] at hF
  by_cases q1 : (M.1 p1 0) = 1
  · rw [if_pos q1] at hF
    refine z_tabIn cx 45 d_X10_does_7 (by rw [q1]; decide +kernel) (by rw [q1]; decide +kernel) (by rw [q1]; rfl) (by decide) ?_
    exact z_lv [1, 2, 3, 0] _ rfl (hb45 v15 M hF)
  rw [if_neg q1] at hF
  by_cases q2 : (M.1 p1 0) = 2
  · rw [if_pos q2] at hF
    refine z_tabIn cx 86 d_X10_does_7 (by rw [q2]; decide +kernel) (by rw [q2]; decide +kernel) (by rw [q2]; rfl) (by decide) ?_
    exact z_lv [2, 0] _ rfl (hb86 v15 M hF)
  rw [if_neg q2] at hF
  by_cases q3 : (M.1 p1 0) = 3
  · rw [if_pos q3] at hF
    refine z_tabIn cx 92 d_X10_does_7 (by rw [q3]; decide +kernel) (by rw [q3]; decide +kernel) (by rw [q3]; rfl) (by decide) ?_
    exact z_lv [1, 2, 0] _ rfl (hb92 v15 M hF)
  rw [if_neg q3] at hF
  refine z_tabOut cx 100 d_X10_does_7 (by have w0 := lv_neT q0 (a := 0) (by decide +kernel); have w1 := lv_neT q1 (a := 1) (by decide +kernel); have w2 := lv_neT q2 (a := 2) (by decide +kernel); have w3 := lv_neT q3 (a := 3) (by decide +kernel); omega) (by decide) ?_
  exact z_lv [1, 2] _ rfl (hb100 M hF)
/-! SunnyPansModel.goes, its calls of its own kind as parameters -/
set_option maxRecDepth 100000 in
theorem wd_1431 : Cond.fieldLink "SunnyPansModel" 312 "SunnyPansModel" "doneSteps" "I" ∈ tbG := tw6 131 rfl rfl
theorem fg_SunnyPansModel_312 : zGetI "SunnyPansModel" 312 10 11 36 := ⟨RX10, TX10, 40, rfl, by decide, uw_10, wd_1431, fun _ _ _ _ _ _ => ⟨_, rfl, rfl⟩⟩
theorem fp_SunnyPansModel_312 : zPutI "SunnyPansModel" 312 10 11 36 := ⟨zc_10, fg_SunnyPansModel_312, ⟨RX10, TX10, 40, rfl, rfl, by decide +kernel⟩, fun _ _ _ _ _ _ _ => ⟨_, rfl, Nat.le_of_ble_eq_true rfl, rfl⟩⟩
set_option maxRecDepth 100000 in
theorem wd_1430 : Cond.fieldLink "SunnyPansModel" 302 "SunnyPansModel" "begun" "I" ∈ tbG := tw6 130 rfl rfl
theorem fg_SunnyPansModel_302 : zGetI "SunnyPansModel" 302 10 11 35 := ⟨RX10, TX10, 40, rfl, by decide, uw_10, wd_1430, fun _ _ _ _ _ _ => ⟨_, rfl, rfl⟩⟩
set_option maxRecDepth 100000 in
theorem wd_1659 : Cond.code yX10_goes cX10_goes 5 none ∈ tbG := tw7 119 rfl rfl
set_option maxRecDepth 100000 in
theorem wd_1656 : Cond.methodLink "SunnyPansModel" 305 yX10_goes ∈ tbG := tw7 116 rfl rfl
set_option maxRecDepth 100000 in
theorem wd_1658 : Cond.instanceMethod yX10_goes ∈ tbG := tw7 118 rfl rfl
theorem wd_67 : Cond.selects "SunnyPansModel" yX10_goes yX10_goes ∈ tbG := tw 67 (by decide +kernel) rfl
theorem cv_SunnyPansModel_305 : zCV "SunnyPansModel" 305 "SunnyPansModel" yX10_goes cX10_goes 5 none 2 := zCV_of wd_1656 wd_1658 wd_67 wd_111 wd_1659 (by decide +kernel)
theorem fp_SunnyPansModel_302 : zPutI "SunnyPansModel" 302 10 11 35 := ⟨zc_10, fg_SunnyPansModel_302, ⟨RX10, TX10, 40, rfl, rfl, by decide +kernel⟩, fun _ _ _ _ _ _ _ => ⟨_, rfl, Nat.le_of_ble_eq_true rfl, rfl⟩⟩
set_option maxRecDepth 100000 in
theorem wd_1663 : Cond.code yX10_does cX10_does 4 (some .boolean) ∈ tbG := tw7 123 rfl rfl
set_option maxRecDepth 100000 in
theorem wd_1660 : Cond.methodLink "SunnyPansModel" 308 yX10_does ∈ tbG := tw7 120 rfl rfl
set_option maxRecDepth 100000 in
theorem wd_1662 : Cond.instanceMethod yX10_does ∈ tbG := tw7 122 rfl rfl
theorem wd_68 : Cond.selects "SunnyPansModel" yX10_does yX10_does ∈ tbG := tw 68 (by decide +kernel) rfl
theorem cv_SunnyPansModel_308 : zCV "SunnyPansModel" 308 "SunnyPansModel" yX10_does cX10_does 4 (some .boolean) 2 := zCV_of wd_1660 wd_1662 wd_68 wd_111 wd_1663 (by decide +kernel)
theorem d_X10_goes_0 : decode cX10_goes 0 = .ok (.iload_n 1, 1) := by decide +kernel
theorem d_X10_goes_1 : decode cX10_goes 1 = .ok (.istore_n 3, 1) := by decide +kernel
theorem d_X10_goes_2 : decode cX10_goes 2 = .ok (.iload_n 3, 1) := by decide +kernel
theorem d_X10_goes_3 : decode cX10_goes 3 = .ok (.iload_n 2, 1) := by decide +kernel
theorem d_X10_goes_4 : decode cX10_goes 4 = .ok (.if_icmp .ge 151, 3) := by decide +kernel
theorem d_X10_goes_7 : decode cX10_goes 7 = .ok (.aload_n 0, 1) := by decide +kernel
theorem d_X10_goes_8 : decode cX10_goes 8 = .ok (.getfield 302, 3) := by decide +kernel
theorem d_X10_goes_11 : decode cX10_goes 11 = .ok (.sipush 200, 3) := by decide +kernel
theorem d_X10_goes_14 : decode cX10_goes 14 = .ok (.if_icmp .ge 141, 3) := by decide +kernel
theorem d_X10_goes_17 : decode cX10_goes 17 = .ok (.aload_n 0, 1) := by decide +kernel
theorem d_X10_goes_18 : decode cX10_goes 18 = .ok (.dup, 1) := by decide +kernel
theorem d_X10_goes_19 : decode cX10_goes 19 = .ok (.getfield 302, 3) := by decide +kernel
theorem d_X10_goes_22 : decode cX10_goes 22 = .ok (.iconst 1, 1) := by decide +kernel
theorem d_X10_goes_23 : decode cX10_goes 23 = .ok (.iadd, 1) := by decide +kernel
theorem d_X10_goes_24 : decode cX10_goes 24 = .ok (.putfield 302, 3) := by decide +kernel
theorem d_X10_goes_27 : decode cX10_goes 27 = .ok (.aload_n 0, 1) := by decide +kernel
theorem d_X10_goes_28 : decode cX10_goes 28 = .ok (.getfield 55, 3) := by decide +kernel
theorem d_X10_goes_31 : decode cX10_goes 31 = .ok (.iload_n 3, 1) := by decide +kernel
theorem d_X10_goes_32 : decode cX10_goes 32 = .ok (.aaload, 1) := by decide +kernel
theorem d_X10_goes_33 : decode cX10_goes 33 = .ok (.iconst 0, 1) := by decide +kernel
theorem d_X10_goes_34 : decode cX10_goes 34 = .ok (.iaload, 1) := by decide +kernel
theorem d_X10_goes_35 : decode cX10_goes 35 = .ok (.iconst 5, 1) := by decide +kernel
theorem d_X10_goes_36 : decode cX10_goes 36 = .ok (.if_icmp .ne 53, 3) := by decide +kernel
theorem d_X10_goes_39 : decode cX10_goes 39 = .ok (.iconst 0, 1) := by decide +kernel
theorem d_X10_goes_40 : decode cX10_goes 40 = .ok (.istore 4, 2) := by decide +kernel
theorem d_X10_goes_42 : decode cX10_goes 42 = .ok (.iload 4, 2) := by decide +kernel
theorem d_X10_goes_44 : decode cX10_goes 44 = .ok (.aload_n 0, 1) := by decide +kernel
theorem d_X10_goes_45 : decode cX10_goes 45 = .ok (.getfield 55, 3) := by decide +kernel
theorem d_X10_goes_48 : decode cX10_goes 48 = .ok (.iload_n 3, 1) := by decide +kernel
theorem d_X10_goes_49 : decode cX10_goes 49 = .ok (.aaload, 1) := by decide +kernel
theorem d_X10_goes_50 : decode cX10_goes 50 = .ok (.iconst 1, 1) := by decide +kernel
theorem d_X10_goes_51 : decode cX10_goes 51 = .ok (.iaload, 1) := by decide +kernel
theorem d_X10_goes_52 : decode cX10_goes 52 = .ok (.if_icmp .ge 34, 3) := by decide +kernel
theorem d_X10_goes_55 : decode cX10_goes 55 = .ok (.aload_n 0, 1) := by decide +kernel
theorem d_X10_goes_56 : decode cX10_goes 56 = .ok (.getfield 302, 3) := by decide +kernel
theorem d_X10_goes_59 : decode cX10_goes 59 = .ok (.sipush 200, 3) := by decide +kernel
theorem d_X10_goes_62 : decode cX10_goes 62 = .ok (.if_icmp .ge 24, 3) := by decide +kernel
theorem d_X10_goes_65 : decode cX10_goes 65 = .ok (.aload_n 0, 1) := by decide +kernel
theorem d_X10_goes_66 : decode cX10_goes 66 = .ok (.iload_n 3, 1) := by decide +kernel
theorem d_X10_goes_67 : decode cX10_goes 67 = .ok (.iconst 1, 1) := by decide +kernel
theorem d_X10_goes_68 : decode cX10_goes 68 = .ok (.iadd, 1) := by decide +kernel
theorem d_X10_goes_69 : decode cX10_goes 69 = .ok (.aload_n 0, 1) := by decide +kernel
theorem d_X10_goes_70 : decode cX10_goes 70 = .ok (.getfield 55, 3) := by decide +kernel
theorem d_X10_goes_73 : decode cX10_goes 73 = .ok (.iload_n 3, 1) := by decide +kernel
theorem d_X10_goes_74 : decode cX10_goes 74 = .ok (.aaload, 1) := by decide +kernel
theorem d_X10_goes_75 : decode cX10_goes 75 = .ok (.iconst 3, 1) := by decide +kernel
theorem d_X10_goes_76 : decode cX10_goes 76 = .ok (.iaload, 1) := by decide +kernel
theorem d_X10_goes_77 : decode cX10_goes 77 = .ok (.invokevirtual 305, 3) := by decide +kernel
theorem d_X10_goes_80 : decode cX10_goes 80 = .ok (.iinc 4 1, 3) := by decide +kernel
theorem d_X10_goes_83 : decode cX10_goes 83 = .ok (.goto (-41), 3) := by decide +kernel
theorem d_X10_goes_86 : decode cX10_goes 86 = .ok (.goto 57, 3) := by decide +kernel
theorem d_X10_goes_89 : decode cX10_goes 89 = .ok (.aload_n 0, 1) := by decide +kernel
theorem d_X10_goes_90 : decode cX10_goes 90 = .ok (.aload_n 0, 1) := by decide +kernel
theorem d_X10_goes_91 : decode cX10_goes 91 = .ok (.getfield 58, 3) := by decide +kernel
theorem d_X10_goes_94 : decode cX10_goes 94 = .ok (.aload_n 0, 1) := by decide +kernel
theorem d_X10_goes_95 : decode cX10_goes 95 = .ok (.getfield 55, 3) := by decide +kernel
theorem d_X10_goes_98 : decode cX10_goes 98 = .ok (.iload_n 3, 1) := by decide +kernel
theorem d_X10_goes_99 : decode cX10_goes 99 = .ok (.aaload, 1) := by decide +kernel
theorem d_X10_goes_100 : decode cX10_goes 100 = .ok (.invokevirtual 308, 3) := by decide +kernel
theorem d_X10_goes_103 : decode cX10_goes 103 = .ok (.istore 4, 2) := by decide +kernel
theorem d_X10_goes_105 : decode cX10_goes 105 = .ok (.aload_n 0, 1) := by decide +kernel
theorem d_X10_goes_106 : decode cX10_goes 106 = .ok (.dup, 1) := by decide +kernel
theorem d_X10_goes_107 : decode cX10_goes 107 = .ok (.getfield 312, 3) := by decide +kernel
theorem d_X10_goes_110 : decode cX10_goes 110 = .ok (.iload 4, 2) := by decide +kernel
theorem d_X10_goes_112 : decode cX10_goes 112 = .ok (.ifCond .eq 7, 3) := by decide +kernel
theorem d_X10_goes_115 : decode cX10_goes 115 = .ok (.iconst 1, 1) := by decide +kernel
theorem d_X10_goes_116 : decode cX10_goes 116 = .ok (.goto 4, 3) := by decide +kernel
theorem d_X10_goes_119 : decode cX10_goes 119 = .ok (.iconst 0, 1) := by decide +kernel
theorem d_X10_goes_120 : decode cX10_goes 120 = .ok (.iadd, 1) := by decide +kernel
theorem d_X10_goes_121 : decode cX10_goes 121 = .ok (.putfield 312, 3) := by decide +kernel
theorem d_X10_goes_124 : decode cX10_goes 124 = .ok (.aload_n 0, 1) := by decide +kernel
theorem d_X10_goes_125 : decode cX10_goes 125 = .ok (.dup, 1) := by decide +kernel
theorem d_X10_goes_126 : decode cX10_goes 126 = .ok (.getfield 181, 3) := by decide +kernel
theorem d_X10_goes_129 : decode cX10_goes 129 = .ok (.iload 4, 2) := by decide +kernel
theorem d_X10_goes_131 : decode cX10_goes 131 = .ok (.ifCond .eq 7, 3) := by decide +kernel
theorem d_X10_goes_134 : decode cX10_goes 134 = .ok (.iconst 0, 1) := by decide +kernel
theorem d_X10_goes_135 : decode cX10_goes 135 = .ok (.goto 4, 3) := by decide +kernel
theorem d_X10_goes_138 : decode cX10_goes 138 = .ok (.iconst 1, 1) := by decide +kernel
theorem d_X10_goes_139 : decode cX10_goes 139 = .ok (.iadd, 1) := by decide +kernel
theorem d_X10_goes_140 : decode cX10_goes 140 = .ok (.putfield 181, 3) := by decide +kernel
theorem d_X10_goes_143 : decode cX10_goes 143 = .ok (.aload_n 0, 1) := by decide +kernel
theorem d_X10_goes_144 : decode cX10_goes 144 = .ok (.getfield 55, 3) := by decide +kernel
theorem d_X10_goes_147 : decode cX10_goes 147 = .ok (.iload_n 3, 1) := by decide +kernel
theorem d_X10_goes_148 : decode cX10_goes 148 = .ok (.aaload, 1) := by decide +kernel
theorem d_X10_goes_149 : decode cX10_goes 149 = .ok (.iconst 3, 1) := by decide +kernel
theorem d_X10_goes_150 : decode cX10_goes 150 = .ok (.iaload, 1) := by decide +kernel
theorem d_X10_goes_151 : decode cX10_goes 151 = .ok (.istore_n 3, 1) := by decide +kernel
theorem d_X10_goes_152 : decode cX10_goes 152 = .ok (.goto (-150), 3) := by decide +kernel
theorem d_X10_goes_155 : decode cX10_goes 155 = .ok (.return_, 1) := by decide +kernel
noncomputable def F_X10_goes_143 (r_X10_goes : zMem → Int32 → Int32 → Option (zMem)) (p0 : Int32) (p1 : Int32) (self2 : Int32 → Int32 → zMem → Option (zMem)) (b143_L2 : Int32) (b143_L3 : Int32) (M : zMem) : Option (zMem) :=
  gin b143_L3 80 <|
  zl (M.1 (370 + (1 + 1 * b143_L3.toNatClampNeg)) 3) fun v2 =>
  self2 b143_L2 v2 M
noncomputable def F_X10_goes_139 (r_X10_goes : zMem → Int32 → Int32 → Option (zMem)) (p0 : Int32) (p1 : Int32) (self2 : Int32 → Int32 → zMem → Option (zMem)) (b139_L2 : Int32) (b139_L3 : Int32) (b139_S1 : Int32) (b139_S2 : Int32) (M : zMem) : Option (zMem) :=
  zl (zI M 0 32 (b139_S1 + b139_S2)) fun M3 =>
  F_X10_goes_143 r_X10_goes p0 p1 self2 b139_L2 b139_L3 M3
noncomputable def F_X10_goes_120 (r_X10_goes : zMem → Int32 → Int32 → Option (zMem)) (p0 : Int32) (p1 : Int32) (self2 : Int32 → Int32 → zMem → Option (zMem)) (b120_L2 : Int32) (b120_L3 : Int32) (b120_L4 : Int32) (b120_S1 : Int32) (b120_S2 : Int32) (M : zMem) : Option (zMem) :=
  zl (zI M 0 36 (b120_S1 + b120_S2)) fun M4 =>
  if b120_L4 = 0 then
    F_X10_goes_139 r_X10_goes p0 p1 self2 b120_L2 b120_L3 (M4.1 0 32) (1 : Int32) M4
  else
    F_X10_goes_139 r_X10_goes p0 p1 self2 b120_L2 b120_L3 (M4.1 0 32) (0 : Int32) M4
noncomputable def F_X10_goes_42 (r_X10_goes : zMem → Int32 → Int32 → Option (zMem)) (p0 : Int32) (p1 : Int32) (self2 : Int32 → Int32 → zMem → Option (zMem)) (self42 : Int32 → Int32 → Int32 → zMem → Option (zMem)) (b42_L2 : Int32) (b42_L3 : Int32) (b42_L4 : Int32) (M : zMem) : Option (zMem) :=
  gin b42_L3 80 <|
  if (M.1 (370 + (1 + 1 * b42_L3.toNatClampNeg)) 1) ≤ b42_L4 then
    F_X10_goes_143 r_X10_goes p0 p1 self2 b42_L2 b42_L3 M
  else
    if (200 : Int32) ≤ (M.1 0 35) then
      F_X10_goes_143 r_X10_goes p0 p1 self2 b42_L2 b42_L3 M
    else
      zbv (r_X10_goes M (b42_L3 + (1 : Int32)) (M.1 (370 + (1 + 1 * b42_L3.toNatClampNeg)) 3)) fun M6 =>
      self42 b42_L2 b42_L3 (b42_L4 + 1) M6
noncomputable def F_X10_goes_2 (r_X10_goes : zMem → Int32 → Int32 → Option (zMem)) (p0 : Int32) (p1 : Int32) (self2 : Int32 → Int32 → zMem → Option (zMem)) (b2_L2 : Int32) (b2_L3 : Int32) (M : zMem) : Option (zMem) :=
  if b2_L2 ≤ b2_L3 then
    some M
  else
    if (200 : Int32) ≤ (M.1 0 35) then
      some M
    else
      zl (zI M 0 35 ((M.1 0 35) + (1 : Int32))) fun M7 =>
      gin b2_L3 80 <|
      if (M7.1 (370 + (1 + 1 * b2_L3.toNatClampNeg)) 0) = (5 : Int32) then
        itF (fun _ _ _ _ => none) (F_X10_goes_42 r_X10_goes p0 p1 self2) zFuel b2_L2 b2_L3 (0 : Int32) M7
      else
        zb (F_X10_does M7 451 (370 + (1 + 1 * b2_L3.toNatClampNeg))) fun v10 M9 =>
        if v10 = 0 then
          F_X10_goes_120 r_X10_goes p0 p1 self2 b2_L2 b2_L3 v10 (M9.1 0 36) (0 : Int32) M9
        else
          F_X10_goes_120 r_X10_goes p0 p1 self2 b2_L2 b2_L3 v10 (M9.1 0 36) (1 : Int32) M9
noncomputable def F_X10_goes_r (M : zMem) (r_X10_goes : zMem → Int32 → Int32 → Option (zMem)) (p0 : Int32) (p1 : Int32) : Option (zMem) :=
  itF (fun _ _ _ => none) (F_X10_goes_2 r_X10_goes p0 p1) zFuel p1 p0 M
set_option maxHeartbeats 4000000 in
set_option maxRecDepth 100000 in
theorem co_X10_goes (l : Launch) {G : zG} {ad : Nat → Nat} {n : Nat} (hA : zInj ad n) (M : zMem) (r_X10_goes : zMem → Int32 → Int32 → Option (zMem)) (p0 : Int32) (p1 : Int32) {rr : Room} (hrr : rr.cells = 0 ∧ rr.slots = 0) (hr_X10_goes : ∀ (M : zMem) (p0 : Int32) (p1 : Int32) (M9 : zMem), zT shM n 0 11 → r_X10_goes M p0 p1 = some M9 → zM l yX10_goes cX10_goes 5 none rr G shM ad n M [.ref (ad 0), .int p0, .int p1] none M9) (hT : zT shM n 0 11) {M9 : zMem} (hF : F_X10_goes_r M r_X10_goes p0 p1 = some M9) : zM l yX10_goes cX10_goes 5 none (zRmS rr) G shM ad n M [.ref (ad 0), .int p0, .int p1] none M9 := by
  refine zM_of hA (by decide +kernel) (lv := [(0, .ref (ad 0)), (1, .int p0), (2, .int p1)]) (Nat.le_of_ble_eq_true rfl) rfl (fun p e s m args below meth c A cx hr => ?_)
  have hb143 : ∀ (self2 : Int32 → Int32 → zMem → Option (zMem)) (hs2 : ∀ (b2_L2 : Int32) (b2_L3 : Int32) (M : zMem), self2 b2_L2 b2_L3 M = some M9 → zJ p l e (zRmS rr) s m args below meth c G shM ad n A 5 (MQ below (zQ G shM ad n M9 none A) args s 0 0 A) 0 0 M 2 [(0, .ref (ad 0)), (2, .int b2_L2), (3, .int b2_L3)] []), ∀ (b143_L2 : Int32) (b143_L3 : Int32) (M : zMem), F_X10_goes_143 r_X10_goes p0 p1 self2 b143_L2 b143_L3 M = some M9 → zJ p l e (zRmS rr) s m args below meth c G shM ad n A 5 (MQ below (zQ G shM ad n M9 none A) args s 0 0 A) 0 0 M 143 [(0, .ref (ad 0)), (2, .int b143_L2), (3, .int b143_L3)] [] := by
    intro self2 hs2 b143_L2 b143_L3 M hF
    unfold F_X10_goes_143 at hF
    refine z_aload_n cx d_X10_goes_143 0 rfl ?_
    refine z_getR cx hT fg_SunnyPansModel_55 370 rfl d_X10_goes_144 ?_
    refine z_iload_n cx d_X10_goes_147 2 rfl ?_
    obtain ⟨hi1, hF⟩ := gin_inv hF
    refine z_aald cx (tfM_11_370 hT) za_34 hi1 (370 + (1 + 1 * b143_L3.toNatClampNeg)) rfl d_X10_goes_148 ?_
    refine z_iconst (v := 3) cx d_X10_goes_149 ki_3 ?_
    refine z_iald cx (teM_34 (tfM_11_370 hT) hi1) za_35 (zvp (by decide +kernel)) 3 rfl d_X10_goes_150 ?_
    refine z_nm hF (fun v2 hF => ?_)
    refine z_istore_n cx 3 [(3, .int v2), (0, .ref (ad 0)), (2, .int b143_L2)] d_X10_goes_151 rfl (by decide) rfl ?_
    refine z_goto cx 2 d_X10_goes_152 (by decide) ?_
    exact z_lv [1, 2, 0] _ rfl (hs2 b143_L2 v2 M hF)
  have hb139 : ∀ (self2 : Int32 → Int32 → zMem → Option (zMem)) (hs2 : ∀ (b2_L2 : Int32) (b2_L3 : Int32) (M : zMem), self2 b2_L2 b2_L3 M = some M9 → zJ p l e (zRmS rr) s m args below meth c G shM ad n A 5 (MQ below (zQ G shM ad n M9 none A) args s 0 0 A) 0 0 M 2 [(0, .ref (ad 0)), (2, .int b2_L2), (3, .int b2_L3)] []), ∀ (b139_L2 : Int32) (b139_L3 : Int32) (b139_S1 : Int32) (b139_S2 : Int32) (M : zMem), F_X10_goes_139 r_X10_goes p0 p1 self2 b139_L2 b139_L3 b139_S1 b139_S2 M = some M9 → zJ p l e (zRmS rr) s m args below meth c G shM ad n A 5 (MQ below (zQ G shM ad n M9 none A) args s 0 0 A) 0 0 M 139 [(0, .ref (ad 0)), (2, .int b139_L2), (3, .int b139_L3)] [.int b139_S2, .int b139_S1, .ref (ad 0)] := by
    intro self2 hs2 b139_L2 b139_L3 b139_S1 b139_S2 M hF
    unfold F_X10_goes_139 at hF
    refine z_iadd cx d_X10_goes_139 ?_
    refine z_putI cx hT fp_SunnyPansModel_181 d_X10_goes_140 ?_
    refine z_nmM hF (fun M3 hF => ?_)
    exact hb143 self2 hs2 b139_L2 b139_L3 M3 hF
  have hb120 : ∀ (self2 : Int32 → Int32 → zMem → Option (zMem)) (hs2 : ∀ (b2_L2 : Int32) (b2_L3 : Int32) (M : zMem), self2 b2_L2 b2_L3 M = some M9 → zJ p l e (zRmS rr) s m args below meth c G shM ad n A 5 (MQ below (zQ G shM ad n M9 none A) args s 0 0 A) 0 0 M 2 [(0, .ref (ad 0)), (2, .int b2_L2), (3, .int b2_L3)] []), ∀ (b120_L2 : Int32) (b120_L3 : Int32) (b120_L4 : Int32) (b120_S1 : Int32) (b120_S2 : Int32) (M : zMem), F_X10_goes_120 r_X10_goes p0 p1 self2 b120_L2 b120_L3 b120_L4 b120_S1 b120_S2 M = some M9 → zJ p l e (zRmS rr) s m args below meth c G shM ad n A 5 (MQ below (zQ G shM ad n M9 none A) args s 0 0 A) 0 0 M 120 [(0, .ref (ad 0)), (2, .int b120_L2), (3, .int b120_L3), (4, .int b120_L4)] [.int b120_S2, .int b120_S1, .ref (ad 0)] := by
    intro self2 hs2 b120_L2 b120_L3 b120_L4 b120_S1 b120_S2 M hF
    unfold F_X10_goes_120 at hF
    refine z_iadd cx d_X10_goes_120 ?_
    refine z_putI cx hT fp_SunnyPansModel_312 d_X10_goes_121 ?_
    refine z_nmM hF (fun M4 hF => ?_)
    refine z_aload_n cx d_X10_goes_124 0 rfl ?_
    refine z_dup cx d_X10_goes_125 rfl ?_
    refine z_getI cx hT fg_SunnyPansModel_181 d_X10_goes_126 ?_
    refine z_iload cx d_X10_goes_129 3 rfl ?_
    refine z_if_eq cx 138 d_X10_goes_131 (by decide) hF (fun hF => ?_) (fun hF => ?_)
    · refine z_iconst (v := 1) cx d_X10_goes_138 ki_1 ?_
      exact z_lv [0, 1, 2] _ rfl (hb139 self2 hs2 b120_L2 b120_L3 (M4.1 0 32) (1 : Int32) M4 hF)
    refine z_iconst (v := 0) cx d_X10_goes_134 ki_0 ?_
    refine z_goto cx 139 d_X10_goes_135 (by decide) ?_
    exact z_lv [0, 1, 2] _ rfl (hb139 self2 hs2 b120_L2 b120_L3 (M4.1 0 32) (0 : Int32) M4 hF)
  have hL42 : ∀ (self2 : Int32 → Int32 → zMem → Option (zMem)) (hs2 : ∀ (b2_L2 : Int32) (b2_L3 : Int32) (M : zMem), self2 b2_L2 b2_L3 M = some M9 → zJ p l e (zRmS rr) s m args below meth c G shM ad n A 5 (MQ below (zQ G shM ad n M9 none A) args s 0 0 A) 0 0 M 2 [(0, .ref (ad 0)), (2, .int b2_L2), (3, .int b2_L3)] []) (fuel : Nat), ∀ (b42_L2 : Int32) (b42_L3 : Int32) (b42_L4 : Int32) (M : zMem), itF (fun _ _ _ _ => none) (F_X10_goes_42 r_X10_goes p0 p1 self2) fuel b42_L2 b42_L3 b42_L4 M = some M9 → zJ p l e (zRmS rr) s m args below meth c G shM ad n A 5 (MQ below (zQ G shM ad n M9 none A) args s 0 0 A) 0 0 M 42 [(0, .ref (ad 0)), (2, .int b42_L2), (3, .int b42_L3), (4, .int b42_L4)] [] := by
    intro self2 hs2 fuel
    induction fuel with
    | zero => intro b42_L2 b42_L3 b42_L4 M hF; cases hF
    | succ fuel hs42 =>
      intro b42_L2 b42_L3 b42_L4 M hF
      have hF : F_X10_goes_42 r_X10_goes p0 p1 self2 (itF (fun _ _ _ _ => none) (F_X10_goes_42 r_X10_goes p0 p1 self2) fuel) b42_L2 b42_L3 b42_L4 M = some M9 := hF
      generalize itF (fun _ _ _ _ => none) (F_X10_goes_42 r_X10_goes p0 p1 self2) fuel = self42 at hs42 hF
      unfold F_X10_goes_42 at hF
      refine z_iload cx d_X10_goes_42 3 rfl ?_
      refine z_aload_n cx d_X10_goes_44 0 rfl ?_
      refine z_getR cx hT fg_SunnyPansModel_55 370 rfl d_X10_goes_45 ?_
      refine z_iload_n cx d_X10_goes_48 2 rfl ?_
      obtain ⟨hi5, hF⟩ := gin_inv hF
      refine z_aald cx (tfM_11_370 hT) za_34 hi5 (370 + (1 + 1 * b42_L3.toNatClampNeg)) rfl d_X10_goes_49 ?_
      refine z_iconst (v := 1) cx d_X10_goes_50 ki_1 ?_
      refine z_iald cx (teM_34 (tfM_11_370 hT) hi5) za_35 (zvp (by decide +kernel)) 1 rfl d_X10_goes_51 ?_
      refine z_icmp_ge cx 86 d_X10_goes_52 (by decide) hF (fun hF => ?_) (fun hF => ?_)
      · refine z_goto cx 143 d_X10_goes_86 (by decide) ?_
        exact z_lv [0, 1, 2] _ rfl (hb143 self2 hs2 b42_L2 b42_L3 M hF)
      refine z_aload_n cx d_X10_goes_55 0 rfl ?_
      refine z_getI cx hT fg_SunnyPansModel_302 d_X10_goes_56 ?_
      refine z_sipush (v := 200) cx d_X10_goes_59 ks_200 ?_
      refine z_icmp_ge cx 86 d_X10_goes_62 (by decide) hF (fun hF => ?_) (fun hF => ?_)
      · refine z_goto cx 143 d_X10_goes_86 (by decide) ?_
        exact z_lv [0, 1, 2] _ rfl (hb143 self2 hs2 b42_L2 b42_L3 M hF)
      refine z_aload_n cx d_X10_goes_65 0 rfl ?_
      refine z_iload_n cx d_X10_goes_66 2 rfl ?_
      refine z_iconst (v := 1) cx d_X10_goes_67 ki_1 ?_
      refine z_iadd cx d_X10_goes_68 ?_
      refine z_aload_n cx d_X10_goes_69 0 rfl ?_
      refine z_getR cx hT fg_SunnyPansModel_55 370 rfl d_X10_goes_70 ?_
      refine z_iload_n cx d_X10_goes_73 2 rfl ?_
      refine z_aald cx (tfM_11_370 hT) za_34 hi5 (370 + (1 + 1 * b42_L3.toNatClampNeg)) rfl d_X10_goes_74 ?_
      refine z_iconst (v := 3) cx d_X10_goes_75 ki_3 ?_
      refine z_iald cx (teM_34 (tfM_11_370 hT) hi5) za_35 (zvp (by decide +kernel)) 3 rfl d_X10_goes_76 ?_
      obtain ⟨M6, hc, hF⟩ := zbv_inv hF
      refine z_callV cx (As := [.int (b42_L3 + (1 : Int32)), .int (M.1 (370 + (1 + 1 * b42_L3.toNatClampNeg)) 3)]) (rest := []) (hr_X10_goes M (b42_L3 + (1 : Int32)) (M.1 (370 + (1 + 1 * b42_L3.toNatClampNeg)) 3) _ hT hc) hT zo_11 cv_SunnyPansModel_305 (zRmS_r hrr (by decide)) rfl rfl ⟨Nat.zero_le _, Nat.zero_le _⟩ (Nat.le_of_ble_eq_true rfl) d_X10_goes_77 ?_
      refine z_iinc cx 4 1 [(4, .int (b42_L4 + 1)), (0, .ref (ad 0)), (2, .int b42_L2), (3, .int b42_L3)] d_X10_goes_80 3 rfl ki_1 (by decide) rfl ?_
      refine z_goto cx 42 d_X10_goes_83 (by decide) ?_
      exact z_lv [1, 2, 3, 0] _ rfl (hs42 b42_L2 b42_L3 (b42_L4 + 1) M6 hF)
  have hL2 : ∀ (fuel : Nat), ∀ (b2_L2 : Int32) (b2_L3 : Int32) (M : zMem), itF (fun _ _ _ => none) (F_X10_goes_2 r_X10_goes p0 p1) fuel b2_L2 b2_L3 M = some M9 → zJ p l e (zRmS rr) s m args below meth c G shM ad n A 5 (MQ below (zQ G shM ad n M9 none A) args s 0 0 A) 0 0 M 2 [(0, .ref (ad 0)), (2, .int b2_L2), (3, .int b2_L3)] [] := by
    intro fuel
    induction fuel with
    | zero => intro b2_L2 b2_L3 M hF; cases hF
    | succ fuel hs2 =>
      intro b2_L2 b2_L3 M hF
      have hF : F_X10_goes_2 r_X10_goes p0 p1 (itF (fun _ _ _ => none) (F_X10_goes_2 r_X10_goes p0 p1) fuel) b2_L2 b2_L3 M = some M9 := hF
      generalize itF (fun _ _ _ => none) (F_X10_goes_2 r_X10_goes p0 p1) fuel = self2 at hs2 hF
      unfold F_X10_goes_2 at hF
      refine z_iload_n cx d_X10_goes_2 2 rfl ?_
      refine z_iload_n cx d_X10_goes_3 1 rfl ?_
      refine z_icmp_ge cx 155 d_X10_goes_4 (by decide) hF (fun hF => ?_) (fun hF => ?_)
      · exact z_vret cx hr hF d_X10_goes_155
      refine z_aload_n cx d_X10_goes_7 0 rfl ?_
      refine z_getI cx hT fg_SunnyPansModel_302 d_X10_goes_8 ?_
      refine z_sipush (v := 200) cx d_X10_goes_11 ks_200 ?_
      refine z_icmp_ge cx 155 d_X10_goes_14 (by decide) hF (fun hF => ?_) (fun hF => ?_)
      · exact z_vret cx hr hF d_X10_goes_155
      refine z_aload_n cx d_X10_goes_17 0 rfl ?_
      refine z_dup cx d_X10_goes_18 rfl ?_
      refine z_getI cx hT fg_SunnyPansModel_302 d_X10_goes_19 ?_
      refine z_iconst (v := 1) cx d_X10_goes_22 ki_1 ?_
      refine z_iadd cx d_X10_goes_23 ?_
      refine z_putI cx hT fp_SunnyPansModel_302 d_X10_goes_24 ?_
      refine z_nmM hF (fun M7 hF => ?_)
      refine z_aload_n cx d_X10_goes_27 0 rfl ?_
      refine z_getR cx hT fg_SunnyPansModel_55 370 rfl d_X10_goes_28 ?_
      refine z_iload_n cx d_X10_goes_31 2 rfl ?_
      obtain ⟨hi8, hF⟩ := gin_inv hF
      refine z_aald cx (tfM_11_370 hT) za_34 hi8 (370 + (1 + 1 * b2_L3.toNatClampNeg)) rfl d_X10_goes_32 ?_
      refine z_iconst (v := 0) cx d_X10_goes_33 ki_0 ?_
      refine z_iald cx (teM_34 (tfM_11_370 hT) hi8) za_35 (zvp (by decide +kernel)) 0 rfl d_X10_goes_34 ?_
      refine z_iconst (v := 5) cx d_X10_goes_35 ki_5 ?_
      refine z_icmp_ne cx 89 d_X10_goes_36 (by decide) hF (fun hF => ?_) (fun hF => ?_)
      · refine z_aload_n cx d_X10_goes_89 0 rfl ?_
        refine z_aload_n cx d_X10_goes_90 0 rfl ?_
        refine z_getR cx hT fg_SunnyPansModel_58 451 rfl d_X10_goes_91 ?_
        refine z_aload_n cx d_X10_goes_94 0 rfl ?_
        refine z_getR cx hT fg_SunnyPansModel_55 370 rfl d_X10_goes_95 ?_
        refine z_iload_n cx d_X10_goes_98 2 rfl ?_
        refine z_aald cx (tfM_11_370 hT) za_34 hi8 (370 + (1 + 1 * b2_L3.toNatClampNeg)) rfl d_X10_goes_99 ?_
        obtain ⟨v10, M9, hc, hF⟩ := zb_inv hF
        refine z_callV cx (As := [.ref (ad 451), .ref (ad (370 + (1 + 1 * b2_L3.toNatClampNeg)))]) (rest := []) (c_X10_does l cx.2.2.2.1.1 M7 451 (370 + (1 + 1 * b2_L3.toNatClampNeg)) hT (tfM_11_451 hT) (teM_34 (tfM_11_370 hT) hi8) hc) hT zo_11 cv_SunnyPansModel_308 (zRmS_c rfl rfl (Nat.le_of_ble_eq_true rfl) (Nat.le_of_ble_eq_true rfl)) rfl rfl ⟨Nat.zero_le _, Nat.zero_le _⟩ (Nat.le_of_ble_eq_true rfl) d_X10_goes_100 ?_
        refine z_istore cx 4 [(4, .int v10), (0, .ref (ad 0)), (2, .int b2_L2), (3, .int b2_L3)] d_X10_goes_103 (by decide) rfl ?_
        refine z_aload_n cx d_X10_goes_105 1 rfl ?_
        refine z_dup cx d_X10_goes_106 rfl ?_
        refine z_getI cx hT fg_SunnyPansModel_312 d_X10_goes_107 ?_
        refine z_iload cx d_X10_goes_110 0 rfl ?_
        refine z_if_eq cx 119 d_X10_goes_112 (by decide) hF (fun hF => ?_) (fun hF => ?_)
        · refine z_iconst (v := 0) cx d_X10_goes_119 ki_0 ?_
          exact z_lv [1, 2, 3, 0] _ rfl (hb120 self2 hs2 b2_L2 b2_L3 v10 (M9.1 0 36) (0 : Int32) M9 hF)
        refine z_iconst (v := 1) cx d_X10_goes_115 ki_1 ?_
        refine z_goto cx 120 d_X10_goes_116 (by decide) ?_
        exact z_lv [1, 2, 3, 0] _ rfl (hb120 self2 hs2 b2_L2 b2_L3 v10 (M9.1 0 36) (1 : Int32) M9 hF)
      refine z_iconst (v := 0) cx d_X10_goes_39 ki_0 ?_
      refine z_istore cx 4 [(4, .int (0 : Int32)), (0, .ref (ad 0)), (2, .int b2_L2), (3, .int b2_L3)] d_X10_goes_40 (by decide) rfl ?_
      exact z_lv [1, 2, 3, 0] _ rfl (hL42 self2 hs2 zFuel b2_L2 b2_L3 (0 : Int32) M7 hF)
  unfold F_X10_goes_r at hF
  refine z_iload_n cx d_X10_goes_0 1 rfl ?_
  refine z_istore_n cx 3 [(3, .int p0), (0, .ref (ad 0)), (1, .int p0), (2, .int p1)] d_X10_goes_1 rfl (by decide) rfl ?_
  exact z_lv [1, 3, 0] _ rfl (hL2 zFuel p1 p0 M hF)
noncomputable def FG_X10_goes : Nat → (zMem → Int32 → Int32 → Option (zMem)) := itF ((fun _ _ _ => none)) (fun r => ((fun M p0 p1 => F_X10_goes_r M (r) p0 p1)))
theorem FGs_X10_goes (d : Nat) : FG_X10_goes (d + 1) = ((fun M p0 p1 => F_X10_goes_r M ((FG_X10_goes d)) p0 p1)) := rfl
noncomputable def F_X10_goes (M : zMem) (p0 : Int32) (p1 : Int32) : Option (zMem) := (FG_X10_goes 48) M p0 p1
set_option maxHeartbeats 4000000 in
theorem cg_X10_goes (l : Launch) {G : zG} {ad : Nat → Nat} {n : Nat} (hA : zInj ad n) : ∀ d : Nat, (∀ (M : zMem) (p0 : Int32) (p1 : Int32) (M9 : zMem), zT shM n 0 11 → (FG_X10_goes d) M p0 p1 = some M9 → zM l yX10_goes cX10_goes 5 none (zRmG d) G shM ad n M [.ref (ad 0), .int p0, .int p1] none M9) := by
  intro d
  induction d with
  | zero => exact (fun M p0 p1 M9 hT hF => by cases hF)
  | succ d ih =>
    exact fun M p0 p1 M9 hT hF => co_X10_goes l hA M _ p0 p1 (zRmG_0 d) (ih) hT (by rw [FGs_X10_goes] at hF; exact hF)
def rm_X10_goes : Room := zRmG 48
theorem c_X10_goes (l : Launch) {G : zG} {ad : Nat → Nat} {n : Nat} (hA : zInj ad n) (M : zMem) (p0 : Int32) (p1 : Int32) (hT : zT shM n 0 11) {M9 : zMem} (hF : F_X10_goes M p0 p1 = some M9) : zM l yX10_goes cX10_goes 5 none rm_X10_goes G shM ad n M [.ref (ad 0), .int p0, .int p1] none M9 := (cg_X10_goes l hA 48) M p0 p1 M9 hT hF
/-! SunnyPansModel.work -/
theorem tfM_11_453 {n k : Nat} (h : zT shM n k 11) : zT shM n (k + 453) 37 := zT_off h (shM_f (by decide) (by decide +kernel)) (by decide) (by decide)
set_option maxRecDepth 100000 in
theorem wd_1423 : Cond.fieldLink "SunnyPansModel" 64 "SunnyPansModel" "before" "[[I" ∈ tbG := tw6 123 rfl rfl
theorem fg_SunnyPansModel_64 : zGetR "SunnyPansModel" 64 10 11 28 453 := ⟨RX10, TX10, 40, rfl, by decide, uw_10, wd_1423, fun _ _ _ _ _ _ => ⟨_, rfl, rfl⟩⟩
theorem za_37 : zArrR 37 16 4 1 1 := ⟨by decide, fun _ _ _ _ _ _ => rfl⟩
theorem teM_37 {n k : Nat} {i : Int32} (h : zT shM n k 37) (hi : vp_in i 16) : zT shM n (k + (1 + 1 * i.toNatClampNeg)) 36 := by
  have hlt : i.toNatClampNeg < 16 := Nat.not_le.mp fun q => hi (Or.inr q)
  have h2 : k + 17 ≤ n := h.2.2
  exact ⟨shM_e (by decide) (by decide +kernel) k h.1 _ hlt, by omega, by show _ + 1 ≤ n; omega⟩
set_option maxRecDepth 100000 in
theorem wd_1655 : Cond.code yX10_copies cX10_copies 3 none ∈ tbG := tw7 115 rfl rfl
set_option maxRecDepth 100000 in
theorem wd_1653 : Cond.methodLink "SunnyPansModel" 315 yX10_copies ∈ tbG := tw7 113 rfl rfl
set_option maxRecDepth 100000 in
theorem wd_1654 : Cond.static yX10_copies ∈ tbG := tw7 114 rfl rfl
theorem cs_SunnyPansModel_315 : zCS "SunnyPansModel" 315 yX10_copies cX10_copies 3 none 2 := zCS_of wd_1653 wd_1654 wd_111 wd_1655 (by decide +kernel)
theorem d_X10_work_0 : decode cX10_work 0 = .ok (.aload_n 0, 1) := by decide +kernel
theorem d_X10_work_1 : decode cX10_work 1 = .ok (.iconst 0, 1) := by decide +kernel
theorem d_X10_work_2 : decode cX10_work 2 = .ok (.putfield 82, 3) := by decide +kernel
theorem d_X10_work_5 : decode cX10_work 5 = .ok (.aload_n 0, 1) := by decide +kernel
theorem d_X10_work_6 : decode cX10_work 6 = .ok (.iload_n 1, 1) := by decide +kernel
theorem d_X10_work_7 : decode cX10_work 7 = .ok (.iconst 0, 1) := by decide +kernel
theorem d_X10_work_8 : decode cX10_work 8 = .ok (.aload_n 0, 1) := by decide +kernel
theorem d_X10_work_9 : decode cX10_work 9 = .ok (.getfield 85, 3) := by decide +kernel
theorem d_X10_work_12 : decode cX10_work 12 = .ok (.invokestatic 116, 3) := by decide +kernel
theorem d_X10_work_15 : decode cX10_work 15 = .ok (.ifCond .eq 10, 3) := by decide +kernel
theorem d_X10_work_18 : decode cX10_work 18 = .ok (.iload_n 1, 1) := by decide +kernel
theorem d_X10_work_19 : decode cX10_work 19 = .ok (.sipush 150, 3) := by decide +kernel
theorem d_X10_work_22 : decode cX10_work 22 = .ok (.if_icmp .le 7, 3) := by decide +kernel
theorem d_X10_work_25 : decode cX10_work 25 = .ok (.iconst 1, 1) := by decide +kernel
theorem d_X10_work_26 : decode cX10_work 26 = .ok (.goto 4, 3) := by decide +kernel
theorem d_X10_work_29 : decode cX10_work 29 = .ok (.iconst 0, 1) := by decide +kernel
theorem d_X10_work_30 : decode cX10_work 30 = .ok (.iconst 1, 1) := by decide +kernel
theorem d_X10_work_31 : decode cX10_work 31 = .ok (.iconst 1, 1) := by decide +kernel
theorem d_X10_work_32 : decode cX10_work 32 = .ok (.invokevirtual 155, 3) := by decide +kernel
theorem d_X10_work_35 : decode cX10_work 35 = .ok (.ifCond .eq 5, 3) := by decide +kernel
theorem d_X10_work_38 : decode cX10_work 38 = .ok (.iconst 0, 1) := by decide +kernel
theorem d_X10_work_39 : decode cX10_work 39 = .ok (.ireturn, 1) := by decide +kernel
theorem d_X10_work_40 : decode cX10_work 40 = .ok (.aload_n 0, 1) := by decide +kernel
theorem d_X10_work_41 : decode cX10_work 41 = .ok (.getfield 178, 3) := by decide +kernel
theorem d_X10_work_44 : decode cX10_work 44 = .ok (.bipush 16, 2) := by decide +kernel
theorem d_X10_work_46 : decode cX10_work 46 = .ok (.if_icmp .ne 16, 3) := by decide +kernel
theorem d_X10_work_49 : decode cX10_work 49 = .ok (.aload_n 0, 1) := by decide +kernel
theorem d_X10_work_50 : decode cX10_work 50 = .ok (.iconst 0, 1) := by decide +kernel
theorem d_X10_work_51 : decode cX10_work 51 = .ok (.putfield 85, 3) := by decide +kernel
theorem d_X10_work_54 : decode cX10_work 54 = .ok (.aload_n 0, 1) := by decide +kernel
theorem d_X10_work_55 : decode cX10_work 55 = .ok (.iconst (-1), 1) := by decide +kernel
theorem d_X10_work_56 : decode cX10_work 56 = .ok (.putfield 9, 3) := by decide +kernel
theorem d_X10_work_59 : decode cX10_work 59 = .ok (.bipush (-20), 2) := by decide +kernel
theorem d_X10_work_61 : decode cX10_work 61 = .ok (.ireturn, 1) := by decide +kernel
theorem d_X10_work_62 : decode cX10_work 62 = .ok (.aload_n 0, 1) := by decide +kernel
theorem d_X10_work_63 : decode cX10_work 63 = .ok (.iload_n 1, 1) := by decide +kernel
theorem d_X10_work_64 : decode cX10_work 64 = .ok (.invokevirtual 159, 3) := by decide +kernel
theorem d_X10_work_67 : decode cX10_work 67 = .ok (.aload_n 0, 1) := by decide +kernel
theorem d_X10_work_68 : decode cX10_work 68 = .ok (.iconst 0, 1) := by decide +kernel
theorem d_X10_work_69 : decode cX10_work 69 = .ok (.putfield 228, 3) := by decide +kernel
theorem d_X10_work_72 : decode cX10_work 72 = .ok (.aload_n 0, 1) := by decide +kernel
theorem d_X10_work_73 : decode cX10_work 73 = .ok (.getfield 98, 3) := by decide +kernel
theorem d_X10_work_76 : decode cX10_work 76 = .ok (.ifCond .ne 25, 3) := by decide +kernel
theorem d_X10_work_79 : decode cX10_work 79 = .ok (.aload_n 0, 1) := by decide +kernel
theorem d_X10_work_80 : decode cX10_work 80 = .ok (.getfield 91, 3) := by decide +kernel
theorem d_X10_work_83 : decode cX10_work 83 = .ok (.aload_n 0, 1) := by decide +kernel
theorem d_X10_work_84 : decode cX10_work 84 = .ok (.getfield 88, 3) := by decide +kernel
theorem d_X10_work_87 : decode cX10_work 87 = .ok (.if_icmp .ge 14, 3) := by decide +kernel
theorem d_X10_work_90 : decode cX10_work 90 = .ok (.aload_n 0, 1) := by decide +kernel
theorem d_X10_work_91 : decode cX10_work 91 = .ok (.invokevirtual 234, 3) := by decide +kernel
theorem d_X10_work_94 : decode cX10_work 94 = .ok (.aload_n 0, 1) := by decide +kernel
theorem d_X10_work_95 : decode cX10_work 95 = .ok (.invokevirtual 104, 3) := by decide +kernel
theorem d_X10_work_98 : decode cX10_work 98 = .ok (.goto (-26), 3) := by decide +kernel
theorem d_X10_work_101 : decode cX10_work 101 = .ok (.aload_n 0, 1) := by decide +kernel
theorem d_X10_work_102 : decode cX10_work 102 = .ok (.getfield 98, 3) := by decide +kernel
theorem d_X10_work_105 : decode cX10_work 105 = .ok (.ifCond .eq 8, 3) := by decide +kernel
theorem d_X10_work_108 : decode cX10_work 108 = .ok (.aload_n 0, 1) := by decide +kernel
theorem d_X10_work_109 : decode cX10_work 109 = .ok (.invokevirtual 165, 3) := by decide +kernel
theorem d_X10_work_112 : decode cX10_work 112 = .ok (.ireturn, 1) := by decide +kernel
theorem d_X10_work_113 : decode cX10_work 113 = .ok (.aload_n 0, 1) := by decide +kernel
theorem d_X10_work_114 : decode cX10_work 114 = .ok (.iconst (-1), 1) := by decide +kernel
theorem d_X10_work_115 : decode cX10_work 115 = .ok (.putfield 9, 3) := by decide +kernel
theorem d_X10_work_118 : decode cX10_work 118 = .ok (.aload_n 0, 1) := by decide +kernel
theorem d_X10_work_119 : decode cX10_work 119 = .ok (.getfield 58, 3) := by decide +kernel
theorem d_X10_work_122 : decode cX10_work 122 = .ok (.aload_n 0, 1) := by decide +kernel
theorem d_X10_work_123 : decode cX10_work 123 = .ok (.getfield 64, 3) := by decide +kernel
theorem d_X10_work_126 : decode cX10_work 126 = .ok (.aload_n 0, 1) := by decide +kernel
theorem d_X10_work_127 : decode cX10_work 127 = .ok (.getfield 178, 3) := by decide +kernel
theorem d_X10_work_130 : decode cX10_work 130 = .ok (.aaload, 1) := by decide +kernel
theorem d_X10_work_131 : decode cX10_work 131 = .ok (.invokestatic 315, 3) := by decide +kernel
theorem d_X10_work_134 : decode cX10_work 134 = .ok (.aload_n 0, 1) := by decide +kernel
theorem d_X10_work_135 : decode cX10_work 135 = .ok (.dup, 1) := by decide +kernel
theorem d_X10_work_136 : decode cX10_work 136 = .ok (.getfield 178, 3) := by decide +kernel
theorem d_X10_work_139 : decode cX10_work 139 = .ok (.iconst 1, 1) := by decide +kernel
theorem d_X10_work_140 : decode cX10_work 140 = .ok (.iadd, 1) := by decide +kernel
theorem d_X10_work_141 : decode cX10_work 141 = .ok (.putfield 178, 3) := by decide +kernel
theorem d_X10_work_144 : decode cX10_work 144 = .ok (.aload_n 0, 1) := by decide +kernel
theorem d_X10_work_145 : decode cX10_work 145 = .ok (.iconst 0, 1) := by decide +kernel
theorem d_X10_work_146 : decode cX10_work 146 = .ok (.putfield 302, 3) := by decide +kernel
theorem d_X10_work_149 : decode cX10_work 149 = .ok (.aload_n 0, 1) := by decide +kernel
theorem d_X10_work_150 : decode cX10_work 150 = .ok (.iconst 0, 1) := by decide +kernel
theorem d_X10_work_151 : decode cX10_work 151 = .ok (.putfield 312, 3) := by decide +kernel
theorem d_X10_work_154 : decode cX10_work 154 = .ok (.aload_n 0, 1) := by decide +kernel
theorem d_X10_work_155 : decode cX10_work 155 = .ok (.iconst 0, 1) := by decide +kernel
theorem d_X10_work_156 : decode cX10_work 156 = .ok (.putfield 181, 3) := by decide +kernel
theorem d_X10_work_159 : decode cX10_work 159 = .ok (.aload_n 0, 1) := by decide +kernel
theorem d_X10_work_160 : decode cX10_work 160 = .ok (.iconst 0, 1) := by decide +kernel
theorem d_X10_work_161 : decode cX10_work 161 = .ok (.aload_n 0, 1) := by decide +kernel
theorem d_X10_work_162 : decode cX10_work 162 = .ok (.getfield 228, 3) := by decide +kernel
theorem d_X10_work_165 : decode cX10_work 165 = .ok (.invokevirtual 305, 3) := by decide +kernel
theorem d_X10_work_168 : decode cX10_work 168 = .ok (.aload_n 0, 1) := by decide +kernel
theorem d_X10_work_169 : decode cX10_work 169 = .ok (.getfield 312, 3) := by decide +kernel
theorem d_X10_work_172 : decode cX10_work 172 = .ok (.ireturn, 1) := by decide +kernel
noncomputable def F_X10_work_101 (p0 : Int32) (M : zMem) : Option (Int32 × zMem) :=
  if (M.1 0 5) = 0 then
    zl (zI M 0 3 (-1 : Int32)) fun M1 =>
    gin (M1.1 0 31) 16 <|
    zbv (F_X10_copies M1 451 (453 + (1 + 1 * (M1.1 0 31).toNatClampNeg))) fun M3 =>
    zl (zI M3 0 31 ((M3.1 0 31) + (1 : Int32))) fun M4 =>
    zl (zI M4 0 35 (0 : Int32)) fun M5 =>
    zl (zI M5 0 36 (0 : Int32)) fun M6 =>
    zl (zI M6 0 32 (0 : Int32)) fun M7 =>
    zbv (F_X10_goes M7 (0 : Int32) (M7.1 0 25)) fun M8 =>
    some ((M8.1 0 36), M8)
  else
    zb (F_X10_ends M) fun v10 M9 =>
    some (v10, M9)
noncomputable def F_X10_work_72 (p0 : Int32) (self72 : zMem → Option (Int32 × zMem)) (M : zMem) : Option (Int32 × zMem) :=
  if (M.1 0 5) = 0 then
    if (M.1 0 2) ≤ (M.1 0 4) then
      F_X10_work_101 p0 M
    else
      zbv (F_X10_readsStep M) fun M11 =>
      zbv (F_X10_blanks M11) fun M12 =>
      self72  M12
  else
    F_X10_work_101 p0 M
noncomputable def F_X10_work_30 (p0 : Int32) (b30_L1 : Int32) (b30_S1 : Int32) (M : zMem) : Option (Int32 × zMem) :=
  zb (F_X10_bad M b30_S1 (1 : Int32) (1 : Int32)) fun v14 M13 =>
  if v14 = 0 then
    if (M13.1 0 31) = (16 : Int32) then
      zl (zI M13 0 1 (0 : Int32)) fun M17 =>
      zl (zI M17 0 3 (-1 : Int32)) fun M18 =>
      some ((-20 : Int32), M18)
    else
      zbv (F_X10_starts M13 b30_L1) fun M15 =>
      zl (zI M15 0 25 (0 : Int32)) fun M16 =>
      itF (fun _ => none) (F_X10_work_72 p0) zFuel  M16
  else
    some ((0 : Int32), M13)
noncomputable def F_X10_work (M : zMem) (p0 : Int32) : Option (Int32 × zMem) :=
  zl (zI M 0 0 (0 : Int32)) fun M19 =>
  zb (F_X10_in M19 p0 (0 : Int32) (M19.1 0 1)) fun v21 M20 =>
  if v21 = 0 then
    F_X10_work_30 p0 p0 (1 : Int32) M20
  else
    if p0 ≤ (150 : Int32) then
      F_X10_work_30 p0 p0 (0 : Int32) M20
    else
      F_X10_work_30 p0 p0 (1 : Int32) M20
def rm_X10_work : Room := { frames := 961, cells := 0, slots := 0, locals := 24024 }
set_option maxHeartbeats 4000000 in
set_option maxRecDepth 100000 in
theorem c_X10_work (l : Launch) {G : zG} {ad : Nat → Nat} {n : Nat} (hA : zInj ad n) (M : zMem) (p0 : Int32) (hT : zT shM n 0 11) {r9 : Int32} {M9 : zMem} (hF : F_X10_work M p0 = some (r9, M9)) : zM l yX10_work cX10_work 2 (some .int) rm_X10_work G shM ad n M [.ref (ad 0), .int p0] (some (.int r9)) M9 := by
  refine zM_of hA (by decide +kernel) (lv := [(0, .ref (ad 0)), (1, .int p0)]) (Nat.le_of_ble_eq_true rfl) rfl (fun p e s m args below meth c A cx hr => ?_)
  have hb101 : ∀ (M : zMem), F_X10_work_101 p0 M = some (r9, M9) → zJ p l e rm_X10_work s m args below meth c G shM ad n A 2 (MQ below (zQ G shM ad n M9 (some (.int r9)) A) args s 0 0 A) 0 0 M 101 [(0, .ref (ad 0))] [] := by
    intro M hF
    unfold F_X10_work_101 at hF
    refine z_aload_n cx d_X10_work_101 0 rfl ?_
    refine z_getI cx hT fg_SunnyPansModel_98 d_X10_work_102 ?_
    refine z_if_eq cx 113 d_X10_work_105 (by decide) hF (fun hF => ?_) (fun hF => ?_)
    · refine z_aload_n cx d_X10_work_113 0 rfl ?_
      refine z_iconst (v := -1) cx d_X10_work_114 ki_m1 ?_
      refine z_putI cx hT fp_SunnyPansModel_9 d_X10_work_115 ?_
      refine z_nmM hF (fun M1 hF => ?_)
      refine z_aload_n cx d_X10_work_118 0 rfl ?_
      refine z_getR cx hT fg_SunnyPansModel_58 451 rfl d_X10_work_119 ?_
      refine z_aload_n cx d_X10_work_122 0 rfl ?_
      refine z_getR cx hT fg_SunnyPansModel_64 453 rfl d_X10_work_123 ?_
      refine z_aload_n cx d_X10_work_126 0 rfl ?_
      refine z_getI cx hT fg_SunnyPansModel_178 d_X10_work_127 ?_
      obtain ⟨hi2, hF⟩ := gin_inv hF
      refine z_aald cx (tfM_11_453 hT) za_37 hi2 (453 + (1 + 1 * (M1.1 0 31).toNatClampNeg)) rfl d_X10_work_130 ?_
      obtain ⟨M3, hc, hF⟩ := zbv_inv hF
      refine z_callS cx (As := [.ref (ad 451), .ref (ad (453 + (1 + 1 * (M1.1 0 31).toNatClampNeg)))]) (rest := []) (c_X10_copies l cx.2.2.2.1.1 M1 451 (453 + (1 + 1 * (M1.1 0 31).toNatClampNeg)) (tfM_11_451 hT) (teM_37 (tfM_11_453 hT) hi2) hc) cs_SunnyPansModel_315 ⟨rfl, rfl, Nat.le_of_ble_eq_true rfl, Nat.le_of_ble_eq_true rfl⟩ rfl rfl ⟨Nat.zero_le _, Nat.zero_le _⟩ (Nat.le_of_ble_eq_true rfl) d_X10_work_131 ?_
      refine z_aload_n cx d_X10_work_134 0 rfl ?_
      refine z_dup cx d_X10_work_135 rfl ?_
      refine z_getI cx hT fg_SunnyPansModel_178 d_X10_work_136 ?_
      refine z_iconst (v := 1) cx d_X10_work_139 ki_1 ?_
      refine z_iadd cx d_X10_work_140 ?_
      refine z_putI cx hT fp_SunnyPansModel_178 d_X10_work_141 ?_
      refine z_nmM hF (fun M4 hF => ?_)
      refine z_aload_n cx d_X10_work_144 0 rfl ?_
      refine z_iconst (v := 0) cx d_X10_work_145 ki_0 ?_
      refine z_putI cx hT fp_SunnyPansModel_302 d_X10_work_146 ?_
      refine z_nmM hF (fun M5 hF => ?_)
      refine z_aload_n cx d_X10_work_149 0 rfl ?_
      refine z_iconst (v := 0) cx d_X10_work_150 ki_0 ?_
      refine z_putI cx hT fp_SunnyPansModel_312 d_X10_work_151 ?_
      refine z_nmM hF (fun M6 hF => ?_)
      refine z_aload_n cx d_X10_work_154 0 rfl ?_
      refine z_iconst (v := 0) cx d_X10_work_155 ki_0 ?_
      refine z_putI cx hT fp_SunnyPansModel_181 d_X10_work_156 ?_
      refine z_nmM hF (fun M7 hF => ?_)
      refine z_aload_n cx d_X10_work_159 0 rfl ?_
      refine z_iconst (v := 0) cx d_X10_work_160 ki_0 ?_
      refine z_aload_n cx d_X10_work_161 0 rfl ?_
      refine z_getI cx hT fg_SunnyPansModel_228 d_X10_work_162 ?_
      obtain ⟨M8, hc, hF⟩ := zbv_inv hF
      refine z_callV cx (As := [.int (0 : Int32), .int (M7.1 0 25)]) (rest := []) (c_X10_goes l cx.2.2.2.1.1 M7 (0 : Int32) (M7.1 0 25) hT hc) hT zo_11 cv_SunnyPansModel_305 ⟨rfl, rfl, Nat.le_of_ble_eq_true rfl, Nat.le_of_ble_eq_true rfl⟩ rfl rfl ⟨Nat.zero_le _, Nat.zero_le _⟩ (Nat.le_of_ble_eq_true rfl) d_X10_work_165 ?_
      refine z_aload_n cx d_X10_work_168 0 rfl ?_
      refine z_getI cx hT fg_SunnyPansModel_312 d_X10_work_169 ?_
      exact z_iret cx hr rfl hF d_X10_work_172
    refine z_aload_n cx d_X10_work_108 0 rfl ?_
    obtain ⟨v10, M9, hc, hF⟩ := zb_inv hF
    refine z_callV cx (As := []) (rest := []) (c_X10_ends l cx.2.2.2.1.1 M hT hc) hT zo_11 cv_SunnyPansModel_165 ⟨rfl, rfl, Nat.le_of_ble_eq_true rfl, Nat.le_of_ble_eq_true rfl⟩ rfl rfl ⟨Nat.zero_le _, Nat.zero_le _⟩ (Nat.le_of_ble_eq_true rfl) d_X10_work_109 ?_
    exact z_iret cx hr rfl hF d_X10_work_112
  have hL72 : ∀ (fuel : Nat), ∀ (M : zMem), itF (fun _ => none) (F_X10_work_72 p0) fuel M = some (r9, M9) → zJ p l e rm_X10_work s m args below meth c G shM ad n A 2 (MQ below (zQ G shM ad n M9 (some (.int r9)) A) args s 0 0 A) 0 0 M 72 [(0, .ref (ad 0))] [] := by
    intro fuel
    induction fuel with
    | zero => intro M hF; cases hF
    | succ fuel hs72 =>
      intro M hF
      have hF : F_X10_work_72 p0 (itF (fun _ => none) (F_X10_work_72 p0) fuel) M = some (r9, M9) := hF
      generalize itF (fun _ => none) (F_X10_work_72 p0) fuel = self72 at hs72 hF
      unfold F_X10_work_72 at hF
      refine z_aload_n cx d_X10_work_72 0 rfl ?_
      refine z_getI cx hT fg_SunnyPansModel_98 d_X10_work_73 ?_
      refine z_if_ne cx 101 d_X10_work_76 (by decide) hF (fun hF => ?_) (fun hF => ?_)
      · exact hb101 M hF
      refine z_aload_n cx d_X10_work_79 0 rfl ?_
      refine z_getI cx hT fg_SunnyPansModel_91 d_X10_work_80 ?_
      refine z_aload_n cx d_X10_work_83 0 rfl ?_
      refine z_getI cx hT fg_SunnyPansModel_88 d_X10_work_84 ?_
      refine z_icmp_ge cx 101 d_X10_work_87 (by decide) hF (fun hF => ?_) (fun hF => ?_)
      · exact hb101 M hF
      refine z_aload_n cx d_X10_work_90 0 rfl ?_
      obtain ⟨M11, hc, hF⟩ := zbv_inv hF
      refine z_callV cx (As := []) (rest := []) (c_X10_readsStep l cx.2.2.2.1.1 M hT hc) hT zo_11 cv_SunnyPansModel_234 ⟨rfl, rfl, Nat.le_of_ble_eq_true rfl, Nat.le_of_ble_eq_true rfl⟩ rfl rfl ⟨Nat.zero_le _, Nat.zero_le _⟩ (Nat.le_of_ble_eq_true rfl) d_X10_work_91 ?_
      refine z_aload_n cx d_X10_work_94 0 rfl ?_
      obtain ⟨M12, hc, hF⟩ := zbv_inv hF
      refine z_callV cx (As := []) (rest := []) (c_X10_blanks l cx.2.2.2.1.1 M11 hT hc) hT zo_11 cv_SunnyPansModel_104 ⟨rfl, rfl, Nat.le_of_ble_eq_true rfl, Nat.le_of_ble_eq_true rfl⟩ rfl rfl ⟨Nat.zero_le _, Nat.zero_le _⟩ (Nat.le_of_ble_eq_true rfl) d_X10_work_95 ?_
      refine z_goto cx 72 d_X10_work_98 (by decide) ?_
      exact hs72 M12 hF
  have hb30 : ∀ (b30_L1 : Int32) (b30_S1 : Int32) (M : zMem), F_X10_work_30 p0 b30_L1 b30_S1 M = some (r9, M9) → zJ p l e rm_X10_work s m args below meth c G shM ad n A 2 (MQ below (zQ G shM ad n M9 (some (.int r9)) A) args s 0 0 A) 0 0 M 30 [(0, .ref (ad 0)), (1, .int b30_L1)] [.int b30_S1, .ref (ad 0)] := by
    intro b30_L1 b30_S1 M hF
    unfold F_X10_work_30 at hF
    refine z_iconst (v := 1) cx d_X10_work_30 ki_1 ?_
    refine z_iconst (v := 1) cx d_X10_work_31 ki_1 ?_
    obtain ⟨v14, M13, hc, hF⟩ := zb_inv hF
    refine z_callV cx (As := [.int b30_S1, .int (1 : Int32), .int (1 : Int32)]) (rest := []) (c_X10_bad l cx.2.2.2.1.1 M b30_S1 (1 : Int32) (1 : Int32) hT hc) hT zo_11 cv_SunnyPansModel_155 ⟨rfl, rfl, Nat.le_of_ble_eq_true rfl, Nat.le_of_ble_eq_true rfl⟩ rfl rfl ⟨Nat.zero_le _, Nat.zero_le _⟩ (Nat.le_of_ble_eq_true rfl) d_X10_work_32 ?_
    refine z_if_eq cx 40 d_X10_work_35 (by decide) hF (fun hF => ?_) (fun hF => ?_)
    · refine z_aload_n cx d_X10_work_40 0 rfl ?_
      refine z_getI cx hT fg_SunnyPansModel_178 d_X10_work_41 ?_
      refine z_bipush (v := 16) cx d_X10_work_44 kb_16 ?_
      refine z_icmp_ne cx 62 d_X10_work_46 (by decide) hF (fun hF => ?_) (fun hF => ?_)
      · refine z_aload_n cx d_X10_work_62 0 rfl ?_
        refine z_iload_n cx d_X10_work_63 1 rfl ?_
        obtain ⟨M15, hc, hF⟩ := zbv_inv hF
        refine z_callV cx (As := [.int b30_L1]) (rest := []) (c_X10_starts l cx.2.2.2.1.1 M13 b30_L1 hT hc) hT zo_11 cv_SunnyPansModel_159 ⟨rfl, rfl, Nat.le_of_ble_eq_true rfl, Nat.le_of_ble_eq_true rfl⟩ rfl rfl ⟨Nat.zero_le _, Nat.zero_le _⟩ (Nat.le_of_ble_eq_true rfl) d_X10_work_64 ?_
        refine z_aload_n cx d_X10_work_67 0 rfl ?_
        refine z_iconst (v := 0) cx d_X10_work_68 ki_0 ?_
        refine z_putI cx hT fp_SunnyPansModel_228 d_X10_work_69 ?_
        refine z_nmM hF (fun M16 hF => ?_)
        exact z_lv [0] _ rfl (hL72 zFuel M16 hF)
      refine z_aload_n cx d_X10_work_49 0 rfl ?_
      refine z_iconst (v := 0) cx d_X10_work_50 ki_0 ?_
      refine z_putI cx hT fp_SunnyPansModel_85 d_X10_work_51 ?_
      refine z_nmM hF (fun M17 hF => ?_)
      refine z_aload_n cx d_X10_work_54 0 rfl ?_
      refine z_iconst (v := -1) cx d_X10_work_55 ki_m1 ?_
      refine z_putI cx hT fp_SunnyPansModel_9 d_X10_work_56 ?_
      refine z_nmM hF (fun M18 hF => ?_)
      refine z_bipush (v := -20) cx d_X10_work_59 kb_m20 ?_
      exact z_iret cx hr rfl hF d_X10_work_61
    refine z_iconst (v := 0) cx d_X10_work_38 ki_0 ?_
    exact z_iret cx hr rfl hF d_X10_work_39
  unfold F_X10_work at hF
  refine z_aload_n cx d_X10_work_0 0 rfl ?_
  refine z_iconst (v := 0) cx d_X10_work_1 ki_0 ?_
  refine z_putI cx hT fp_SunnyPansModel_82 d_X10_work_2 ?_
  refine z_nmM hF (fun M19 hF => ?_)
  refine z_aload_n cx d_X10_work_5 0 rfl ?_
  refine z_iload_n cx d_X10_work_6 1 rfl ?_
  refine z_iconst (v := 0) cx d_X10_work_7 ki_0 ?_
  refine z_aload_n cx d_X10_work_8 0 rfl ?_
  refine z_getI cx hT fg_SunnyPansModel_85 d_X10_work_9 ?_
  obtain ⟨v21, M20, hc, hF⟩ := zb_inv hF
  refine z_callS cx (As := [.int p0, .int (0 : Int32), .int (M19.1 0 1)]) (rest := [.ref (ad 0)]) (c_X10_in l cx.2.2.2.1.1 M19 p0 (0 : Int32) (M19.1 0 1)  hc) cs_SunnyPansModel_116 ⟨rfl, rfl, Nat.le_of_ble_eq_true rfl, Nat.le_of_ble_eq_true rfl⟩ rfl rfl ⟨Nat.zero_le _, Nat.zero_le _⟩ (Nat.le_of_ble_eq_true rfl) d_X10_work_12 ?_
  refine z_if_eq cx 25 d_X10_work_15 (by decide) hF (fun hF => ?_) (fun hF => ?_)
  · refine z_iconst (v := 1) cx d_X10_work_25 ki_1 ?_
    refine z_goto cx 30 d_X10_work_26 (by decide) ?_
    exact hb30 p0 (1 : Int32) M20 hF
  refine z_iload_n cx d_X10_work_18 1 rfl ?_
  refine z_sipush (v := 150) cx d_X10_work_19 ks_150 ?_
  refine z_icmp_le cx 29 d_X10_work_22 (by decide) hF (fun hF => ?_) (fun hF => ?_)
  · refine z_iconst (v := 0) cx d_X10_work_29 ki_0 ?_
    exact hb30 p0 (0 : Int32) M20 hF
  refine z_iconst (v := 1) cx d_X10_work_25 ki_1 ?_
  refine z_goto cx 30 d_X10_work_26 (by decide) ?_
  exact hb30 p0 (1 : Int32) M20 hF
/-! SunnyPansModel.undo -/
theorem d_X10_undo_0 : decode cX10_undo 0 = .ok (.aload_n 0, 1) := by decide +kernel
theorem d_X10_undo_1 : decode cX10_undo 1 = .ok (.iconst 0, 1) := by decide +kernel
theorem d_X10_undo_2 : decode cX10_undo 2 = .ok (.putfield 82, 3) := by decide +kernel
theorem d_X10_undo_5 : decode cX10_undo 5 = .ok (.aload_n 0, 1) := by decide +kernel
theorem d_X10_undo_6 : decode cX10_undo 6 = .ok (.getfield 178, 3) := by decide +kernel
theorem d_X10_undo_9 : decode cX10_undo 9 = .ok (.ifCond .ne 5, 3) := by decide +kernel
theorem d_X10_undo_12 : decode cX10_undo 12 = .ok (.iconst (-1), 1) := by decide +kernel
theorem d_X10_undo_13 : decode cX10_undo 13 = .ok (.ireturn, 1) := by decide +kernel
theorem d_X10_undo_14 : decode cX10_undo 14 = .ok (.aload_n 0, 1) := by decide +kernel
theorem d_X10_undo_15 : decode cX10_undo 15 = .ok (.dup, 1) := by decide +kernel
theorem d_X10_undo_16 : decode cX10_undo 16 = .ok (.getfield 178, 3) := by decide +kernel
theorem d_X10_undo_19 : decode cX10_undo 19 = .ok (.iconst 1, 1) := by decide +kernel
theorem d_X10_undo_20 : decode cX10_undo 20 = .ok (.isub, 1) := by decide +kernel
theorem d_X10_undo_21 : decode cX10_undo 21 = .ok (.putfield 178, 3) := by decide +kernel
theorem d_X10_undo_24 : decode cX10_undo 24 = .ok (.aload_n 0, 1) := by decide +kernel
theorem d_X10_undo_25 : decode cX10_undo 25 = .ok (.getfield 64, 3) := by decide +kernel
theorem d_X10_undo_28 : decode cX10_undo 28 = .ok (.aload_n 0, 1) := by decide +kernel
theorem d_X10_undo_29 : decode cX10_undo 29 = .ok (.getfield 178, 3) := by decide +kernel
theorem d_X10_undo_32 : decode cX10_undo 32 = .ok (.aaload, 1) := by decide +kernel
theorem d_X10_undo_33 : decode cX10_undo 33 = .ok (.aload_n 0, 1) := by decide +kernel
theorem d_X10_undo_34 : decode cX10_undo 34 = .ok (.getfield 58, 3) := by decide +kernel
theorem d_X10_undo_37 : decode cX10_undo 37 = .ok (.invokestatic 315, 3) := by decide +kernel
theorem d_X10_undo_40 : decode cX10_undo 40 = .ok (.aload_n 0, 1) := by decide +kernel
theorem d_X10_undo_41 : decode cX10_undo 41 = .ok (.iconst 0, 1) := by decide +kernel
theorem d_X10_undo_42 : decode cX10_undo 42 = .ok (.putfield 181, 3) := by decide +kernel
theorem d_X10_undo_45 : decode cX10_undo 45 = .ok (.aload_n 0, 1) := by decide +kernel
theorem d_X10_undo_46 : decode cX10_undo 46 = .ok (.getfield 178, 3) := by decide +kernel
theorem d_X10_undo_49 : decode cX10_undo 49 = .ok (.ireturn, 1) := by decide +kernel
noncomputable def F_X10_undo (M : zMem)  : Option (Int32 × zMem) :=
  zl (zI M 0 0 (0 : Int32)) fun M1 =>
  if (M1.1 0 31) = 0 then
    some ((-1 : Int32), M1)
  else
    zl (zI M1 0 31 ((M1.1 0 31) - (1 : Int32))) fun M2 =>
    gin (M2.1 0 31) 16 <|
    zbv (F_X10_copies M2 (453 + (1 + 1 * (M2.1 0 31).toNatClampNeg)) 451) fun M4 =>
    zl (zI M4 0 32 (0 : Int32)) fun M5 =>
    some ((M5.1 0 31), M5)
def rm_X10_undo : Room := { frames := 3, cells := 0, slots := 0, locals := 102 }
set_option maxHeartbeats 4000000 in
set_option maxRecDepth 100000 in
theorem c_X10_undo (l : Launch) {G : zG} {ad : Nat → Nat} {n : Nat} (hA : zInj ad n) (M : zMem)  (hT : zT shM n 0 11) {r9 : Int32} {M9 : zMem} (hF : F_X10_undo M  = some (r9, M9)) : zM l yX10_undo cX10_undo 1 (some .int) rm_X10_undo G shM ad n M [.ref (ad 0)] (some (.int r9)) M9 := by
  refine zM_of hA (by decide +kernel) (lv := [(0, .ref (ad 0))]) (Nat.le_of_ble_eq_true rfl) rfl (fun p e s m args below meth c A cx hr => ?_)
  unfold F_X10_undo at hF
  refine z_aload_n cx d_X10_undo_0 0 rfl ?_
  refine z_iconst (v := 0) cx d_X10_undo_1 ki_0 ?_
  refine z_putI cx hT fp_SunnyPansModel_82 d_X10_undo_2 ?_
  refine z_nmM hF (fun M1 hF => ?_)
  refine z_aload_n cx d_X10_undo_5 0 rfl ?_
  refine z_getI cx hT fg_SunnyPansModel_178 d_X10_undo_6 ?_
  refine z_if_ne cx 14 d_X10_undo_9 (by decide) hF (fun hF => ?_) (fun hF => ?_)
  · refine z_aload_n cx d_X10_undo_14 0 rfl ?_
    refine z_dup cx d_X10_undo_15 rfl ?_
    refine z_getI cx hT fg_SunnyPansModel_178 d_X10_undo_16 ?_
    refine z_iconst (v := 1) cx d_X10_undo_19 ki_1 ?_
    refine z_isub cx d_X10_undo_20 ?_
    refine z_putI cx hT fp_SunnyPansModel_178 d_X10_undo_21 ?_
    refine z_nmM hF (fun M2 hF => ?_)
    refine z_aload_n cx d_X10_undo_24 0 rfl ?_
    refine z_getR cx hT fg_SunnyPansModel_64 453 rfl d_X10_undo_25 ?_
    refine z_aload_n cx d_X10_undo_28 0 rfl ?_
    refine z_getI cx hT fg_SunnyPansModel_178 d_X10_undo_29 ?_
    obtain ⟨hi3, hF⟩ := gin_inv hF
    refine z_aald cx (tfM_11_453 hT) za_37 hi3 (453 + (1 + 1 * (M2.1 0 31).toNatClampNeg)) rfl d_X10_undo_32 ?_
    refine z_aload_n cx d_X10_undo_33 0 rfl ?_
    refine z_getR cx hT fg_SunnyPansModel_58 451 rfl d_X10_undo_34 ?_
    obtain ⟨M4, hc, hF⟩ := zbv_inv hF
    refine z_callS cx (As := [.ref (ad (453 + (1 + 1 * (M2.1 0 31).toNatClampNeg))), .ref (ad 451)]) (rest := []) (c_X10_copies l cx.2.2.2.1.1 M2 (453 + (1 + 1 * (M2.1 0 31).toNatClampNeg)) 451 (teM_37 (tfM_11_453 hT) hi3) (tfM_11_451 hT) hc) cs_SunnyPansModel_315 ⟨rfl, rfl, Nat.le_of_ble_eq_true rfl, Nat.le_of_ble_eq_true rfl⟩ rfl rfl ⟨Nat.zero_le _, Nat.zero_le _⟩ (Nat.le_of_ble_eq_true rfl) d_X10_undo_37 ?_
    refine z_aload_n cx d_X10_undo_40 0 rfl ?_
    refine z_iconst (v := 0) cx d_X10_undo_41 ki_0 ?_
    refine z_putI cx hT fp_SunnyPansModel_181 d_X10_undo_42 ?_
    refine z_nmM hF (fun M5 hF => ?_)
    refine z_aload_n cx d_X10_undo_45 0 rfl ?_
    refine z_getI cx hT fg_SunnyPansModel_178 d_X10_undo_46 ?_
    exact z_iret cx hr rfl hF d_X10_undo_49
  refine z_iconst (v := -1) cx d_X10_undo_12 ki_m1 ?_
  exact z_iret cx hr rfl hF d_X10_undo_13
/-! SunnyPansModel.together -/
theorem d_X10_together_0 : decode cX10_together 0 = .ok (.iconst 0, 1) := by decide +kernel
theorem d_X10_together_1 : decode cX10_together 1 = .ok (.istore_n 2, 1) := by decide +kernel
theorem d_X10_together_2 : decode cX10_together 2 = .ok (.iconst 0, 1) := by decide +kernel
theorem d_X10_together_3 : decode cX10_together 3 = .ok (.istore_n 3, 1) := by decide +kernel
theorem d_X10_together_4 : decode cX10_together 4 = .ok (.iload_n 3, 1) := by decide +kernel
theorem d_X10_together_5 : decode cX10_together 5 = .ok (.bipush 64, 2) := by decide +kernel
theorem d_X10_together_7 : decode cX10_together 7 = .ok (.if_icmp .ge 17, 3) := by decide +kernel
theorem d_X10_together_10 : decode cX10_together 10 = .ok (.iload_n 2, 1) := by decide +kernel
theorem d_X10_together_11 : decode cX10_together 11 = .ok (.aload_n 0, 1) := by decide +kernel
theorem d_X10_together_12 : decode cX10_together 12 = .ok (.iload_n 1, 1) := by decide +kernel
theorem d_X10_together_13 : decode cX10_together 13 = .ok (.iload_n 3, 1) := by decide +kernel
theorem d_X10_together_14 : decode cX10_together 14 = .ok (.iadd, 1) := by decide +kernel
theorem d_X10_together_15 : decode cX10_together 15 = .ok (.iaload, 1) := by decide +kernel
theorem d_X10_together_16 : decode cX10_together 16 = .ok (.iadd, 1) := by decide +kernel
theorem d_X10_together_17 : decode cX10_together 17 = .ok (.istore_n 2, 1) := by decide +kernel
theorem d_X10_together_18 : decode cX10_together 18 = .ok (.iinc 3 1, 3) := by decide +kernel
theorem d_X10_together_21 : decode cX10_together 21 = .ok (.goto (-17), 3) := by decide +kernel
theorem d_X10_together_24 : decode cX10_together 24 = .ok (.iload_n 2, 1) := by decide +kernel
theorem d_X10_together_25 : decode cX10_together 25 = .ok (.ireturn, 1) := by decide +kernel
noncomputable def F_X10_together_4 (p0 : Nat) (p1 : Int32) (self4 : Int32 → Int32 → Int32 → zMem → Option (Int32 × zMem)) (b4_L1 : Int32) (b4_L2 : Int32) (b4_L3 : Int32) (M : zMem) : Option (Int32 × zMem) :=
  if (64 : Int32) ≤ b4_L3 then
    some (b4_L2, M)
  else
    gin (b4_L1 + b4_L3) 195 <|
    zl (b4_L2 + (M.1 p0 (b4_L1 + b4_L3).toNatClampNeg)) fun v2 =>
    self4 b4_L1 v2 (b4_L3 + 1) M
noncomputable def F_X10_together (M : zMem) (p0 : Nat) (p1 : Int32) : Option (Int32 × zMem) :=
  itF (fun _ _ _ _ => none) (F_X10_together_4 p0 p1) zFuel p1 (0 : Int32) (0 : Int32) M
def rm_X10_together : Room := { frames := 2, cells := 0, slots := 0, locals := 80 }
set_option maxHeartbeats 4000000 in
set_option maxRecDepth 100000 in
theorem c_X10_together (l : Launch) {G : zG} {ad : Nat → Nat} {n : Nat} (hA : zInj ad n) (M : zMem) (p0 : Nat) (p1 : Int32) (hT_p0 : zT shM n p0 36) {r9 : Int32} {M9 : zMem} (hF : F_X10_together M p0 p1 = some (r9, M9)) : zM l yX10_together cX10_together 4 (some .int) rm_X10_together G shM ad n M [.ref (ad p0), .int p1] (some (.int r9)) M9 := by
  refine zM_of hA (by decide +kernel) (lv := [(0, .ref (ad p0)), (1, .int p1)]) (Nat.le_of_ble_eq_true rfl) rfl (fun p e s m args below meth c A cx hr => ?_)
  have hL4 : ∀ (fuel : Nat), ∀ (b4_L1 : Int32) (b4_L2 : Int32) (b4_L3 : Int32) (M : zMem), itF (fun _ _ _ _ => none) (F_X10_together_4 p0 p1) fuel b4_L1 b4_L2 b4_L3 M = some (r9, M9) → zJ p l e rm_X10_together s m args below meth c G shM ad n A 4 (MQ below (zQ G shM ad n M9 (some (.int r9)) A) args s 0 0 A) 0 0 M 4 [(0, .ref (ad p0)), (1, .int b4_L1), (2, .int b4_L2), (3, .int b4_L3)] [] := by
    intro fuel
    induction fuel with
    | zero => intro b4_L1 b4_L2 b4_L3 M hF; cases hF
    | succ fuel hs4 =>
      intro b4_L1 b4_L2 b4_L3 M hF
      have hF : F_X10_together_4 p0 p1 (itF (fun _ _ _ _ => none) (F_X10_together_4 p0 p1) fuel) b4_L1 b4_L2 b4_L3 M = some (r9, M9) := hF
      generalize itF (fun _ _ _ _ => none) (F_X10_together_4 p0 p1) fuel = self4 at hs4 hF
      unfold F_X10_together_4 at hF
      refine z_iload_n cx d_X10_together_4 3 rfl ?_
      refine z_bipush (v := 64) cx d_X10_together_5 kb_64 ?_
      refine z_icmp_ge cx 24 d_X10_together_7 (by decide) hF (fun hF => ?_) (fun hF => ?_)
      · refine z_iload_n cx d_X10_together_24 2 rfl ?_
        exact z_iret cx hr rfl hF d_X10_together_25
      refine z_iload_n cx d_X10_together_10 2 rfl ?_
      refine z_aload_n cx d_X10_together_11 0 rfl ?_
      refine z_iload_n cx d_X10_together_12 1 rfl ?_
      refine z_iload_n cx d_X10_together_13 3 rfl ?_
      refine z_iadd cx d_X10_together_14 ?_
      obtain ⟨hi1, hF⟩ := gin_inv hF
      refine z_iald cx hT_p0 za_36 hi1 ((b4_L1 + b4_L3).toNatClampNeg) rfl d_X10_together_15 ?_
      refine z_iadd cx d_X10_together_16 ?_
      refine z_nm hF (fun v2 hF => ?_)
      refine z_istore_n cx 2 [(2, .int v2), (0, .ref (ad p0)), (1, .int b4_L1), (3, .int b4_L3)] d_X10_together_17 rfl (by decide) rfl ?_
      refine z_iinc cx 3 1 [(3, .int (b4_L3 + 1)), (2, .int v2), (0, .ref (ad p0)), (1, .int b4_L1)] d_X10_together_18 3 rfl ki_1 (by decide) rfl ?_
      refine z_goto cx 4 d_X10_together_21 (by decide) ?_
      exact z_lv [2, 3, 1, 0] _ rfl (hs4 b4_L1 v2 (b4_L3 + 1) M hF)
  unfold F_X10_together at hF
  refine z_iconst (v := 0) cx d_X10_together_0 ki_0 ?_
  refine z_istore_n cx 2 [(2, .int (0 : Int32)), (0, .ref (ad p0)), (1, .int p1)] d_X10_together_1 rfl (by decide) rfl ?_
  refine z_iconst (v := 0) cx d_X10_together_2 ki_0 ?_
  refine z_istore_n cx 3 [(3, .int (0 : Int32)), (2, .int (0 : Int32)), (0, .ref (ad p0)), (1, .int p1)] d_X10_together_3 rfl (by decide) rfl ?_
  exact z_lv [2, 3, 1, 0] _ rfl (hL4 zFuel p1 (0 : Int32) (0 : Int32) M hF)
/-! SunnyPansModel.dryOnes -/
theorem d_X10_dryOnes_0 : decode cX10_dryOnes 0 = .ok (.iconst 0, 1) := by decide +kernel
theorem d_X10_dryOnes_1 : decode cX10_dryOnes 1 = .ok (.istore_n 3, 1) := by decide +kernel
theorem d_X10_dryOnes_2 : decode cX10_dryOnes 2 = .ok (.iconst 0, 1) := by decide +kernel
theorem d_X10_dryOnes_3 : decode cX10_dryOnes 3 = .ok (.istore 4, 2) := by decide +kernel
theorem d_X10_dryOnes_5 : decode cX10_dryOnes 5 = .ok (.iload 4, 2) := by decide +kernel
theorem d_X10_dryOnes_7 : decode cX10_dryOnes 7 = .ok (.bipush 64, 2) := by decide +kernel
theorem d_X10_dryOnes_9 : decode cX10_dryOnes 9 = .ok (.if_icmp .ge 49, 3) := by decide +kernel
theorem d_X10_dryOnes_12 : decode cX10_dryOnes 12 = .ok (.iload_n 3, 1) := by decide +kernel
theorem d_X10_dryOnes_13 : decode cX10_dryOnes 13 = .ok (.aload_n 0, 1) := by decide +kernel
theorem d_X10_dryOnes_14 : decode cX10_dryOnes 14 = .ok (.iload 4, 2) := by decide +kernel
theorem d_X10_dryOnes_16 : decode cX10_dryOnes 16 = .ok (.invokevirtual 284, 3) := by decide +kernel
theorem d_X10_dryOnes_19 : decode cX10_dryOnes 19 = .ok (.ifCond .eq 30, 3) := by decide +kernel
theorem d_X10_dryOnes_22 : decode cX10_dryOnes 22 = .ok (.aload_n 1, 1) := by decide +kernel
theorem d_X10_dryOnes_23 : decode cX10_dryOnes 23 = .ok (.iload 4, 2) := by decide +kernel
theorem d_X10_dryOnes_25 : decode cX10_dryOnes 25 = .ok (.invokestatic 280, 3) := by decide +kernel
theorem d_X10_dryOnes_28 : decode cX10_dryOnes 28 = .ok (.ifCond .eq 21, 3) := by decide +kernel
theorem d_X10_dryOnes_31 : decode cX10_dryOnes 31 = .ok (.iload_n 2, 1) := by decide +kernel
theorem d_X10_dryOnes_32 : decode cX10_dryOnes 32 = .ok (.ifCond .eq 13, 3) := by decide +kernel
theorem d_X10_dryOnes_35 : decode cX10_dryOnes 35 = .ok (.aload_n 1, 1) := by decide +kernel
theorem d_X10_dryOnes_36 : decode cX10_dryOnes 36 = .ok (.bipush 64, 2) := by decide +kernel
theorem d_X10_dryOnes_38 : decode cX10_dryOnes 38 = .ok (.iload 4, 2) := by decide +kernel
theorem d_X10_dryOnes_40 : decode cX10_dryOnes 40 = .ok (.iadd, 1) := by decide +kernel
theorem d_X10_dryOnes_41 : decode cX10_dryOnes 41 = .ok (.iaload, 1) := by decide +kernel
theorem d_X10_dryOnes_42 : decode cX10_dryOnes 42 = .ok (.ifCond .le 7, 3) := by decide +kernel
theorem d_X10_dryOnes_45 : decode cX10_dryOnes 45 = .ok (.iconst 1, 1) := by decide +kernel
theorem d_X10_dryOnes_46 : decode cX10_dryOnes 46 = .ok (.goto 4, 3) := by decide +kernel
theorem d_X10_dryOnes_49 : decode cX10_dryOnes 49 = .ok (.iconst 0, 1) := by decide +kernel
theorem d_X10_dryOnes_50 : decode cX10_dryOnes 50 = .ok (.iadd, 1) := by decide +kernel
theorem d_X10_dryOnes_51 : decode cX10_dryOnes 51 = .ok (.istore_n 3, 1) := by decide +kernel
theorem d_X10_dryOnes_52 : decode cX10_dryOnes 52 = .ok (.iinc 4 1, 3) := by decide +kernel
theorem d_X10_dryOnes_55 : decode cX10_dryOnes 55 = .ok (.goto (-50), 3) := by decide +kernel
theorem d_X10_dryOnes_58 : decode cX10_dryOnes 58 = .ok (.iload_n 3, 1) := by decide +kernel
theorem d_X10_dryOnes_59 : decode cX10_dryOnes 59 = .ok (.ireturn, 1) := by decide +kernel
noncomputable def F_X10_dryOnes_50 (p0 : Nat) (p1 : Int32) (self5 : Int32 → Int32 → Int32 → zMem → Option (Int32 × zMem)) (b50_L2 : Int32) (b50_L4 : Int32) (b50_S0 : Int32) (b50_S1 : Int32) (M : zMem) : Option (Int32 × zMem) :=
  zl (b50_S0 + b50_S1) fun v1 =>
  self5 b50_L2 v1 (b50_L4 + 1) M
noncomputable def F_X10_dryOnes_49 (p0 : Nat) (p1 : Int32) (self5 : Int32 → Int32 → Int32 → zMem → Option (Int32 × zMem)) (b49_L2 : Int32) (b49_L4 : Int32) (b49_S0 : Int32) (M : zMem) : Option (Int32 × zMem) :=
  F_X10_dryOnes_50 p0 p1 self5 b49_L2 b49_L4 b49_S0 (0 : Int32) M
noncomputable def F_X10_dryOnes_5 (p0 : Nat) (p1 : Int32) (self5 : Int32 → Int32 → Int32 → zMem → Option (Int32 × zMem)) (b5_L2 : Int32) (b5_L3 : Int32) (b5_L4 : Int32) (M : zMem) : Option (Int32 × zMem) :=
  if (64 : Int32) ≤ b5_L4 then
    some (b5_L3, M)
  else
    zb (F_X10_isHere M b5_L4) fun v3 M2 =>
    if v3 = 0 then
      F_X10_dryOnes_49 p0 p1 self5 b5_L2 b5_L4 b5_L3 M2
    else
      zb (F_X10_isDry M2 p0 b5_L4) fun v5 M4 =>
      if v5 = 0 then
        F_X10_dryOnes_49 p0 p1 self5 b5_L2 b5_L4 b5_L3 M4
      else
        if b5_L2 = 0 then
          F_X10_dryOnes_50 p0 p1 self5 b5_L2 b5_L4 b5_L3 (1 : Int32) M4
        else
          gin ((64 : Int32) + b5_L4) 195 <|
          if (M4.1 p0 ((64 : Int32) + b5_L4).toNatClampNeg) ≤ 0 then
            F_X10_dryOnes_49 p0 p1 self5 b5_L2 b5_L4 b5_L3 M4
          else
            F_X10_dryOnes_50 p0 p1 self5 b5_L2 b5_L4 b5_L3 (1 : Int32) M4
noncomputable def F_X10_dryOnes (M : zMem) (p0 : Nat) (p1 : Int32) : Option (Int32 × zMem) :=
  itF (fun _ _ _ _ => none) (F_X10_dryOnes_5 p0 p1) zFuel p1 (0 : Int32) (0 : Int32) M
def rm_X10_dryOnes : Room := { frames := 5, cells := 0, slots := 0, locals := 145 }
set_option maxHeartbeats 4000000 in
set_option maxRecDepth 100000 in
theorem c_X10_dryOnes (l : Launch) {G : zG} {ad : Nat → Nat} {n : Nat} (hA : zInj ad n) (M : zMem) (p0 : Nat) (p1 : Int32) (hT : zT shM n 0 11) (hT_p0 : zT shM n p0 36) {r9 : Int32} {M9 : zMem} (hF : F_X10_dryOnes M p0 p1 = some (r9, M9)) : zM l yX10_dryOnes cX10_dryOnes 5 (some .int) rm_X10_dryOnes G shM ad n M [.ref (ad 0), .ref (ad p0), .int p1] (some (.int r9)) M9 := by
  refine zM_of hA (by decide +kernel) (lv := [(0, .ref (ad 0)), (1, .ref (ad p0)), (2, .int p1)]) (Nat.le_of_ble_eq_true rfl) rfl (fun p e s m args below meth c A cx hr => ?_)
  have hb50 : ∀ (self5 : Int32 → Int32 → Int32 → zMem → Option (Int32 × zMem)) (hs5 : ∀ (b5_L2 : Int32) (b5_L3 : Int32) (b5_L4 : Int32) (M : zMem), self5 b5_L2 b5_L3 b5_L4 M = some (r9, M9) → zJ p l e rm_X10_dryOnes s m args below meth c G shM ad n A 5 (MQ below (zQ G shM ad n M9 (some (.int r9)) A) args s 0 0 A) 0 0 M 5 [(0, .ref (ad 0)), (1, .ref (ad p0)), (2, .int b5_L2), (3, .int b5_L3), (4, .int b5_L4)] []), ∀ (b50_L2 : Int32) (b50_L4 : Int32) (b50_S0 : Int32) (b50_S1 : Int32) (M : zMem), F_X10_dryOnes_50 p0 p1 self5 b50_L2 b50_L4 b50_S0 b50_S1 M = some (r9, M9) → zJ p l e rm_X10_dryOnes s m args below meth c G shM ad n A 5 (MQ below (zQ G shM ad n M9 (some (.int r9)) A) args s 0 0 A) 0 0 M 50 [(0, .ref (ad 0)), (1, .ref (ad p0)), (2, .int b50_L2), (4, .int b50_L4)] [.int b50_S1, .int b50_S0] := by
    intro self5 hs5 b50_L2 b50_L4 b50_S0 b50_S1 M hF
    unfold F_X10_dryOnes_50 at hF
    refine z_iadd cx d_X10_dryOnes_50 ?_
    refine z_nm hF (fun v1 hF => ?_)
    refine z_istore_n cx 3 [(3, .int v1), (0, .ref (ad 0)), (1, .ref (ad p0)), (2, .int b50_L2), (4, .int b50_L4)] d_X10_dryOnes_51 rfl (by decide) rfl ?_
    refine z_iinc cx 4 1 [(4, .int (b50_L4 + 1)), (3, .int v1), (0, .ref (ad 0)), (1, .ref (ad p0)), (2, .int b50_L2)] d_X10_dryOnes_52 4 rfl ki_1 (by decide) rfl ?_
    refine z_goto cx 5 d_X10_dryOnes_55 (by decide) ?_
    exact z_lv [2, 3, 4, 1, 0] _ rfl (hs5 b50_L2 v1 (b50_L4 + 1) M hF)
  have hb49 : ∀ (self5 : Int32 → Int32 → Int32 → zMem → Option (Int32 × zMem)) (hs5 : ∀ (b5_L2 : Int32) (b5_L3 : Int32) (b5_L4 : Int32) (M : zMem), self5 b5_L2 b5_L3 b5_L4 M = some (r9, M9) → zJ p l e rm_X10_dryOnes s m args below meth c G shM ad n A 5 (MQ below (zQ G shM ad n M9 (some (.int r9)) A) args s 0 0 A) 0 0 M 5 [(0, .ref (ad 0)), (1, .ref (ad p0)), (2, .int b5_L2), (3, .int b5_L3), (4, .int b5_L4)] []), ∀ (b49_L2 : Int32) (b49_L4 : Int32) (b49_S0 : Int32) (M : zMem), F_X10_dryOnes_49 p0 p1 self5 b49_L2 b49_L4 b49_S0 M = some (r9, M9) → zJ p l e rm_X10_dryOnes s m args below meth c G shM ad n A 5 (MQ below (zQ G shM ad n M9 (some (.int r9)) A) args s 0 0 A) 0 0 M 49 [(0, .ref (ad 0)), (1, .ref (ad p0)), (2, .int b49_L2), (4, .int b49_L4)] [.int b49_S0] := by
    intro self5 hs5 b49_L2 b49_L4 b49_S0 M hF
    unfold F_X10_dryOnes_49 at hF
    refine z_iconst (v := 0) cx d_X10_dryOnes_49 ki_0 ?_
    exact hb50 self5 hs5 b49_L2 b49_L4 b49_S0 (0 : Int32) M hF
  have hL5 : ∀ (fuel : Nat), ∀ (b5_L2 : Int32) (b5_L3 : Int32) (b5_L4 : Int32) (M : zMem), itF (fun _ _ _ _ => none) (F_X10_dryOnes_5 p0 p1) fuel b5_L2 b5_L3 b5_L4 M = some (r9, M9) → zJ p l e rm_X10_dryOnes s m args below meth c G shM ad n A 5 (MQ below (zQ G shM ad n M9 (some (.int r9)) A) args s 0 0 A) 0 0 M 5 [(0, .ref (ad 0)), (1, .ref (ad p0)), (2, .int b5_L2), (3, .int b5_L3), (4, .int b5_L4)] [] := by
    intro fuel
    induction fuel with
    | zero => intro b5_L2 b5_L3 b5_L4 M hF; cases hF
    | succ fuel hs5 =>
      intro b5_L2 b5_L3 b5_L4 M hF
      have hF : F_X10_dryOnes_5 p0 p1 (itF (fun _ _ _ _ => none) (F_X10_dryOnes_5 p0 p1) fuel) b5_L2 b5_L3 b5_L4 M = some (r9, M9) := hF
      generalize itF (fun _ _ _ _ => none) (F_X10_dryOnes_5 p0 p1) fuel = self5 at hs5 hF
      unfold F_X10_dryOnes_5 at hF
      refine z_iload cx d_X10_dryOnes_5 4 rfl ?_
      refine z_bipush (v := 64) cx d_X10_dryOnes_7 kb_64 ?_
      refine z_icmp_ge cx 58 d_X10_dryOnes_9 (by decide) hF (fun hF => ?_) (fun hF => ?_)
      · refine z_iload_n cx d_X10_dryOnes_58 3 rfl ?_
        exact z_iret cx hr rfl hF d_X10_dryOnes_59
      refine z_iload_n cx d_X10_dryOnes_12 3 rfl ?_
      refine z_aload_n cx d_X10_dryOnes_13 0 rfl ?_
      refine z_iload cx d_X10_dryOnes_14 4 rfl ?_
      obtain ⟨v3, M2, hc, hF⟩ := zb_inv hF
      refine z_callV cx (As := [.int b5_L4]) (rest := [.int b5_L3]) (c_X10_isHere l cx.2.2.2.1.1 M b5_L4 hT hc) hT zo_11 cv_SunnyPansModel_284 ⟨rfl, rfl, Nat.le_of_ble_eq_true rfl, Nat.le_of_ble_eq_true rfl⟩ rfl rfl ⟨Nat.zero_le _, Nat.zero_le _⟩ (Nat.le_of_ble_eq_true rfl) d_X10_dryOnes_16 ?_
      refine z_if_eq cx 49 d_X10_dryOnes_19 (by decide) hF (fun hF => ?_) (fun hF => ?_)
      · exact z_lv [0, 1, 2, 4] _ rfl (hb49 self5 hs5 b5_L2 b5_L4 b5_L3 M2 hF)
      refine z_aload_n cx d_X10_dryOnes_22 1 rfl ?_
      refine z_iload cx d_X10_dryOnes_23 4 rfl ?_
      obtain ⟨v5, M4, hc, hF⟩ := zb_inv hF
      refine z_callS cx (As := [.ref (ad p0), .int b5_L4]) (rest := [.int b5_L3]) (c_X10_isDry l cx.2.2.2.1.1 M2 p0 b5_L4 hT_p0 hc) cs_SunnyPansModel_280 ⟨rfl, rfl, Nat.le_of_ble_eq_true rfl, Nat.le_of_ble_eq_true rfl⟩ rfl rfl ⟨Nat.zero_le _, Nat.zero_le _⟩ (Nat.le_of_ble_eq_true rfl) d_X10_dryOnes_25 ?_
      refine z_if_eq cx 49 d_X10_dryOnes_28 (by decide) hF (fun hF => ?_) (fun hF => ?_)
      · exact z_lv [0, 1, 2, 4] _ rfl (hb49 self5 hs5 b5_L2 b5_L4 b5_L3 M4 hF)
      refine z_iload_n cx d_X10_dryOnes_31 2 rfl ?_
      refine z_if_eq cx 45 d_X10_dryOnes_32 (by decide) hF (fun hF => ?_) (fun hF => ?_)
      · refine z_iconst (v := 1) cx d_X10_dryOnes_45 ki_1 ?_
        refine z_goto cx 50 d_X10_dryOnes_46 (by decide) ?_
        exact z_lv [0, 1, 2, 4] _ rfl (hb50 self5 hs5 b5_L2 b5_L4 b5_L3 (1 : Int32) M4 hF)
      refine z_aload_n cx d_X10_dryOnes_35 1 rfl ?_
      refine z_bipush (v := 64) cx d_X10_dryOnes_36 kb_64 ?_
      refine z_iload cx d_X10_dryOnes_38 4 rfl ?_
      refine z_iadd cx d_X10_dryOnes_40 ?_
      obtain ⟨hi6, hF⟩ := gin_inv hF
      refine z_iald cx hT_p0 za_36 hi6 (((64 : Int32) + b5_L4).toNatClampNeg) rfl d_X10_dryOnes_41 ?_
      refine z_if_le cx 49 d_X10_dryOnes_42 (by decide) hF (fun hF => ?_) (fun hF => ?_)
      · exact z_lv [0, 1, 2, 4] _ rfl (hb49 self5 hs5 b5_L2 b5_L4 b5_L3 M4 hF)
      refine z_iconst (v := 1) cx d_X10_dryOnes_45 ki_1 ?_
      refine z_goto cx 50 d_X10_dryOnes_46 (by decide) ?_
      exact z_lv [0, 1, 2, 4] _ rfl (hb50 self5 hs5 b5_L2 b5_L4 b5_L3 (1 : Int32) M4 hF)
  unfold F_X10_dryOnes at hF
  refine z_iconst (v := 0) cx d_X10_dryOnes_0 ki_0 ?_
  refine z_istore_n cx 3 [(3, .int (0 : Int32)), (0, .ref (ad 0)), (1, .ref (ad p0)), (2, .int p1)] d_X10_dryOnes_1 rfl (by decide) rfl ?_
  refine z_iconst (v := 0) cx d_X10_dryOnes_2 ki_0 ?_
  refine z_istore cx 4 [(4, .int (0 : Int32)), (3, .int (0 : Int32)), (0, .ref (ad 0)), (1, .ref (ad p0)), (2, .int p1)] d_X10_dryOnes_3 (by decide) rfl ?_
  exact z_lv [2, 3, 4, 1, 0] _ rfl (hL5 zFuel p1 (0 : Int32) (0 : Int32) M hF)
/-! SunnyPansModel.heaps -/
theorem d_X10_heaps_0 : decode cX10_heaps 0 = .ok (.iconst 0, 1) := by decide +kernel
theorem d_X10_heaps_1 : decode cX10_heaps 1 = .ok (.istore_n 1, 1) := by decide +kernel
theorem d_X10_heaps_2 : decode cX10_heaps 2 = .ok (.iconst 0, 1) := by decide +kernel
theorem d_X10_heaps_3 : decode cX10_heaps 3 = .ok (.istore_n 2, 1) := by decide +kernel
theorem d_X10_heaps_4 : decode cX10_heaps 4 = .ok (.iload_n 2, 1) := by decide +kernel
theorem d_X10_heaps_5 : decode cX10_heaps 5 = .ok (.bipush 64, 2) := by decide +kernel
theorem d_X10_heaps_7 : decode cX10_heaps 7 = .ok (.if_icmp .ge 30, 3) := by decide +kernel
theorem d_X10_heaps_10 : decode cX10_heaps 10 = .ok (.iload_n 1, 1) := by decide +kernel
theorem d_X10_heaps_11 : decode cX10_heaps 11 = .ok (.aload_n 0, 1) := by decide +kernel
theorem d_X10_heaps_12 : decode cX10_heaps 12 = .ok (.getfield 58, 3) := by decide +kernel
theorem d_X10_heaps_15 : decode cX10_heaps 15 = .ok (.sipush 128, 3) := by decide +kernel
theorem d_X10_heaps_18 : decode cX10_heaps 18 = .ok (.iload_n 2, 1) := by decide +kernel
theorem d_X10_heaps_19 : decode cX10_heaps 19 = .ok (.iadd, 1) := by decide +kernel
theorem d_X10_heaps_20 : decode cX10_heaps 20 = .ok (.iaload, 1) := by decide +kernel
theorem d_X10_heaps_21 : decode cX10_heaps 21 = .ok (.ifCond .le 7, 3) := by decide +kernel
theorem d_X10_heaps_24 : decode cX10_heaps 24 = .ok (.iconst 1, 1) := by decide +kernel
theorem d_X10_heaps_25 : decode cX10_heaps 25 = .ok (.goto 4, 3) := by decide +kernel
theorem d_X10_heaps_28 : decode cX10_heaps 28 = .ok (.iconst 0, 1) := by decide +kernel
theorem d_X10_heaps_29 : decode cX10_heaps 29 = .ok (.iadd, 1) := by decide +kernel
theorem d_X10_heaps_30 : decode cX10_heaps 30 = .ok (.istore_n 1, 1) := by decide +kernel
theorem d_X10_heaps_31 : decode cX10_heaps 31 = .ok (.iinc 2 1, 3) := by decide +kernel
theorem d_X10_heaps_34 : decode cX10_heaps 34 = .ok (.goto (-30), 3) := by decide +kernel
theorem d_X10_heaps_37 : decode cX10_heaps 37 = .ok (.iload_n 1, 1) := by decide +kernel
theorem d_X10_heaps_38 : decode cX10_heaps 38 = .ok (.ireturn, 1) := by decide +kernel
noncomputable def F_X10_heaps_29 (self4 : Int32 → Int32 → zMem → Option (Int32 × zMem)) (b29_L2 : Int32) (b29_S0 : Int32) (b29_S1 : Int32) (M : zMem) : Option (Int32 × zMem) :=
  zl (b29_S0 + b29_S1) fun v1 =>
  self4 v1 (b29_L2 + 1) M
noncomputable def F_X10_heaps_4 (self4 : Int32 → Int32 → zMem → Option (Int32 × zMem)) (b4_L1 : Int32) (b4_L2 : Int32) (M : zMem) : Option (Int32 × zMem) :=
  if (64 : Int32) ≤ b4_L2 then
    some (b4_L1, M)
  else
    gin ((128 : Int32) + b4_L2) 195 <|
    if (M.1 451 ((128 : Int32) + b4_L2).toNatClampNeg) ≤ 0 then
      F_X10_heaps_29 self4 b4_L2 b4_L1 (0 : Int32) M
    else
      F_X10_heaps_29 self4 b4_L2 b4_L1 (1 : Int32) M
noncomputable def F_X10_heaps (M : zMem)  : Option (Int32 × zMem) :=
  itF (fun _ _ _ => none) (F_X10_heaps_4) zFuel (0 : Int32) (0 : Int32) M
def rm_X10_heaps : Room := { frames := 2, cells := 0, slots := 0, locals := 80 }
set_option maxHeartbeats 4000000 in
set_option maxRecDepth 100000 in
theorem c_X10_heaps (l : Launch) {G : zG} {ad : Nat → Nat} {n : Nat} (hA : zInj ad n) (M : zMem)  (hT : zT shM n 0 11) {r9 : Int32} {M9 : zMem} (hF : F_X10_heaps M  = some (r9, M9)) : zM l yX10_heaps cX10_heaps 3 (some .int) rm_X10_heaps G shM ad n M [.ref (ad 0)] (some (.int r9)) M9 := by
  refine zM_of hA (by decide +kernel) (lv := [(0, .ref (ad 0))]) (Nat.le_of_ble_eq_true rfl) rfl (fun p e s m args below meth c A cx hr => ?_)
  have hb29 : ∀ (self4 : Int32 → Int32 → zMem → Option (Int32 × zMem)) (hs4 : ∀ (b4_L1 : Int32) (b4_L2 : Int32) (M : zMem), self4 b4_L1 b4_L2 M = some (r9, M9) → zJ p l e rm_X10_heaps s m args below meth c G shM ad n A 3 (MQ below (zQ G shM ad n M9 (some (.int r9)) A) args s 0 0 A) 0 0 M 4 [(0, .ref (ad 0)), (1, .int b4_L1), (2, .int b4_L2)] []), ∀ (b29_L2 : Int32) (b29_S0 : Int32) (b29_S1 : Int32) (M : zMem), F_X10_heaps_29 self4 b29_L2 b29_S0 b29_S1 M = some (r9, M9) → zJ p l e rm_X10_heaps s m args below meth c G shM ad n A 3 (MQ below (zQ G shM ad n M9 (some (.int r9)) A) args s 0 0 A) 0 0 M 29 [(0, .ref (ad 0)), (2, .int b29_L2)] [.int b29_S1, .int b29_S0] := by
    intro self4 hs4 b29_L2 b29_S0 b29_S1 M hF
    unfold F_X10_heaps_29 at hF
    refine z_iadd cx d_X10_heaps_29 ?_
    refine z_nm hF (fun v1 hF => ?_)
    refine z_istore_n cx 1 [(1, .int v1), (0, .ref (ad 0)), (2, .int b29_L2)] d_X10_heaps_30 rfl (by decide) rfl ?_
    refine z_iinc cx 2 1 [(2, .int (b29_L2 + 1)), (1, .int v1), (0, .ref (ad 0))] d_X10_heaps_31 2 rfl ki_1 (by decide) rfl ?_
    refine z_goto cx 4 d_X10_heaps_34 (by decide) ?_
    exact z_lv [2, 1, 0] _ rfl (hs4 v1 (b29_L2 + 1) M hF)
  have hL4 : ∀ (fuel : Nat), ∀ (b4_L1 : Int32) (b4_L2 : Int32) (M : zMem), itF (fun _ _ _ => none) (F_X10_heaps_4) fuel b4_L1 b4_L2 M = some (r9, M9) → zJ p l e rm_X10_heaps s m args below meth c G shM ad n A 3 (MQ below (zQ G shM ad n M9 (some (.int r9)) A) args s 0 0 A) 0 0 M 4 [(0, .ref (ad 0)), (1, .int b4_L1), (2, .int b4_L2)] [] := by
    intro fuel
    induction fuel with
    | zero => intro b4_L1 b4_L2 M hF; cases hF
    | succ fuel hs4 =>
      intro b4_L1 b4_L2 M hF
      have hF : F_X10_heaps_4 (itF (fun _ _ _ => none) (F_X10_heaps_4) fuel) b4_L1 b4_L2 M = some (r9, M9) := hF
      generalize itF (fun _ _ _ => none) (F_X10_heaps_4) fuel = self4 at hs4 hF
      unfold F_X10_heaps_4 at hF
      refine z_iload_n cx d_X10_heaps_4 2 rfl ?_
      refine z_bipush (v := 64) cx d_X10_heaps_5 kb_64 ?_
      refine z_icmp_ge cx 37 d_X10_heaps_7 (by decide) hF (fun hF => ?_) (fun hF => ?_)
      · refine z_iload_n cx d_X10_heaps_37 1 rfl ?_
        exact z_iret cx hr rfl hF d_X10_heaps_38
      refine z_iload_n cx d_X10_heaps_10 1 rfl ?_
      refine z_aload_n cx d_X10_heaps_11 0 rfl ?_
      refine z_getR cx hT fg_SunnyPansModel_58 451 rfl d_X10_heaps_12 ?_
      refine z_sipush (v := 128) cx d_X10_heaps_15 ks_128 ?_
      refine z_iload_n cx d_X10_heaps_18 2 rfl ?_
      refine z_iadd cx d_X10_heaps_19 ?_
      obtain ⟨hi2, hF⟩ := gin_inv hF
      refine z_iald cx (tfM_11_451 hT) za_36 hi2 (((128 : Int32) + b4_L2).toNatClampNeg) rfl d_X10_heaps_20 ?_
      refine z_if_le cx 28 d_X10_heaps_21 (by decide) hF (fun hF => ?_) (fun hF => ?_)
      · refine z_iconst (v := 0) cx d_X10_heaps_28 ki_0 ?_
        exact z_lv [0, 2] _ rfl (hb29 self4 hs4 b4_L2 b4_L1 (0 : Int32) M hF)
      refine z_iconst (v := 1) cx d_X10_heaps_24 ki_1 ?_
      refine z_goto cx 29 d_X10_heaps_25 (by decide) ?_
      exact z_lv [0, 2] _ rfl (hb29 self4 hs4 b4_L2 b4_L1 (1 : Int32) M hF)
  unfold F_X10_heaps at hF
  refine z_iconst (v := 0) cx d_X10_heaps_0 ki_0 ?_
  refine z_istore_n cx 1 [(1, .int (0 : Int32)), (0, .ref (ad 0))] d_X10_heaps_1 rfl (by decide) rfl ?_
  refine z_iconst (v := 0) cx d_X10_heaps_2 ki_0 ?_
  refine z_istore_n cx 2 [(2, .int (0 : Int32)), (1, .int (0 : Int32)), (0, .ref (ad 0))] d_X10_heaps_3 rfl (by decide) rfl ?_
  exact z_lv [2, 1, 0] _ rfl (hL4 zFuel (0 : Int32) (0 : Int32) M hF)
/-! SunnyPansModel.told -/
set_option maxRecDepth 100000 in
theorem wd_1761 : Cond.code yX10_dryOnes cX10_dryOnes 5 (some .int) ∈ tbG := tw7 221 rfl rfl
set_option maxRecDepth 100000 in
theorem wd_1758 : Cond.methodLink "SunnyPansModel" 326 yX10_dryOnes ∈ tbG := tw7 218 rfl rfl
set_option maxRecDepth 100000 in
theorem wd_1760 : Cond.instanceMethod yX10_dryOnes ∈ tbG := tw7 220 rfl rfl
theorem wd_83 : Cond.selects "SunnyPansModel" yX10_dryOnes yX10_dryOnes ∈ tbG := tw 83 (by decide +kernel) rfl
theorem cv_SunnyPansModel_326 : zCV "SunnyPansModel" 326 "SunnyPansModel" yX10_dryOnes cX10_dryOnes 5 (some .int) 2 := zCV_of wd_1758 wd_1760 wd_83 wd_111 wd_1761 (by decide +kernel)
set_option maxRecDepth 100000 in
theorem wd_1757 : Cond.code yX10_heaps cX10_heaps 3 (some .int) ∈ tbG := tw7 217 rfl rfl
set_option maxRecDepth 100000 in
theorem wd_1754 : Cond.methodLink "SunnyPansModel" 323 yX10_heaps ∈ tbG := tw7 214 rfl rfl
set_option maxRecDepth 100000 in
theorem wd_1756 : Cond.instanceMethod yX10_heaps ∈ tbG := tw7 216 rfl rfl
theorem wd_82 : Cond.selects "SunnyPansModel" yX10_heaps yX10_heaps ∈ tbG := tw 82 (by decide +kernel) rfl
theorem cv_SunnyPansModel_323 : zCV "SunnyPansModel" 323 "SunnyPansModel" yX10_heaps cX10_heaps 3 (some .int) 0 := zCV_of wd_1754 wd_1756 wd_82 wd_111 wd_1757 (by decide +kernel)
set_option maxRecDepth 100000 in
theorem wd_1753 : Cond.code yX10_together cX10_together 4 (some .int) ∈ tbG := tw7 213 rfl rfl
set_option maxRecDepth 100000 in
theorem wd_1751 : Cond.methodLink "SunnyPansModel" 319 yX10_together ∈ tbG := tw7 211 rfl rfl
set_option maxRecDepth 100000 in
theorem wd_1752 : Cond.static yX10_together ∈ tbG := tw7 212 rfl rfl
theorem cs_SunnyPansModel_319 : zCS "SunnyPansModel" 319 yX10_together cX10_together 4 (some .int) 2 := zCS_of wd_1751 wd_1752 wd_111 wd_1753 (by decide +kernel)
theorem d_X10_told_0 : decode cX10_told 0 = .ok (.aload_n 0, 1) := by decide +kernel
theorem d_X10_told_1 : decode cX10_told 1 = .ok (.iconst 0, 1) := by decide +kernel
theorem d_X10_told_2 : decode cX10_told 2 = .ok (.putfield 82, 3) := by decide +kernel
theorem d_X10_told_5 : decode cX10_told 5 = .ok (.aload_n 0, 1) := by decide +kernel
theorem d_X10_told_6 : decode cX10_told 6 = .ok (.iload_n 1, 1) := by decide +kernel
theorem d_X10_told_7 : decode cX10_told 7 = .ok (.iconst 0, 1) := by decide +kernel
theorem d_X10_told_8 : decode cX10_told 8 = .ok (.bipush 12, 2) := by decide +kernel
theorem d_X10_told_10 : decode cX10_told 10 = .ok (.invokestatic 116, 3) := by decide +kernel
theorem d_X10_told_13 : decode cX10_told 13 = .ok (.ifCond .ne 7, 3) := by decide +kernel
theorem d_X10_told_16 : decode cX10_told 16 = .ok (.iconst 1, 1) := by decide +kernel
theorem d_X10_told_17 : decode cX10_told 17 = .ok (.goto 4, 3) := by decide +kernel
theorem d_X10_told_20 : decode cX10_told 20 = .ok (.iconst 0, 1) := by decide +kernel
theorem d_X10_told_21 : decode cX10_told 21 = .ok (.iconst 1, 1) := by decide +kernel
theorem d_X10_told_22 : decode cX10_told 22 = .ok (.iconst 1, 1) := by decide +kernel
theorem d_X10_told_23 : decode cX10_told 23 = .ok (.invokevirtual 155, 3) := by decide +kernel
theorem d_X10_told_26 : decode cX10_told 26 = .ok (.ifCond .eq 5, 3) := by decide +kernel
theorem d_X10_told_29 : decode cX10_told 29 = .ok (.iconst 0, 1) := by decide +kernel
theorem d_X10_told_30 : decode cX10_told 30 = .ok (.ireturn, 1) := by decide +kernel
theorem d_X10_told_31 : decode cX10_told 31 = .ok (.iload_n 1, 1) := by decide +kernel
theorem d_X10_told_32 : decode cX10_told 32 = .ok (.tableswitch 156 0 11 #[64, 64, 64, 71, 80, 102, 111, 121, 132, 141, 146, 151], 64) := by decide +kernel
theorem d_X10_told_96 : decode cX10_told 96 = .ok (.aload_n 0, 1) := by decide +kernel
theorem d_X10_told_97 : decode cX10_told 97 = .ok (.getfield 23, 3) := by decide +kernel
theorem d_X10_told_100 : decode cX10_told 100 = .ok (.iload_n 1, 1) := by decide +kernel
theorem d_X10_told_101 : decode cX10_told 101 = .ok (.iaload, 1) := by decide +kernel
theorem d_X10_told_102 : decode cX10_told 102 = .ok (.ireturn, 1) := by decide +kernel
theorem d_X10_told_103 : decode cX10_told 103 = .ok (.aload_n 0, 1) := by decide +kernel
theorem d_X10_told_104 : decode cX10_told 104 = .ok (.getfield 58, 3) := by decide +kernel
theorem d_X10_told_107 : decode cX10_told 107 = .ok (.sipush 192, 3) := by decide +kernel
theorem d_X10_told_110 : decode cX10_told 110 = .ok (.iaload, 1) := by decide +kernel
theorem d_X10_told_111 : decode cX10_told 111 = .ok (.ireturn, 1) := by decide +kernel
theorem d_X10_told_112 : decode cX10_told 112 = .ok (.aload_n 0, 1) := by decide +kernel
theorem d_X10_told_113 : decode cX10_told 113 = .ok (.getfield 23, 3) := by decide +kernel
theorem d_X10_told_116 : decode cX10_told 116 = .ok (.iconst 2, 1) := by decide +kernel
theorem d_X10_told_117 : decode cX10_told 117 = .ok (.iaload, 1) := by decide +kernel
theorem d_X10_told_118 : decode cX10_told 118 = .ok (.ifCond .ne 7, 3) := by decide +kernel
theorem d_X10_told_121 : decode cX10_told 121 = .ok (.iconst (-1), 1) := by decide +kernel
theorem d_X10_told_122 : decode cX10_told 122 = .ok (.goto 11, 3) := by decide +kernel
theorem d_X10_told_125 : decode cX10_told 125 = .ok (.aload_n 0, 1) := by decide +kernel
theorem d_X10_told_126 : decode cX10_told 126 = .ok (.getfield 58, 3) := by decide +kernel
theorem d_X10_told_129 : decode cX10_told 129 = .ok (.sipush 193, 3) := by decide +kernel
theorem d_X10_told_132 : decode cX10_told 132 = .ok (.iaload, 1) := by decide +kernel
theorem d_X10_told_133 : decode cX10_told 133 = .ok (.ireturn, 1) := by decide +kernel
theorem d_X10_told_134 : decode cX10_told 134 = .ok (.aload_n 0, 1) := by decide +kernel
theorem d_X10_told_135 : decode cX10_told 135 = .ok (.getfield 58, 3) := by decide +kernel
theorem d_X10_told_138 : decode cX10_told 138 = .ok (.iconst 0, 1) := by decide +kernel
theorem d_X10_told_139 : decode cX10_told 139 = .ok (.invokestatic 319, 3) := by decide +kernel
theorem d_X10_told_142 : decode cX10_told 142 = .ok (.ireturn, 1) := by decide +kernel
theorem d_X10_told_143 : decode cX10_told 143 = .ok (.aload_n 0, 1) := by decide +kernel
theorem d_X10_told_144 : decode cX10_told 144 = .ok (.getfield 58, 3) := by decide +kernel
theorem d_X10_told_147 : decode cX10_told 147 = .ok (.bipush 64, 2) := by decide +kernel
theorem d_X10_told_149 : decode cX10_told 149 = .ok (.invokestatic 319, 3) := by decide +kernel
theorem d_X10_told_152 : decode cX10_told 152 = .ok (.ireturn, 1) := by decide +kernel
theorem d_X10_told_153 : decode cX10_told 153 = .ok (.aload_n 0, 1) := by decide +kernel
theorem d_X10_told_154 : decode cX10_told 154 = .ok (.getfield 58, 3) := by decide +kernel
theorem d_X10_told_157 : decode cX10_told 157 = .ok (.sipush 128, 3) := by decide +kernel
theorem d_X10_told_160 : decode cX10_told 160 = .ok (.invokestatic 319, 3) := by decide +kernel
theorem d_X10_told_163 : decode cX10_told 163 = .ok (.ireturn, 1) := by decide +kernel
theorem d_X10_told_164 : decode cX10_told 164 = .ok (.aload_n 0, 1) := by decide +kernel
theorem d_X10_told_165 : decode cX10_told 165 = .ok (.getfield 58, 3) := by decide +kernel
theorem d_X10_told_168 : decode cX10_told 168 = .ok (.sipush 194, 3) := by decide +kernel
theorem d_X10_told_171 : decode cX10_told 171 = .ok (.iaload, 1) := by decide +kernel
theorem d_X10_told_172 : decode cX10_told 172 = .ok (.ireturn, 1) := by decide +kernel
theorem d_X10_told_173 : decode cX10_told 173 = .ok (.aload_n 0, 1) := by decide +kernel
theorem d_X10_told_174 : decode cX10_told 174 = .ok (.getfield 175, 3) := by decide +kernel
theorem d_X10_told_177 : decode cX10_told 177 = .ok (.ireturn, 1) := by decide +kernel
theorem d_X10_told_178 : decode cX10_told 178 = .ok (.aload_n 0, 1) := by decide +kernel
theorem d_X10_told_179 : decode cX10_told 179 = .ok (.getfield 181, 3) := by decide +kernel
theorem d_X10_told_182 : decode cX10_told 182 = .ok (.ireturn, 1) := by decide +kernel
theorem d_X10_told_183 : decode cX10_told 183 = .ok (.aload_n 0, 1) := by decide +kernel
theorem d_X10_told_184 : decode cX10_told 184 = .ok (.invokevirtual 323, 3) := by decide +kernel
theorem d_X10_told_187 : decode cX10_told 187 = .ok (.ireturn, 1) := by decide +kernel
theorem d_X10_told_188 : decode cX10_told 188 = .ok (.aload_n 0, 1) := by decide +kernel
theorem d_X10_told_189 : decode cX10_told 189 = .ok (.aload_n 0, 1) := by decide +kernel
theorem d_X10_told_190 : decode cX10_told 190 = .ok (.getfield 58, 3) := by decide +kernel
theorem d_X10_told_193 : decode cX10_told 193 = .ok (.iconst 1, 1) := by decide +kernel
theorem d_X10_told_194 : decode cX10_told 194 = .ok (.invokevirtual 326, 3) := by decide +kernel
theorem d_X10_told_197 : decode cX10_told 197 = .ok (.ireturn, 1) := by decide +kernel
noncomputable def F_X10_told_188 (p0 : Int32) (M : zMem) : Option (Int32 × zMem) :=
  zb (F_X10_dryOnes M 451 (1 : Int32)) fun v2 M1 =>
  some (v2, M1)
noncomputable def F_X10_told_183 (p0 : Int32) (M : zMem) : Option (Int32 × zMem) :=
  zb (F_X10_heaps M) fun v4 M3 =>
  some (v4, M3)
noncomputable def F_X10_told_178 (p0 : Int32) (M : zMem) : Option (Int32 × zMem) :=
  some ((M.1 0 32), M)
noncomputable def F_X10_told_173 (p0 : Int32) (M : zMem) : Option (Int32 × zMem) :=
  some ((M.1 0 30), M)
noncomputable def F_X10_told_164 (p0 : Int32) (M : zMem) : Option (Int32 × zMem) :=
  some ((M.1 451 194), M)
noncomputable def F_X10_told_153 (p0 : Int32) (M : zMem) : Option (Int32 × zMem) :=
  zb (F_X10_together M 451 (128 : Int32)) fun v6 M5 =>
  some (v6, M5)
noncomputable def F_X10_told_143 (p0 : Int32) (M : zMem) : Option (Int32 × zMem) :=
  zb (F_X10_together M 451 (64 : Int32)) fun v8 M7 =>
  some (v8, M7)
noncomputable def F_X10_told_134 (p0 : Int32) (M : zMem) : Option (Int32 × zMem) :=
  zb (F_X10_together M 451 (0 : Int32)) fun v10 M9 =>
  some (v10, M9)
noncomputable def F_X10_told_112 (p0 : Int32) (M : zMem) : Option (Int32 × zMem) :=
  if (M.1 4 2) = 0 then
    some ((-1 : Int32), M)
  else
    some ((M.1 451 193), M)
noncomputable def F_X10_told_103 (p0 : Int32) (M : zMem) : Option (Int32 × zMem) :=
  some ((M.1 451 192), M)
noncomputable def F_X10_told_96 (p0 : Int32) (b96_L1 : Int32) (M : zMem) : Option (Int32 × zMem) :=
  gin b96_L1 3 <|
  some ((M.1 4 b96_L1.toNatClampNeg), M)
noncomputable def F_X10_told_21 (p0 : Int32) (b21_L1 : Int32) (b21_S1 : Int32) (M : zMem) : Option (Int32 × zMem) :=
  zb (F_X10_bad M b21_S1 (1 : Int32) (1 : Int32)) fun v13 M12 =>
  if v13 = 0 then
    if b21_L1 = 0 then
      F_X10_told_96 p0 b21_L1 M12
    else
    if b21_L1 = 1 then
      F_X10_told_96 p0 b21_L1 M12
    else
    if b21_L1 = 2 then
      F_X10_told_96 p0 b21_L1 M12
    else
    if b21_L1 = 3 then
      F_X10_told_103 p0 M12
    else
    if b21_L1 = 4 then
      F_X10_told_112 p0 M12
    else
    if b21_L1 = 5 then
      F_X10_told_134 p0 M12
    else
    if b21_L1 = 6 then
      F_X10_told_143 p0 M12
    else
    if b21_L1 = 7 then
      F_X10_told_153 p0 M12
    else
    if b21_L1 = 8 then
      F_X10_told_164 p0 M12
    else
    if b21_L1 = 9 then
      F_X10_told_173 p0 M12
    else
    if b21_L1 = 10 then
      F_X10_told_178 p0 M12
    else
    if b21_L1 = 11 then
      F_X10_told_183 p0 M12
    else
    F_X10_told_188 p0 M12
  else
    some ((0 : Int32), M12)
noncomputable def F_X10_told (M : zMem) (p0 : Int32) : Option (Int32 × zMem) :=
  zl (zI M 0 0 (0 : Int32)) fun M14 =>
  zb (F_X10_in M14 p0 (0 : Int32) (12 : Int32)) fun v16 M15 =>
  if v16 = 0 then
    F_X10_told_21 p0 p0 (1 : Int32) M15
  else
    F_X10_told_21 p0 p0 (0 : Int32) M15
def rm_X10_told : Room := { frames := 6, cells := 0, slots := 0, locals := 169 }
set_option maxHeartbeats 4000000 in
set_option maxRecDepth 100000 in
theorem c_X10_told (l : Launch) {G : zG} {ad : Nat → Nat} {n : Nat} (hA : zInj ad n) (M : zMem) (p0 : Int32) (hT : zT shM n 0 11) {r9 : Int32} {M9 : zMem} (hF : F_X10_told M p0 = some (r9, M9)) : zM l yX10_told cX10_told 2 (some .int) rm_X10_told G shM ad n M [.ref (ad 0), .int p0] (some (.int r9)) M9 := by
  refine zM_of hA (by decide +kernel) (lv := [(0, .ref (ad 0)), (1, .int p0)]) (Nat.le_of_ble_eq_true rfl) rfl (fun p e s m args below meth c A cx hr => ?_)
  have hb188 : ∀ (M : zMem), F_X10_told_188 p0 M = some (r9, M9) → zJ p l e rm_X10_told s m args below meth c G shM ad n A 2 (MQ below (zQ G shM ad n M9 (some (.int r9)) A) args s 0 0 A) 0 0 M 188 [(0, .ref (ad 0))] [] := by
    intro M hF
    unfold F_X10_told_188 at hF
    refine z_aload_n cx d_X10_told_188 0 rfl ?_
    refine z_aload_n cx d_X10_told_189 0 rfl ?_
    refine z_getR cx hT fg_SunnyPansModel_58 451 rfl d_X10_told_190 ?_
    refine z_iconst (v := 1) cx d_X10_told_193 ki_1 ?_
    obtain ⟨v2, M1, hc, hF⟩ := zb_inv hF
    refine z_callV cx (As := [.ref (ad 451), .int (1 : Int32)]) (rest := []) (c_X10_dryOnes l cx.2.2.2.1.1 M 451 (1 : Int32) hT (tfM_11_451 hT) hc) hT zo_11 cv_SunnyPansModel_326 ⟨rfl, rfl, Nat.le_of_ble_eq_true rfl, Nat.le_of_ble_eq_true rfl⟩ rfl rfl ⟨Nat.zero_le _, Nat.zero_le _⟩ (Nat.le_of_ble_eq_true rfl) d_X10_told_194 ?_
    exact z_iret cx hr rfl hF d_X10_told_197
  have hb183 : ∀ (M : zMem), F_X10_told_183 p0 M = some (r9, M9) → zJ p l e rm_X10_told s m args below meth c G shM ad n A 2 (MQ below (zQ G shM ad n M9 (some (.int r9)) A) args s 0 0 A) 0 0 M 183 [(0, .ref (ad 0))] [] := by
    intro M hF
    unfold F_X10_told_183 at hF
    refine z_aload_n cx d_X10_told_183 0 rfl ?_
    obtain ⟨v4, M3, hc, hF⟩ := zb_inv hF
    refine z_callV cx (As := []) (rest := []) (c_X10_heaps l cx.2.2.2.1.1 M hT hc) hT zo_11 cv_SunnyPansModel_323 ⟨rfl, rfl, Nat.le_of_ble_eq_true rfl, Nat.le_of_ble_eq_true rfl⟩ rfl rfl ⟨Nat.zero_le _, Nat.zero_le _⟩ (Nat.le_of_ble_eq_true rfl) d_X10_told_184 ?_
    exact z_iret cx hr rfl hF d_X10_told_187
  have hb178 : ∀ (M : zMem), F_X10_told_178 p0 M = some (r9, M9) → zJ p l e rm_X10_told s m args below meth c G shM ad n A 2 (MQ below (zQ G shM ad n M9 (some (.int r9)) A) args s 0 0 A) 0 0 M 178 [(0, .ref (ad 0))] [] := by
    intro M hF
    unfold F_X10_told_178 at hF
    refine z_aload_n cx d_X10_told_178 0 rfl ?_
    refine z_getI cx hT fg_SunnyPansModel_181 d_X10_told_179 ?_
    exact z_iret cx hr rfl hF d_X10_told_182
  have hb173 : ∀ (M : zMem), F_X10_told_173 p0 M = some (r9, M9) → zJ p l e rm_X10_told s m args below meth c G shM ad n A 2 (MQ below (zQ G shM ad n M9 (some (.int r9)) A) args s 0 0 A) 0 0 M 173 [(0, .ref (ad 0))] [] := by
    intro M hF
    unfold F_X10_told_173 at hF
    refine z_aload_n cx d_X10_told_173 0 rfl ?_
    refine z_getI cx hT fg_SunnyPansModel_175 d_X10_told_174 ?_
    exact z_iret cx hr rfl hF d_X10_told_177
  have hb164 : ∀ (M : zMem), F_X10_told_164 p0 M = some (r9, M9) → zJ p l e rm_X10_told s m args below meth c G shM ad n A 2 (MQ below (zQ G shM ad n M9 (some (.int r9)) A) args s 0 0 A) 0 0 M 164 [(0, .ref (ad 0))] [] := by
    intro M hF
    unfold F_X10_told_164 at hF
    refine z_aload_n cx d_X10_told_164 0 rfl ?_
    refine z_getR cx hT fg_SunnyPansModel_58 451 rfl d_X10_told_165 ?_
    refine z_sipush (v := 194) cx d_X10_told_168 ks_194 ?_
    refine z_iald cx (tfM_11_451 hT) za_36 (zvp (by decide +kernel)) 194 rfl d_X10_told_171 ?_
    exact z_iret cx hr rfl hF d_X10_told_172
  have hb153 : ∀ (M : zMem), F_X10_told_153 p0 M = some (r9, M9) → zJ p l e rm_X10_told s m args below meth c G shM ad n A 2 (MQ below (zQ G shM ad n M9 (some (.int r9)) A) args s 0 0 A) 0 0 M 153 [(0, .ref (ad 0))] [] := by
    intro M hF
    unfold F_X10_told_153 at hF
    refine z_aload_n cx d_X10_told_153 0 rfl ?_
    refine z_getR cx hT fg_SunnyPansModel_58 451 rfl d_X10_told_154 ?_
    refine z_sipush (v := 128) cx d_X10_told_157 ks_128 ?_
    obtain ⟨v6, M5, hc, hF⟩ := zb_inv hF
    refine z_callS cx (As := [.ref (ad 451), .int (128 : Int32)]) (rest := []) (c_X10_together l cx.2.2.2.1.1 M 451 (128 : Int32) (tfM_11_451 hT) hc) cs_SunnyPansModel_319 ⟨rfl, rfl, Nat.le_of_ble_eq_true rfl, Nat.le_of_ble_eq_true rfl⟩ rfl rfl ⟨Nat.zero_le _, Nat.zero_le _⟩ (Nat.le_of_ble_eq_true rfl) d_X10_told_160 ?_
    exact z_iret cx hr rfl hF d_X10_told_163
  have hb143 : ∀ (M : zMem), F_X10_told_143 p0 M = some (r9, M9) → zJ p l e rm_X10_told s m args below meth c G shM ad n A 2 (MQ below (zQ G shM ad n M9 (some (.int r9)) A) args s 0 0 A) 0 0 M 143 [(0, .ref (ad 0))] [] := by
    intro M hF
    unfold F_X10_told_143 at hF
    refine z_aload_n cx d_X10_told_143 0 rfl ?_
    refine z_getR cx hT fg_SunnyPansModel_58 451 rfl d_X10_told_144 ?_
    refine z_bipush (v := 64) cx d_X10_told_147 kb_64 ?_
    obtain ⟨v8, M7, hc, hF⟩ := zb_inv hF
    refine z_callS cx (As := [.ref (ad 451), .int (64 : Int32)]) (rest := []) (c_X10_together l cx.2.2.2.1.1 M 451 (64 : Int32) (tfM_11_451 hT) hc) cs_SunnyPansModel_319 ⟨rfl, rfl, Nat.le_of_ble_eq_true rfl, Nat.le_of_ble_eq_true rfl⟩ rfl rfl ⟨Nat.zero_le _, Nat.zero_le _⟩ (Nat.le_of_ble_eq_true rfl) d_X10_told_149 ?_
    exact z_iret cx hr rfl hF d_X10_told_152
  have hb134 : ∀ (M : zMem), F_X10_told_134 p0 M = some (r9, M9) → zJ p l e rm_X10_told s m args below meth c G shM ad n A 2 (MQ below (zQ G shM ad n M9 (some (.int r9)) A) args s 0 0 A) 0 0 M 134 [(0, .ref (ad 0))] [] := by
    intro M hF
    unfold F_X10_told_134 at hF
    refine z_aload_n cx d_X10_told_134 0 rfl ?_
    refine z_getR cx hT fg_SunnyPansModel_58 451 rfl d_X10_told_135 ?_
    refine z_iconst (v := 0) cx d_X10_told_138 ki_0 ?_
    obtain ⟨v10, M9, hc, hF⟩ := zb_inv hF
    refine z_callS cx (As := [.ref (ad 451), .int (0 : Int32)]) (rest := []) (c_X10_together l cx.2.2.2.1.1 M 451 (0 : Int32) (tfM_11_451 hT) hc) cs_SunnyPansModel_319 ⟨rfl, rfl, Nat.le_of_ble_eq_true rfl, Nat.le_of_ble_eq_true rfl⟩ rfl rfl ⟨Nat.zero_le _, Nat.zero_le _⟩ (Nat.le_of_ble_eq_true rfl) d_X10_told_139 ?_
    exact z_iret cx hr rfl hF d_X10_told_142
  have hb112 : ∀ (M : zMem), F_X10_told_112 p0 M = some (r9, M9) → zJ p l e rm_X10_told s m args below meth c G shM ad n A 2 (MQ below (zQ G shM ad n M9 (some (.int r9)) A) args s 0 0 A) 0 0 M 112 [(0, .ref (ad 0))] [] := by
    intro M hF
    unfold F_X10_told_112 at hF
    refine z_aload_n cx d_X10_told_112 0 rfl ?_
    refine z_getR cx hT fg_SunnyPansModel_23 4 rfl d_X10_told_113 ?_
    refine z_iconst (v := 2) cx d_X10_told_116 ki_2 ?_
    refine z_iald cx (tfM_11_4 hT) za_28 (zvp (by decide +kernel)) 2 rfl d_X10_told_117 ?_
    refine z_if_ne cx 125 d_X10_told_118 (by decide) hF (fun hF => ?_) (fun hF => ?_)
    · refine z_aload_n cx d_X10_told_125 0 rfl ?_
      refine z_getR cx hT fg_SunnyPansModel_58 451 rfl d_X10_told_126 ?_
      refine z_sipush (v := 193) cx d_X10_told_129 ks_193 ?_
      refine z_iald cx (tfM_11_451 hT) za_36 (zvp (by decide +kernel)) 193 rfl d_X10_told_132 ?_
      exact z_iret cx hr rfl hF d_X10_told_133
    refine z_iconst (v := -1) cx d_X10_told_121 ki_m1 ?_
    refine z_goto cx 133 d_X10_told_122 (by decide) ?_
    exact z_iret cx hr rfl hF d_X10_told_133
  have hb103 : ∀ (M : zMem), F_X10_told_103 p0 M = some (r9, M9) → zJ p l e rm_X10_told s m args below meth c G shM ad n A 2 (MQ below (zQ G shM ad n M9 (some (.int r9)) A) args s 0 0 A) 0 0 M 103 [(0, .ref (ad 0))] [] := by
    intro M hF
    unfold F_X10_told_103 at hF
    refine z_aload_n cx d_X10_told_103 0 rfl ?_
    refine z_getR cx hT fg_SunnyPansModel_58 451 rfl d_X10_told_104 ?_
    refine z_sipush (v := 192) cx d_X10_told_107 ks_192 ?_
    refine z_iald cx (tfM_11_451 hT) za_36 (zvp (by decide +kernel)) 192 rfl d_X10_told_110 ?_
    exact z_iret cx hr rfl hF d_X10_told_111
  have hb96 : ∀ (b96_L1 : Int32) (M : zMem), F_X10_told_96 p0 b96_L1 M = some (r9, M9) → zJ p l e rm_X10_told s m args below meth c G shM ad n A 2 (MQ below (zQ G shM ad n M9 (some (.int r9)) A) args s 0 0 A) 0 0 M 96 [(0, .ref (ad 0)), (1, .int b96_L1)] [] := by
    intro b96_L1 M hF
    unfold F_X10_told_96 at hF
    refine z_aload_n cx d_X10_told_96 0 rfl ?_
    refine z_getR cx hT fg_SunnyPansModel_23 4 rfl d_X10_told_97 ?_
    refine z_iload_n cx d_X10_told_100 1 rfl ?_
    obtain ⟨hi11, hF⟩ := gin_inv hF
    refine z_iald cx (tfM_11_4 hT) za_28 hi11 b96_L1.toNatClampNeg rfl d_X10_told_101 ?_
    exact z_iret cx hr rfl hF d_X10_told_102
  have hb21 : ∀ (b21_L1 : Int32) (b21_S1 : Int32) (M : zMem), F_X10_told_21 p0 b21_L1 b21_S1 M = some (r9, M9) → zJ p l e rm_X10_told s m args below meth c G shM ad n A 2 (MQ below (zQ G shM ad n M9 (some (.int r9)) A) args s 0 0 A) 0 0 M 21 [(0, .ref (ad 0)), (1, .int b21_L1)] [.int b21_S1, .ref (ad 0)] := by
    intro b21_L1 b21_S1 M hF
    unfold F_X10_told_21 at hF
    refine z_iconst (v := 1) cx d_X10_told_21 ki_1 ?_
    refine z_iconst (v := 1) cx d_X10_told_22 ki_1 ?_
    obtain ⟨v13, M12, hc, hF⟩ := zb_inv hF
    refine z_callV cx (As := [.int b21_S1, .int (1 : Int32), .int (1 : Int32)]) (rest := []) (c_X10_bad l cx.2.2.2.1.1 M b21_S1 (1 : Int32) (1 : Int32) hT hc) hT zo_11 cv_SunnyPansModel_155 ⟨rfl, rfl, Nat.le_of_ble_eq_true rfl, Nat.le_of_ble_eq_true rfl⟩ rfl rfl ⟨Nat.zero_le _, Nat.zero_le _⟩ (Nat.le_of_ble_eq_true rfl) d_X10_told_23 ?_
    refine z_if_eq cx 31 d_X10_told_26 (by decide) hF (fun hF => ?_) (fun hF => ?_)
    · refine z_iload_n cx d_X10_told_31 1 rfl ?_
      by_cases q0 : b21_L1 = 0
      · rw [if_pos q0] at hF
        refine z_tabIn cx 96 d_X10_told_32 (by rw [q0]; decide +kernel) (by rw [q0]; decide +kernel) (by rw [q0]; rfl) (by decide) ?_
        exact hb96 b21_L1 M12 hF
      rw [if_neg q0] at hF
      by_cases q1 : b21_L1 = 1
      · rw [if_pos q1] at hF
        refine z_tabIn cx 96 d_X10_told_32 (by rw [q1]; decide +kernel) (by rw [q1]; decide +kernel) (by rw [q1]; rfl) (by decide) ?_
        exact hb96 b21_L1 M12 hF
      rw [if_neg q1] at hF
      by_cases q2 : b21_L1 = 2
      · rw [if_pos q2] at hF
        refine z_tabIn cx 96 d_X10_told_32 (by rw [q2]; decide +kernel) (by rw [q2]; decide +kernel) (by rw [q2]; rfl) (by decide) ?_
        exact hb96 b21_L1 M12 hF
      rw [if_neg q2] at hF
      by_cases q3 : b21_L1 = 3
      · rw [if_pos q3] at hF
        refine z_tabIn cx 103 d_X10_told_32 (by rw [q3]; decide +kernel) (by rw [q3]; decide +kernel) (by rw [q3]; rfl) (by decide) ?_
        exact z_lv [0] _ rfl (hb103 M12 hF)
      rw [if_neg q3] at hF
      by_cases q4 : b21_L1 = 4
      · rw [if_pos q4] at hF
        refine z_tabIn cx 112 d_X10_told_32 (by rw [q4]; decide +kernel) (by rw [q4]; decide +kernel) (by rw [q4]; rfl) (by decide) ?_
        exact z_lv [0] _ rfl (hb112 M12 hF)
      rw [if_neg q4] at hF
      by_cases q5 : b21_L1 = 5
      · rw [if_pos q5] at hF
        refine z_tabIn cx 134 d_X10_told_32 (by rw [q5]; decide +kernel) (by rw [q5]; decide +kernel) (by rw [q5]; rfl) (by decide) ?_
        exact z_lv [0] _ rfl (hb134 M12 hF)
      rw [if_neg q5] at hF
      by_cases q6 : b21_L1 = 6
      · rw [if_pos q6] at hF
        refine z_tabIn cx 143 d_X10_told_32 (by rw [q6]; decide +kernel) (by rw [q6]; decide +kernel) (by rw [q6]; rfl) (by decide) ?_
        exact z_lv [0] _ rfl (hb143 M12 hF)
      rw [if_neg q6] at hF
      by_cases q7 : b21_L1 = 7
      · rw [if_pos q7] at hF
        refine z_tabIn cx 153 d_X10_told_32 (by rw [q7]; decide +kernel) (by rw [q7]; decide +kernel) (by rw [q7]; rfl) (by decide) ?_
        exact z_lv [0] _ rfl (hb153 M12 hF)
      rw [if_neg q7] at hF
      by_cases q8 : b21_L1 = 8
      · rw [if_pos q8] at hF
        refine z_tabIn cx 164 d_X10_told_32 (by rw [q8]; decide +kernel) (by rw [q8]; decide +kernel) (by rw [q8]; rfl) (by decide) ?_
        exact z_lv [0] _ rfl (hb164 M12 hF)
      rw [if_neg q8] at hF
      by_cases q9 : b21_L1 = 9
      · rw [if_pos q9] at hF
        refine z_tabIn cx 173 d_X10_told_32 (by rw [q9]; decide +kernel) (by rw [q9]; decide +kernel) (by rw [q9]; rfl) (by decide) ?_
        exact z_lv [0] _ rfl (hb173 M12 hF)
      rw [if_neg q9] at hF
      by_cases q10 : b21_L1 = 10
      · rw [if_pos q10] at hF
        refine z_tabIn cx 178 d_X10_told_32 (by rw [q10]; decide +kernel) (by rw [q10]; decide +kernel) (by rw [q10]; rfl) (by decide) ?_
        exact z_lv [0] _ rfl (hb178 M12 hF)
      rw [if_neg q10] at hF
      by_cases q11 : b21_L1 = 11
      · rw [if_pos q11] at hF
        refine z_tabIn cx 183 d_X10_told_32 (by rw [q11]; decide +kernel) (by rw [q11]; decide +kernel) (by rw [q11]; rfl) (by decide) ?_
        exact z_lv [0] _ rfl (hb183 M12 hF)
      rw [if_neg q11] at hF
      refine z_tabOut cx 188 d_X10_told_32 (by have w0 := lv_neT q0 (a := 0) (by decide +kernel); have w1 := lv_neT q1 (a := 1) (by decide +kernel); have w2 := lv_neT q2 (a := 2) (by decide +kernel); have w3 := lv_neT q3 (a := 3) (by decide +kernel); have w4 := lv_neT q4 (a := 4) (by decide +kernel); have w5 := lv_neT q5 (a := 5) (by decide +kernel); have w6 := lv_neT q6 (a := 6) (by decide +kernel); have w7 := lv_neT q7 (a := 7) (by decide +kernel); have w8 := lv_neT q8 (a := 8) (by decide +kernel); have w9 := lv_neT q9 (a := 9) (by decide +kernel); have w10 := lv_neT q10 (a := 10) (by decide +kernel); have w11 := lv_neT q11 (a := 11) (by decide +kernel); omega) (by decide) ?_
      exact z_lv [0] _ rfl (hb188 M12 hF)
    refine z_iconst (v := 0) cx d_X10_told_29 ki_0 ?_
    exact z_iret cx hr rfl hF d_X10_told_30
  unfold F_X10_told at hF
  refine z_aload_n cx d_X10_told_0 0 rfl ?_
  refine z_iconst (v := 0) cx d_X10_told_1 ki_0 ?_
  refine z_putI cx hT fp_SunnyPansModel_82 d_X10_told_2 ?_
  refine z_nmM hF (fun M14 hF => ?_)
  refine z_aload_n cx d_X10_told_5 0 rfl ?_
  refine z_iload_n cx d_X10_told_6 1 rfl ?_
  refine z_iconst (v := 0) cx d_X10_told_7 ki_0 ?_
  refine z_bipush (v := 12) cx d_X10_told_8 kb_12 ?_
  obtain ⟨v16, M15, hc, hF⟩ := zb_inv hF
  refine z_callS cx (As := [.int p0, .int (0 : Int32), .int (12 : Int32)]) (rest := [.ref (ad 0)]) (c_X10_in l cx.2.2.2.1.1 M14 p0 (0 : Int32) (12 : Int32)  hc) cs_SunnyPansModel_116 ⟨rfl, rfl, Nat.le_of_ble_eq_true rfl, Nat.le_of_ble_eq_true rfl⟩ rfl rfl ⟨Nat.zero_le _, Nat.zero_le _⟩ (Nat.le_of_ble_eq_true rfl) d_X10_told_10 ?_
  refine z_if_ne cx 20 d_X10_told_13 (by decide) hF (fun hF => ?_) (fun hF => ?_)
  · refine z_iconst (v := 0) cx d_X10_told_20 ki_0 ?_
    exact hb21 p0 (0 : Int32) M15 hF
  refine z_iconst (v := 1) cx d_X10_told_16 ki_1 ?_
  refine z_goto cx 21 d_X10_told_17 (by decide) ?_
  exact hb21 p0 (1 : Int32) M15 hF
/-! SunnyPansModel.strength -/
theorem d_X10_strength_0 : decode cX10_strength 0 = .ok (.aload_n 0, 1) := by decide +kernel
theorem d_X10_strength_1 : decode cX10_strength 1 = .ok (.bipush 64, 2) := by decide +kernel
theorem d_X10_strength_3 : decode cX10_strength 3 = .ok (.iload_n 1, 1) := by decide +kernel
theorem d_X10_strength_4 : decode cX10_strength 4 = .ok (.iadd, 1) := by decide +kernel
theorem d_X10_strength_5 : decode cX10_strength 5 = .ok (.iaload, 1) := by decide +kernel
theorem d_X10_strength_6 : decode cX10_strength 6 = .ok (.aload_n 0, 1) := by decide +kernel
theorem d_X10_strength_7 : decode cX10_strength 7 = .ok (.iconst 0, 1) := by decide +kernel
theorem d_X10_strength_8 : decode cX10_strength 8 = .ok (.iload_n 1, 1) := by decide +kernel
theorem d_X10_strength_9 : decode cX10_strength 9 = .ok (.iadd, 1) := by decide +kernel
theorem d_X10_strength_10 : decode cX10_strength 10 = .ok (.iaload, 1) := by decide +kernel
theorem d_X10_strength_11 : decode cX10_strength 11 = .ok (.iadd, 1) := by decide +kernel
theorem d_X10_strength_12 : decode cX10_strength 12 = .ok (.istore_n 2, 1) := by decide +kernel
theorem d_X10_strength_13 : decode cX10_strength 13 = .ok (.iload_n 2, 1) := by decide +kernel
theorem d_X10_strength_14 : decode cX10_strength 14 = .ok (.ifCond .ne 7, 3) := by decide +kernel
theorem d_X10_strength_17 : decode cX10_strength 17 = .ok (.iconst 0, 1) := by decide +kernel
theorem d_X10_strength_18 : decode cX10_strength 18 = .ok (.goto 15, 3) := by decide +kernel
theorem d_X10_strength_21 : decode cX10_strength 21 = .ok (.sipush 1000, 3) := by decide +kernel
theorem d_X10_strength_24 : decode cX10_strength 24 = .ok (.aload_n 0, 1) := by decide +kernel
theorem d_X10_strength_25 : decode cX10_strength 25 = .ok (.bipush 64, 2) := by decide +kernel
theorem d_X10_strength_27 : decode cX10_strength 27 = .ok (.iload_n 1, 1) := by decide +kernel
theorem d_X10_strength_28 : decode cX10_strength 28 = .ok (.iadd, 1) := by decide +kernel
theorem d_X10_strength_29 : decode cX10_strength 29 = .ok (.iaload, 1) := by decide +kernel
theorem d_X10_strength_30 : decode cX10_strength 30 = .ok (.imul, 1) := by decide +kernel
theorem d_X10_strength_31 : decode cX10_strength 31 = .ok (.iload_n 2, 1) := by decide +kernel
theorem d_X10_strength_32 : decode cX10_strength 32 = .ok (.idiv, 1) := by decide +kernel
theorem d_X10_strength_33 : decode cX10_strength 33 = .ok (.ireturn, 1) := by decide +kernel
noncomputable def F_X10_strength (M : zMem) (p0 : Nat) (p1 : Int32) : Option (Int32 × zMem) :=
  gin ((64 : Int32) + p1) 195 <|
  gin ((0 : Int32) + p1) 195 <|
  zl ((M.1 p0 ((64 : Int32) + p1).toNatClampNeg) + (M.1 p0 ((0 : Int32) + p1).toNatClampNeg)) fun v3 =>
  if v3 = 0 then
    some ((0 : Int32), M)
  else
    gd (!(v3 == 0)) <|
    some ((((1000 : Int32) * (M.1 p0 ((64 : Int32) + p1).toNatClampNeg)) / v3), M)
def rm_X10_strength : Room := { frames := 2, cells := 0, slots := 0, locals := 80 }
set_option maxHeartbeats 4000000 in
set_option maxRecDepth 100000 in
theorem c_X10_strength (l : Launch) {G : zG} {ad : Nat → Nat} {n : Nat} (hA : zInj ad n) (M : zMem) (p0 : Nat) (p1 : Int32) (hT_p0 : zT shM n p0 36) {r9 : Int32} {M9 : zMem} (hF : F_X10_strength M p0 p1 = some (r9, M9)) : zM l yX10_strength cX10_strength 3 (some .int) rm_X10_strength G shM ad n M [.ref (ad p0), .int p1] (some (.int r9)) M9 := by
  refine zM_of hA (by decide +kernel) (lv := [(0, .ref (ad p0)), (1, .int p1)]) (Nat.le_of_ble_eq_true rfl) rfl (fun p e s m args below meth c A cx hr => ?_)
  unfold F_X10_strength at hF
  refine z_aload_n cx d_X10_strength_0 0 rfl ?_
  refine z_bipush (v := 64) cx d_X10_strength_1 kb_64 ?_
  refine z_iload_n cx d_X10_strength_3 1 rfl ?_
  refine z_iadd cx d_X10_strength_4 ?_
  obtain ⟨hi1, hF⟩ := gin_inv hF
  refine z_iald cx hT_p0 za_36 hi1 (((64 : Int32) + p1).toNatClampNeg) rfl d_X10_strength_5 ?_
  refine z_aload_n cx d_X10_strength_6 0 rfl ?_
  refine z_iconst (v := 0) cx d_X10_strength_7 ki_0 ?_
  refine z_iload_n cx d_X10_strength_8 1 rfl ?_
  refine z_iadd cx d_X10_strength_9 ?_
  obtain ⟨hi2, hF⟩ := gin_inv hF
  refine z_iald cx hT_p0 za_36 hi2 (((0 : Int32) + p1).toNatClampNeg) rfl d_X10_strength_10 ?_
  refine z_iadd cx d_X10_strength_11 ?_
  refine z_nm hF (fun v3 hF => ?_)
  refine z_istore_n cx 2 [(2, .int v3), (0, .ref (ad p0)), (1, .int p1)] d_X10_strength_12 rfl (by decide) rfl ?_
  refine z_iload_n cx d_X10_strength_13 0 rfl ?_
  refine z_if_ne cx 21 d_X10_strength_14 (by decide) hF (fun hF => ?_) (fun hF => ?_)
  · refine z_sipush (v := 1000) cx d_X10_strength_21 ks_1000 ?_
    refine z_aload_n cx d_X10_strength_24 1 rfl ?_
    refine z_bipush (v := 64) cx d_X10_strength_25 kb_64 ?_
    refine z_iload_n cx d_X10_strength_27 2 rfl ?_
    refine z_iadd cx d_X10_strength_28 ?_
    refine z_iald cx hT_p0 za_36 hi1 (((64 : Int32) + p1).toNatClampNeg) rfl d_X10_strength_29 ?_
    refine z_imul cx d_X10_strength_30 ?_
    refine z_iload_n cx d_X10_strength_31 0 rfl ?_
    obtain ⟨hz4, hF⟩ := gd_inv hF
    refine z_idiv cx d_X10_strength_32 (zne hz4) ?_
    exact z_iret cx hr rfl hF d_X10_strength_33
  refine z_iconst (v := 0) cx d_X10_strength_17 ki_0 ?_
  refine z_goto cx 33 d_X10_strength_18 (by decide) ?_
  exact z_iret cx hr rfl hF d_X10_strength_33
/-! SunnyPansModel.sunOf -/
theorem d_X10_sunOf_0 : decode cX10_sunOf 0 = .ok (.iconst 0, 1) := by decide +kernel
theorem d_X10_sunOf_1 : decode cX10_sunOf 1 = .ok (.istore_n 2, 1) := by decide +kernel
theorem d_X10_sunOf_2 : decode cX10_sunOf 2 = .ok (.iconst 0, 1) := by decide +kernel
theorem d_X10_sunOf_3 : decode cX10_sunOf 3 = .ok (.istore_n 3, 1) := by decide +kernel
theorem d_X10_sunOf_4 : decode cX10_sunOf 4 = .ok (.iload_n 3, 1) := by decide +kernel
theorem d_X10_sunOf_5 : decode cX10_sunOf 5 = .ok (.aload_n 0, 1) := by decide +kernel
theorem d_X10_sunOf_6 : decode cX10_sunOf 6 = .ok (.getfield 23, 3) := by decide +kernel
theorem d_X10_sunOf_9 : decode cX10_sunOf 9 = .ok (.iconst 2, 1) := by decide +kernel
theorem d_X10_sunOf_10 : decode cX10_sunOf 10 = .ok (.iaload, 1) := by decide +kernel
theorem d_X10_sunOf_11 : decode cX10_sunOf 11 = .ok (.if_icmp .ge 30, 3) := by decide +kernel
theorem d_X10_sunOf_14 : decode cX10_sunOf 14 = .ok (.iload_n 2, 1) := by decide +kernel
theorem d_X10_sunOf_15 : decode cX10_sunOf 15 = .ok (.aload_n 0, 1) := by decide +kernel
theorem d_X10_sunOf_16 : decode cX10_sunOf 16 = .ok (.aload_n 0, 1) := by decide +kernel
theorem d_X10_sunOf_17 : decode cX10_sunOf 17 = .ok (.getfield 58, 3) := by decide +kernel
theorem d_X10_sunOf_20 : decode cX10_sunOf 20 = .ok (.iload_n 1, 1) := by decide +kernel
theorem d_X10_sunOf_21 : decode cX10_sunOf 21 = .ok (.iload_n 3, 1) := by decide +kernel
theorem d_X10_sunOf_22 : decode cX10_sunOf 22 = .ok (.invokevirtual 264, 3) := by decide +kernel
theorem d_X10_sunOf_25 : decode cX10_sunOf 25 = .ok (.ifCond .eq 7, 3) := by decide +kernel
theorem d_X10_sunOf_28 : decode cX10_sunOf 28 = .ok (.iconst 0, 1) := by decide +kernel
theorem d_X10_sunOf_29 : decode cX10_sunOf 29 = .ok (.goto 4, 3) := by decide +kernel
theorem d_X10_sunOf_32 : decode cX10_sunOf 32 = .ok (.iconst 1, 1) := by decide +kernel
theorem d_X10_sunOf_33 : decode cX10_sunOf 33 = .ok (.iadd, 1) := by decide +kernel
theorem d_X10_sunOf_34 : decode cX10_sunOf 34 = .ok (.istore_n 2, 1) := by decide +kernel
theorem d_X10_sunOf_35 : decode cX10_sunOf 35 = .ok (.iinc 3 1, 3) := by decide +kernel
theorem d_X10_sunOf_38 : decode cX10_sunOf 38 = .ok (.goto (-34), 3) := by decide +kernel
theorem d_X10_sunOf_41 : decode cX10_sunOf 41 = .ok (.iload_n 2, 1) := by decide +kernel
theorem d_X10_sunOf_42 : decode cX10_sunOf 42 = .ok (.ireturn, 1) := by decide +kernel
noncomputable def F_X10_sunOf_33 (p0 : Int32) (self4 : Int32 → Int32 → Int32 → zMem → Option (Int32 × zMem)) (b33_L1 : Int32) (b33_L3 : Int32) (b33_S0 : Int32) (b33_S1 : Int32) (M : zMem) : Option (Int32 × zMem) :=
  zl (b33_S0 + b33_S1) fun v1 =>
  self4 b33_L1 v1 (b33_L3 + 1) M
noncomputable def F_X10_sunOf_4 (p0 : Int32) (self4 : Int32 → Int32 → Int32 → zMem → Option (Int32 × zMem)) (b4_L1 : Int32) (b4_L2 : Int32) (b4_L3 : Int32) (M : zMem) : Option (Int32 × zMem) :=
  if (M.1 4 2) ≤ b4_L3 then
    some (b4_L2, M)
  else
    zb (F_X10_isShade M 451 b4_L1 b4_L3) fun v3 M2 =>
    if v3 = 0 then
      F_X10_sunOf_33 p0 self4 b4_L1 b4_L3 b4_L2 (1 : Int32) M2
    else
      F_X10_sunOf_33 p0 self4 b4_L1 b4_L3 b4_L2 (0 : Int32) M2
noncomputable def F_X10_sunOf (M : zMem) (p0 : Int32) : Option (Int32 × zMem) :=
  itF (fun _ _ _ _ => none) (F_X10_sunOf_4 p0) zFuel p0 (0 : Int32) (0 : Int32) M
def rm_X10_sunOf : Room := { frames := 6, cells := 0, slots := 0, locals := 173 }
set_option maxHeartbeats 4000000 in
set_option maxRecDepth 100000 in
theorem c_X10_sunOf (l : Launch) {G : zG} {ad : Nat → Nat} {n : Nat} (hA : zInj ad n) (M : zMem) (p0 : Int32) (hT : zT shM n 0 11) {r9 : Int32} {M9 : zMem} (hF : F_X10_sunOf M p0 = some (r9, M9)) : zM l yX10_sunOf cX10_sunOf 4 (some .int) rm_X10_sunOf G shM ad n M [.ref (ad 0), .int p0] (some (.int r9)) M9 := by
  refine zM_of hA (by decide +kernel) (lv := [(0, .ref (ad 0)), (1, .int p0)]) (Nat.le_of_ble_eq_true rfl) rfl (fun p e s m args below meth c A cx hr => ?_)
  have hb33 : ∀ (self4 : Int32 → Int32 → Int32 → zMem → Option (Int32 × zMem)) (hs4 : ∀ (b4_L1 : Int32) (b4_L2 : Int32) (b4_L3 : Int32) (M : zMem), self4 b4_L1 b4_L2 b4_L3 M = some (r9, M9) → zJ p l e rm_X10_sunOf s m args below meth c G shM ad n A 4 (MQ below (zQ G shM ad n M9 (some (.int r9)) A) args s 0 0 A) 0 0 M 4 [(0, .ref (ad 0)), (1, .int b4_L1), (2, .int b4_L2), (3, .int b4_L3)] []), ∀ (b33_L1 : Int32) (b33_L3 : Int32) (b33_S0 : Int32) (b33_S1 : Int32) (M : zMem), F_X10_sunOf_33 p0 self4 b33_L1 b33_L3 b33_S0 b33_S1 M = some (r9, M9) → zJ p l e rm_X10_sunOf s m args below meth c G shM ad n A 4 (MQ below (zQ G shM ad n M9 (some (.int r9)) A) args s 0 0 A) 0 0 M 33 [(0, .ref (ad 0)), (1, .int b33_L1), (3, .int b33_L3)] [.int b33_S1, .int b33_S0] := by
    intro self4 hs4 b33_L1 b33_L3 b33_S0 b33_S1 M hF
    unfold F_X10_sunOf_33 at hF
    refine z_iadd cx d_X10_sunOf_33 ?_
    refine z_nm hF (fun v1 hF => ?_)
    refine z_istore_n cx 2 [(2, .int v1), (0, .ref (ad 0)), (1, .int b33_L1), (3, .int b33_L3)] d_X10_sunOf_34 rfl (by decide) rfl ?_
    refine z_iinc cx 3 1 [(3, .int (b33_L3 + 1)), (2, .int v1), (0, .ref (ad 0)), (1, .int b33_L1)] d_X10_sunOf_35 3 rfl ki_1 (by decide) rfl ?_
    refine z_goto cx 4 d_X10_sunOf_38 (by decide) ?_
    exact z_lv [2, 3, 1, 0] _ rfl (hs4 b33_L1 v1 (b33_L3 + 1) M hF)
  have hL4 : ∀ (fuel : Nat), ∀ (b4_L1 : Int32) (b4_L2 : Int32) (b4_L3 : Int32) (M : zMem), itF (fun _ _ _ _ => none) (F_X10_sunOf_4 p0) fuel b4_L1 b4_L2 b4_L3 M = some (r9, M9) → zJ p l e rm_X10_sunOf s m args below meth c G shM ad n A 4 (MQ below (zQ G shM ad n M9 (some (.int r9)) A) args s 0 0 A) 0 0 M 4 [(0, .ref (ad 0)), (1, .int b4_L1), (2, .int b4_L2), (3, .int b4_L3)] [] := by
    intro fuel
    induction fuel with
    | zero => intro b4_L1 b4_L2 b4_L3 M hF; cases hF
    | succ fuel hs4 =>
      intro b4_L1 b4_L2 b4_L3 M hF
      have hF : F_X10_sunOf_4 p0 (itF (fun _ _ _ _ => none) (F_X10_sunOf_4 p0) fuel) b4_L1 b4_L2 b4_L3 M = some (r9, M9) := hF
      generalize itF (fun _ _ _ _ => none) (F_X10_sunOf_4 p0) fuel = self4 at hs4 hF
      unfold F_X10_sunOf_4 at hF
      refine z_iload_n cx d_X10_sunOf_4 3 rfl ?_
      refine z_aload_n cx d_X10_sunOf_5 0 rfl ?_
      refine z_getR cx hT fg_SunnyPansModel_23 4 rfl d_X10_sunOf_6 ?_
      refine z_iconst (v := 2) cx d_X10_sunOf_9 ki_2 ?_
      refine z_iald cx (tfM_11_4 hT) za_28 (zvp (by decide +kernel)) 2 rfl d_X10_sunOf_10 ?_
      refine z_icmp_ge cx 41 d_X10_sunOf_11 (by decide) hF (fun hF => ?_) (fun hF => ?_)
      · refine z_iload_n cx d_X10_sunOf_41 2 rfl ?_
        exact z_iret cx hr rfl hF d_X10_sunOf_42
      refine z_iload_n cx d_X10_sunOf_14 2 rfl ?_
      refine z_aload_n cx d_X10_sunOf_15 0 rfl ?_
      refine z_aload_n cx d_X10_sunOf_16 0 rfl ?_
      refine z_getR cx hT fg_SunnyPansModel_58 451 rfl d_X10_sunOf_17 ?_
      refine z_iload_n cx d_X10_sunOf_20 1 rfl ?_
      refine z_iload_n cx d_X10_sunOf_21 3 rfl ?_
      obtain ⟨v3, M2, hc, hF⟩ := zb_inv hF
      refine z_callV cx (As := [.ref (ad 451), .int b4_L1, .int b4_L3]) (rest := [.int b4_L2]) (c_X10_isShade l cx.2.2.2.1.1 M 451 b4_L1 b4_L3 hT (tfM_11_451 hT) hc) hT zo_11 cv_SunnyPansModel_264 ⟨rfl, rfl, Nat.le_of_ble_eq_true rfl, Nat.le_of_ble_eq_true rfl⟩ rfl rfl ⟨Nat.zero_le _, Nat.zero_le _⟩ (Nat.le_of_ble_eq_true rfl) d_X10_sunOf_22 ?_
      refine z_if_eq cx 32 d_X10_sunOf_25 (by decide) hF (fun hF => ?_) (fun hF => ?_)
      · refine z_iconst (v := 1) cx d_X10_sunOf_32 ki_1 ?_
        exact z_lv [0, 1, 3] _ rfl (hb33 self4 hs4 b4_L1 b4_L3 b4_L2 (1 : Int32) M2 hF)
      refine z_iconst (v := 0) cx d_X10_sunOf_28 ki_0 ?_
      refine z_goto cx 33 d_X10_sunOf_29 (by decide) ?_
      exact z_lv [0, 1, 3] _ rfl (hb33 self4 hs4 b4_L1 b4_L3 b4_L2 (0 : Int32) M2 hF)
  unfold F_X10_sunOf at hF
  refine z_iconst (v := 0) cx d_X10_sunOf_0 ki_0 ?_
  refine z_istore_n cx 2 [(2, .int (0 : Int32)), (0, .ref (ad 0)), (1, .int p0)] d_X10_sunOf_1 rfl (by decide) rfl ?_
  refine z_iconst (v := 0) cx d_X10_sunOf_2 ki_0 ?_
  refine z_istore_n cx 3 [(3, .int (0 : Int32)), (2, .int (0 : Int32)), (0, .ref (ad 0)), (1, .int p0)] d_X10_sunOf_3 rfl (by decide) rfl ?_
  exact z_lv [2, 3, 1, 0] _ rfl (hL4 zFuel p0 (0 : Int32) (0 : Int32) M hF)
/-! SunnyPansModel.pan -/
set_option maxRecDepth 100000 in
theorem wd_1772 : Cond.code yX10_sunOf cX10_sunOf 4 (some .int) ∈ tbG := tw7 232 rfl rfl
set_option maxRecDepth 100000 in
theorem wd_1769 : Cond.methodLink "SunnyPansModel" 333 yX10_sunOf ∈ tbG := tw7 229 rfl rfl
set_option maxRecDepth 100000 in
theorem wd_1771 : Cond.instanceMethod yX10_sunOf ∈ tbG := tw7 231 rfl rfl
theorem wd_84 : Cond.selects "SunnyPansModel" yX10_sunOf yX10_sunOf ∈ tbG := tw 84 (by decide +kernel) rfl
theorem cv_SunnyPansModel_333 : zCV "SunnyPansModel" 333 "SunnyPansModel" yX10_sunOf cX10_sunOf 4 (some .int) 1 := zCV_of wd_1769 wd_1771 wd_84 wd_111 wd_1772 (by decide +kernel)
set_option maxRecDepth 100000 in
theorem wd_1768 : Cond.code yX10_strength cX10_strength 3 (some .int) ∈ tbG := tw7 228 rfl rfl
set_option maxRecDepth 100000 in
theorem wd_1766 : Cond.methodLink "SunnyPansModel" 330 yX10_strength ∈ tbG := tw7 226 rfl rfl
set_option maxRecDepth 100000 in
theorem wd_1767 : Cond.static yX10_strength ∈ tbG := tw7 227 rfl rfl
theorem cs_SunnyPansModel_330 : zCS "SunnyPansModel" 330 yX10_strength cX10_strength 3 (some .int) 2 := zCS_of wd_1766 wd_1767 wd_111 wd_1768 (by decide +kernel)
theorem d_X10_pan_0 : decode cX10_pan 0 = .ok (.aload_n 0, 1) := by decide +kernel
theorem d_X10_pan_1 : decode cX10_pan 1 = .ok (.iconst 0, 1) := by decide +kernel
theorem d_X10_pan_2 : decode cX10_pan 2 = .ok (.putfield 82, 3) := by decide +kernel
theorem d_X10_pan_5 : decode cX10_pan 5 = .ok (.aload_n 0, 1) := by decide +kernel
theorem d_X10_pan_6 : decode cX10_pan 6 = .ok (.aload_n 0, 1) := by decide +kernel
theorem d_X10_pan_7 : decode cX10_pan 7 = .ok (.iload_n 1, 1) := by decide +kernel
theorem d_X10_pan_8 : decode cX10_pan 8 = .ok (.iload_n 2, 1) := by decide +kernel
theorem d_X10_pan_9 : decode cX10_pan 9 = .ok (.invokevirtual 237, 3) := by decide +kernel
theorem d_X10_pan_12 : decode cX10_pan 12 = .ok (.ifCond .ne 7, 3) := by decide +kernel
theorem d_X10_pan_15 : decode cX10_pan 15 = .ok (.iconst 1, 1) := by decide +kernel
theorem d_X10_pan_16 : decode cX10_pan 16 = .ok (.goto 4, 3) := by decide +kernel
theorem d_X10_pan_19 : decode cX10_pan 19 = .ok (.iconst 0, 1) := by decide +kernel
theorem d_X10_pan_20 : decode cX10_pan 20 = .ok (.iconst 1, 1) := by decide +kernel
theorem d_X10_pan_21 : decode cX10_pan 21 = .ok (.iconst 0, 1) := by decide +kernel
theorem d_X10_pan_22 : decode cX10_pan 22 = .ok (.invokevirtual 155, 3) := by decide +kernel
theorem d_X10_pan_25 : decode cX10_pan 25 = .ok (.ifCond .ne 27, 3) := by decide +kernel
theorem d_X10_pan_28 : decode cX10_pan 28 = .ok (.aload_n 0, 1) := by decide +kernel
theorem d_X10_pan_29 : decode cX10_pan 29 = .ok (.iload_n 3, 1) := by decide +kernel
theorem d_X10_pan_30 : decode cX10_pan 30 = .ok (.iconst 0, 1) := by decide +kernel
theorem d_X10_pan_31 : decode cX10_pan 31 = .ok (.bipush 6, 2) := by decide +kernel
theorem d_X10_pan_33 : decode cX10_pan 33 = .ok (.invokestatic 116, 3) := by decide +kernel
theorem d_X10_pan_36 : decode cX10_pan 36 = .ok (.ifCond .ne 7, 3) := by decide +kernel
theorem d_X10_pan_39 : decode cX10_pan 39 = .ok (.iconst 1, 1) := by decide +kernel
theorem d_X10_pan_40 : decode cX10_pan 40 = .ok (.goto 4, 3) := by decide +kernel
theorem d_X10_pan_43 : decode cX10_pan 43 = .ok (.iconst 0, 1) := by decide +kernel
theorem d_X10_pan_44 : decode cX10_pan 44 = .ok (.iconst 2, 1) := by decide +kernel
theorem d_X10_pan_45 : decode cX10_pan 45 = .ok (.iconst 1, 1) := by decide +kernel
theorem d_X10_pan_46 : decode cX10_pan 46 = .ok (.invokevirtual 155, 3) := by decide +kernel
theorem d_X10_pan_49 : decode cX10_pan 49 = .ok (.ifCond .eq 5, 3) := by decide +kernel
theorem d_X10_pan_52 : decode cX10_pan 52 = .ok (.iconst 0, 1) := by decide +kernel
theorem d_X10_pan_53 : decode cX10_pan 53 = .ok (.ireturn, 1) := by decide +kernel
theorem d_X10_pan_54 : decode cX10_pan 54 = .ok (.bipush 8, 2) := by decide +kernel
theorem d_X10_pan_56 : decode cX10_pan 56 = .ok (.iload_n 2, 1) := by decide +kernel
theorem d_X10_pan_57 : decode cX10_pan 57 = .ok (.imul, 1) := by decide +kernel
theorem d_X10_pan_58 : decode cX10_pan 58 = .ok (.iload_n 1, 1) := by decide +kernel
theorem d_X10_pan_59 : decode cX10_pan 59 = .ok (.iadd, 1) := by decide +kernel
theorem d_X10_pan_60 : decode cX10_pan 60 = .ok (.istore 4, 2) := by decide +kernel
theorem d_X10_pan_62 : decode cX10_pan 62 = .ok (.iload_n 3, 1) := by decide +kernel
theorem d_X10_pan_63 : decode cX10_pan 63 = .ok (.tableswitch 102 0 5 #[37, 47, 58, 68, 80, 95], 37) := by decide +kernel
theorem d_X10_pan_100 : decode cX10_pan 100 = .ok (.aload_n 0, 1) := by decide +kernel
theorem d_X10_pan_101 : decode cX10_pan 101 = .ok (.getfield 58, 3) := by decide +kernel
theorem d_X10_pan_104 : decode cX10_pan 104 = .ok (.iconst 0, 1) := by decide +kernel
theorem d_X10_pan_105 : decode cX10_pan 105 = .ok (.iload 4, 2) := by decide +kernel
theorem d_X10_pan_107 : decode cX10_pan 107 = .ok (.iadd, 1) := by decide +kernel
theorem d_X10_pan_108 : decode cX10_pan 108 = .ok (.iaload, 1) := by decide +kernel
theorem d_X10_pan_109 : decode cX10_pan 109 = .ok (.ireturn, 1) := by decide +kernel
theorem d_X10_pan_110 : decode cX10_pan 110 = .ok (.aload_n 0, 1) := by decide +kernel
theorem d_X10_pan_111 : decode cX10_pan 111 = .ok (.getfield 58, 3) := by decide +kernel
theorem d_X10_pan_114 : decode cX10_pan 114 = .ok (.bipush 64, 2) := by decide +kernel
theorem d_X10_pan_116 : decode cX10_pan 116 = .ok (.iload 4, 2) := by decide +kernel
theorem d_X10_pan_118 : decode cX10_pan 118 = .ok (.iadd, 1) := by decide +kernel
theorem d_X10_pan_119 : decode cX10_pan 119 = .ok (.iaload, 1) := by decide +kernel
theorem d_X10_pan_120 : decode cX10_pan 120 = .ok (.ireturn, 1) := by decide +kernel
theorem d_X10_pan_121 : decode cX10_pan 121 = .ok (.aload_n 0, 1) := by decide +kernel
theorem d_X10_pan_122 : decode cX10_pan 122 = .ok (.getfield 58, 3) := by decide +kernel
theorem d_X10_pan_125 : decode cX10_pan 125 = .ok (.iload 4, 2) := by decide +kernel
theorem d_X10_pan_127 : decode cX10_pan 127 = .ok (.invokestatic 330, 3) := by decide +kernel
theorem d_X10_pan_130 : decode cX10_pan 130 = .ok (.ireturn, 1) := by decide +kernel
theorem d_X10_pan_131 : decode cX10_pan 131 = .ok (.aload_n 0, 1) := by decide +kernel
theorem d_X10_pan_132 : decode cX10_pan 132 = .ok (.getfield 58, 3) := by decide +kernel
theorem d_X10_pan_135 : decode cX10_pan 135 = .ok (.sipush 128, 3) := by decide +kernel
theorem d_X10_pan_138 : decode cX10_pan 138 = .ok (.iload 4, 2) := by decide +kernel
theorem d_X10_pan_140 : decode cX10_pan 140 = .ok (.iadd, 1) := by decide +kernel
theorem d_X10_pan_141 : decode cX10_pan 141 = .ok (.iaload, 1) := by decide +kernel
theorem d_X10_pan_142 : decode cX10_pan 142 = .ok (.ireturn, 1) := by decide +kernel
theorem d_X10_pan_143 : decode cX10_pan 143 = .ok (.aload_n 0, 1) := by decide +kernel
theorem d_X10_pan_144 : decode cX10_pan 144 = .ok (.getfield 58, 3) := by decide +kernel
theorem d_X10_pan_147 : decode cX10_pan 147 = .ok (.sipush 128, 3) := by decide +kernel
theorem d_X10_pan_150 : decode cX10_pan 150 = .ok (.iload 4, 2) := by decide +kernel
theorem d_X10_pan_152 : decode cX10_pan 152 = .ok (.iadd, 1) := by decide +kernel
theorem d_X10_pan_153 : decode cX10_pan 153 = .ok (.iaload, 1) := by decide +kernel
theorem d_X10_pan_154 : decode cX10_pan 154 = .ok (.invokestatic 241, 3) := by decide +kernel
theorem d_X10_pan_157 : decode cX10_pan 157 = .ok (.ireturn, 1) := by decide +kernel
theorem d_X10_pan_158 : decode cX10_pan 158 = .ok (.aload_n 0, 1) := by decide +kernel
theorem d_X10_pan_159 : decode cX10_pan 159 = .ok (.iload 4, 2) := by decide +kernel
theorem d_X10_pan_161 : decode cX10_pan 161 = .ok (.invokevirtual 333, 3) := by decide +kernel
theorem d_X10_pan_164 : decode cX10_pan 164 = .ok (.ireturn, 1) := by decide +kernel
theorem d_X10_pan_165 : decode cX10_pan 165 = .ok (.aload_n 0, 1) := by decide +kernel
theorem d_X10_pan_166 : decode cX10_pan 166 = .ok (.getfield 23, 3) := by decide +kernel
theorem d_X10_pan_169 : decode cX10_pan 169 = .ok (.iconst 2, 1) := by decide +kernel
theorem d_X10_pan_170 : decode cX10_pan 170 = .ok (.iaload, 1) := by decide +kernel
theorem d_X10_pan_171 : decode cX10_pan 171 = .ok (.ifCond .le 28, 3) := by decide +kernel
theorem d_X10_pan_174 : decode cX10_pan 174 = .ok (.aload_n 0, 1) := by decide +kernel
theorem d_X10_pan_175 : decode cX10_pan 175 = .ok (.aload_n 0, 1) := by decide +kernel
theorem d_X10_pan_176 : decode cX10_pan 176 = .ok (.getfield 58, 3) := by decide +kernel
theorem d_X10_pan_179 : decode cX10_pan 179 = .ok (.iload 4, 2) := by decide +kernel
theorem d_X10_pan_181 : decode cX10_pan 181 = .ok (.aload_n 0, 1) := by decide +kernel
theorem d_X10_pan_182 : decode cX10_pan 182 = .ok (.getfield 58, 3) := by decide +kernel
theorem d_X10_pan_185 : decode cX10_pan 185 = .ok (.sipush 193, 3) := by decide +kernel
theorem d_X10_pan_188 : decode cX10_pan 188 = .ok (.iaload, 1) := by decide +kernel
theorem d_X10_pan_189 : decode cX10_pan 189 = .ok (.invokevirtual 264, 3) := by decide +kernel
theorem d_X10_pan_192 : decode cX10_pan 192 = .ok (.ifCond .eq 7, 3) := by decide +kernel
theorem d_X10_pan_195 : decode cX10_pan 195 = .ok (.iconst 1, 1) := by decide +kernel
theorem d_X10_pan_196 : decode cX10_pan 196 = .ok (.goto 4, 3) := by decide +kernel
theorem d_X10_pan_199 : decode cX10_pan 199 = .ok (.iconst 0, 1) := by decide +kernel
theorem d_X10_pan_200 : decode cX10_pan 200 = .ok (.ireturn, 1) := by decide +kernel
noncomputable def F_X10_pan_165 (p0 : Int32) (p1 : Int32) (p2 : Int32) (b165_L4 : Int32) (M : zMem) : Option (Int32 × zMem) :=
  if (M.1 4 2) ≤ 0 then
    some ((0 : Int32), M)
  else
    zb (F_X10_isShade M 451 b165_L4 (M.1 451 193)) fun v2 M1 =>
    if v2 = 0 then
      some ((0 : Int32), M1)
    else
      some ((1 : Int32), M1)
noncomputable def F_X10_pan_158 (p0 : Int32) (p1 : Int32) (p2 : Int32) (b158_L4 : Int32) (M : zMem) : Option (Int32 × zMem) :=
  zb (F_X10_sunOf M b158_L4) fun v4 M3 =>
  some (v4, M3)
noncomputable def F_X10_pan_143 (p0 : Int32) (p1 : Int32) (p2 : Int32) (b143_L4 : Int32) (M : zMem) : Option (Int32 × zMem) :=
  gin ((128 : Int32) + b143_L4) 195 <|
  zb (F_X10_high M (M.1 451 ((128 : Int32) + b143_L4).toNatClampNeg)) fun v7 M6 =>
  some (v7, M6)
noncomputable def F_X10_pan_131 (p0 : Int32) (p1 : Int32) (p2 : Int32) (b131_L4 : Int32) (M : zMem) : Option (Int32 × zMem) :=
  gin ((128 : Int32) + b131_L4) 195 <|
  some ((M.1 451 ((128 : Int32) + b131_L4).toNatClampNeg), M)
noncomputable def F_X10_pan_121 (p0 : Int32) (p1 : Int32) (p2 : Int32) (b121_L4 : Int32) (M : zMem) : Option (Int32 × zMem) :=
  zb (F_X10_strength M 451 b121_L4) fun v10 M9 =>
  some (v10, M9)
noncomputable def F_X10_pan_110 (p0 : Int32) (p1 : Int32) (p2 : Int32) (b110_L4 : Int32) (M : zMem) : Option (Int32 × zMem) :=
  gin ((64 : Int32) + b110_L4) 195 <|
  some ((M.1 451 ((64 : Int32) + b110_L4).toNatClampNeg), M)
noncomputable def F_X10_pan_100 (p0 : Int32) (p1 : Int32) (p2 : Int32) (b100_L4 : Int32) (M : zMem) : Option (Int32 × zMem) :=
  gin ((0 : Int32) + b100_L4) 195 <|
  some ((M.1 451 ((0 : Int32) + b100_L4).toNatClampNeg), M)
noncomputable def F_X10_pan_44 (p0 : Int32) (p1 : Int32) (p2 : Int32) (b44_L1 : Int32) (b44_L2 : Int32) (b44_L3 : Int32) (b44_S1 : Int32) (M : zMem) : Option (Int32 × zMem) :=
  zb (F_X10_bad M b44_S1 (2 : Int32) (1 : Int32)) fun v14 M13 =>
  if v14 = 0 then
    zl (((8 : Int32) * b44_L2) + b44_L1) fun v15 =>
    if b44_L3 = 0 then
      F_X10_pan_100 p0 p1 p2 v15 M13
    else
    if b44_L3 = 1 then
      F_X10_pan_110 p0 p1 p2 v15 M13
    else
    if b44_L3 = 2 then
      F_X10_pan_121 p0 p1 p2 v15 M13
    else
    if b44_L3 = 3 then
      F_X10_pan_131 p0 p1 p2 v15 M13
    else
    if b44_L3 = 4 then
      F_X10_pan_143 p0 p1 p2 v15 M13
    else
    if b44_L3 = 5 then
      F_X10_pan_158 p0 p1 p2 v15 M13
    else
    F_X10_pan_165 p0 p1 p2 v15 M13
  else
    some ((0 : Int32), M13)
noncomputable def F_X10_pan_20 (p0 : Int32) (p1 : Int32) (p2 : Int32) (b20_L1 : Int32) (b20_L2 : Int32) (b20_L3 : Int32) (b20_S1 : Int32) (M : zMem) : Option (Int32 × zMem) :=
  zb (F_X10_bad M b20_S1 (1 : Int32) (0 : Int32)) fun v17 M16 =>
  if v17 = 0 then
    zb (F_X10_in M16 b20_L3 (0 : Int32) (6 : Int32)) fun v19 M18 =>
    if v19 = 0 then
      F_X10_pan_44 p0 p1 p2 b20_L1 b20_L2 b20_L3 (1 : Int32) M18
    else
      F_X10_pan_44 p0 p1 p2 b20_L1 b20_L2 b20_L3 (0 : Int32) M18
  else
    some ((0 : Int32), M16)
noncomputable def F_X10_pan (M : zMem) (p0 : Int32) (p1 : Int32) (p2 : Int32) : Option (Int32 × zMem) :=
  zl (zI M 0 0 (0 : Int32)) fun M20 =>
  zb (F_X10_isWithin M20 p0 p1) fun v22 M21 =>
  if v22 = 0 then
    F_X10_pan_20 p0 p1 p2 p0 p1 p2 (1 : Int32) M21
  else
    F_X10_pan_20 p0 p1 p2 p0 p1 p2 (0 : Int32) M21
def rm_X10_pan : Room := { frames := 7, cells := 0, slots := 0, locals := 196 }
set_option maxHeartbeats 4000000 in
set_option maxRecDepth 100000 in
theorem c_X10_pan (l : Launch) {G : zG} {ad : Nat → Nat} {n : Nat} (hA : zInj ad n) (M : zMem) (p0 : Int32) (p1 : Int32) (p2 : Int32) (hT : zT shM n 0 11) {r9 : Int32} {M9 : zMem} (hF : F_X10_pan M p0 p1 p2 = some (r9, M9)) : zM l yX10_pan cX10_pan 5 (some .int) rm_X10_pan G shM ad n M [.ref (ad 0), .int p0, .int p1, .int p2] (some (.int r9)) M9 := by
  refine zM_of hA (by decide +kernel) (lv := [(0, .ref (ad 0)), (1, .int p0), (2, .int p1), (3, .int p2)]) (Nat.le_of_ble_eq_true rfl) rfl (fun p e s m args below meth c A cx hr => ?_)
  have hb165 : ∀ (b165_L4 : Int32) (M : zMem), F_X10_pan_165 p0 p1 p2 b165_L4 M = some (r9, M9) → zJ p l e rm_X10_pan s m args below meth c G shM ad n A 5 (MQ below (zQ G shM ad n M9 (some (.int r9)) A) args s 0 0 A) 0 0 M 165 [(0, .ref (ad 0)), (4, .int b165_L4)] [] := by
    intro b165_L4 M hF
    unfold F_X10_pan_165 at hF
    refine z_aload_n cx d_X10_pan_165 0 rfl ?_
    refine z_getR cx hT fg_SunnyPansModel_23 4 rfl d_X10_pan_166 ?_
    refine z_iconst (v := 2) cx d_X10_pan_169 ki_2 ?_
    refine z_iald cx (tfM_11_4 hT) za_28 (zvp (by decide +kernel)) 2 rfl d_X10_pan_170 ?_
    refine z_if_le cx 199 d_X10_pan_171 (by decide) hF (fun hF => ?_) (fun hF => ?_)
    · refine z_iconst (v := 0) cx d_X10_pan_199 ki_0 ?_
      exact z_iret cx hr rfl hF d_X10_pan_200
    refine z_aload_n cx d_X10_pan_174 0 rfl ?_
    refine z_aload_n cx d_X10_pan_175 0 rfl ?_
    refine z_getR cx hT fg_SunnyPansModel_58 451 rfl d_X10_pan_176 ?_
    refine z_iload cx d_X10_pan_179 1 rfl ?_
    refine z_aload_n cx d_X10_pan_181 0 rfl ?_
    refine z_getR cx hT fg_SunnyPansModel_58 451 rfl d_X10_pan_182 ?_
    refine z_sipush (v := 193) cx d_X10_pan_185 ks_193 ?_
    refine z_iald cx (tfM_11_451 hT) za_36 (zvp (by decide +kernel)) 193 rfl d_X10_pan_188 ?_
    obtain ⟨v2, M1, hc, hF⟩ := zb_inv hF
    refine z_callV cx (As := [.ref (ad 451), .int b165_L4, .int (M.1 451 193)]) (rest := []) (c_X10_isShade l cx.2.2.2.1.1 M 451 b165_L4 (M.1 451 193) hT (tfM_11_451 hT) hc) hT zo_11 cv_SunnyPansModel_264 ⟨rfl, rfl, Nat.le_of_ble_eq_true rfl, Nat.le_of_ble_eq_true rfl⟩ rfl rfl ⟨Nat.zero_le _, Nat.zero_le _⟩ (Nat.le_of_ble_eq_true rfl) d_X10_pan_189 ?_
    refine z_if_eq cx 199 d_X10_pan_192 (by decide) hF (fun hF => ?_) (fun hF => ?_)
    · refine z_iconst (v := 0) cx d_X10_pan_199 ki_0 ?_
      exact z_iret cx hr rfl hF d_X10_pan_200
    refine z_iconst (v := 1) cx d_X10_pan_195 ki_1 ?_
    refine z_goto cx 200 d_X10_pan_196 (by decide) ?_
    exact z_iret cx hr rfl hF d_X10_pan_200
  have hb158 : ∀ (b158_L4 : Int32) (M : zMem), F_X10_pan_158 p0 p1 p2 b158_L4 M = some (r9, M9) → zJ p l e rm_X10_pan s m args below meth c G shM ad n A 5 (MQ below (zQ G shM ad n M9 (some (.int r9)) A) args s 0 0 A) 0 0 M 158 [(0, .ref (ad 0)), (4, .int b158_L4)] [] := by
    intro b158_L4 M hF
    unfold F_X10_pan_158 at hF
    refine z_aload_n cx d_X10_pan_158 0 rfl ?_
    refine z_iload cx d_X10_pan_159 1 rfl ?_
    obtain ⟨v4, M3, hc, hF⟩ := zb_inv hF
    refine z_callV cx (As := [.int b158_L4]) (rest := []) (c_X10_sunOf l cx.2.2.2.1.1 M b158_L4 hT hc) hT zo_11 cv_SunnyPansModel_333 ⟨rfl, rfl, Nat.le_of_ble_eq_true rfl, Nat.le_of_ble_eq_true rfl⟩ rfl rfl ⟨Nat.zero_le _, Nat.zero_le _⟩ (Nat.le_of_ble_eq_true rfl) d_X10_pan_161 ?_
    exact z_iret cx hr rfl hF d_X10_pan_164
  have hb143 : ∀ (b143_L4 : Int32) (M : zMem), F_X10_pan_143 p0 p1 p2 b143_L4 M = some (r9, M9) → zJ p l e rm_X10_pan s m args below meth c G shM ad n A 5 (MQ below (zQ G shM ad n M9 (some (.int r9)) A) args s 0 0 A) 0 0 M 143 [(0, .ref (ad 0)), (4, .int b143_L4)] [] := by
    intro b143_L4 M hF
    unfold F_X10_pan_143 at hF
    refine z_aload_n cx d_X10_pan_143 0 rfl ?_
    refine z_getR cx hT fg_SunnyPansModel_58 451 rfl d_X10_pan_144 ?_
    refine z_sipush (v := 128) cx d_X10_pan_147 ks_128 ?_
    refine z_iload cx d_X10_pan_150 1 rfl ?_
    refine z_iadd cx d_X10_pan_152 ?_
    obtain ⟨hi5, hF⟩ := gin_inv hF
    refine z_iald cx (tfM_11_451 hT) za_36 hi5 (((128 : Int32) + b143_L4).toNatClampNeg) rfl d_X10_pan_153 ?_
    obtain ⟨v7, M6, hc, hF⟩ := zb_inv hF
    refine z_callS cx (As := [.int (M.1 451 ((128 : Int32) + b143_L4).toNatClampNeg)]) (rest := []) (c_X10_high l cx.2.2.2.1.1 M (M.1 451 ((128 : Int32) + b143_L4).toNatClampNeg)  hc) cs_SunnyPansModel_241 ⟨rfl, rfl, Nat.le_of_ble_eq_true rfl, Nat.le_of_ble_eq_true rfl⟩ rfl rfl ⟨Nat.zero_le _, Nat.zero_le _⟩ (Nat.le_of_ble_eq_true rfl) d_X10_pan_154 ?_
    exact z_iret cx hr rfl hF d_X10_pan_157
  have hb131 : ∀ (b131_L4 : Int32) (M : zMem), F_X10_pan_131 p0 p1 p2 b131_L4 M = some (r9, M9) → zJ p l e rm_X10_pan s m args below meth c G shM ad n A 5 (MQ below (zQ G shM ad n M9 (some (.int r9)) A) args s 0 0 A) 0 0 M 131 [(0, .ref (ad 0)), (4, .int b131_L4)] [] := by
    intro b131_L4 M hF
    unfold F_X10_pan_131 at hF
    refine z_aload_n cx d_X10_pan_131 0 rfl ?_
    refine z_getR cx hT fg_SunnyPansModel_58 451 rfl d_X10_pan_132 ?_
    refine z_sipush (v := 128) cx d_X10_pan_135 ks_128 ?_
    refine z_iload cx d_X10_pan_138 1 rfl ?_
    refine z_iadd cx d_X10_pan_140 ?_
    obtain ⟨hi8, hF⟩ := gin_inv hF
    refine z_iald cx (tfM_11_451 hT) za_36 hi8 (((128 : Int32) + b131_L4).toNatClampNeg) rfl d_X10_pan_141 ?_
    exact z_iret cx hr rfl hF d_X10_pan_142
  have hb121 : ∀ (b121_L4 : Int32) (M : zMem), F_X10_pan_121 p0 p1 p2 b121_L4 M = some (r9, M9) → zJ p l e rm_X10_pan s m args below meth c G shM ad n A 5 (MQ below (zQ G shM ad n M9 (some (.int r9)) A) args s 0 0 A) 0 0 M 121 [(0, .ref (ad 0)), (4, .int b121_L4)] [] := by
    intro b121_L4 M hF
    unfold F_X10_pan_121 at hF
    refine z_aload_n cx d_X10_pan_121 0 rfl ?_
    refine z_getR cx hT fg_SunnyPansModel_58 451 rfl d_X10_pan_122 ?_
    refine z_iload cx d_X10_pan_125 1 rfl ?_
    obtain ⟨v10, M9, hc, hF⟩ := zb_inv hF
    refine z_callS cx (As := [.ref (ad 451), .int b121_L4]) (rest := []) (c_X10_strength l cx.2.2.2.1.1 M 451 b121_L4 (tfM_11_451 hT) hc) cs_SunnyPansModel_330 ⟨rfl, rfl, Nat.le_of_ble_eq_true rfl, Nat.le_of_ble_eq_true rfl⟩ rfl rfl ⟨Nat.zero_le _, Nat.zero_le _⟩ (Nat.le_of_ble_eq_true rfl) d_X10_pan_127 ?_
    exact z_iret cx hr rfl hF d_X10_pan_130
  have hb110 : ∀ (b110_L4 : Int32) (M : zMem), F_X10_pan_110 p0 p1 p2 b110_L4 M = some (r9, M9) → zJ p l e rm_X10_pan s m args below meth c G shM ad n A 5 (MQ below (zQ G shM ad n M9 (some (.int r9)) A) args s 0 0 A) 0 0 M 110 [(0, .ref (ad 0)), (4, .int b110_L4)] [] := by
    intro b110_L4 M hF
    unfold F_X10_pan_110 at hF
    refine z_aload_n cx d_X10_pan_110 0 rfl ?_
    refine z_getR cx hT fg_SunnyPansModel_58 451 rfl d_X10_pan_111 ?_
    refine z_bipush (v := 64) cx d_X10_pan_114 kb_64 ?_
    refine z_iload cx d_X10_pan_116 1 rfl ?_
    refine z_iadd cx d_X10_pan_118 ?_
    obtain ⟨hi11, hF⟩ := gin_inv hF
    refine z_iald cx (tfM_11_451 hT) za_36 hi11 (((64 : Int32) + b110_L4).toNatClampNeg) rfl d_X10_pan_119 ?_
    exact z_iret cx hr rfl hF d_X10_pan_120
  have hb100 : ∀ (b100_L4 : Int32) (M : zMem), F_X10_pan_100 p0 p1 p2 b100_L4 M = some (r9, M9) → zJ p l e rm_X10_pan s m args below meth c G shM ad n A 5 (MQ below (zQ G shM ad n M9 (some (.int r9)) A) args s 0 0 A) 0 0 M 100 [(0, .ref (ad 0)), (4, .int b100_L4)] [] := by
    intro b100_L4 M hF
    unfold F_X10_pan_100 at hF
    refine z_aload_n cx d_X10_pan_100 0 rfl ?_
    refine z_getR cx hT fg_SunnyPansModel_58 451 rfl d_X10_pan_101 ?_
    refine z_iconst (v := 0) cx d_X10_pan_104 ki_0 ?_
    refine z_iload cx d_X10_pan_105 1 rfl ?_
    refine z_iadd cx d_X10_pan_107 ?_
    obtain ⟨hi12, hF⟩ := gin_inv hF
    refine z_iald cx (tfM_11_451 hT) za_36 hi12 (((0 : Int32) + b100_L4).toNatClampNeg) rfl d_X10_pan_108 ?_
    exact z_iret cx hr rfl hF d_X10_pan_109
  have hb44 : ∀ (b44_L1 : Int32) (b44_L2 : Int32) (b44_L3 : Int32) (b44_S1 : Int32) (M : zMem), F_X10_pan_44 p0 p1 p2 b44_L1 b44_L2 b44_L3 b44_S1 M = some (r9, M9) → zJ p l e rm_X10_pan s m args below meth c G shM ad n A 5 (MQ below (zQ G shM ad n M9 (some (.int r9)) A) args s 0 0 A) 0 0 M 44 [(0, .ref (ad 0)), (1, .int b44_L1), (2, .int b44_L2), (3, .int b44_L3)] [.int b44_S1, .ref (ad 0)] := by
    intro b44_L1 b44_L2 b44_L3 b44_S1 M hF
    unfold F_X10_pan_44 at hF
    refine z_iconst (v := 2) cx d_X10_pan_44 ki_2 ?_
    refine z_iconst (v := 1) cx d_X10_pan_45 ki_1 ?_
    obtain ⟨v14, M13, hc, hF⟩ := zb_inv hF
    refine z_callV cx (As := [.int b44_S1, .int (2 : Int32), .int (1 : Int32)]) (rest := []) (c_X10_bad l cx.2.2.2.1.1 M b44_S1 (2 : Int32) (1 : Int32) hT hc) hT zo_11 cv_SunnyPansModel_155 ⟨rfl, rfl, Nat.le_of_ble_eq_true rfl, Nat.le_of_ble_eq_true rfl⟩ rfl rfl ⟨Nat.zero_le _, Nat.zero_le _⟩ (Nat.le_of_ble_eq_true rfl) d_X10_pan_46 ?_
    refine z_if_eq cx 54 d_X10_pan_49 (by decide) hF (fun hF => ?_) (fun hF => ?_)
    · refine z_bipush (v := 8) cx d_X10_pan_54 kb_8 ?_
      refine z_iload_n cx d_X10_pan_56 2 rfl ?_
      refine z_imul cx d_X10_pan_57 ?_
      refine z_iload_n cx d_X10_pan_58 1 rfl ?_
      refine z_iadd cx d_X10_pan_59 ?_
      refine z_nm hF (fun v15 hF => ?_)
      refine z_istore cx 4 [(4, .int v15), (0, .ref (ad 0)), (1, .int b44_L1), (2, .int b44_L2), (3, .int b44_L3)] d_X10_pan_60 (by decide) rfl ?_
      refine z_iload_n cx d_X10_pan_62 4 rfl ?_
      by_cases q0 : b44_L3 = 0
      · rw [if_pos q0] at hF
        refine z_tabIn cx 100 d_X10_pan_63 (by rw [q0]; decide +kernel) (by rw [q0]; decide +kernel) (by rw [q0]; rfl) (by decide) ?_
        exact z_lv [1, 0] _ rfl (hb100 v15 M13 hF)
      rw [if_neg q0] at hF
      by_cases q1 : b44_L3 = 1
      · rw [if_pos q1] at hF
        refine z_tabIn cx 110 d_X10_pan_63 (by rw [q1]; decide +kernel) (by rw [q1]; decide +kernel) (by rw [q1]; rfl) (by decide) ?_
        exact z_lv [1, 0] _ rfl (hb110 v15 M13 hF)
      rw [if_neg q1] at hF
      by_cases q2 : b44_L3 = 2
      · rw [if_pos q2] at hF
        refine z_tabIn cx 121 d_X10_pan_63 (by rw [q2]; decide +kernel) (by rw [q2]; decide +kernel) (by rw [q2]; rfl) (by decide) ?_
        exact z_lv [1, 0] _ rfl (hb121 v15 M13 hF)
      rw [if_neg q2] at hF
      by_cases q3 : b44_L3 = 3
      · rw [if_pos q3] at hF
        refine z_tabIn cx 131 d_X10_pan_63 (by rw [q3]; decide +kernel) (by rw [q3]; decide +kernel) (by rw [q3]; rfl) (by decide) ?_
        exact z_lv [1, 0] _ rfl (hb131 v15 M13 hF)
      rw [if_neg q3] at hF
      by_cases q4 : b44_L3 = 4
      · rw [if_pos q4] at hF
        refine z_tabIn cx 143 d_X10_pan_63 (by rw [q4]; decide +kernel) (by rw [q4]; decide +kernel) (by rw [q4]; rfl) (by decide) ?_
        exact z_lv [1, 0] _ rfl (hb143 v15 M13 hF)
      rw [if_neg q4] at hF
      by_cases q5 : b44_L3 = 5
      · rw [if_pos q5] at hF
        refine z_tabIn cx 158 d_X10_pan_63 (by rw [q5]; decide +kernel) (by rw [q5]; decide +kernel) (by rw [q5]; rfl) (by decide) ?_
        exact z_lv [1, 0] _ rfl (hb158 v15 M13 hF)
      rw [if_neg q5] at hF
      refine z_tabOut cx 165 d_X10_pan_63 (by have w0 := lv_neT q0 (a := 0) (by decide +kernel); have w1 := lv_neT q1 (a := 1) (by decide +kernel); have w2 := lv_neT q2 (a := 2) (by decide +kernel); have w3 := lv_neT q3 (a := 3) (by decide +kernel); have w4 := lv_neT q4 (a := 4) (by decide +kernel); have w5 := lv_neT q5 (a := 5) (by decide +kernel); omega) (by decide) ?_
      exact z_lv [1, 0] _ rfl (hb165 v15 M13 hF)
    refine z_iconst (v := 0) cx d_X10_pan_52 ki_0 ?_
    exact z_iret cx hr rfl hF d_X10_pan_53
  have hb20 : ∀ (b20_L1 : Int32) (b20_L2 : Int32) (b20_L3 : Int32) (b20_S1 : Int32) (M : zMem), F_X10_pan_20 p0 p1 p2 b20_L1 b20_L2 b20_L3 b20_S1 M = some (r9, M9) → zJ p l e rm_X10_pan s m args below meth c G shM ad n A 5 (MQ below (zQ G shM ad n M9 (some (.int r9)) A) args s 0 0 A) 0 0 M 20 [(0, .ref (ad 0)), (1, .int b20_L1), (2, .int b20_L2), (3, .int b20_L3)] [.int b20_S1, .ref (ad 0)] := by
    intro b20_L1 b20_L2 b20_L3 b20_S1 M hF
    unfold F_X10_pan_20 at hF
    refine z_iconst (v := 1) cx d_X10_pan_20 ki_1 ?_
    refine z_iconst (v := 0) cx d_X10_pan_21 ki_0 ?_
    obtain ⟨v17, M16, hc, hF⟩ := zb_inv hF
    refine z_callV cx (As := [.int b20_S1, .int (1 : Int32), .int (0 : Int32)]) (rest := []) (c_X10_bad l cx.2.2.2.1.1 M b20_S1 (1 : Int32) (0 : Int32) hT hc) hT zo_11 cv_SunnyPansModel_155 ⟨rfl, rfl, Nat.le_of_ble_eq_true rfl, Nat.le_of_ble_eq_true rfl⟩ rfl rfl ⟨Nat.zero_le _, Nat.zero_le _⟩ (Nat.le_of_ble_eq_true rfl) d_X10_pan_22 ?_
    refine z_if_ne cx 52 d_X10_pan_25 (by decide) hF (fun hF => ?_) (fun hF => ?_)
    · refine z_iconst (v := 0) cx d_X10_pan_52 ki_0 ?_
      exact z_iret cx hr rfl hF d_X10_pan_53
    refine z_aload_n cx d_X10_pan_28 0 rfl ?_
    refine z_iload_n cx d_X10_pan_29 3 rfl ?_
    refine z_iconst (v := 0) cx d_X10_pan_30 ki_0 ?_
    refine z_bipush (v := 6) cx d_X10_pan_31 kb_6 ?_
    obtain ⟨v19, M18, hc, hF⟩ := zb_inv hF
    refine z_callS cx (As := [.int b20_L3, .int (0 : Int32), .int (6 : Int32)]) (rest := [.ref (ad 0)]) (c_X10_in l cx.2.2.2.1.1 M16 b20_L3 (0 : Int32) (6 : Int32)  hc) cs_SunnyPansModel_116 ⟨rfl, rfl, Nat.le_of_ble_eq_true rfl, Nat.le_of_ble_eq_true rfl⟩ rfl rfl ⟨Nat.zero_le _, Nat.zero_le _⟩ (Nat.le_of_ble_eq_true rfl) d_X10_pan_33 ?_
    refine z_if_ne cx 43 d_X10_pan_36 (by decide) hF (fun hF => ?_) (fun hF => ?_)
    · refine z_iconst (v := 0) cx d_X10_pan_43 ki_0 ?_
      exact hb44 b20_L1 b20_L2 b20_L3 (0 : Int32) M18 hF
    refine z_iconst (v := 1) cx d_X10_pan_39 ki_1 ?_
    refine z_goto cx 44 d_X10_pan_40 (by decide) ?_
    exact hb44 b20_L1 b20_L2 b20_L3 (1 : Int32) M18 hF
  unfold F_X10_pan at hF
  refine z_aload_n cx d_X10_pan_0 0 rfl ?_
  refine z_iconst (v := 0) cx d_X10_pan_1 ki_0 ?_
  refine z_putI cx hT fp_SunnyPansModel_82 d_X10_pan_2 ?_
  refine z_nmM hF (fun M20 hF => ?_)
  refine z_aload_n cx d_X10_pan_5 0 rfl ?_
  refine z_aload_n cx d_X10_pan_6 0 rfl ?_
  refine z_iload_n cx d_X10_pan_7 1 rfl ?_
  refine z_iload_n cx d_X10_pan_8 2 rfl ?_
  obtain ⟨v22, M21, hc, hF⟩ := zb_inv hF
  refine z_callV cx (As := [.int p0, .int p1]) (rest := [.ref (ad 0)]) (c_X10_isWithin l cx.2.2.2.1.1 M20 p0 p1 hT hc) hT zo_11 cv_SunnyPansModel_237 ⟨rfl, rfl, Nat.le_of_ble_eq_true rfl, Nat.le_of_ble_eq_true rfl⟩ rfl rfl ⟨Nat.zero_le _, Nat.zero_le _⟩ (Nat.le_of_ble_eq_true rfl) d_X10_pan_9 ?_
  refine z_if_ne cx 19 d_X10_pan_12 (by decide) hF (fun hF => ?_) (fun hF => ?_)
  · refine z_iconst (v := 0) cx d_X10_pan_19 ki_0 ?_
    exact hb20 p0 p1 p2 (0 : Int32) M21 hF
  refine z_iconst (v := 1) cx d_X10_pan_15 ki_1 ?_
  refine z_goto cx 20 d_X10_pan_16 (by decide) ?_
  exact hb20 p0 p1 p2 (1 : Int32) M21 hF
/-! SunnyPansModel.isHour -/
theorem d_X10_isHour_0 : decode cX10_isHour 0 = .ok (.iload_n 1, 1) := by decide +kernel
theorem d_X10_isHour_1 : decode cX10_isHour 1 = .ok (.iconst 0, 1) := by decide +kernel
theorem d_X10_isHour_2 : decode cX10_isHour 2 = .ok (.aload_n 0, 1) := by decide +kernel
theorem d_X10_isHour_3 : decode cX10_isHour 3 = .ok (.getfield 23, 3) := by decide +kernel
theorem d_X10_isHour_6 : decode cX10_isHour 6 = .ok (.iconst 2, 1) := by decide +kernel
theorem d_X10_isHour_7 : decode cX10_isHour 7 = .ok (.iaload, 1) := by decide +kernel
theorem d_X10_isHour_8 : decode cX10_isHour 8 = .ok (.iconst 1, 1) := by decide +kernel
theorem d_X10_isHour_9 : decode cX10_isHour 9 = .ok (.isub, 1) := by decide +kernel
theorem d_X10_isHour_10 : decode cX10_isHour 10 = .ok (.invokestatic 116, 3) := by decide +kernel
theorem d_X10_isHour_13 : decode cX10_isHour 13 = .ok (.ireturn, 1) := by decide +kernel
noncomputable def F_X10_isHour (M : zMem) (p0 : Int32) : Option (Int32 × zMem) :=
  zb (F_X10_in M p0 (0 : Int32) ((M.1 4 2) - (1 : Int32))) fun v2 M1 =>
  gd (v2 == 0 || v2 == 1) <|
  some (v2, M1)
def rm_X10_isHour : Room := { frames := 3, cells := 0, slots := 0, locals := 102 }
set_option maxHeartbeats 4000000 in
set_option maxRecDepth 100000 in
theorem c_X10_isHour (l : Launch) {G : zG} {ad : Nat → Nat} {n : Nat} (hA : zInj ad n) (M : zMem) (p0 : Int32) (hT : zT shM n 0 11) {r9 : Int32} {M9 : zMem} (hF : F_X10_isHour M p0 = some (r9, M9)) : zM l yX10_isHour cX10_isHour 2 (some .boolean) rm_X10_isHour G shM ad n M [.ref (ad 0), .int p0] (some (.int r9)) M9 := by
  refine zM_of hA (by decide +kernel) (lv := [(0, .ref (ad 0)), (1, .int p0)]) (Nat.le_of_ble_eq_true rfl) rfl (fun p e s m args below meth c A cx hr => ?_)
  unfold F_X10_isHour at hF
  refine z_iload_n cx d_X10_isHour_0 1 rfl ?_
  refine z_iconst (v := 0) cx d_X10_isHour_1 ki_0 ?_
  refine z_aload_n cx d_X10_isHour_2 0 rfl ?_
  refine z_getR cx hT fg_SunnyPansModel_23 4 rfl d_X10_isHour_3 ?_
  refine z_iconst (v := 2) cx d_X10_isHour_6 ki_2 ?_
  refine z_iald cx (tfM_11_4 hT) za_28 (zvp (by decide +kernel)) 2 rfl d_X10_isHour_7 ?_
  refine z_iconst (v := 1) cx d_X10_isHour_8 ki_1 ?_
  refine z_isub cx d_X10_isHour_9 ?_
  obtain ⟨v2, M1, hc, hF⟩ := zb_inv hF
  refine z_callS cx (As := [.int p0, .int (0 : Int32), .int ((M.1 4 2) - (1 : Int32))]) (rest := []) (c_X10_in l cx.2.2.2.1.1 M p0 (0 : Int32) ((M.1 4 2) - (1 : Int32))  hc) cs_SunnyPansModel_116 ⟨rfl, rfl, Nat.le_of_ble_eq_true rfl, Nat.le_of_ble_eq_true rfl⟩ rfl rfl ⟨Nat.zero_le _, Nat.zero_le _⟩ (Nat.le_of_ble_eq_true rfl) d_X10_isHour_10 ?_
  obtain ⟨hn3, hF⟩ := gd_inv hF
  exact z_iret cx hr (nbx hn3) hF d_X10_isHour_13
/-! SunnyPansModel.shadeBits -/
theorem d_X10_shadeBits_0 : decode cX10_shadeBits 0 = .ok (.iconst 0, 1) := by decide +kernel
theorem d_X10_shadeBits_1 : decode cX10_shadeBits 1 = .ok (.istore_n 3, 1) := by decide +kernel
theorem d_X10_shadeBits_2 : decode cX10_shadeBits 2 = .ok (.iconst 0, 1) := by decide +kernel
theorem d_X10_shadeBits_3 : decode cX10_shadeBits 3 = .ok (.istore 4, 2) := by decide +kernel
theorem d_X10_shadeBits_5 : decode cX10_shadeBits 5 = .ok (.iload 4, 2) := by decide +kernel
theorem d_X10_shadeBits_7 : decode cX10_shadeBits 7 = .ok (.aload_n 0, 1) := by decide +kernel
theorem d_X10_shadeBits_8 : decode cX10_shadeBits 8 = .ok (.getfield 23, 3) := by decide +kernel
theorem d_X10_shadeBits_11 : decode cX10_shadeBits 11 = .ok (.iconst 0, 1) := by decide +kernel
theorem d_X10_shadeBits_12 : decode cX10_shadeBits 12 = .ok (.iaload, 1) := by decide +kernel
theorem d_X10_shadeBits_13 : decode cX10_shadeBits 13 = .ok (.if_icmp .ge 39, 3) := by decide +kernel
theorem d_X10_shadeBits_16 : decode cX10_shadeBits 16 = .ok (.iload_n 3, 1) := by decide +kernel
theorem d_X10_shadeBits_17 : decode cX10_shadeBits 17 = .ok (.aload_n 0, 1) := by decide +kernel
theorem d_X10_shadeBits_18 : decode cX10_shadeBits 18 = .ok (.aload_n 0, 1) := by decide +kernel
theorem d_X10_shadeBits_19 : decode cX10_shadeBits 19 = .ok (.getfield 58, 3) := by decide +kernel
theorem d_X10_shadeBits_22 : decode cX10_shadeBits 22 = .ok (.bipush 8, 2) := by decide +kernel
theorem d_X10_shadeBits_24 : decode cX10_shadeBits 24 = .ok (.iload_n 2, 1) := by decide +kernel
theorem d_X10_shadeBits_25 : decode cX10_shadeBits 25 = .ok (.imul, 1) := by decide +kernel
theorem d_X10_shadeBits_26 : decode cX10_shadeBits 26 = .ok (.iload 4, 2) := by decide +kernel
theorem d_X10_shadeBits_28 : decode cX10_shadeBits 28 = .ok (.iadd, 1) := by decide +kernel
theorem d_X10_shadeBits_29 : decode cX10_shadeBits 29 = .ok (.iload_n 1, 1) := by decide +kernel
theorem d_X10_shadeBits_30 : decode cX10_shadeBits 30 = .ok (.invokevirtual 264, 3) := by decide +kernel
theorem d_X10_shadeBits_33 : decode cX10_shadeBits 33 = .ok (.ifCond .eq 10, 3) := by decide +kernel
theorem d_X10_shadeBits_36 : decode cX10_shadeBits 36 = .ok (.iconst 1, 1) := by decide +kernel
theorem d_X10_shadeBits_37 : decode cX10_shadeBits 37 = .ok (.iload 4, 2) := by decide +kernel
theorem d_X10_shadeBits_39 : decode cX10_shadeBits 39 = .ok (.ishl, 1) := by decide +kernel
theorem d_X10_shadeBits_40 : decode cX10_shadeBits 40 = .ok (.goto 4, 3) := by decide +kernel
theorem d_X10_shadeBits_43 : decode cX10_shadeBits 43 = .ok (.iconst 0, 1) := by decide +kernel
theorem d_X10_shadeBits_44 : decode cX10_shadeBits 44 = .ok (.ior, 1) := by decide +kernel
theorem d_X10_shadeBits_45 : decode cX10_shadeBits 45 = .ok (.istore_n 3, 1) := by decide +kernel
theorem d_X10_shadeBits_46 : decode cX10_shadeBits 46 = .ok (.iinc 4 1, 3) := by decide +kernel
theorem d_X10_shadeBits_49 : decode cX10_shadeBits 49 = .ok (.goto (-44), 3) := by decide +kernel
theorem d_X10_shadeBits_52 : decode cX10_shadeBits 52 = .ok (.iload_n 3, 1) := by decide +kernel
theorem d_X10_shadeBits_53 : decode cX10_shadeBits 53 = .ok (.ireturn, 1) := by decide +kernel
noncomputable def F_X10_shadeBits_44 (p0 : Int32) (p1 : Int32) (self5 : Int32 → Int32 → Int32 → Int32 → zMem → Option (Int32 × zMem)) (b44_L1 : Int32) (b44_L2 : Int32) (b44_L4 : Int32) (b44_S0 : Int32) (b44_S1 : Int32) (M : zMem) : Option (Int32 × zMem) :=
  zl (b44_S0 ||| b44_S1) fun v1 =>
  self5 b44_L1 b44_L2 v1 (b44_L4 + 1) M
noncomputable def F_X10_shadeBits_5 (p0 : Int32) (p1 : Int32) (self5 : Int32 → Int32 → Int32 → Int32 → zMem → Option (Int32 × zMem)) (b5_L1 : Int32) (b5_L2 : Int32) (b5_L3 : Int32) (b5_L4 : Int32) (M : zMem) : Option (Int32 × zMem) :=
  if (M.1 4 0) ≤ b5_L4 then
    some (b5_L3, M)
  else
    zb (F_X10_isShade M 451 (((8 : Int32) * b5_L2) + b5_L4) b5_L1) fun v3 M2 =>
    if v3 = 0 then
      F_X10_shadeBits_44 p0 p1 self5 b5_L1 b5_L2 b5_L4 b5_L3 (0 : Int32) M2
    else
      F_X10_shadeBits_44 p0 p1 self5 b5_L1 b5_L2 b5_L4 b5_L3 ((1 : Int32) <<< (b5_L4 &&& 31)) M2
noncomputable def F_X10_shadeBits (M : zMem) (p0 : Int32) (p1 : Int32) : Option (Int32 × zMem) :=
  itF (fun _ _ _ _ _ => none) (F_X10_shadeBits_5 p0 p1) zFuel p0 p1 (0 : Int32) (0 : Int32) M
def rm_X10_shadeBits : Room := { frames := 6, cells := 0, slots := 0, locals := 173 }
set_option maxHeartbeats 4000000 in
set_option maxRecDepth 100000 in
theorem c_X10_shadeBits (l : Launch) {G : zG} {ad : Nat → Nat} {n : Nat} (hA : zInj ad n) (M : zMem) (p0 : Int32) (p1 : Int32) (hT : zT shM n 0 11) {r9 : Int32} {M9 : zMem} (hF : F_X10_shadeBits M p0 p1 = some (r9, M9)) : zM l yX10_shadeBits cX10_shadeBits 5 (some .int) rm_X10_shadeBits G shM ad n M [.ref (ad 0), .int p0, .int p1] (some (.int r9)) M9 := by
  refine zM_of hA (by decide +kernel) (lv := [(0, .ref (ad 0)), (1, .int p0), (2, .int p1)]) (Nat.le_of_ble_eq_true rfl) rfl (fun p e s m args below meth c A cx hr => ?_)
  have hb44 : ∀ (self5 : Int32 → Int32 → Int32 → Int32 → zMem → Option (Int32 × zMem)) (hs5 : ∀ (b5_L1 : Int32) (b5_L2 : Int32) (b5_L3 : Int32) (b5_L4 : Int32) (M : zMem), self5 b5_L1 b5_L2 b5_L3 b5_L4 M = some (r9, M9) → zJ p l e rm_X10_shadeBits s m args below meth c G shM ad n A 5 (MQ below (zQ G shM ad n M9 (some (.int r9)) A) args s 0 0 A) 0 0 M 5 [(0, .ref (ad 0)), (1, .int b5_L1), (2, .int b5_L2), (3, .int b5_L3), (4, .int b5_L4)] []), ∀ (b44_L1 : Int32) (b44_L2 : Int32) (b44_L4 : Int32) (b44_S0 : Int32) (b44_S1 : Int32) (M : zMem), F_X10_shadeBits_44 p0 p1 self5 b44_L1 b44_L2 b44_L4 b44_S0 b44_S1 M = some (r9, M9) → zJ p l e rm_X10_shadeBits s m args below meth c G shM ad n A 5 (MQ below (zQ G shM ad n M9 (some (.int r9)) A) args s 0 0 A) 0 0 M 44 [(0, .ref (ad 0)), (1, .int b44_L1), (2, .int b44_L2), (4, .int b44_L4)] [.int b44_S1, .int b44_S0] := by
    intro self5 hs5 b44_L1 b44_L2 b44_L4 b44_S0 b44_S1 M hF
    unfold F_X10_shadeBits_44 at hF
    refine z_ior cx d_X10_shadeBits_44 ?_
    refine z_nm hF (fun v1 hF => ?_)
    refine z_istore_n cx 3 [(3, .int v1), (0, .ref (ad 0)), (1, .int b44_L1), (2, .int b44_L2), (4, .int b44_L4)] d_X10_shadeBits_45 rfl (by decide) rfl ?_
    refine z_iinc cx 4 1 [(4, .int (b44_L4 + 1)), (3, .int v1), (0, .ref (ad 0)), (1, .int b44_L1), (2, .int b44_L2)] d_X10_shadeBits_46 4 rfl ki_1 (by decide) rfl ?_
    refine z_goto cx 5 d_X10_shadeBits_49 (by decide) ?_
    exact z_lv [2, 3, 4, 1, 0] _ rfl (hs5 b44_L1 b44_L2 v1 (b44_L4 + 1) M hF)
  have hL5 : ∀ (fuel : Nat), ∀ (b5_L1 : Int32) (b5_L2 : Int32) (b5_L3 : Int32) (b5_L4 : Int32) (M : zMem), itF (fun _ _ _ _ _ => none) (F_X10_shadeBits_5 p0 p1) fuel b5_L1 b5_L2 b5_L3 b5_L4 M = some (r9, M9) → zJ p l e rm_X10_shadeBits s m args below meth c G shM ad n A 5 (MQ below (zQ G shM ad n M9 (some (.int r9)) A) args s 0 0 A) 0 0 M 5 [(0, .ref (ad 0)), (1, .int b5_L1), (2, .int b5_L2), (3, .int b5_L3), (4, .int b5_L4)] [] := by
    intro fuel
    induction fuel with
    | zero => intro b5_L1 b5_L2 b5_L3 b5_L4 M hF; cases hF
    | succ fuel hs5 =>
      intro b5_L1 b5_L2 b5_L3 b5_L4 M hF
      have hF : F_X10_shadeBits_5 p0 p1 (itF (fun _ _ _ _ _ => none) (F_X10_shadeBits_5 p0 p1) fuel) b5_L1 b5_L2 b5_L3 b5_L4 M = some (r9, M9) := hF
      generalize itF (fun _ _ _ _ _ => none) (F_X10_shadeBits_5 p0 p1) fuel = self5 at hs5 hF
      unfold F_X10_shadeBits_5 at hF
      refine z_iload cx d_X10_shadeBits_5 4 rfl ?_
      refine z_aload_n cx d_X10_shadeBits_7 0 rfl ?_
      refine z_getR cx hT fg_SunnyPansModel_23 4 rfl d_X10_shadeBits_8 ?_
      refine z_iconst (v := 0) cx d_X10_shadeBits_11 ki_0 ?_
      refine z_iald cx (tfM_11_4 hT) za_28 (zvp (by decide +kernel)) 0 rfl d_X10_shadeBits_12 ?_
      refine z_icmp_ge cx 52 d_X10_shadeBits_13 (by decide) hF (fun hF => ?_) (fun hF => ?_)
      · refine z_iload_n cx d_X10_shadeBits_52 3 rfl ?_
        exact z_iret cx hr rfl hF d_X10_shadeBits_53
      refine z_iload_n cx d_X10_shadeBits_16 3 rfl ?_
      refine z_aload_n cx d_X10_shadeBits_17 0 rfl ?_
      refine z_aload_n cx d_X10_shadeBits_18 0 rfl ?_
      refine z_getR cx hT fg_SunnyPansModel_58 451 rfl d_X10_shadeBits_19 ?_
      refine z_bipush (v := 8) cx d_X10_shadeBits_22 kb_8 ?_
      refine z_iload_n cx d_X10_shadeBits_24 2 rfl ?_
      refine z_imul cx d_X10_shadeBits_25 ?_
      refine z_iload cx d_X10_shadeBits_26 4 rfl ?_
      refine z_iadd cx d_X10_shadeBits_28 ?_
      refine z_iload_n cx d_X10_shadeBits_29 1 rfl ?_
      obtain ⟨v3, M2, hc, hF⟩ := zb_inv hF
      refine z_callV cx (As := [.ref (ad 451), .int (((8 : Int32) * b5_L2) + b5_L4), .int b5_L1]) (rest := [.int b5_L3]) (c_X10_isShade l cx.2.2.2.1.1 M 451 (((8 : Int32) * b5_L2) + b5_L4) b5_L1 hT (tfM_11_451 hT) hc) hT zo_11 cv_SunnyPansModel_264 ⟨rfl, rfl, Nat.le_of_ble_eq_true rfl, Nat.le_of_ble_eq_true rfl⟩ rfl rfl ⟨Nat.zero_le _, Nat.zero_le _⟩ (Nat.le_of_ble_eq_true rfl) d_X10_shadeBits_30 ?_
      refine z_if_eq cx 43 d_X10_shadeBits_33 (by decide) hF (fun hF => ?_) (fun hF => ?_)
      · refine z_iconst (v := 0) cx d_X10_shadeBits_43 ki_0 ?_
        exact z_lv [0, 1, 2, 4] _ rfl (hb44 self5 hs5 b5_L1 b5_L2 b5_L4 b5_L3 (0 : Int32) M2 hF)
      refine z_iconst (v := 1) cx d_X10_shadeBits_36 ki_1 ?_
      refine z_iload cx d_X10_shadeBits_37 4 rfl ?_
      refine z_ishl cx d_X10_shadeBits_39 ?_
      refine z_goto cx 44 d_X10_shadeBits_40 (by decide) ?_
      exact z_lv [0, 1, 2, 4] _ rfl (hb44 self5 hs5 b5_L1 b5_L2 b5_L4 b5_L3 ((1 : Int32) <<< (b5_L4 &&& 31)) M2 hF)
  unfold F_X10_shadeBits at hF
  refine z_iconst (v := 0) cx d_X10_shadeBits_0 ki_0 ?_
  refine z_istore_n cx 3 [(3, .int (0 : Int32)), (0, .ref (ad 0)), (1, .int p0), (2, .int p1)] d_X10_shadeBits_1 rfl (by decide) rfl ?_
  refine z_iconst (v := 0) cx d_X10_shadeBits_2 ki_0 ?_
  refine z_istore cx 4 [(4, .int (0 : Int32)), (3, .int (0 : Int32)), (0, .ref (ad 0)), (1, .int p0), (2, .int p1)] d_X10_shadeBits_3 (by decide) rfl ?_
  exact z_lv [2, 3, 4, 1, 0] _ rfl (hL5 zFuel p0 p1 (0 : Int32) (0 : Int32) M hF)
/-! SunnyPansModel.hour -/
set_option maxRecDepth 100000 in
theorem wd_1780 : Cond.code yX10_isHour cX10_isHour 2 (some .boolean) ∈ tbG := tw8 0 rfl rfl
set_option maxRecDepth 100000 in
theorem wd_1777 : Cond.methodLink "SunnyPansModel" 336 yX10_isHour ∈ tbG := tw7 237 rfl rfl
set_option maxRecDepth 100000 in
theorem wd_1779 : Cond.instanceMethod yX10_isHour ∈ tbG := tw7 239 rfl rfl
theorem wd_85 : Cond.selects "SunnyPansModel" yX10_isHour yX10_isHour ∈ tbG := tw 85 (by decide +kernel) rfl
theorem cv_SunnyPansModel_336 : zCV "SunnyPansModel" 336 "SunnyPansModel" yX10_isHour cX10_isHour 2 (some .boolean) 1 := zCV_of wd_1777 wd_1779 wd_85 wd_111 wd_1780 (by decide +kernel)
theorem d_X10_hour_0 : decode cX10_hour 0 = .ok (.aload_n 0, 1) := by decide +kernel
theorem d_X10_hour_1 : decode cX10_hour 1 = .ok (.iconst 0, 1) := by decide +kernel
theorem d_X10_hour_2 : decode cX10_hour 2 = .ok (.putfield 82, 3) := by decide +kernel
theorem d_X10_hour_5 : decode cX10_hour 5 = .ok (.aload_n 0, 1) := by decide +kernel
theorem d_X10_hour_6 : decode cX10_hour 6 = .ok (.aload_n 0, 1) := by decide +kernel
theorem d_X10_hour_7 : decode cX10_hour 7 = .ok (.iload_n 1, 1) := by decide +kernel
theorem d_X10_hour_8 : decode cX10_hour 8 = .ok (.invokevirtual 336, 3) := by decide +kernel
theorem d_X10_hour_11 : decode cX10_hour 11 = .ok (.ifCond .ne 7, 3) := by decide +kernel
theorem d_X10_hour_14 : decode cX10_hour 14 = .ok (.iconst 1, 1) := by decide +kernel
theorem d_X10_hour_15 : decode cX10_hour 15 = .ok (.goto 4, 3) := by decide +kernel
theorem d_X10_hour_18 : decode cX10_hour 18 = .ok (.iconst 0, 1) := by decide +kernel
theorem d_X10_hour_19 : decode cX10_hour 19 = .ok (.iconst 1, 1) := by decide +kernel
theorem d_X10_hour_20 : decode cX10_hour 20 = .ok (.iconst 0, 1) := by decide +kernel
theorem d_X10_hour_21 : decode cX10_hour 21 = .ok (.invokevirtual 155, 3) := by decide +kernel
theorem d_X10_hour_24 : decode cX10_hour 24 = .ok (.ifCond .ne 26, 3) := by decide +kernel
theorem d_X10_hour_27 : decode cX10_hour 27 = .ok (.aload_n 0, 1) := by decide +kernel
theorem d_X10_hour_28 : decode cX10_hour 28 = .ok (.iload_n 2, 1) := by decide +kernel
theorem d_X10_hour_29 : decode cX10_hour 29 = .ok (.iconst 0, 1) := by decide +kernel
theorem d_X10_hour_30 : decode cX10_hour 30 = .ok (.iconst 2, 1) := by decide +kernel
theorem d_X10_hour_31 : decode cX10_hour 31 = .ok (.invokestatic 116, 3) := by decide +kernel
theorem d_X10_hour_34 : decode cX10_hour 34 = .ok (.ifCond .ne 7, 3) := by decide +kernel
theorem d_X10_hour_37 : decode cX10_hour 37 = .ok (.iconst 1, 1) := by decide +kernel
theorem d_X10_hour_38 : decode cX10_hour 38 = .ok (.goto 4, 3) := by decide +kernel
theorem d_X10_hour_41 : decode cX10_hour 41 = .ok (.iconst 0, 1) := by decide +kernel
theorem d_X10_hour_42 : decode cX10_hour 42 = .ok (.iconst 2, 1) := by decide +kernel
theorem d_X10_hour_43 : decode cX10_hour 43 = .ok (.iconst 1, 1) := by decide +kernel
theorem d_X10_hour_44 : decode cX10_hour 44 = .ok (.invokevirtual 155, 3) := by decide +kernel
theorem d_X10_hour_47 : decode cX10_hour 47 = .ok (.ifCond .eq 5, 3) := by decide +kernel
theorem d_X10_hour_50 : decode cX10_hour 50 = .ok (.iconst 0, 1) := by decide +kernel
theorem d_X10_hour_51 : decode cX10_hour 51 = .ok (.ireturn, 1) := by decide +kernel
theorem d_X10_hour_52 : decode cX10_hour 52 = .ok (.iload_n 2, 1) := by decide +kernel
theorem d_X10_hour_53 : decode cX10_hour 53 = .ok (.iconst 2, 1) := by decide +kernel
theorem d_X10_hour_54 : decode cX10_hour 54 = .ok (.if_icmp .ge 12, 3) := by decide +kernel
theorem d_X10_hour_57 : decode cX10_hour 57 = .ok (.aload_n 0, 1) := by decide +kernel
theorem d_X10_hour_58 : decode cX10_hour 58 = .ok (.getfield 34, 3) := by decide +kernel
theorem d_X10_hour_61 : decode cX10_hour 61 = .ok (.iload_n 1, 1) := by decide +kernel
theorem d_X10_hour_62 : decode cX10_hour 62 = .ok (.aaload, 1) := by decide +kernel
theorem d_X10_hour_63 : decode cX10_hour 63 = .ok (.iload_n 2, 1) := by decide +kernel
theorem d_X10_hour_64 : decode cX10_hour 64 = .ok (.iaload, 1) := by decide +kernel
theorem d_X10_hour_65 : decode cX10_hour 65 = .ok (.ireturn, 1) := by decide +kernel
theorem d_X10_hour_66 : decode cX10_hour 66 = .ok (.iconst 0, 1) := by decide +kernel
theorem d_X10_hour_67 : decode cX10_hour 67 = .ok (.istore_n 3, 1) := by decide +kernel
theorem d_X10_hour_68 : decode cX10_hour 68 = .ok (.iconst 0, 1) := by decide +kernel
theorem d_X10_hour_69 : decode cX10_hour 69 = .ok (.istore 4, 2) := by decide +kernel
theorem d_X10_hour_71 : decode cX10_hour 71 = .ok (.iload 4, 2) := by decide +kernel
theorem d_X10_hour_73 : decode cX10_hour 73 = .ok (.bipush 64, 2) := by decide +kernel
theorem d_X10_hour_75 : decode cX10_hour 75 = .ok (.if_icmp .ge 40, 3) := by decide +kernel
theorem d_X10_hour_78 : decode cX10_hour 78 = .ok (.iload_n 3, 1) := by decide +kernel
theorem d_X10_hour_79 : decode cX10_hour 79 = .ok (.aload_n 0, 1) := by decide +kernel
theorem d_X10_hour_80 : decode cX10_hour 80 = .ok (.iload 4, 2) := by decide +kernel
theorem d_X10_hour_82 : decode cX10_hour 82 = .ok (.invokevirtual 284, 3) := by decide +kernel
theorem d_X10_hour_85 : decode cX10_hour 85 = .ok (.ifCond .eq 21, 3) := by decide +kernel
theorem d_X10_hour_88 : decode cX10_hour 88 = .ok (.aload_n 0, 1) := by decide +kernel
theorem d_X10_hour_89 : decode cX10_hour 89 = .ok (.aload_n 0, 1) := by decide +kernel
theorem d_X10_hour_90 : decode cX10_hour 90 = .ok (.getfield 58, 3) := by decide +kernel
theorem d_X10_hour_93 : decode cX10_hour 93 = .ok (.iload 4, 2) := by decide +kernel
theorem d_X10_hour_95 : decode cX10_hour 95 = .ok (.iload_n 1, 1) := by decide +kernel
theorem d_X10_hour_96 : decode cX10_hour 96 = .ok (.invokevirtual 264, 3) := by decide +kernel
theorem d_X10_hour_99 : decode cX10_hour 99 = .ok (.ifCond .eq 7, 3) := by decide +kernel
theorem d_X10_hour_102 : decode cX10_hour 102 = .ok (.iconst 1, 1) := by decide +kernel
theorem d_X10_hour_103 : decode cX10_hour 103 = .ok (.goto 4, 3) := by decide +kernel
theorem d_X10_hour_106 : decode cX10_hour 106 = .ok (.iconst 0, 1) := by decide +kernel
theorem d_X10_hour_107 : decode cX10_hour 107 = .ok (.iadd, 1) := by decide +kernel
theorem d_X10_hour_108 : decode cX10_hour 108 = .ok (.istore_n 3, 1) := by decide +kernel
theorem d_X10_hour_109 : decode cX10_hour 109 = .ok (.iinc 4 1, 3) := by decide +kernel
theorem d_X10_hour_112 : decode cX10_hour 112 = .ok (.goto (-41), 3) := by decide +kernel
theorem d_X10_hour_115 : decode cX10_hour 115 = .ok (.iload_n 3, 1) := by decide +kernel
theorem d_X10_hour_116 : decode cX10_hour 116 = .ok (.ireturn, 1) := by decide +kernel
noncomputable def F_X10_hour_107 (p0 : Int32) (p1 : Int32) (self71 : Int32 → Int32 → Int32 → zMem → Option (Int32 × zMem)) (b107_L1 : Int32) (b107_L4 : Int32) (b107_S0 : Int32) (b107_S1 : Int32) (M : zMem) : Option (Int32 × zMem) :=
  zl (b107_S0 + b107_S1) fun v1 =>
  self71 b107_L1 v1 (b107_L4 + 1) M
noncomputable def F_X10_hour_106 (p0 : Int32) (p1 : Int32) (self71 : Int32 → Int32 → Int32 → zMem → Option (Int32 × zMem)) (b106_L1 : Int32) (b106_L4 : Int32) (b106_S0 : Int32) (M : zMem) : Option (Int32 × zMem) :=
  F_X10_hour_107 p0 p1 self71 b106_L1 b106_L4 b106_S0 (0 : Int32) M
noncomputable def F_X10_hour_71 (p0 : Int32) (p1 : Int32) (self71 : Int32 → Int32 → Int32 → zMem → Option (Int32 × zMem)) (b71_L1 : Int32) (b71_L3 : Int32) (b71_L4 : Int32) (M : zMem) : Option (Int32 × zMem) :=
  if (64 : Int32) ≤ b71_L4 then
    some (b71_L3, M)
  else
    zb (F_X10_isHere M b71_L4) fun v3 M2 =>
    if v3 = 0 then
      F_X10_hour_106 p0 p1 self71 b71_L1 b71_L4 b71_L3 M2
    else
      zb (F_X10_isShade M2 451 b71_L4 b71_L1) fun v5 M4 =>
      if v5 = 0 then
        F_X10_hour_106 p0 p1 self71 b71_L1 b71_L4 b71_L3 M4
      else
        F_X10_hour_107 p0 p1 self71 b71_L1 b71_L4 b71_L3 (1 : Int32) M4
noncomputable def F_X10_hour_42 (p0 : Int32) (p1 : Int32) (b42_L1 : Int32) (b42_L2 : Int32) (b42_S1 : Int32) (M : zMem) : Option (Int32 × zMem) :=
  zb (F_X10_bad M b42_S1 (2 : Int32) (1 : Int32)) fun v7 M6 =>
  if v7 = 0 then
    if (2 : Int32) ≤ b42_L2 then
      itF (fun _ _ _ _ => none) (F_X10_hour_71 p0 p1) zFuel b42_L1 (0 : Int32) (0 : Int32) M6
    else
      gin b42_L1 10 <|
      gin b42_L2 2 <|
      some ((M6.1 (17 + (1 + 1 * b42_L1.toNatClampNeg)) b42_L2.toNatClampNeg), M6)
  else
    some ((0 : Int32), M6)
noncomputable def F_X10_hour_19 (p0 : Int32) (p1 : Int32) (b19_L1 : Int32) (b19_L2 : Int32) (b19_S1 : Int32) (M : zMem) : Option (Int32 × zMem) :=
  zb (F_X10_bad M b19_S1 (1 : Int32) (0 : Int32)) fun v11 M10 =>
  if v11 = 0 then
    zb (F_X10_in M10 b19_L2 (0 : Int32) (2 : Int32)) fun v13 M12 =>
    if v13 = 0 then
      F_X10_hour_42 p0 p1 b19_L1 b19_L2 (1 : Int32) M12
    else
      F_X10_hour_42 p0 p1 b19_L1 b19_L2 (0 : Int32) M12
  else
    some ((0 : Int32), M10)
noncomputable def F_X10_hour (M : zMem) (p0 : Int32) (p1 : Int32) : Option (Int32 × zMem) :=
  zl (zI M 0 0 (0 : Int32)) fun M14 =>
  zb (F_X10_isHour M14 p0) fun v16 M15 =>
  if v16 = 0 then
    F_X10_hour_19 p0 p1 p0 p1 (1 : Int32) M15
  else
    F_X10_hour_19 p0 p1 p0 p1 (0 : Int32) M15
def rm_X10_hour : Room := { frames := 6, cells := 0, slots := 0, locals := 173 }
set_option maxHeartbeats 4000000 in
set_option maxRecDepth 100000 in
theorem c_X10_hour (l : Launch) {G : zG} {ad : Nat → Nat} {n : Nat} (hA : zInj ad n) (M : zMem) (p0 : Int32) (p1 : Int32) (hT : zT shM n 0 11) {r9 : Int32} {M9 : zMem} (hF : F_X10_hour M p0 p1 = some (r9, M9)) : zM l yX10_hour cX10_hour 5 (some .int) rm_X10_hour G shM ad n M [.ref (ad 0), .int p0, .int p1] (some (.int r9)) M9 := by
  refine zM_of hA (by decide +kernel) (lv := [(0, .ref (ad 0)), (1, .int p0), (2, .int p1)]) (Nat.le_of_ble_eq_true rfl) rfl (fun p e s m args below meth c A cx hr => ?_)
  have hb107 : ∀ (self71 : Int32 → Int32 → Int32 → zMem → Option (Int32 × zMem)) (hs71 : ∀ (b71_L1 : Int32) (b71_L3 : Int32) (b71_L4 : Int32) (M : zMem), self71 b71_L1 b71_L3 b71_L4 M = some (r9, M9) → zJ p l e rm_X10_hour s m args below meth c G shM ad n A 5 (MQ below (zQ G shM ad n M9 (some (.int r9)) A) args s 0 0 A) 0 0 M 71 [(0, .ref (ad 0)), (1, .int b71_L1), (3, .int b71_L3), (4, .int b71_L4)] []), ∀ (b107_L1 : Int32) (b107_L4 : Int32) (b107_S0 : Int32) (b107_S1 : Int32) (M : zMem), F_X10_hour_107 p0 p1 self71 b107_L1 b107_L4 b107_S0 b107_S1 M = some (r9, M9) → zJ p l e rm_X10_hour s m args below meth c G shM ad n A 5 (MQ below (zQ G shM ad n M9 (some (.int r9)) A) args s 0 0 A) 0 0 M 107 [(0, .ref (ad 0)), (1, .int b107_L1), (4, .int b107_L4)] [.int b107_S1, .int b107_S0] := by
    intro self71 hs71 b107_L1 b107_L4 b107_S0 b107_S1 M hF
    unfold F_X10_hour_107 at hF
    refine z_iadd cx d_X10_hour_107 ?_
    refine z_nm hF (fun v1 hF => ?_)
    refine z_istore_n cx 3 [(3, .int v1), (0, .ref (ad 0)), (1, .int b107_L1), (4, .int b107_L4)] d_X10_hour_108 rfl (by decide) rfl ?_
    refine z_iinc cx 4 1 [(4, .int (b107_L4 + 1)), (3, .int v1), (0, .ref (ad 0)), (1, .int b107_L1)] d_X10_hour_109 3 rfl ki_1 (by decide) rfl ?_
    refine z_goto cx 71 d_X10_hour_112 (by decide) ?_
    exact z_lv [2, 3, 1, 0] _ rfl (hs71 b107_L1 v1 (b107_L4 + 1) M hF)
  have hb106 : ∀ (self71 : Int32 → Int32 → Int32 → zMem → Option (Int32 × zMem)) (hs71 : ∀ (b71_L1 : Int32) (b71_L3 : Int32) (b71_L4 : Int32) (M : zMem), self71 b71_L1 b71_L3 b71_L4 M = some (r9, M9) → zJ p l e rm_X10_hour s m args below meth c G shM ad n A 5 (MQ below (zQ G shM ad n M9 (some (.int r9)) A) args s 0 0 A) 0 0 M 71 [(0, .ref (ad 0)), (1, .int b71_L1), (3, .int b71_L3), (4, .int b71_L4)] []), ∀ (b106_L1 : Int32) (b106_L4 : Int32) (b106_S0 : Int32) (M : zMem), F_X10_hour_106 p0 p1 self71 b106_L1 b106_L4 b106_S0 M = some (r9, M9) → zJ p l e rm_X10_hour s m args below meth c G shM ad n A 5 (MQ below (zQ G shM ad n M9 (some (.int r9)) A) args s 0 0 A) 0 0 M 106 [(0, .ref (ad 0)), (1, .int b106_L1), (4, .int b106_L4)] [.int b106_S0] := by
    intro self71 hs71 b106_L1 b106_L4 b106_S0 M hF
    unfold F_X10_hour_106 at hF
    refine z_iconst (v := 0) cx d_X10_hour_106 ki_0 ?_
    exact hb107 self71 hs71 b106_L1 b106_L4 b106_S0 (0 : Int32) M hF
  have hL71 : ∀ (fuel : Nat), ∀ (b71_L1 : Int32) (b71_L3 : Int32) (b71_L4 : Int32) (M : zMem), itF (fun _ _ _ _ => none) (F_X10_hour_71 p0 p1) fuel b71_L1 b71_L3 b71_L4 M = some (r9, M9) → zJ p l e rm_X10_hour s m args below meth c G shM ad n A 5 (MQ below (zQ G shM ad n M9 (some (.int r9)) A) args s 0 0 A) 0 0 M 71 [(0, .ref (ad 0)), (1, .int b71_L1), (3, .int b71_L3), (4, .int b71_L4)] [] := by
    intro fuel
    induction fuel with
    | zero => intro b71_L1 b71_L3 b71_L4 M hF; cases hF
    | succ fuel hs71 =>
      intro b71_L1 b71_L3 b71_L4 M hF
      have hF : F_X10_hour_71 p0 p1 (itF (fun _ _ _ _ => none) (F_X10_hour_71 p0 p1) fuel) b71_L1 b71_L3 b71_L4 M = some (r9, M9) := hF
      generalize itF (fun _ _ _ _ => none) (F_X10_hour_71 p0 p1) fuel = self71 at hs71 hF
      unfold F_X10_hour_71 at hF
      refine z_iload cx d_X10_hour_71 3 rfl ?_
      refine z_bipush (v := 64) cx d_X10_hour_73 kb_64 ?_
      refine z_icmp_ge cx 115 d_X10_hour_75 (by decide) hF (fun hF => ?_) (fun hF => ?_)
      · refine z_iload_n cx d_X10_hour_115 2 rfl ?_
        exact z_iret cx hr rfl hF d_X10_hour_116
      refine z_iload_n cx d_X10_hour_78 2 rfl ?_
      refine z_aload_n cx d_X10_hour_79 0 rfl ?_
      refine z_iload cx d_X10_hour_80 3 rfl ?_
      obtain ⟨v3, M2, hc, hF⟩ := zb_inv hF
      refine z_callV cx (As := [.int b71_L4]) (rest := [.int b71_L3]) (c_X10_isHere l cx.2.2.2.1.1 M b71_L4 hT hc) hT zo_11 cv_SunnyPansModel_284 ⟨rfl, rfl, Nat.le_of_ble_eq_true rfl, Nat.le_of_ble_eq_true rfl⟩ rfl rfl ⟨Nat.zero_le _, Nat.zero_le _⟩ (Nat.le_of_ble_eq_true rfl) d_X10_hour_82 ?_
      refine z_if_eq cx 106 d_X10_hour_85 (by decide) hF (fun hF => ?_) (fun hF => ?_)
      · exact z_lv [0, 1, 3] _ rfl (hb106 self71 hs71 b71_L1 b71_L4 b71_L3 M2 hF)
      refine z_aload_n cx d_X10_hour_88 0 rfl ?_
      refine z_aload_n cx d_X10_hour_89 0 rfl ?_
      refine z_getR cx hT fg_SunnyPansModel_58 451 rfl d_X10_hour_90 ?_
      refine z_iload cx d_X10_hour_93 3 rfl ?_
      refine z_iload_n cx d_X10_hour_95 1 rfl ?_
      obtain ⟨v5, M4, hc, hF⟩ := zb_inv hF
      refine z_callV cx (As := [.ref (ad 451), .int b71_L4, .int b71_L1]) (rest := [.int b71_L3]) (c_X10_isShade l cx.2.2.2.1.1 M2 451 b71_L4 b71_L1 hT (tfM_11_451 hT) hc) hT zo_11 cv_SunnyPansModel_264 ⟨rfl, rfl, Nat.le_of_ble_eq_true rfl, Nat.le_of_ble_eq_true rfl⟩ rfl rfl ⟨Nat.zero_le _, Nat.zero_le _⟩ (Nat.le_of_ble_eq_true rfl) d_X10_hour_96 ?_
      refine z_if_eq cx 106 d_X10_hour_99 (by decide) hF (fun hF => ?_) (fun hF => ?_)
      · exact z_lv [0, 1, 3] _ rfl (hb106 self71 hs71 b71_L1 b71_L4 b71_L3 M4 hF)
      refine z_iconst (v := 1) cx d_X10_hour_102 ki_1 ?_
      refine z_goto cx 107 d_X10_hour_103 (by decide) ?_
      exact z_lv [0, 1, 3] _ rfl (hb107 self71 hs71 b71_L1 b71_L4 b71_L3 (1 : Int32) M4 hF)
  have hb42 : ∀ (b42_L1 : Int32) (b42_L2 : Int32) (b42_S1 : Int32) (M : zMem), F_X10_hour_42 p0 p1 b42_L1 b42_L2 b42_S1 M = some (r9, M9) → zJ p l e rm_X10_hour s m args below meth c G shM ad n A 5 (MQ below (zQ G shM ad n M9 (some (.int r9)) A) args s 0 0 A) 0 0 M 42 [(0, .ref (ad 0)), (1, .int b42_L1), (2, .int b42_L2)] [.int b42_S1, .ref (ad 0)] := by
    intro b42_L1 b42_L2 b42_S1 M hF
    unfold F_X10_hour_42 at hF
    refine z_iconst (v := 2) cx d_X10_hour_42 ki_2 ?_
    refine z_iconst (v := 1) cx d_X10_hour_43 ki_1 ?_
    obtain ⟨v7, M6, hc, hF⟩ := zb_inv hF
    refine z_callV cx (As := [.int b42_S1, .int (2 : Int32), .int (1 : Int32)]) (rest := []) (c_X10_bad l cx.2.2.2.1.1 M b42_S1 (2 : Int32) (1 : Int32) hT hc) hT zo_11 cv_SunnyPansModel_155 ⟨rfl, rfl, Nat.le_of_ble_eq_true rfl, Nat.le_of_ble_eq_true rfl⟩ rfl rfl ⟨Nat.zero_le _, Nat.zero_le _⟩ (Nat.le_of_ble_eq_true rfl) d_X10_hour_44 ?_
    refine z_if_eq cx 52 d_X10_hour_47 (by decide) hF (fun hF => ?_) (fun hF => ?_)
    · refine z_iload_n cx d_X10_hour_52 2 rfl ?_
      refine z_iconst (v := 2) cx d_X10_hour_53 ki_2 ?_
      refine z_icmp_ge cx 66 d_X10_hour_54 (by decide) hF (fun hF => ?_) (fun hF => ?_)
      · refine z_iconst (v := 0) cx d_X10_hour_66 ki_0 ?_
        refine z_istore_n cx 3 [(3, .int (0 : Int32)), (0, .ref (ad 0)), (1, .int b42_L1), (2, .int b42_L2)] d_X10_hour_67 rfl (by decide) rfl ?_
        refine z_iconst (v := 0) cx d_X10_hour_68 ki_0 ?_
        refine z_istore cx 4 [(4, .int (0 : Int32)), (3, .int (0 : Int32)), (0, .ref (ad 0)), (1, .int b42_L1), (2, .int b42_L2)] d_X10_hour_69 (by decide) rfl ?_
        exact z_lv [2, 3, 1, 0] _ rfl (hL71 zFuel b42_L1 (0 : Int32) (0 : Int32) M6 hF)
      refine z_aload_n cx d_X10_hour_57 0 rfl ?_
      refine z_getR cx hT fg_SunnyPansModel_34 17 rfl d_X10_hour_58 ?_
      refine z_iload_n cx d_X10_hour_61 1 rfl ?_
      obtain ⟨hi8, hF⟩ := gin_inv hF
      refine z_aald cx (tfM_11_17 hT) za_30 hi8 (17 + (1 + 1 * b42_L1.toNatClampNeg)) rfl d_X10_hour_62 ?_
      refine z_iload_n cx d_X10_hour_63 2 rfl ?_
      obtain ⟨hi9, hF⟩ := gin_inv hF
      refine z_iald cx (teM_30 (tfM_11_17 hT) hi8) za_27 hi9 b42_L2.toNatClampNeg rfl d_X10_hour_64 ?_
      exact z_iret cx hr rfl hF d_X10_hour_65
    refine z_iconst (v := 0) cx d_X10_hour_50 ki_0 ?_
    exact z_iret cx hr rfl hF d_X10_hour_51
  have hb19 : ∀ (b19_L1 : Int32) (b19_L2 : Int32) (b19_S1 : Int32) (M : zMem), F_X10_hour_19 p0 p1 b19_L1 b19_L2 b19_S1 M = some (r9, M9) → zJ p l e rm_X10_hour s m args below meth c G shM ad n A 5 (MQ below (zQ G shM ad n M9 (some (.int r9)) A) args s 0 0 A) 0 0 M 19 [(0, .ref (ad 0)), (1, .int b19_L1), (2, .int b19_L2)] [.int b19_S1, .ref (ad 0)] := by
    intro b19_L1 b19_L2 b19_S1 M hF
    unfold F_X10_hour_19 at hF
    refine z_iconst (v := 1) cx d_X10_hour_19 ki_1 ?_
    refine z_iconst (v := 0) cx d_X10_hour_20 ki_0 ?_
    obtain ⟨v11, M10, hc, hF⟩ := zb_inv hF
    refine z_callV cx (As := [.int b19_S1, .int (1 : Int32), .int (0 : Int32)]) (rest := []) (c_X10_bad l cx.2.2.2.1.1 M b19_S1 (1 : Int32) (0 : Int32) hT hc) hT zo_11 cv_SunnyPansModel_155 ⟨rfl, rfl, Nat.le_of_ble_eq_true rfl, Nat.le_of_ble_eq_true rfl⟩ rfl rfl ⟨Nat.zero_le _, Nat.zero_le _⟩ (Nat.le_of_ble_eq_true rfl) d_X10_hour_21 ?_
    refine z_if_ne cx 50 d_X10_hour_24 (by decide) hF (fun hF => ?_) (fun hF => ?_)
    · refine z_iconst (v := 0) cx d_X10_hour_50 ki_0 ?_
      exact z_iret cx hr rfl hF d_X10_hour_51
    refine z_aload_n cx d_X10_hour_27 0 rfl ?_
    refine z_iload_n cx d_X10_hour_28 2 rfl ?_
    refine z_iconst (v := 0) cx d_X10_hour_29 ki_0 ?_
    refine z_iconst (v := 2) cx d_X10_hour_30 ki_2 ?_
    obtain ⟨v13, M12, hc, hF⟩ := zb_inv hF
    refine z_callS cx (As := [.int b19_L2, .int (0 : Int32), .int (2 : Int32)]) (rest := [.ref (ad 0)]) (c_X10_in l cx.2.2.2.1.1 M10 b19_L2 (0 : Int32) (2 : Int32)  hc) cs_SunnyPansModel_116 ⟨rfl, rfl, Nat.le_of_ble_eq_true rfl, Nat.le_of_ble_eq_true rfl⟩ rfl rfl ⟨Nat.zero_le _, Nat.zero_le _⟩ (Nat.le_of_ble_eq_true rfl) d_X10_hour_31 ?_
    refine z_if_ne cx 41 d_X10_hour_34 (by decide) hF (fun hF => ?_) (fun hF => ?_)
    · refine z_iconst (v := 0) cx d_X10_hour_41 ki_0 ?_
      exact hb42 b19_L1 b19_L2 (0 : Int32) M12 hF
    refine z_iconst (v := 1) cx d_X10_hour_37 ki_1 ?_
    refine z_goto cx 42 d_X10_hour_38 (by decide) ?_
    exact hb42 b19_L1 b19_L2 (1 : Int32) M12 hF
  unfold F_X10_hour at hF
  refine z_aload_n cx d_X10_hour_0 0 rfl ?_
  refine z_iconst (v := 0) cx d_X10_hour_1 ki_0 ?_
  refine z_putI cx hT fp_SunnyPansModel_82 d_X10_hour_2 ?_
  refine z_nmM hF (fun M14 hF => ?_)
  refine z_aload_n cx d_X10_hour_5 0 rfl ?_
  refine z_aload_n cx d_X10_hour_6 0 rfl ?_
  refine z_iload_n cx d_X10_hour_7 1 rfl ?_
  obtain ⟨v16, M15, hc, hF⟩ := zb_inv hF
  refine z_callV cx (As := [.int p0]) (rest := [.ref (ad 0)]) (c_X10_isHour l cx.2.2.2.1.1 M14 p0 hT hc) hT zo_11 cv_SunnyPansModel_336 ⟨rfl, rfl, Nat.le_of_ble_eq_true rfl, Nat.le_of_ble_eq_true rfl⟩ rfl rfl ⟨Nat.zero_le _, Nat.zero_le _⟩ (Nat.le_of_ble_eq_true rfl) d_X10_hour_8 ?_
  refine z_if_ne cx 18 d_X10_hour_11 (by decide) hF (fun hF => ?_) (fun hF => ?_)
  · refine z_iconst (v := 0) cx d_X10_hour_18 ki_0 ?_
    exact hb19 p0 p1 (0 : Int32) M15 hF
  refine z_iconst (v := 1) cx d_X10_hour_14 ki_1 ?_
  refine z_goto cx 19 d_X10_hour_15 (by decide) ?_
  exact hb19 p0 p1 (1 : Int32) M15 hF
/-! SunnyPansModel.shade -/
set_option maxRecDepth 100000 in
theorem wd_1788 : Cond.code yX10_shadeBits cX10_shadeBits 5 (some .int) ∈ tbG := tw8 8 rfl rfl
set_option maxRecDepth 100000 in
theorem wd_1785 : Cond.methodLink "SunnyPansModel" 339 yX10_shadeBits ∈ tbG := tw8 5 rfl rfl
set_option maxRecDepth 100000 in
theorem wd_1787 : Cond.instanceMethod yX10_shadeBits ∈ tbG := tw8 7 rfl rfl
theorem wd_86 : Cond.selects "SunnyPansModel" yX10_shadeBits yX10_shadeBits ∈ tbG := tw 86 (by decide +kernel) rfl
theorem cv_SunnyPansModel_339 : zCV "SunnyPansModel" 339 "SunnyPansModel" yX10_shadeBits cX10_shadeBits 5 (some .int) 2 := zCV_of wd_1785 wd_1787 wd_86 wd_111 wd_1788 (by decide +kernel)
theorem d_X10_shade_0 : decode cX10_shade 0 = .ok (.aload_n 0, 1) := by decide +kernel
theorem d_X10_shade_1 : decode cX10_shade 1 = .ok (.iconst 0, 1) := by decide +kernel
theorem d_X10_shade_2 : decode cX10_shade 2 = .ok (.putfield 82, 3) := by decide +kernel
theorem d_X10_shade_5 : decode cX10_shade 5 = .ok (.aload_n 0, 1) := by decide +kernel
theorem d_X10_shade_6 : decode cX10_shade 6 = .ok (.aload_n 0, 1) := by decide +kernel
theorem d_X10_shade_7 : decode cX10_shade 7 = .ok (.iload_n 1, 1) := by decide +kernel
theorem d_X10_shade_8 : decode cX10_shade 8 = .ok (.invokevirtual 336, 3) := by decide +kernel
theorem d_X10_shade_11 : decode cX10_shade 11 = .ok (.ifCond .eq 19, 3) := by decide +kernel
theorem d_X10_shade_14 : decode cX10_shade 14 = .ok (.iload_n 2, 1) := by decide +kernel
theorem d_X10_shade_15 : decode cX10_shade 15 = .ok (.iconst 0, 1) := by decide +kernel
theorem d_X10_shade_16 : decode cX10_shade 16 = .ok (.aload_n 0, 1) := by decide +kernel
theorem d_X10_shade_17 : decode cX10_shade 17 = .ok (.getfield 23, 3) := by decide +kernel
theorem d_X10_shade_20 : decode cX10_shade 20 = .ok (.iconst 1, 1) := by decide +kernel
theorem d_X10_shade_21 : decode cX10_shade 21 = .ok (.iaload, 1) := by decide +kernel
theorem d_X10_shade_22 : decode cX10_shade 22 = .ok (.iconst 1, 1) := by decide +kernel
theorem d_X10_shade_23 : decode cX10_shade 23 = .ok (.isub, 1) := by decide +kernel
theorem d_X10_shade_24 : decode cX10_shade 24 = .ok (.invokestatic 116, 3) := by decide +kernel
theorem d_X10_shade_27 : decode cX10_shade 27 = .ok (.ifCond .ne 7, 3) := by decide +kernel
theorem d_X10_shade_30 : decode cX10_shade 30 = .ok (.iconst 1, 1) := by decide +kernel
theorem d_X10_shade_31 : decode cX10_shade 31 = .ok (.goto 4, 3) := by decide +kernel
theorem d_X10_shade_34 : decode cX10_shade 34 = .ok (.iconst 0, 1) := by decide +kernel
theorem d_X10_shade_35 : decode cX10_shade 35 = .ok (.iconst 1, 1) := by decide +kernel
theorem d_X10_shade_36 : decode cX10_shade 36 = .ok (.iconst 0, 1) := by decide +kernel
theorem d_X10_shade_37 : decode cX10_shade 37 = .ok (.invokevirtual 155, 3) := by decide +kernel
theorem d_X10_shade_40 : decode cX10_shade 40 = .ok (.ifCond .eq 5, 3) := by decide +kernel
theorem d_X10_shade_43 : decode cX10_shade 43 = .ok (.iconst 0, 1) := by decide +kernel
theorem d_X10_shade_44 : decode cX10_shade 44 = .ok (.ireturn, 1) := by decide +kernel
theorem d_X10_shade_45 : decode cX10_shade 45 = .ok (.aload_n 0, 1) := by decide +kernel
theorem d_X10_shade_46 : decode cX10_shade 46 = .ok (.iload_n 1, 1) := by decide +kernel
theorem d_X10_shade_47 : decode cX10_shade 47 = .ok (.iload_n 2, 1) := by decide +kernel
theorem d_X10_shade_48 : decode cX10_shade 48 = .ok (.invokevirtual 339, 3) := by decide +kernel
theorem d_X10_shade_51 : decode cX10_shade 51 = .ok (.ireturn, 1) := by decide +kernel
noncomputable def F_X10_shade_35 (p0 : Int32) (p1 : Int32) (b35_L1 : Int32) (b35_L2 : Int32) (b35_S1 : Int32) (M : zMem) : Option (Int32 × zMem) :=
  zb (F_X10_bad M b35_S1 (1 : Int32) (0 : Int32)) fun v2 M1 =>
  if v2 = 0 then
    zb (F_X10_shadeBits M1 b35_L1 b35_L2) fun v4 M3 =>
    some (v4, M3)
  else
    some ((0 : Int32), M1)
noncomputable def F_X10_shade (M : zMem) (p0 : Int32) (p1 : Int32) : Option (Int32 × zMem) :=
  zl (zI M 0 0 (0 : Int32)) fun M5 =>
  zb (F_X10_isHour M5 p0) fun v7 M6 =>
  if v7 = 0 then
    F_X10_shade_35 p0 p1 p0 p1 (1 : Int32) M6
  else
    zb (F_X10_in M6 p1 (0 : Int32) ((M6.1 4 1) - (1 : Int32))) fun v9 M8 =>
    if v9 = 0 then
      F_X10_shade_35 p0 p1 p0 p1 (1 : Int32) M8
    else
      F_X10_shade_35 p0 p1 p0 p1 (0 : Int32) M8
def rm_X10_shade : Room := { frames := 7, cells := 0, slots := 0, locals := 197 }
set_option maxHeartbeats 4000000 in
set_option maxRecDepth 100000 in
theorem c_X10_shade (l : Launch) {G : zG} {ad : Nat → Nat} {n : Nat} (hA : zInj ad n) (M : zMem) (p0 : Int32) (p1 : Int32) (hT : zT shM n 0 11) {r9 : Int32} {M9 : zMem} (hF : F_X10_shade M p0 p1 = some (r9, M9)) : zM l yX10_shade cX10_shade 3 (some .int) rm_X10_shade G shM ad n M [.ref (ad 0), .int p0, .int p1] (some (.int r9)) M9 := by
  refine zM_of hA (by decide +kernel) (lv := [(0, .ref (ad 0)), (1, .int p0), (2, .int p1)]) (Nat.le_of_ble_eq_true rfl) rfl (fun p e s m args below meth c A cx hr => ?_)
  have hb35 : ∀ (b35_L1 : Int32) (b35_L2 : Int32) (b35_S1 : Int32) (M : zMem), F_X10_shade_35 p0 p1 b35_L1 b35_L2 b35_S1 M = some (r9, M9) → zJ p l e rm_X10_shade s m args below meth c G shM ad n A 3 (MQ below (zQ G shM ad n M9 (some (.int r9)) A) args s 0 0 A) 0 0 M 35 [(0, .ref (ad 0)), (1, .int b35_L1), (2, .int b35_L2)] [.int b35_S1, .ref (ad 0)] := by
    intro b35_L1 b35_L2 b35_S1 M hF
    unfold F_X10_shade_35 at hF
    refine z_iconst (v := 1) cx d_X10_shade_35 ki_1 ?_
    refine z_iconst (v := 0) cx d_X10_shade_36 ki_0 ?_
    obtain ⟨v2, M1, hc, hF⟩ := zb_inv hF
    refine z_callV cx (As := [.int b35_S1, .int (1 : Int32), .int (0 : Int32)]) (rest := []) (c_X10_bad l cx.2.2.2.1.1 M b35_S1 (1 : Int32) (0 : Int32) hT hc) hT zo_11 cv_SunnyPansModel_155 ⟨rfl, rfl, Nat.le_of_ble_eq_true rfl, Nat.le_of_ble_eq_true rfl⟩ rfl rfl ⟨Nat.zero_le _, Nat.zero_le _⟩ (Nat.le_of_ble_eq_true rfl) d_X10_shade_37 ?_
    refine z_if_eq cx 45 d_X10_shade_40 (by decide) hF (fun hF => ?_) (fun hF => ?_)
    · refine z_aload_n cx d_X10_shade_45 0 rfl ?_
      refine z_iload_n cx d_X10_shade_46 1 rfl ?_
      refine z_iload_n cx d_X10_shade_47 2 rfl ?_
      obtain ⟨v4, M3, hc, hF⟩ := zb_inv hF
      refine z_callV cx (As := [.int b35_L1, .int b35_L2]) (rest := []) (c_X10_shadeBits l cx.2.2.2.1.1 M1 b35_L1 b35_L2 hT hc) hT zo_11 cv_SunnyPansModel_339 ⟨rfl, rfl, Nat.le_of_ble_eq_true rfl, Nat.le_of_ble_eq_true rfl⟩ rfl rfl ⟨Nat.zero_le _, Nat.zero_le _⟩ (Nat.le_of_ble_eq_true rfl) d_X10_shade_48 ?_
      exact z_iret cx hr rfl hF d_X10_shade_51
    refine z_iconst (v := 0) cx d_X10_shade_43 ki_0 ?_
    exact z_iret cx hr rfl hF d_X10_shade_44
  unfold F_X10_shade at hF
  refine z_aload_n cx d_X10_shade_0 0 rfl ?_
  refine z_iconst (v := 0) cx d_X10_shade_1 ki_0 ?_
  refine z_putI cx hT fp_SunnyPansModel_82 d_X10_shade_2 ?_
  refine z_nmM hF (fun M5 hF => ?_)
  refine z_aload_n cx d_X10_shade_5 0 rfl ?_
  refine z_aload_n cx d_X10_shade_6 0 rfl ?_
  refine z_iload_n cx d_X10_shade_7 1 rfl ?_
  obtain ⟨v7, M6, hc, hF⟩ := zb_inv hF
  refine z_callV cx (As := [.int p0]) (rest := [.ref (ad 0)]) (c_X10_isHour l cx.2.2.2.1.1 M5 p0 hT hc) hT zo_11 cv_SunnyPansModel_336 ⟨rfl, rfl, Nat.le_of_ble_eq_true rfl, Nat.le_of_ble_eq_true rfl⟩ rfl rfl ⟨Nat.zero_le _, Nat.zero_le _⟩ (Nat.le_of_ble_eq_true rfl) d_X10_shade_8 ?_
  refine z_if_eq cx 30 d_X10_shade_11 (by decide) hF (fun hF => ?_) (fun hF => ?_)
  · refine z_iconst (v := 1) cx d_X10_shade_30 ki_1 ?_
    refine z_goto cx 35 d_X10_shade_31 (by decide) ?_
    exact hb35 p0 p1 (1 : Int32) M6 hF
  refine z_iload_n cx d_X10_shade_14 2 rfl ?_
  refine z_iconst (v := 0) cx d_X10_shade_15 ki_0 ?_
  refine z_aload_n cx d_X10_shade_16 0 rfl ?_
  refine z_getR cx hT fg_SunnyPansModel_23 4 rfl d_X10_shade_17 ?_
  refine z_iconst (v := 1) cx d_X10_shade_20 ki_1 ?_
  refine z_iald cx (tfM_11_4 hT) za_28 (zvp (by decide +kernel)) 1 rfl d_X10_shade_21 ?_
  refine z_iconst (v := 1) cx d_X10_shade_22 ki_1 ?_
  refine z_isub cx d_X10_shade_23 ?_
  obtain ⟨v9, M8, hc, hF⟩ := zb_inv hF
  refine z_callS cx (As := [.int p1, .int (0 : Int32), .int ((M6.1 4 1) - (1 : Int32))]) (rest := [.ref (ad 0)]) (c_X10_in l cx.2.2.2.1.1 M6 p1 (0 : Int32) ((M6.1 4 1) - (1 : Int32))  hc) cs_SunnyPansModel_116 ⟨rfl, rfl, Nat.le_of_ble_eq_true rfl, Nat.le_of_ble_eq_true rfl⟩ rfl rfl ⟨Nat.zero_le _, Nat.zero_le _⟩ (Nat.le_of_ble_eq_true rfl) d_X10_shade_24 ?_
  refine z_if_ne cx 34 d_X10_shade_27 (by decide) hF (fun hF => ?_) (fun hF => ?_)
  · refine z_iconst (v := 0) cx d_X10_shade_34 ki_0 ?_
    exact hb35 p0 p1 (0 : Int32) M8 hF
  refine z_iconst (v := 1) cx d_X10_shade_30 ki_1 ?_
  refine z_goto cx 35 d_X10_shade_31 (by decide) ?_
  exact hb35 p0 p1 (1 : Int32) M8 hF
/-! SunnyPansModel.dries -/
theorem d_X10_dries_0 : decode cX10_dries 0 = .ok (.aload_n 0, 1) := by decide +kernel
theorem d_X10_dries_1 : decode cX10_dries 1 = .ok (.iconst 0, 1) := by decide +kernel
theorem d_X10_dries_2 : decode cX10_dries 2 = .ok (.putfield 82, 3) := by decide +kernel
theorem d_X10_dries_5 : decode cX10_dries 5 = .ok (.aload_n 0, 1) := by decide +kernel
theorem d_X10_dries_6 : decode cX10_dries 6 = .ok (.aload_n 0, 1) := by decide +kernel
theorem d_X10_dries_7 : decode cX10_dries 7 = .ok (.iload_n 1, 1) := by decide +kernel
theorem d_X10_dries_8 : decode cX10_dries 8 = .ok (.iload_n 2, 1) := by decide +kernel
theorem d_X10_dries_9 : decode cX10_dries 9 = .ok (.invokevirtual 237, 3) := by decide +kernel
theorem d_X10_dries_12 : decode cX10_dries 12 = .ok (.ifCond .eq 11, 3) := by decide +kernel
theorem d_X10_dries_15 : decode cX10_dries 15 = .ok (.aload_n 0, 1) := by decide +kernel
theorem d_X10_dries_16 : decode cX10_dries 16 = .ok (.iload_n 3, 1) := by decide +kernel
theorem d_X10_dries_17 : decode cX10_dries 17 = .ok (.invokevirtual 336, 3) := by decide +kernel
theorem d_X10_dries_20 : decode cX10_dries 20 = .ok (.ifCond .ne 7, 3) := by decide +kernel
theorem d_X10_dries_23 : decode cX10_dries 23 = .ok (.iconst 1, 1) := by decide +kernel
theorem d_X10_dries_24 : decode cX10_dries 24 = .ok (.goto 4, 3) := by decide +kernel
theorem d_X10_dries_27 : decode cX10_dries 27 = .ok (.iconst 0, 1) := by decide +kernel
theorem d_X10_dries_28 : decode cX10_dries 28 = .ok (.iconst 1, 1) := by decide +kernel
theorem d_X10_dries_29 : decode cX10_dries 29 = .ok (.iconst 0, 1) := by decide +kernel
theorem d_X10_dries_30 : decode cX10_dries 30 = .ok (.invokevirtual 155, 3) := by decide +kernel
theorem d_X10_dries_33 : decode cX10_dries 33 = .ok (.ifCond .eq 5, 3) := by decide +kernel
theorem d_X10_dries_36 : decode cX10_dries 36 = .ok (.iconst 0, 1) := by decide +kernel
theorem d_X10_dries_37 : decode cX10_dries 37 = .ok (.ireturn, 1) := by decide +kernel
theorem d_X10_dries_38 : decode cX10_dries 38 = .ok (.aload_n 0, 1) := by decide +kernel
theorem d_X10_dries_39 : decode cX10_dries 39 = .ok (.aload_n 0, 1) := by decide +kernel
theorem d_X10_dries_40 : decode cX10_dries 40 = .ok (.getfield 58, 3) := by decide +kernel
theorem d_X10_dries_43 : decode cX10_dries 43 = .ok (.bipush 8, 2) := by decide +kernel
theorem d_X10_dries_45 : decode cX10_dries 45 = .ok (.iload_n 2, 1) := by decide +kernel
theorem d_X10_dries_46 : decode cX10_dries 46 = .ok (.imul, 1) := by decide +kernel
theorem d_X10_dries_47 : decode cX10_dries 47 = .ok (.iload_n 1, 1) := by decide +kernel
theorem d_X10_dries_48 : decode cX10_dries 48 = .ok (.iadd, 1) := by decide +kernel
theorem d_X10_dries_49 : decode cX10_dries 49 = .ok (.iload_n 3, 1) := by decide +kernel
theorem d_X10_dries_50 : decode cX10_dries 50 = .ok (.invokevirtual 268, 3) := by decide +kernel
theorem d_X10_dries_53 : decode cX10_dries 53 = .ok (.ireturn, 1) := by decide +kernel
noncomputable def F_X10_dries_28 (p0 : Int32) (p1 : Int32) (p2 : Int32) (b28_L1 : Int32) (b28_L2 : Int32) (b28_L3 : Int32) (b28_S1 : Int32) (M : zMem) : Option (Int32 × zMem) :=
  zb (F_X10_bad M b28_S1 (1 : Int32) (0 : Int32)) fun v2 M1 =>
  if v2 = 0 then
    zb (F_X10_driesOf M1 451 (((8 : Int32) * b28_L2) + b28_L1) b28_L3) fun v4 M3 =>
    some (v4, M3)
  else
    some ((0 : Int32), M1)
noncomputable def F_X10_dries (M : zMem) (p0 : Int32) (p1 : Int32) (p2 : Int32) : Option (Int32 × zMem) :=
  zl (zI M 0 0 (0 : Int32)) fun M5 =>
  zb (F_X10_isWithin M5 p0 p1) fun v7 M6 =>
  if v7 = 0 then
    F_X10_dries_28 p0 p1 p2 p0 p1 p2 (1 : Int32) M6
  else
    zb (F_X10_isHour M6 p2) fun v9 M8 =>
    if v9 = 0 then
      F_X10_dries_28 p0 p1 p2 p0 p1 p2 (1 : Int32) M8
    else
      F_X10_dries_28 p0 p1 p2 p0 p1 p2 (0 : Int32) M8
def rm_X10_dries : Room := { frames := 7, cells := 0, slots := 0, locals := 196 }
set_option maxHeartbeats 4000000 in
set_option maxRecDepth 100000 in
theorem c_X10_dries (l : Launch) {G : zG} {ad : Nat → Nat} {n : Nat} (hA : zInj ad n) (M : zMem) (p0 : Int32) (p1 : Int32) (p2 : Int32) (hT : zT shM n 0 11) {r9 : Int32} {M9 : zMem} (hF : F_X10_dries M p0 p1 p2 = some (r9, M9)) : zM l yX10_dries cX10_dries 4 (some .int) rm_X10_dries G shM ad n M [.ref (ad 0), .int p0, .int p1, .int p2] (some (.int r9)) M9 := by
  refine zM_of hA (by decide +kernel) (lv := [(0, .ref (ad 0)), (1, .int p0), (2, .int p1), (3, .int p2)]) (Nat.le_of_ble_eq_true rfl) rfl (fun p e s m args below meth c A cx hr => ?_)
  have hb28 : ∀ (b28_L1 : Int32) (b28_L2 : Int32) (b28_L3 : Int32) (b28_S1 : Int32) (M : zMem), F_X10_dries_28 p0 p1 p2 b28_L1 b28_L2 b28_L3 b28_S1 M = some (r9, M9) → zJ p l e rm_X10_dries s m args below meth c G shM ad n A 4 (MQ below (zQ G shM ad n M9 (some (.int r9)) A) args s 0 0 A) 0 0 M 28 [(0, .ref (ad 0)), (1, .int b28_L1), (2, .int b28_L2), (3, .int b28_L3)] [.int b28_S1, .ref (ad 0)] := by
    intro b28_L1 b28_L2 b28_L3 b28_S1 M hF
    unfold F_X10_dries_28 at hF
    refine z_iconst (v := 1) cx d_X10_dries_28 ki_1 ?_
    refine z_iconst (v := 0) cx d_X10_dries_29 ki_0 ?_
    obtain ⟨v2, M1, hc, hF⟩ := zb_inv hF
    refine z_callV cx (As := [.int b28_S1, .int (1 : Int32), .int (0 : Int32)]) (rest := []) (c_X10_bad l cx.2.2.2.1.1 M b28_S1 (1 : Int32) (0 : Int32) hT hc) hT zo_11 cv_SunnyPansModel_155 ⟨rfl, rfl, Nat.le_of_ble_eq_true rfl, Nat.le_of_ble_eq_true rfl⟩ rfl rfl ⟨Nat.zero_le _, Nat.zero_le _⟩ (Nat.le_of_ble_eq_true rfl) d_X10_dries_30 ?_
    refine z_if_eq cx 38 d_X10_dries_33 (by decide) hF (fun hF => ?_) (fun hF => ?_)
    · refine z_aload_n cx d_X10_dries_38 0 rfl ?_
      refine z_aload_n cx d_X10_dries_39 0 rfl ?_
      refine z_getR cx hT fg_SunnyPansModel_58 451 rfl d_X10_dries_40 ?_
      refine z_bipush (v := 8) cx d_X10_dries_43 kb_8 ?_
      refine z_iload_n cx d_X10_dries_45 2 rfl ?_
      refine z_imul cx d_X10_dries_46 ?_
      refine z_iload_n cx d_X10_dries_47 1 rfl ?_
      refine z_iadd cx d_X10_dries_48 ?_
      refine z_iload_n cx d_X10_dries_49 3 rfl ?_
      obtain ⟨v4, M3, hc, hF⟩ := zb_inv hF
      refine z_callV cx (As := [.ref (ad 451), .int (((8 : Int32) * b28_L2) + b28_L1), .int b28_L3]) (rest := []) (c_X10_driesOf l cx.2.2.2.1.1 M1 451 (((8 : Int32) * b28_L2) + b28_L1) b28_L3 hT (tfM_11_451 hT) hc) hT zo_11 cv_SunnyPansModel_268 ⟨rfl, rfl, Nat.le_of_ble_eq_true rfl, Nat.le_of_ble_eq_true rfl⟩ rfl rfl ⟨Nat.zero_le _, Nat.zero_le _⟩ (Nat.le_of_ble_eq_true rfl) d_X10_dries_50 ?_
      exact z_iret cx hr rfl hF d_X10_dries_53
    refine z_iconst (v := 0) cx d_X10_dries_36 ki_0 ?_
    exact z_iret cx hr rfl hF d_X10_dries_37
  unfold F_X10_dries at hF
  refine z_aload_n cx d_X10_dries_0 0 rfl ?_
  refine z_iconst (v := 0) cx d_X10_dries_1 ki_0 ?_
  refine z_putI cx hT fp_SunnyPansModel_82 d_X10_dries_2 ?_
  refine z_nmM hF (fun M5 hF => ?_)
  refine z_aload_n cx d_X10_dries_5 0 rfl ?_
  refine z_aload_n cx d_X10_dries_6 0 rfl ?_
  refine z_iload_n cx d_X10_dries_7 1 rfl ?_
  refine z_iload_n cx d_X10_dries_8 2 rfl ?_
  obtain ⟨v7, M6, hc, hF⟩ := zb_inv hF
  refine z_callV cx (As := [.int p0, .int p1]) (rest := [.ref (ad 0)]) (c_X10_isWithin l cx.2.2.2.1.1 M5 p0 p1 hT hc) hT zo_11 cv_SunnyPansModel_237 ⟨rfl, rfl, Nat.le_of_ble_eq_true rfl, Nat.le_of_ble_eq_true rfl⟩ rfl rfl ⟨Nat.zero_le _, Nat.zero_le _⟩ (Nat.le_of_ble_eq_true rfl) d_X10_dries_9 ?_
  refine z_if_eq cx 23 d_X10_dries_12 (by decide) hF (fun hF => ?_) (fun hF => ?_)
  · refine z_iconst (v := 1) cx d_X10_dries_23 ki_1 ?_
    refine z_goto cx 28 d_X10_dries_24 (by decide) ?_
    exact hb28 p0 p1 p2 (1 : Int32) M6 hF
  refine z_aload_n cx d_X10_dries_15 0 rfl ?_
  refine z_iload_n cx d_X10_dries_16 3 rfl ?_
  obtain ⟨v9, M8, hc, hF⟩ := zb_inv hF
  refine z_callV cx (As := [.int p2]) (rest := [.ref (ad 0)]) (c_X10_isHour l cx.2.2.2.1.1 M6 p2 hT hc) hT zo_11 cv_SunnyPansModel_336 ⟨rfl, rfl, Nat.le_of_ble_eq_true rfl, Nat.le_of_ble_eq_true rfl⟩ rfl rfl ⟨Nat.zero_le _, Nat.zero_le _⟩ (Nat.le_of_ble_eq_true rfl) d_X10_dries_17 ?_
  refine z_if_ne cx 27 d_X10_dries_20 (by decide) hF (fun hF => ?_) (fun hF => ?_)
  · refine z_iconst (v := 0) cx d_X10_dries_27 ki_0 ?_
    exact hb28 p0 p1 p2 (0 : Int32) M8 hF
  refine z_iconst (v := 1) cx d_X10_dries_23 ki_1 ?_
  refine z_goto cx 28 d_X10_dries_24 (by decide) ?_
  exact hb28 p0 p1 p2 (1 : Int32) M8 hF
/-! SunnyPansModel.would -/
theorem d_X10_would_0 : decode cX10_would 0 = .ok (.aload_n 0, 1) := by decide +kernel
theorem d_X10_would_1 : decode cX10_would 1 = .ok (.iconst 0, 1) := by decide +kernel
theorem d_X10_would_2 : decode cX10_would 2 = .ok (.putfield 82, 3) := by decide +kernel
theorem d_X10_would_5 : decode cX10_would 5 = .ok (.aload_n 0, 1) := by decide +kernel
theorem d_X10_would_6 : decode cX10_would 6 = .ok (.iload_n 1, 1) := by decide +kernel
theorem d_X10_would_7 : decode cX10_would 7 = .ok (.iconst 0, 1) := by decide +kernel
theorem d_X10_would_8 : decode cX10_would 8 = .ok (.sipush 9999, 3) := by decide +kernel
theorem d_X10_would_11 : decode cX10_would 11 = .ok (.invokestatic 116, 3) := by decide +kernel
theorem d_X10_would_14 : decode cX10_would 14 = .ok (.ifCond .eq 80, 3) := by decide +kernel
theorem d_X10_would_17 : decode cX10_would 17 = .ok (.iload_n 2, 1) := by decide +kernel
theorem d_X10_would_18 : decode cX10_would 18 = .ok (.iconst 0, 1) := by decide +kernel
theorem d_X10_would_19 : decode cX10_would 19 = .ok (.sipush 9999, 3) := by decide +kernel
theorem d_X10_would_22 : decode cX10_would 22 = .ok (.invokestatic 116, 3) := by decide +kernel
theorem d_X10_would_25 : decode cX10_would 25 = .ok (.ifCond .eq 69, 3) := by decide +kernel
theorem d_X10_would_28 : decode cX10_would 28 = .ok (.iload_n 3, 1) := by decide +kernel
theorem d_X10_would_29 : decode cX10_would 29 = .ok (.iconst 0, 1) := by decide +kernel
theorem d_X10_would_30 : decode cX10_would 30 = .ok (.bipush 40, 2) := by decide +kernel
theorem d_X10_would_32 : decode cX10_would 32 = .ok (.invokestatic 116, 3) := by decide +kernel
theorem d_X10_would_35 : decode cX10_would 35 = .ok (.ifCond .eq 59, 3) := by decide +kernel
theorem d_X10_would_38 : decode cX10_would 38 = .ok (.iload 4, 2) := by decide +kernel
theorem d_X10_would_40 : decode cX10_would 40 = .ok (.iconst 0, 1) := by decide +kernel
theorem d_X10_would_41 : decode cX10_would 41 = .ok (.bipush 7, 2) := by decide +kernel
theorem d_X10_would_43 : decode cX10_would 43 = .ok (.invokestatic 116, 3) := by decide +kernel
theorem d_X10_would_46 : decode cX10_would 46 = .ok (.ifCond .eq 48, 3) := by decide +kernel
theorem d_X10_would_49 : decode cX10_would 49 = .ok (.iload 5, 2) := by decide +kernel
theorem d_X10_would_51 : decode cX10_would 51 = .ok (.iconst 0, 1) := by decide +kernel
theorem d_X10_would_52 : decode cX10_would 52 = .ok (.bipush 9, 2) := by decide +kernel
theorem d_X10_would_54 : decode cX10_would 54 = .ok (.invokestatic 116, 3) := by decide +kernel
theorem d_X10_would_57 : decode cX10_would 57 = .ok (.ifCond .eq 37, 3) := by decide +kernel
theorem d_X10_would_60 : decode cX10_would 60 = .ok (.iload 6, 2) := by decide +kernel
theorem d_X10_would_62 : decode cX10_would 62 = .ok (.iconst 0, 1) := by decide +kernel
theorem d_X10_would_63 : decode cX10_would 63 = .ok (.sipush 400, 3) := by decide +kernel
theorem d_X10_would_66 : decode cX10_would 66 = .ok (.invokestatic 116, 3) := by decide +kernel
theorem d_X10_would_69 : decode cX10_would 69 = .ok (.ifCond .eq 25, 3) := by decide +kernel
theorem d_X10_would_72 : decode cX10_would 72 = .ok (.iload 7, 2) := by decide +kernel
theorem d_X10_would_74 : decode cX10_would 74 = .ok (.iconst 0, 1) := by decide +kernel
theorem d_X10_would_75 : decode cX10_would 75 = .ok (.bipush 7, 2) := by decide +kernel
theorem d_X10_would_77 : decode cX10_would 77 = .ok (.invokestatic 116, 3) := by decide +kernel
theorem d_X10_would_80 : decode cX10_would 80 = .ok (.ifCond .eq 14, 3) := by decide +kernel
theorem d_X10_would_83 : decode cX10_would 83 = .ok (.iload 8, 2) := by decide +kernel
theorem d_X10_would_85 : decode cX10_would 85 = .ok (.iconst 0, 1) := by decide +kernel
theorem d_X10_would_86 : decode cX10_would 86 = .ok (.bipush 7, 2) := by decide +kernel
theorem d_X10_would_88 : decode cX10_would 88 = .ok (.invokestatic 116, 3) := by decide +kernel
theorem d_X10_would_91 : decode cX10_would 91 = .ok (.ifCond .ne 7, 3) := by decide +kernel
theorem d_X10_would_94 : decode cX10_would 94 = .ok (.iconst 1, 1) := by decide +kernel
theorem d_X10_would_95 : decode cX10_would 95 = .ok (.goto 4, 3) := by decide +kernel
theorem d_X10_would_98 : decode cX10_would 98 = .ok (.iconst 0, 1) := by decide +kernel
theorem d_X10_would_99 : decode cX10_would 99 = .ok (.iconst 1, 1) := by decide +kernel
theorem d_X10_would_100 : decode cX10_would 100 = .ok (.iconst 1, 1) := by decide +kernel
theorem d_X10_would_101 : decode cX10_would 101 = .ok (.invokevirtual 155, 3) := by decide +kernel
theorem d_X10_would_104 : decode cX10_would 104 = .ok (.ifCond .eq 5, 3) := by decide +kernel
theorem d_X10_would_107 : decode cX10_would 107 = .ok (.iconst 0, 1) := by decide +kernel
theorem d_X10_would_108 : decode cX10_would 108 = .ok (.ireturn, 1) := by decide +kernel
theorem d_X10_would_109 : decode cX10_would 109 = .ok (.aload_n 0, 1) := by decide +kernel
theorem d_X10_would_110 : decode cX10_would 110 = .ok (.iload_n 1, 1) := by decide +kernel
theorem d_X10_would_111 : decode cX10_would 111 = .ok (.iload_n 2, 1) := by decide +kernel
theorem d_X10_would_112 : decode cX10_would 112 = .ok (.iload_n 3, 1) := by decide +kernel
theorem d_X10_would_113 : decode cX10_would 113 = .ok (.iload 4, 2) := by decide +kernel
theorem d_X10_would_115 : decode cX10_would 115 = .ok (.iload 5, 2) := by decide +kernel
theorem d_X10_would_117 : decode cX10_would 117 = .ok (.iload 6, 2) := by decide +kernel
theorem d_X10_would_119 : decode cX10_would 119 = .ok (.iload 7, 2) := by decide +kernel
theorem d_X10_would_121 : decode cX10_would 121 = .ok (.iload 8, 2) := by decide +kernel
theorem d_X10_would_123 : decode cX10_would 123 = .ok (.invokevirtual 260, 3) := by decide +kernel
theorem d_X10_would_126 : decode cX10_would 126 = .ok (.ireturn, 1) := by decide +kernel
noncomputable def F_X10_would_99 (p0 : Int32) (p1 : Int32) (p2 : Int32) (p3 : Int32) (p4 : Int32) (p5 : Int32) (p6 : Int32) (p7 : Int32) (b99_L1 : Int32) (b99_L2 : Int32) (b99_L3 : Int32) (b99_L4 : Int32) (b99_L5 : Int32) (b99_L6 : Int32) (b99_L7 : Int32) (b99_L8 : Int32) (b99_S1 : Int32) (M : zMem) : Option (Int32 × zMem) :=
  zb (F_X10_bad M b99_S1 (1 : Int32) (1 : Int32)) fun v2 M1 =>
  if v2 = 0 then
    zb (F_X10_driesBy M1 b99_L1 b99_L2 b99_L3 b99_L4 b99_L5 b99_L6 b99_L7 b99_L8) fun v4 M3 =>
    some (v4, M3)
  else
    some ((0 : Int32), M1)
noncomputable def F_X10_would (M : zMem) (p0 : Int32) (p1 : Int32) (p2 : Int32) (p3 : Int32) (p4 : Int32) (p5 : Int32) (p6 : Int32) (p7 : Int32) : Option (Int32 × zMem) :=
  zl (zI M 0 0 (0 : Int32)) fun M5 =>
  zb (F_X10_in M5 p0 (0 : Int32) (9999 : Int32)) fun v7 M6 =>
  if v7 = 0 then
    F_X10_would_99 p0 p1 p2 p3 p4 p5 p6 p7 p0 p1 p2 p3 p4 p5 p6 p7 (1 : Int32) M6
  else
    zb (F_X10_in M6 p1 (0 : Int32) (9999 : Int32)) fun v9 M8 =>
    if v9 = 0 then
      F_X10_would_99 p0 p1 p2 p3 p4 p5 p6 p7 p0 p1 p2 p3 p4 p5 p6 p7 (1 : Int32) M8
    else
      zb (F_X10_in M8 p2 (0 : Int32) (40 : Int32)) fun v11 M10 =>
      if v11 = 0 then
        F_X10_would_99 p0 p1 p2 p3 p4 p5 p6 p7 p0 p1 p2 p3 p4 p5 p6 p7 (1 : Int32) M10
      else
        zb (F_X10_in M10 p3 (0 : Int32) (7 : Int32)) fun v13 M12 =>
        if v13 = 0 then
          F_X10_would_99 p0 p1 p2 p3 p4 p5 p6 p7 p0 p1 p2 p3 p4 p5 p6 p7 (1 : Int32) M12
        else
          zb (F_X10_in M12 p4 (0 : Int32) (9 : Int32)) fun v15 M14 =>
          if v15 = 0 then
            F_X10_would_99 p0 p1 p2 p3 p4 p5 p6 p7 p0 p1 p2 p3 p4 p5 p6 p7 (1 : Int32) M14
          else
            zb (F_X10_in M14 p5 (0 : Int32) (400 : Int32)) fun v17 M16 =>
            if v17 = 0 then
              F_X10_would_99 p0 p1 p2 p3 p4 p5 p6 p7 p0 p1 p2 p3 p4 p5 p6 p7 (1 : Int32) M16
            else
              zb (F_X10_in M16 p6 (0 : Int32) (7 : Int32)) fun v19 M18 =>
              if v19 = 0 then
                F_X10_would_99 p0 p1 p2 p3 p4 p5 p6 p7 p0 p1 p2 p3 p4 p5 p6 p7 (1 : Int32) M18
              else
                zb (F_X10_in M18 p7 (0 : Int32) (7 : Int32)) fun v21 M20 =>
                if v21 = 0 then
                  F_X10_would_99 p0 p1 p2 p3 p4 p5 p6 p7 p0 p1 p2 p3 p4 p5 p6 p7 (1 : Int32) M20
                else
                  F_X10_would_99 p0 p1 p2 p3 p4 p5 p6 p7 p0 p1 p2 p3 p4 p5 p6 p7 (0 : Int32) M20
def rm_X10_would : Room := { frames := 6, cells := 0, slots := 0, locals := 173 }
set_option maxHeartbeats 4000000 in
set_option maxRecDepth 100000 in
theorem c_X10_would (l : Launch) {G : zG} {ad : Nat → Nat} {n : Nat} (hA : zInj ad n) (M : zMem) (p0 : Int32) (p1 : Int32) (p2 : Int32) (p3 : Int32) (p4 : Int32) (p5 : Int32) (p6 : Int32) (p7 : Int32) (hT : zT shM n 0 11) {r9 : Int32} {M9 : zMem} (hF : F_X10_would M p0 p1 p2 p3 p4 p5 p6 p7 = some (r9, M9)) : zM l yX10_would cX10_would 9 (some .int) rm_X10_would G shM ad n M [.ref (ad 0), .int p0, .int p1, .int p2, .int p3, .int p4, .int p5, .int p6, .int p7] (some (.int r9)) M9 := by
  refine zM_of hA (by decide +kernel) (lv := [(0, .ref (ad 0)), (1, .int p0), (2, .int p1), (3, .int p2), (4, .int p3), (5, .int p4), (6, .int p5), (7, .int p6), (8, .int p7)]) (Nat.le_of_ble_eq_true rfl) rfl (fun p e s m args below meth c A cx hr => ?_)
  have hb99 : ∀ (b99_L1 : Int32) (b99_L2 : Int32) (b99_L3 : Int32) (b99_L4 : Int32) (b99_L5 : Int32) (b99_L6 : Int32) (b99_L7 : Int32) (b99_L8 : Int32) (b99_S1 : Int32) (M : zMem), F_X10_would_99 p0 p1 p2 p3 p4 p5 p6 p7 b99_L1 b99_L2 b99_L3 b99_L4 b99_L5 b99_L6 b99_L7 b99_L8 b99_S1 M = some (r9, M9) → zJ p l e rm_X10_would s m args below meth c G shM ad n A 9 (MQ below (zQ G shM ad n M9 (some (.int r9)) A) args s 0 0 A) 0 0 M 99 [(0, .ref (ad 0)), (1, .int b99_L1), (2, .int b99_L2), (3, .int b99_L3), (4, .int b99_L4), (5, .int b99_L5), (6, .int b99_L6), (7, .int b99_L7), (8, .int b99_L8)] [.int b99_S1, .ref (ad 0)] := by
    intro b99_L1 b99_L2 b99_L3 b99_L4 b99_L5 b99_L6 b99_L7 b99_L8 b99_S1 M hF
    unfold F_X10_would_99 at hF
    refine z_iconst (v := 1) cx d_X10_would_99 ki_1 ?_
    refine z_iconst (v := 1) cx d_X10_would_100 ki_1 ?_
    obtain ⟨v2, M1, hc, hF⟩ := zb_inv hF
    refine z_callV cx (As := [.int b99_S1, .int (1 : Int32), .int (1 : Int32)]) (rest := []) (c_X10_bad l cx.2.2.2.1.1 M b99_S1 (1 : Int32) (1 : Int32) hT hc) hT zo_11 cv_SunnyPansModel_155 ⟨rfl, rfl, Nat.le_of_ble_eq_true rfl, Nat.le_of_ble_eq_true rfl⟩ rfl rfl ⟨Nat.zero_le _, Nat.zero_le _⟩ (Nat.le_of_ble_eq_true rfl) d_X10_would_101 ?_
    refine z_if_eq cx 109 d_X10_would_104 (by decide) hF (fun hF => ?_) (fun hF => ?_)
    · refine z_aload_n cx d_X10_would_109 0 rfl ?_
      refine z_iload_n cx d_X10_would_110 1 rfl ?_
      refine z_iload_n cx d_X10_would_111 2 rfl ?_
      refine z_iload_n cx d_X10_would_112 3 rfl ?_
      refine z_iload cx d_X10_would_113 4 rfl ?_
      refine z_iload cx d_X10_would_115 5 rfl ?_
      refine z_iload cx d_X10_would_117 6 rfl ?_
      refine z_iload cx d_X10_would_119 7 rfl ?_
      refine z_iload cx d_X10_would_121 8 rfl ?_
      obtain ⟨v4, M3, hc, hF⟩ := zb_inv hF
      refine z_callV cx (As := [.int b99_L1, .int b99_L2, .int b99_L3, .int b99_L4, .int b99_L5, .int b99_L6, .int b99_L7, .int b99_L8]) (rest := []) (c_X10_driesBy l cx.2.2.2.1.1 M1 b99_L1 b99_L2 b99_L3 b99_L4 b99_L5 b99_L6 b99_L7 b99_L8 hT hc) hT zo_11 cv_SunnyPansModel_260 ⟨rfl, rfl, Nat.le_of_ble_eq_true rfl, Nat.le_of_ble_eq_true rfl⟩ rfl rfl ⟨Nat.zero_le _, Nat.zero_le _⟩ (Nat.le_of_ble_eq_true rfl) d_X10_would_123 ?_
      exact z_iret cx hr rfl hF d_X10_would_126
    refine z_iconst (v := 0) cx d_X10_would_107 ki_0 ?_
    exact z_iret cx hr rfl hF d_X10_would_108
  unfold F_X10_would at hF
  refine z_aload_n cx d_X10_would_0 0 rfl ?_
  refine z_iconst (v := 0) cx d_X10_would_1 ki_0 ?_
  refine z_putI cx hT fp_SunnyPansModel_82 d_X10_would_2 ?_
  refine z_nmM hF (fun M5 hF => ?_)
  refine z_aload_n cx d_X10_would_5 0 rfl ?_
  refine z_iload_n cx d_X10_would_6 1 rfl ?_
  refine z_iconst (v := 0) cx d_X10_would_7 ki_0 ?_
  refine z_sipush (v := 9999) cx d_X10_would_8 ks_9999 ?_
  obtain ⟨v7, M6, hc, hF⟩ := zb_inv hF
  refine z_callS cx (As := [.int p0, .int (0 : Int32), .int (9999 : Int32)]) (rest := [.ref (ad 0)]) (c_X10_in l cx.2.2.2.1.1 M5 p0 (0 : Int32) (9999 : Int32)  hc) cs_SunnyPansModel_116 ⟨rfl, rfl, Nat.le_of_ble_eq_true rfl, Nat.le_of_ble_eq_true rfl⟩ rfl rfl ⟨Nat.zero_le _, Nat.zero_le _⟩ (Nat.le_of_ble_eq_true rfl) d_X10_would_11 ?_
  refine z_if_eq cx 94 d_X10_would_14 (by decide) hF (fun hF => ?_) (fun hF => ?_)
  · refine z_iconst (v := 1) cx d_X10_would_94 ki_1 ?_
    refine z_goto cx 99 d_X10_would_95 (by decide) ?_
    exact hb99 p0 p1 p2 p3 p4 p5 p6 p7 (1 : Int32) M6 hF
  refine z_iload_n cx d_X10_would_17 2 rfl ?_
  refine z_iconst (v := 0) cx d_X10_would_18 ki_0 ?_
  refine z_sipush (v := 9999) cx d_X10_would_19 ks_9999 ?_
  obtain ⟨v9, M8, hc, hF⟩ := zb_inv hF
  refine z_callS cx (As := [.int p1, .int (0 : Int32), .int (9999 : Int32)]) (rest := [.ref (ad 0)]) (c_X10_in l cx.2.2.2.1.1 M6 p1 (0 : Int32) (9999 : Int32)  hc) cs_SunnyPansModel_116 ⟨rfl, rfl, Nat.le_of_ble_eq_true rfl, Nat.le_of_ble_eq_true rfl⟩ rfl rfl ⟨Nat.zero_le _, Nat.zero_le _⟩ (Nat.le_of_ble_eq_true rfl) d_X10_would_22 ?_
  refine z_if_eq cx 94 d_X10_would_25 (by decide) hF (fun hF => ?_) (fun hF => ?_)
  · refine z_iconst (v := 1) cx d_X10_would_94 ki_1 ?_
    refine z_goto cx 99 d_X10_would_95 (by decide) ?_
    exact hb99 p0 p1 p2 p3 p4 p5 p6 p7 (1 : Int32) M8 hF
  refine z_iload_n cx d_X10_would_28 3 rfl ?_
  refine z_iconst (v := 0) cx d_X10_would_29 ki_0 ?_
  refine z_bipush (v := 40) cx d_X10_would_30 kb_40 ?_
  obtain ⟨v11, M10, hc, hF⟩ := zb_inv hF
  refine z_callS cx (As := [.int p2, .int (0 : Int32), .int (40 : Int32)]) (rest := [.ref (ad 0)]) (c_X10_in l cx.2.2.2.1.1 M8 p2 (0 : Int32) (40 : Int32)  hc) cs_SunnyPansModel_116 ⟨rfl, rfl, Nat.le_of_ble_eq_true rfl, Nat.le_of_ble_eq_true rfl⟩ rfl rfl ⟨Nat.zero_le _, Nat.zero_le _⟩ (Nat.le_of_ble_eq_true rfl) d_X10_would_32 ?_
  refine z_if_eq cx 94 d_X10_would_35 (by decide) hF (fun hF => ?_) (fun hF => ?_)
  · refine z_iconst (v := 1) cx d_X10_would_94 ki_1 ?_
    refine z_goto cx 99 d_X10_would_95 (by decide) ?_
    exact hb99 p0 p1 p2 p3 p4 p5 p6 p7 (1 : Int32) M10 hF
  refine z_iload cx d_X10_would_38 4 rfl ?_
  refine z_iconst (v := 0) cx d_X10_would_40 ki_0 ?_
  refine z_bipush (v := 7) cx d_X10_would_41 kb_7 ?_
  obtain ⟨v13, M12, hc, hF⟩ := zb_inv hF
  refine z_callS cx (As := [.int p3, .int (0 : Int32), .int (7 : Int32)]) (rest := [.ref (ad 0)]) (c_X10_in l cx.2.2.2.1.1 M10 p3 (0 : Int32) (7 : Int32)  hc) cs_SunnyPansModel_116 ⟨rfl, rfl, Nat.le_of_ble_eq_true rfl, Nat.le_of_ble_eq_true rfl⟩ rfl rfl ⟨Nat.zero_le _, Nat.zero_le _⟩ (Nat.le_of_ble_eq_true rfl) d_X10_would_43 ?_
  refine z_if_eq cx 94 d_X10_would_46 (by decide) hF (fun hF => ?_) (fun hF => ?_)
  · refine z_iconst (v := 1) cx d_X10_would_94 ki_1 ?_
    refine z_goto cx 99 d_X10_would_95 (by decide) ?_
    exact hb99 p0 p1 p2 p3 p4 p5 p6 p7 (1 : Int32) M12 hF
  refine z_iload cx d_X10_would_49 5 rfl ?_
  refine z_iconst (v := 0) cx d_X10_would_51 ki_0 ?_
  refine z_bipush (v := 9) cx d_X10_would_52 kb_9 ?_
  obtain ⟨v15, M14, hc, hF⟩ := zb_inv hF
  refine z_callS cx (As := [.int p4, .int (0 : Int32), .int (9 : Int32)]) (rest := [.ref (ad 0)]) (c_X10_in l cx.2.2.2.1.1 M12 p4 (0 : Int32) (9 : Int32)  hc) cs_SunnyPansModel_116 ⟨rfl, rfl, Nat.le_of_ble_eq_true rfl, Nat.le_of_ble_eq_true rfl⟩ rfl rfl ⟨Nat.zero_le _, Nat.zero_le _⟩ (Nat.le_of_ble_eq_true rfl) d_X10_would_54 ?_
  refine z_if_eq cx 94 d_X10_would_57 (by decide) hF (fun hF => ?_) (fun hF => ?_)
  · refine z_iconst (v := 1) cx d_X10_would_94 ki_1 ?_
    refine z_goto cx 99 d_X10_would_95 (by decide) ?_
    exact hb99 p0 p1 p2 p3 p4 p5 p6 p7 (1 : Int32) M14 hF
  refine z_iload cx d_X10_would_60 6 rfl ?_
  refine z_iconst (v := 0) cx d_X10_would_62 ki_0 ?_
  refine z_sipush (v := 400) cx d_X10_would_63 ks_400 ?_
  obtain ⟨v17, M16, hc, hF⟩ := zb_inv hF
  refine z_callS cx (As := [.int p5, .int (0 : Int32), .int (400 : Int32)]) (rest := [.ref (ad 0)]) (c_X10_in l cx.2.2.2.1.1 M14 p5 (0 : Int32) (400 : Int32)  hc) cs_SunnyPansModel_116 ⟨rfl, rfl, Nat.le_of_ble_eq_true rfl, Nat.le_of_ble_eq_true rfl⟩ rfl rfl ⟨Nat.zero_le _, Nat.zero_le _⟩ (Nat.le_of_ble_eq_true rfl) d_X10_would_66 ?_
  refine z_if_eq cx 94 d_X10_would_69 (by decide) hF (fun hF => ?_) (fun hF => ?_)
  · refine z_iconst (v := 1) cx d_X10_would_94 ki_1 ?_
    refine z_goto cx 99 d_X10_would_95 (by decide) ?_
    exact hb99 p0 p1 p2 p3 p4 p5 p6 p7 (1 : Int32) M16 hF
  refine z_iload cx d_X10_would_72 7 rfl ?_
  refine z_iconst (v := 0) cx d_X10_would_74 ki_0 ?_
  refine z_bipush (v := 7) cx d_X10_would_75 kb_7 ?_
  obtain ⟨v19, M18, hc, hF⟩ := zb_inv hF
  refine z_callS cx (As := [.int p6, .int (0 : Int32), .int (7 : Int32)]) (rest := [.ref (ad 0)]) (c_X10_in l cx.2.2.2.1.1 M16 p6 (0 : Int32) (7 : Int32)  hc) cs_SunnyPansModel_116 ⟨rfl, rfl, Nat.le_of_ble_eq_true rfl, Nat.le_of_ble_eq_true rfl⟩ rfl rfl ⟨Nat.zero_le _, Nat.zero_le _⟩ (Nat.le_of_ble_eq_true rfl) d_X10_would_77 ?_
  refine z_if_eq cx 94 d_X10_would_80 (by decide) hF (fun hF => ?_) (fun hF => ?_)
  · refine z_iconst (v := 1) cx d_X10_would_94 ki_1 ?_
    refine z_goto cx 99 d_X10_would_95 (by decide) ?_
    exact hb99 p0 p1 p2 p3 p4 p5 p6 p7 (1 : Int32) M18 hF
  refine z_iload cx d_X10_would_83 8 rfl ?_
  refine z_iconst (v := 0) cx d_X10_would_85 ki_0 ?_
  refine z_bipush (v := 7) cx d_X10_would_86 kb_7 ?_
  obtain ⟨v21, M20, hc, hF⟩ := zb_inv hF
  refine z_callS cx (As := [.int p7, .int (0 : Int32), .int (7 : Int32)]) (rest := [.ref (ad 0)]) (c_X10_in l cx.2.2.2.1.1 M18 p7 (0 : Int32) (7 : Int32)  hc) cs_SunnyPansModel_116 ⟨rfl, rfl, Nat.le_of_ble_eq_true rfl, Nat.le_of_ble_eq_true rfl⟩ rfl rfl ⟨Nat.zero_le _, Nat.zero_le _⟩ (Nat.le_of_ble_eq_true rfl) d_X10_would_88 ?_
  refine z_if_ne cx 98 d_X10_would_91 (by decide) hF (fun hF => ?_) (fun hF => ?_)
  · refine z_iconst (v := 0) cx d_X10_would_98 ki_0 ?_
    exact hb99 p0 p1 p2 p3 p4 p5 p6 p7 (0 : Int32) M20 hF
  refine z_iconst (v := 1) cx d_X10_would_94 ki_1 ?_
  refine z_goto cx 99 d_X10_would_95 (by decide) ?_
  exact hb99 p0 p1 p2 p3 p4 p5 p6 p7 (1 : Int32) M20 hF
