/-! SunnyPans$Pans.learnShades -/
set_option maxRecDepth 100000 in
theorem wd_326 : Cond.fieldLink "SunnyPans$Pans" 90 "SunnyPans$Plan" "hours" "I" ∈ tbG := tw1 226 rfl rfl
theorem fg_Pans_90 : zGetI "SunnyPans$Pans" 90 5 6 2 := ⟨RX5, TX5, 9, rfl, by decide, uw_5, wd_326, fun _ _ _ _ _ _ => ⟨_, rfl, rfl⟩⟩
set_option maxRecDepth 100000 in
theorem wd_758 : Cond.code yX5_shadedBy cX5_shadedBy 10 (some .long) ∈ tbG := tw3 178 rfl rfl
set_option maxRecDepth 100000 in
theorem wd_755 : Cond.methodLink "SunnyPans$Pans" 93 yX5_shadedBy ∈ tbG := tw3 175 rfl rfl
set_option maxRecDepth 100000 in
theorem wd_756 : Cond.instanceMethod yX5_shadedBy ∈ tbG := tw3 176 rfl rfl
set_option maxRecDepth 100000 in
theorem wd_757 : Cond.selects "SunnyPans$Plan" yX5_shadedBy yX5_shadedBy ∈ tbG := tw3 177 rfl rfl
theorem cv_Pans_93 : zCV "SunnyPans$Pans" 93 "SunnyPans$Plan" yX5_shadedBy cX5_shadedBy 10 (some .long) 3 := zCV_of wd_755 wd_756 wd_757 wd_108 wd_758 (by decide +kernel)
theorem d_X4_learnShades_0 : decode cX4_learnShades 0 = .ok (.iconst 0, 1) := by decide +kernel
theorem d_X4_learnShades_1 : decode cX4_learnShades 1 = .ok (.istore_n 2, 1) := by decide +kernel
theorem d_X4_learnShades_2 : decode cX4_learnShades 2 = .ok (.iload_n 2, 1) := by decide +kernel
theorem d_X4_learnShades_3 : decode cX4_learnShades 3 = .ok (.bipush 10, 2) := by decide +kernel
theorem d_X4_learnShades_5 : decode cX4_learnShades 5 = .ok (.if_icmp .ge 16, 3) := by decide +kernel
theorem d_X4_learnShades_8 : decode cX4_learnShades 8 = .ok (.aload_n 0, 1) := by decide +kernel
theorem d_X4_learnShades_9 : decode cX4_learnShades 9 = .ok (.getfield 21, 3) := by decide +kernel
theorem d_X4_learnShades_12 : decode cX4_learnShades 12 = .ok (.iload_n 2, 1) := by decide +kernel
theorem d_X4_learnShades_13 : decode cX4_learnShades 13 = .ok (.lconst 0, 1) := by decide +kernel
theorem d_X4_learnShades_14 : decode cX4_learnShades 14 = .ok (.lastore, 1) := by decide +kernel
theorem d_X4_learnShades_15 : decode cX4_learnShades 15 = .ok (.iinc 2 1, 3) := by decide +kernel
theorem d_X4_learnShades_18 : decode cX4_learnShades 18 = .ok (.goto (-16), 3) := by decide +kernel
theorem d_X4_learnShades_21 : decode cX4_learnShades 21 = .ok (.iconst 0, 1) := by decide +kernel
theorem d_X4_learnShades_22 : decode cX4_learnShades 22 = .ok (.istore_n 2, 1) := by decide +kernel
theorem d_X4_learnShades_23 : decode cX4_learnShades 23 = .ok (.iload_n 2, 1) := by decide +kernel
theorem d_X4_learnShades_24 : decode cX4_learnShades 24 = .ok (.bipush 64, 2) := by decide +kernel
theorem d_X4_learnShades_26 : decode cX4_learnShades 26 = .ok (.if_icmp .ge 55, 3) := by decide +kernel
theorem d_X4_learnShades_29 : decode cX4_learnShades 29 = .ok (.iconst 0, 1) := by decide +kernel
theorem d_X4_learnShades_30 : decode cX4_learnShades 30 = .ok (.istore_n 3, 1) := by decide +kernel
theorem d_X4_learnShades_31 : decode cX4_learnShades 31 = .ok (.iload_n 3, 1) := by decide +kernel
theorem d_X4_learnShades_32 : decode cX4_learnShades 32 = .ok (.aload_n 1, 1) := by decide +kernel
theorem d_X4_learnShades_33 : decode cX4_learnShades 33 = .ok (.getfield 90, 3) := by decide +kernel
theorem d_X4_learnShades_36 : decode cX4_learnShades 36 = .ok (.if_icmp .ge 39, 3) := by decide +kernel
theorem d_X4_learnShades_39 : decode cX4_learnShades 39 = .ok (.aload_n 0, 1) := by decide +kernel
theorem d_X4_learnShades_40 : decode cX4_learnShades 40 = .ok (.getfield 18, 3) := by decide +kernel
theorem d_X4_learnShades_43 : decode cX4_learnShades 43 = .ok (.iload_n 2, 1) := by decide +kernel
theorem d_X4_learnShades_44 : decode cX4_learnShades 44 = .ok (.iaload, 1) := by decide +kernel
theorem d_X4_learnShades_45 : decode cX4_learnShades 45 = .ok (.ifCond .le 30, 3) := by decide +kernel
theorem d_X4_learnShades_48 : decode cX4_learnShades 48 = .ok (.aload_n 0, 1) := by decide +kernel
theorem d_X4_learnShades_49 : decode cX4_learnShades 49 = .ok (.getfield 21, 3) := by decide +kernel
theorem d_X4_learnShades_52 : decode cX4_learnShades 52 = .ok (.iload_n 3, 1) := by decide +kernel
theorem d_X4_learnShades_53 : decode cX4_learnShades 53 = .ok (.dup2, 1) := by decide +kernel
theorem d_X4_learnShades_54 : decode cX4_learnShades 54 = .ok (.laload, 1) := by decide +kernel
theorem d_X4_learnShades_55 : decode cX4_learnShades 55 = .ok (.aload_n 1, 1) := by decide +kernel
theorem d_X4_learnShades_56 : decode cX4_learnShades 56 = .ok (.iload_n 2, 1) := by decide +kernel
theorem d_X4_learnShades_57 : decode cX4_learnShades 57 = .ok (.aload_n 0, 1) := by decide +kernel
theorem d_X4_learnShades_58 : decode cX4_learnShades 58 = .ok (.getfield 18, 3) := by decide +kernel
theorem d_X4_learnShades_61 : decode cX4_learnShades 61 = .ok (.iload_n 2, 1) := by decide +kernel
theorem d_X4_learnShades_62 : decode cX4_learnShades 62 = .ok (.iaload, 1) := by decide +kernel
theorem d_X4_learnShades_63 : decode cX4_learnShades 63 = .ok (.iload_n 3, 1) := by decide +kernel
theorem d_X4_learnShades_64 : decode cX4_learnShades 64 = .ok (.invokevirtual 93, 3) := by decide +kernel
theorem d_X4_learnShades_67 : decode cX4_learnShades 67 = .ok (.lor, 1) := by decide +kernel
theorem d_X4_learnShades_68 : decode cX4_learnShades 68 = .ok (.lastore, 1) := by decide +kernel
theorem d_X4_learnShades_69 : decode cX4_learnShades 69 = .ok (.iinc 3 1, 3) := by decide +kernel
theorem d_X4_learnShades_72 : decode cX4_learnShades 72 = .ok (.goto (-41), 3) := by decide +kernel
theorem d_X4_learnShades_75 : decode cX4_learnShades 75 = .ok (.iinc 2 1, 3) := by decide +kernel
theorem d_X4_learnShades_78 : decode cX4_learnShades 78 = .ok (.goto (-55), 3) := by decide +kernel
theorem d_X4_learnShades_81 : decode cX4_learnShades 81 = .ok (.return_, 1) := by decide +kernel
def F_X4_learnShades_75 (t : Nat) (p0 : Nat) (self23 : Int32 → zMem → Option (zMem)) (b75_L2 : Int32) (M : zMem) : Option (zMem) :=
  self23 (b75_L2 + 1) M
def F_X4_learnShades_31 (t : Nat) (p0 : Nat) (self23 : Int32 → zMem → Option (zMem)) (self31 : Int32 → Int32 → zMem → Option (zMem)) (b31_L2 : Int32) (b31_L3 : Int32) (M : zMem) : Option (zMem) :=
  if (M.1 p0 2) ≤ b31_L3 then
    F_X4_learnShades_75 t p0 self23 b31_L2 M
  else
    gin b31_L2 64 <|
    if (M.1 (t + 3) b31_L2.toNatClampNeg) ≤ 0 then
      F_X4_learnShades_75 t p0 self23 b31_L2 M
    else
      gin b31_L3 10 <|
      zb (F_X5_shadedBy M p0 b31_L2 (M.1 (t + 3) b31_L2.toNatClampNeg) b31_L3) fun v4 M3 =>
      zl (zL M3 (t + 4) b31_L3.toNatClampNeg ((M.2.1 (t + 4) b31_L3.toNatClampNeg) ||| v4)) fun M5 =>
      self31 b31_L2 (b31_L3 + 1) M5
def F_X4_learnShades_23 (t : Nat) (p0 : Nat) (self23 : Int32 → zMem → Option (zMem)) (b23_L2 : Int32) (M : zMem) : Option (zMem) :=
  if (64 : Int32) ≤ b23_L2 then
    some M
  else
    itF (fun _ _ _ => none) (F_X4_learnShades_31 t p0 self23) zFuel b23_L2 (0 : Int32) M
def F_X4_learnShades_2 (t : Nat) (p0 : Nat) (self2 : Int32 → zMem → Option (zMem)) (b2_L2 : Int32) (M : zMem) : Option (zMem) :=
  if (10 : Int32) ≤ b2_L2 then
    itF (fun _ _ => none) (F_X4_learnShades_23 t p0) zFuel (0 : Int32) M
  else
    gin b2_L2 10 <|
    zl (zL M (t + 4) b2_L2.toNatClampNeg (0 : Int64)) fun M7 =>
    self2 (b2_L2 + 1) M7
def F_X4_learnShades (M : zMem) (t : Nat) (p0 : Nat) : Option (zMem) :=
  itF (fun _ _ => none) (F_X4_learnShades_2 t p0) zFuel (0 : Int32) M
def rm_X4_learnShades : Room := { frames := 4, cells := 0, slots := 0, locals := 131 }
set_option maxHeartbeats 4000000 in
set_option maxRecDepth 100000 in
theorem c_X4_learnShades (l : Launch) {G : zG} {ad : Nat → Nat} {n : Nat} (hA : zInj ad n) (M : zMem) (t : Nat) (p0 : Nat) (hT_t : zT shX n t 5) (hT_p0 : zT shX n p0 6) {M9 : zMem} (hF : F_X4_learnShades M t p0 = some M9) : zM l yX4_learnShades cX4_learnShades 4 none rm_X4_learnShades G shX ad n M [.ref (ad t), .ref (ad p0)] none M9 := by
  refine zM_of hA (by decide +kernel) (lv := [(0, .ref (ad t)), (1, .ref (ad p0))]) (Nat.le_of_ble_eq_true rfl) rfl (fun p e s m args below meth c A cx hr => ?_)
  have hb75 : ∀ (self23 : Int32 → zMem → Option (zMem)) (hs23 : ∀ (b23_L2 : Int32) (M : zMem), self23 b23_L2 M = some M9 → zJ p l e rm_X4_learnShades s m args below meth c G shX ad n A 4 (MQ below (zQ G shX ad n M9 none A) args s 0 0 A) 0 0 M 23 [(0, .ref (ad t)), (1, .ref (ad p0)), (2, .int b23_L2)] []), ∀ (b75_L2 : Int32) (M : zMem), F_X4_learnShades_75 t p0 self23 b75_L2 M = some M9 → zJ p l e rm_X4_learnShades s m args below meth c G shX ad n A 4 (MQ below (zQ G shX ad n M9 none A) args s 0 0 A) 0 0 M 75 [(0, .ref (ad t)), (1, .ref (ad p0)), (2, .int b75_L2)] [] := by
    intro self23 hs23 b75_L2 M hF
    unfold F_X4_learnShades_75 at hF
    refine z_iinc cx 2 1 [(2, .int (b75_L2 + 1)), (0, .ref (ad t)), (1, .ref (ad p0))] d_X4_learnShades_75 2 rfl ki_1 (by decide) rfl ?_
    refine z_goto cx 23 d_X4_learnShades_78 (by decide) ?_
    exact z_lv [1, 2, 0] _ rfl (hs23 (b75_L2 + 1) M hF)
  have hL31 : ∀ (self23 : Int32 → zMem → Option (zMem)) (hs23 : ∀ (b23_L2 : Int32) (M : zMem), self23 b23_L2 M = some M9 → zJ p l e rm_X4_learnShades s m args below meth c G shX ad n A 4 (MQ below (zQ G shX ad n M9 none A) args s 0 0 A) 0 0 M 23 [(0, .ref (ad t)), (1, .ref (ad p0)), (2, .int b23_L2)] []) (fuel : Nat), ∀ (b31_L2 : Int32) (b31_L3 : Int32) (M : zMem), itF (fun _ _ _ => none) (F_X4_learnShades_31 t p0 self23) fuel b31_L2 b31_L3 M = some M9 → zJ p l e rm_X4_learnShades s m args below meth c G shX ad n A 4 (MQ below (zQ G shX ad n M9 none A) args s 0 0 A) 0 0 M 31 [(0, .ref (ad t)), (1, .ref (ad p0)), (2, .int b31_L2), (3, .int b31_L3)] [] := by
    intro self23 hs23 fuel
    induction fuel with
    | zero => intro b31_L2 b31_L3 M hF; cases hF
    | succ fuel hs31 =>
      intro b31_L2 b31_L3 M hF
      have hF : F_X4_learnShades_31 t p0 self23 (itF (fun _ _ _ => none) (F_X4_learnShades_31 t p0 self23) fuel) b31_L2 b31_L3 M = some M9 := hF
      generalize itF (fun _ _ _ => none) (F_X4_learnShades_31 t p0 self23) fuel = self31 at hs31 hF
      unfold F_X4_learnShades_31 at hF
      refine z_iload_n cx d_X4_learnShades_31 3 rfl ?_
      refine z_aload_n cx d_X4_learnShades_32 1 rfl ?_
      refine z_getI cx hT_p0 fg_Pans_90 d_X4_learnShades_33 ?_
      refine z_icmp_ge cx 75 d_X4_learnShades_36 (by decide) hF (fun hF => ?_) (fun hF => ?_)
      · exact z_lv [0, 1, 2] _ rfl (hb75 self23 hs23 b31_L2 M hF)
      refine z_aload_n cx d_X4_learnShades_39 0 rfl ?_
      refine z_getR cx hT_t fg_Pans_18 (t + 3) rfl d_X4_learnShades_40 ?_
      refine z_iload_n cx d_X4_learnShades_43 2 rfl ?_
      obtain ⟨hi1, hF⟩ := gin_inv hF
      refine z_iald cx (tfX_5_3 hT_t) za_16 hi1 b31_L2.toNatClampNeg rfl d_X4_learnShades_44 ?_
      refine z_if_le cx 75 d_X4_learnShades_45 (by decide) hF (fun hF => ?_) (fun hF => ?_)
      · exact z_lv [0, 1, 2] _ rfl (hb75 self23 hs23 b31_L2 M hF)
      refine z_aload_n cx d_X4_learnShades_48 0 rfl ?_
      refine z_getR cx hT_t fg_Pans_21 (t + 4) rfl d_X4_learnShades_49 ?_
      refine z_iload_n cx d_X4_learnShades_52 3 rfl ?_
      refine z_dup2 cx d_X4_learnShades_53 rfl rfl ?_
      obtain ⟨hi2, hF⟩ := gin_inv hF
      refine z_lald cx (tfX_5_4 hT_t) za_18 hi2 b31_L3.toNatClampNeg rfl d_X4_learnShades_54 ?_
      refine z_aload_n cx d_X4_learnShades_55 1 rfl ?_
      refine z_iload_n cx d_X4_learnShades_56 2 rfl ?_
      refine z_aload_n cx d_X4_learnShades_57 0 rfl ?_
      refine z_getR cx hT_t fg_Pans_18 (t + 3) rfl d_X4_learnShades_58 ?_
      refine z_iload_n cx d_X4_learnShades_61 2 rfl ?_
      refine z_iald cx (tfX_5_3 hT_t) za_16 hi1 b31_L2.toNatClampNeg rfl d_X4_learnShades_62 ?_
      refine z_iload_n cx d_X4_learnShades_63 3 rfl ?_
      obtain ⟨v4, M3, hc, hF⟩ := zb_inv hF
      refine z_callV cx (As := [.int b31_L2, .int (M.1 (t + 3) b31_L2.toNatClampNeg), .int b31_L3]) (rest := [.long (M.2.1 (t + 4) b31_L3.toNatClampNeg), .int b31_L3, .ref (ad (t + 4))]) (c_X5_shadedBy l cx.2.2.2.1.1 M p0 b31_L2 (M.1 (t + 3) b31_L2.toNatClampNeg) b31_L3 hT_p0 hc) hT_p0 zo_6 cv_Pans_93 ⟨rfl, rfl, Nat.le_of_ble_eq_true rfl, Nat.le_of_ble_eq_true rfl⟩ rfl rfl ⟨Nat.zero_le _, Nat.zero_le _⟩ (Nat.le_of_ble_eq_true rfl) d_X4_learnShades_64 ?_
      refine z_lor cx d_X4_learnShades_67 ?_
      refine z_last cx (tfX_5_4 hT_t) za_18 hi2 b31_L3.toNatClampNeg rfl d_X4_learnShades_68 ?_
      refine z_nmM hF (fun M5 hF => ?_)
      refine z_iinc cx 3 1 [(3, .int (b31_L3 + 1)), (0, .ref (ad t)), (1, .ref (ad p0)), (2, .int b31_L2)] d_X4_learnShades_69 3 rfl ki_1 (by decide) rfl ?_
      refine z_goto cx 31 d_X4_learnShades_72 (by decide) ?_
      exact z_lv [1, 2, 3, 0] _ rfl (hs31 b31_L2 (b31_L3 + 1) M5 hF)
  have hL23 : ∀ (fuel : Nat), ∀ (b23_L2 : Int32) (M : zMem), itF (fun _ _ => none) (F_X4_learnShades_23 t p0) fuel b23_L2 M = some M9 → zJ p l e rm_X4_learnShades s m args below meth c G shX ad n A 4 (MQ below (zQ G shX ad n M9 none A) args s 0 0 A) 0 0 M 23 [(0, .ref (ad t)), (1, .ref (ad p0)), (2, .int b23_L2)] [] := by
    intro fuel
    induction fuel with
    | zero => intro b23_L2 M hF; cases hF
    | succ fuel hs23 =>
      intro b23_L2 M hF
      have hF : F_X4_learnShades_23 t p0 (itF (fun _ _ => none) (F_X4_learnShades_23 t p0) fuel) b23_L2 M = some M9 := hF
      generalize itF (fun _ _ => none) (F_X4_learnShades_23 t p0) fuel = self23 at hs23 hF
      unfold F_X4_learnShades_23 at hF
      refine z_iload_n cx d_X4_learnShades_23 2 rfl ?_
      refine z_bipush (v := 64) cx d_X4_learnShades_24 kb_64 ?_
      refine z_icmp_ge cx 81 d_X4_learnShades_26 (by decide) hF (fun hF => ?_) (fun hF => ?_)
      · exact z_vret cx hr hF d_X4_learnShades_81
      refine z_iconst (v := 0) cx d_X4_learnShades_29 ki_0 ?_
      refine z_istore_n cx 3 [(3, .int (0 : Int32)), (0, .ref (ad t)), (1, .ref (ad p0)), (2, .int b23_L2)] d_X4_learnShades_30 rfl (by decide) rfl ?_
      exact z_lv [1, 2, 3, 0] _ rfl (hL31 self23 hs23 zFuel b23_L2 (0 : Int32) M hF)
  have hL2 : ∀ (fuel : Nat), ∀ (b2_L2 : Int32) (M : zMem), itF (fun _ _ => none) (F_X4_learnShades_2 t p0) fuel b2_L2 M = some M9 → zJ p l e rm_X4_learnShades s m args below meth c G shX ad n A 4 (MQ below (zQ G shX ad n M9 none A) args s 0 0 A) 0 0 M 2 [(0, .ref (ad t)), (1, .ref (ad p0)), (2, .int b2_L2)] [] := by
    intro fuel
    induction fuel with
    | zero => intro b2_L2 M hF; cases hF
    | succ fuel hs2 =>
      intro b2_L2 M hF
      have hF : F_X4_learnShades_2 t p0 (itF (fun _ _ => none) (F_X4_learnShades_2 t p0) fuel) b2_L2 M = some M9 := hF
      generalize itF (fun _ _ => none) (F_X4_learnShades_2 t p0) fuel = self2 at hs2 hF
      unfold F_X4_learnShades_2 at hF
      refine z_iload_n cx d_X4_learnShades_2 2 rfl ?_
      refine z_bipush (v := 10) cx d_X4_learnShades_3 kb_10 ?_
      refine z_icmp_ge cx 21 d_X4_learnShades_5 (by decide) hF (fun hF => ?_) (fun hF => ?_)
      · refine z_iconst (v := 0) cx d_X4_learnShades_21 ki_0 ?_
        refine z_istore_n cx 2 [(2, .int (0 : Int32)), (0, .ref (ad t)), (1, .ref (ad p0))] d_X4_learnShades_22 rfl (by decide) rfl ?_
        exact z_lv [1, 2, 0] _ rfl (hL23 zFuel (0 : Int32) M hF)
      refine z_aload_n cx d_X4_learnShades_8 0 rfl ?_
      refine z_getR cx hT_t fg_Pans_21 (t + 4) rfl d_X4_learnShades_9 ?_
      refine z_iload_n cx d_X4_learnShades_12 2 rfl ?_
      refine z_lconst (v := 0) cx d_X4_learnShades_13 (by decide +kernel) ?_
      obtain ⟨hi6, hF⟩ := gin_inv hF
      refine z_last cx (tfX_5_4 hT_t) za_18 hi6 b2_L2.toNatClampNeg rfl d_X4_learnShades_14 ?_
      refine z_nmM hF (fun M7 hF => ?_)
      refine z_iinc cx 2 1 [(2, .int (b2_L2 + 1)), (0, .ref (ad t)), (1, .ref (ad p0))] d_X4_learnShades_15 2 rfl ki_1 (by decide) rfl ?_
      refine z_goto cx 2 d_X4_learnShades_18 (by decide) ?_
      exact z_lv [1, 2, 0] _ rfl (hs2 (b2_L2 + 1) M7 hF)
  unfold F_X4_learnShades at hF
  refine z_iconst (v := 0) cx d_X4_learnShades_0 ki_0 ?_
  refine z_istore_n cx 2 [(2, .int (0 : Int32)), (0, .ref (ad t)), (1, .ref (ad p0))] d_X4_learnShades_1 rfl (by decide) rfl ?_
  exact z_lv [1, 2, 0] _ rfl (hL2 zFuel (0 : Int32) M hF)
/-! SunnyPans$Pans.start -/
theorem tfX_6_3 {n k : Nat} (h : zT shX n k 6) : zT shX n (k + 3) 16 := zT_off h (shX_f (by decide) (by decide +kernel)) (by decide) (by decide)
theorem tfX_6_4 {n k : Nat} (h : zT shX n k 6) : zT shX n (k + 4) 16 := zT_off h (shX_f (by decide) (by decide +kernel)) (by decide) (by decide)
theorem tfX_6_5 {n k : Nat} (h : zT shX n k 6) : zT shX n (k + 5) 16 := zT_off h (shX_f (by decide) (by decide +kernel)) (by decide) (by decide)
set_option maxRecDepth 100000 in
theorem wd_335 : Cond.fieldLink "SunnyPans$Pans" 41 "SunnyPans$Plan" "brine" "[I" ∈ tbG := tw1 235 rfl rfl
theorem fg_Pans_41 : zGetR "SunnyPans$Pans" 41 5 6 6 3 := ⟨RX5, TX5, 9, rfl, by decide, uw_5, wd_335, fun _ _ _ _ _ _ => ⟨_, rfl, rfl⟩⟩
set_option maxRecDepth 100000 in
theorem wd_337 : Cond.fieldLink "SunnyPans$Pans" 44 "SunnyPans$Plan" "salt" "[I" ∈ tbG := tw1 237 rfl rfl
theorem fg_Pans_44 : zGetR "SunnyPans$Pans" 44 5 6 7 4 := ⟨RX5, TX5, 9, rfl, by decide, uw_5, wd_337, fun _ _ _ _ _ _ => ⟨_, rfl, rfl⟩⟩
set_option maxRecDepth 100000 in
theorem wd_339 : Cond.fieldLink "SunnyPans$Pans" 45 "SunnyPans$Plan" "grams" "[I" ∈ tbG := tw1 239 rfl rfl
theorem fg_Pans_45 : zGetR "SunnyPans$Pans" 45 5 6 8 5 := ⟨RX5, TX5, 9, rfl, by decide, uw_5, wd_339, fun _ _ _ _ _ _ => ⟨_, rfl, rfl⟩⟩
set_option maxRecDepth 100000 in
theorem wd_754 : Cond.code yX4_learnShades cX4_learnShades 4 none ∈ tbG := tw3 174 rfl rfl
set_option maxRecDepth 100000 in
theorem wd_751 : Cond.methodLink "SunnyPans$Pans" 46 yX4_learnShades ∈ tbG := tw3 171 rfl rfl
set_option maxRecDepth 100000 in
theorem wd_753 : Cond.instanceMethod yX4_learnShades ∈ tbG := tw3 173 rfl rfl
theorem wd_9 : Cond.selects "SunnyPans$Pans" yX4_learnShades yX4_learnShades ∈ tbG := tw 9 (by decide +kernel) rfl
set_option maxRecDepth 100000 in
theorem wd_104 : Cond.initialized "SunnyPans$Pans" ∈ tbG := tw1 4 rfl rfl
theorem cv_Pans_46 : zCV "SunnyPans$Pans" 46 "SunnyPans$Pans" yX4_learnShades cX4_learnShades 4 none 1 := zCV_of wd_751 wd_753 wd_9 wd_104 wd_754 (by decide +kernel)
theorem zo_5 : zObj "SunnyPans$Pans" 5 := ⟨4, (RX4, TX4, 7), rfl, rfl, fun _ _ _ _ _ _ => ⟨_, rfl⟩⟩
theorem d_X4_start_0 : decode cX4_start 0 = .ok (.aload_n 1, 1) := by decide +kernel
theorem d_X4_start_1 : decode cX4_start 1 = .ok (.getfield 41, 3) := by decide +kernel
theorem d_X4_start_4 : decode cX4_start 4 = .ok (.iconst 0, 1) := by decide +kernel
theorem d_X4_start_5 : decode cX4_start 5 = .ok (.aload_n 0, 1) := by decide +kernel
theorem d_X4_start_6 : decode cX4_start 6 = .ok (.getfield 9, 3) := by decide +kernel
theorem d_X4_start_9 : decode cX4_start 9 = .ok (.iconst 0, 1) := by decide +kernel
theorem d_X4_start_10 : decode cX4_start 10 = .ok (.bipush 64, 2) := by decide +kernel
theorem d_X4_start_12 : decode cX4_start 12 = .ok (.invokestatic 25, 3) := by decide +kernel
theorem d_X4_start_15 : decode cX4_start 15 = .ok (.aload_n 1, 1) := by decide +kernel
theorem d_X4_start_16 : decode cX4_start 16 = .ok (.getfield 44, 3) := by decide +kernel
theorem d_X4_start_19 : decode cX4_start 19 = .ok (.iconst 0, 1) := by decide +kernel
theorem d_X4_start_20 : decode cX4_start 20 = .ok (.aload_n 0, 1) := by decide +kernel
theorem d_X4_start_21 : decode cX4_start 21 = .ok (.getfield 15, 3) := by decide +kernel
theorem d_X4_start_24 : decode cX4_start 24 = .ok (.iconst 0, 1) := by decide +kernel
theorem d_X4_start_25 : decode cX4_start 25 = .ok (.bipush 64, 2) := by decide +kernel
theorem d_X4_start_27 : decode cX4_start 27 = .ok (.invokestatic 25, 3) := by decide +kernel
theorem d_X4_start_30 : decode cX4_start 30 = .ok (.aload_n 1, 1) := by decide +kernel
theorem d_X4_start_31 : decode cX4_start 31 = .ok (.getfield 45, 3) := by decide +kernel
theorem d_X4_start_34 : decode cX4_start 34 = .ok (.iconst 0, 1) := by decide +kernel
theorem d_X4_start_35 : decode cX4_start 35 = .ok (.aload_n 0, 1) := by decide +kernel
theorem d_X4_start_36 : decode cX4_start 36 = .ok (.getfield 18, 3) := by decide +kernel
theorem d_X4_start_39 : decode cX4_start 39 = .ok (.iconst 0, 1) := by decide +kernel
theorem d_X4_start_40 : decode cX4_start 40 = .ok (.bipush 64, 2) := by decide +kernel
theorem d_X4_start_42 : decode cX4_start 42 = .ok (.invokestatic 25, 3) := by decide +kernel
theorem d_X4_start_45 : decode cX4_start 45 = .ok (.aload_n 0, 1) := by decide +kernel
theorem d_X4_start_46 : decode cX4_start 46 = .ok (.iconst 0, 1) := by decide +kernel
theorem d_X4_start_47 : decode cX4_start 47 = .ok (.putfield 31, 3) := by decide +kernel
theorem d_X4_start_50 : decode cX4_start 50 = .ok (.aload_n 0, 1) := by decide +kernel
theorem d_X4_start_51 : decode cX4_start 51 = .ok (.iconst 0, 1) := by decide +kernel
theorem d_X4_start_52 : decode cX4_start 52 = .ok (.putfield 35, 3) := by decide +kernel
theorem d_X4_start_55 : decode cX4_start 55 = .ok (.aload_n 0, 1) := by decide +kernel
theorem d_X4_start_56 : decode cX4_start 56 = .ok (.iconst 0, 1) := by decide +kernel
theorem d_X4_start_57 : decode cX4_start 57 = .ok (.putfield 38, 3) := by decide +kernel
theorem d_X4_start_60 : decode cX4_start 60 = .ok (.aload_n 0, 1) := by decide +kernel
theorem d_X4_start_61 : decode cX4_start 61 = .ok (.aload_n 1, 1) := by decide +kernel
theorem d_X4_start_62 : decode cX4_start 62 = .ok (.invokevirtual 46, 3) := by decide +kernel
theorem d_X4_start_65 : decode cX4_start 65 = .ok (.return_, 1) := by decide +kernel
def F_X4_start (M : zMem) (t : Nat) (p0 : Nat) : Option (zMem) :=
  zl (zCI M (p0 + 3) 0 (t + 1) 0 64) fun M1 =>
  zl (zCI M1 (p0 + 4) 0 (t + 2) 0 64) fun M2 =>
  zl (zCI M2 (p0 + 5) 0 (t + 3) 0 64) fun M3 =>
  zl (zI M3 t 3 (0 : Int32)) fun M4 =>
  zl (zI M4 t 4 (0 : Int32)) fun M5 =>
  zl (zI M5 t 5 (0 : Int32)) fun M6 =>
  zbv (F_X4_learnShades M6 t p0) fun M7 =>
  some M7
def rm_X4_start : Room := { frames := 5, cells := 0, slots := 0, locals := 154 }
set_option maxHeartbeats 4000000 in
set_option maxRecDepth 100000 in
theorem c_X4_start (l : Launch) {G : zG} {ad : Nat → Nat} {n : Nat} (hA : zInj ad n) (M : zMem) (t : Nat) (p0 : Nat) (hT_t : zT shX n t 5) (hT_p0 : zT shX n p0 6) {M9 : zMem} (hF : F_X4_start M t p0 = some M9) : zM l yX4_start cX4_start 2 none rm_X4_start G shX ad n M [.ref (ad t), .ref (ad p0)] none M9 := by
  refine zM_of hA (by decide +kernel) (lv := [(0, .ref (ad t)), (1, .ref (ad p0))]) (Nat.le_of_ble_eq_true rfl) rfl (fun p e s m args below meth c A cx hr => ?_)
  unfold F_X4_start at hF
  refine z_aload_n cx d_X4_start_0 1 rfl ?_
  refine z_getR cx hT_p0 fg_Pans_41 (p0 + 3) rfl d_X4_start_1 ?_
  refine z_iconst (v := 0) cx d_X4_start_4 ki_0 ?_
  refine z_aload_n cx d_X4_start_5 0 rfl ?_
  refine z_getR cx hT_t fg_Pans_9 (t + 1) rfl d_X4_start_6 ?_
  refine z_iconst (v := 0) cx d_X4_start_9 ki_0 ?_
  refine z_bipush (v := 64) cx d_X4_start_10 kb_64 ?_
  refine z_copyI cx (tfX_6_3 hT_p0) za_16 (tfX_5_1 hT_t) za_16 ⟨wd_491, wd_493, wd_492, wd_121⟩ (by decide +kernel) (by decide +kernel) (by decide +kernel) (by decide +kernel) (by decide +kernel) ⟨Nat.le_of_ble_eq_true rfl, Nat.le_of_ble_eq_true rfl⟩ d_X4_start_12 ?_
  refine z_nmM hF (fun M1 hF => ?_)
  refine z_aload_n cx d_X4_start_15 1 rfl ?_
  refine z_getR cx hT_p0 fg_Pans_44 (p0 + 4) rfl d_X4_start_16 ?_
  refine z_iconst (v := 0) cx d_X4_start_19 ki_0 ?_
  refine z_aload_n cx d_X4_start_20 0 rfl ?_
  refine z_getR cx hT_t fg_Pans_15 (t + 2) rfl d_X4_start_21 ?_
  refine z_iconst (v := 0) cx d_X4_start_24 ki_0 ?_
  refine z_bipush (v := 64) cx d_X4_start_25 kb_64 ?_
  refine z_copyI cx (tfX_6_4 hT_p0) za_16 (tfX_5_2 hT_t) za_16 ⟨wd_491, wd_493, wd_492, wd_121⟩ (by decide +kernel) (by decide +kernel) (by decide +kernel) (by decide +kernel) (by decide +kernel) ⟨Nat.le_of_ble_eq_true rfl, Nat.le_of_ble_eq_true rfl⟩ d_X4_start_27 ?_
  refine z_nmM hF (fun M2 hF => ?_)
  refine z_aload_n cx d_X4_start_30 1 rfl ?_
  refine z_getR cx hT_p0 fg_Pans_45 (p0 + 5) rfl d_X4_start_31 ?_
  refine z_iconst (v := 0) cx d_X4_start_34 ki_0 ?_
  refine z_aload_n cx d_X4_start_35 0 rfl ?_
  refine z_getR cx hT_t fg_Pans_18 (t + 3) rfl d_X4_start_36 ?_
  refine z_iconst (v := 0) cx d_X4_start_39 ki_0 ?_
  refine z_bipush (v := 64) cx d_X4_start_40 kb_64 ?_
  refine z_copyI cx (tfX_6_5 hT_p0) za_16 (tfX_5_3 hT_t) za_16 ⟨wd_491, wd_493, wd_492, wd_121⟩ (by decide +kernel) (by decide +kernel) (by decide +kernel) (by decide +kernel) (by decide +kernel) ⟨Nat.le_of_ble_eq_true rfl, Nat.le_of_ble_eq_true rfl⟩ d_X4_start_42 ?_
  refine z_nmM hF (fun M3 hF => ?_)
  refine z_aload_n cx d_X4_start_45 0 rfl ?_
  refine z_iconst (v := 0) cx d_X4_start_46 ki_0 ?_
  refine z_putI cx hT_t fp_Pans_31 d_X4_start_47 ?_
  refine z_nmM hF (fun M4 hF => ?_)
  refine z_aload_n cx d_X4_start_50 0 rfl ?_
  refine z_iconst (v := 0) cx d_X4_start_51 ki_0 ?_
  refine z_putI cx hT_t fp_Pans_35 d_X4_start_52 ?_
  refine z_nmM hF (fun M5 hF => ?_)
  refine z_aload_n cx d_X4_start_55 0 rfl ?_
  refine z_iconst (v := 0) cx d_X4_start_56 ki_0 ?_
  refine z_putI cx hT_t fp_Pans_38 d_X4_start_57 ?_
  refine z_nmM hF (fun M6 hF => ?_)
  refine z_aload_n cx d_X4_start_60 0 rfl ?_
  refine z_aload_n cx d_X4_start_61 1 rfl ?_
  obtain ⟨M7, hc, hF⟩ := zbv_inv hF
  refine z_callV cx (As := [.ref (ad p0)]) (rest := []) (c_X4_learnShades l cx.2.2.2.1.1 M6 t p0 hT_t hT_p0 hc) hT_t zo_5 cv_Pans_46 ⟨rfl, rfl, Nat.le_of_ble_eq_true rfl, Nat.le_of_ble_eq_true rfl⟩ rfl rfl ⟨Nat.zero_le _, Nat.zero_le _⟩ (Nat.le_of_ble_eq_true rfl) d_X4_start_62 ?_
  exact z_vret cx hr hF d_X4_start_65
/-! SunnyPans.placesOver0 -/
set_option maxRecDepth 100000 in
theorem wd_990 : Cond.methodLink "SunnyPans" 298 yX9_bit ∈ tbG := tw4 170 rfl rfl
theorem cs_SunnyPans_298 : zCS "SunnyPans" 298 yX9_bit cX9_bit 1 (some .long) 1 := zCS_of wd_990 wd_313 wd_101 wd_314 (by decide +kernel)
theorem d_X9_placesOver0_0 : decode cX9_placesOver0 0 = .ok (.lconst 0, 1) := by decide +kernel
theorem d_X9_placesOver0_1 : decode cX9_placesOver0 1 = .ok (.lstore_n 1, 1) := by decide +kernel
theorem d_X9_placesOver0_2 : decode cX9_placesOver0 2 = .ok (.iconst 0, 1) := by decide +kernel
theorem d_X9_placesOver0_3 : decode cX9_placesOver0 3 = .ok (.istore_n 3, 1) := by decide +kernel
theorem d_X9_placesOver0_4 : decode cX9_placesOver0 4 = .ok (.iload_n 3, 1) := by decide +kernel
theorem d_X9_placesOver0_5 : decode cX9_placesOver0 5 = .ok (.aload_n 0, 1) := by decide +kernel
theorem d_X9_placesOver0_6 : decode cX9_placesOver0 6 = .ok (.arraylength, 1) := by decide +kernel
theorem d_X9_placesOver0_7 : decode cX9_placesOver0 7 = .ok (.if_icmp .ge 28, 3) := by decide +kernel
theorem d_X9_placesOver0_10 : decode cX9_placesOver0 10 = .ok (.iload_n 3, 1) := by decide +kernel
theorem d_X9_placesOver0_11 : decode cX9_placesOver0 11 = .ok (.bipush 64, 2) := by decide +kernel
theorem d_X9_placesOver0_13 : decode cX9_placesOver0 13 = .ok (.if_icmp .ge 22, 3) := by decide +kernel
theorem d_X9_placesOver0_16 : decode cX9_placesOver0 16 = .ok (.aload_n 0, 1) := by decide +kernel
theorem d_X9_placesOver0_17 : decode cX9_placesOver0 17 = .ok (.iload_n 3, 1) := by decide +kernel
theorem d_X9_placesOver0_18 : decode cX9_placesOver0 18 = .ok (.iaload, 1) := by decide +kernel
theorem d_X9_placesOver0_19 : decode cX9_placesOver0 19 = .ok (.ifCond .le 10, 3) := by decide +kernel
theorem d_X9_placesOver0_22 : decode cX9_placesOver0 22 = .ok (.lload_n 1, 1) := by decide +kernel
theorem d_X9_placesOver0_23 : decode cX9_placesOver0 23 = .ok (.iload_n 3, 1) := by decide +kernel
theorem d_X9_placesOver0_24 : decode cX9_placesOver0 24 = .ok (.invokestatic 298, 3) := by decide +kernel
theorem d_X9_placesOver0_27 : decode cX9_placesOver0 27 = .ok (.lor, 1) := by decide +kernel
theorem d_X9_placesOver0_28 : decode cX9_placesOver0 28 = .ok (.lstore_n 1, 1) := by decide +kernel
theorem d_X9_placesOver0_29 : decode cX9_placesOver0 29 = .ok (.iinc 3 1, 3) := by decide +kernel
theorem d_X9_placesOver0_32 : decode cX9_placesOver0 32 = .ok (.goto (-28), 3) := by decide +kernel
theorem d_X9_placesOver0_35 : decode cX9_placesOver0 35 = .ok (.lload_n 1, 1) := by decide +kernel
theorem d_X9_placesOver0_36 : decode cX9_placesOver0 36 = .ok (.lreturn, 1) := by decide +kernel
def F_X9_placesOver0_29 (p0 : Nat) (self4 : Int64 → Int32 → zMem → Option (Int64 × zMem)) (b29_L1 : Int64) (b29_L3 : Int32) (M : zMem) : Option (Int64 × zMem) :=
  self4 b29_L1 (b29_L3 + 1) M
def F_X9_placesOver0_4 (p0 : Nat) (self4 : Int64 → Int32 → zMem → Option (Int64 × zMem)) (b4_L1 : Int64) (b4_L3 : Int32) (M : zMem) : Option (Int64 × zMem) :=
  if (nI 64) ≤ b4_L3 then
    some (b4_L1, M)
  else
    if (64 : Int32) ≤ b4_L3 then
      some (b4_L1, M)
    else
      gin b4_L3 64 <|
      if (M.1 p0 b4_L3.toNatClampNeg) ≤ 0 then
        F_X9_placesOver0_29 p0 self4 b4_L1 b4_L3 M
      else
        zb (F_X9_bit M b4_L3) fun v3 M2 =>
        zl (b4_L1 ||| v3) fun v4 =>
        F_X9_placesOver0_29 p0 self4 v4 b4_L3 M2
def F_X9_placesOver0 (M : zMem) (p0 : Nat) : Option (Int64 × zMem) :=
  itF (fun _ _ _ => none) (F_X9_placesOver0_4 p0) zFuel (0 : Int64) (0 : Int32) M
def rm_X9_placesOver0 : Room := { frames := 3, cells := 0, slots := 0, locals := 100 }
set_option maxHeartbeats 4000000 in
set_option maxRecDepth 100000 in
theorem c_X9_placesOver0 (l : Launch) {G : zG} {ad : Nat → Nat} {n : Nat} (hA : zInj ad n) (M : zMem) (p0 : Nat) (hT_p0 : zT shX n p0 16) {r9 : Int64} {M9 : zMem} (hF : F_X9_placesOver0 M p0 = some (r9, M9)) : zM l yX9_placesOver0 cX9_placesOver0 4 (some .long) rm_X9_placesOver0 G shX ad n M [.ref (ad p0)] (some (.long r9)) M9 := by
  refine zM_of hA (by decide +kernel) (lv := [(0, .ref (ad p0))]) (Nat.le_of_ble_eq_true rfl) rfl (fun p e s m args below meth c A cx hr => ?_)
  have hb29 : ∀ (self4 : Int64 → Int32 → zMem → Option (Int64 × zMem)) (hs4 : ∀ (b4_L1 : Int64) (b4_L3 : Int32) (M : zMem), self4 b4_L1 b4_L3 M = some (r9, M9) → zJ p l e rm_X9_placesOver0 s m args below meth c G shX ad n A 4 (MQ below (zQ G shX ad n M9 (some (.long r9)) A) args s 0 0 A) 0 0 M 4 [(0, .ref (ad p0)), (1, .long b4_L1), (3, .int b4_L3)] []), ∀ (b29_L1 : Int64) (b29_L3 : Int32) (M : zMem), F_X9_placesOver0_29 p0 self4 b29_L1 b29_L3 M = some (r9, M9) → zJ p l e rm_X9_placesOver0 s m args below meth c G shX ad n A 4 (MQ below (zQ G shX ad n M9 (some (.long r9)) A) args s 0 0 A) 0 0 M 29 [(0, .ref (ad p0)), (1, .long b29_L1), (3, .int b29_L3)] [] := by
    intro self4 hs4 b29_L1 b29_L3 M hF
    unfold F_X9_placesOver0_29 at hF
    refine z_iinc cx 3 1 [(3, .int (b29_L3 + 1)), (0, .ref (ad p0)), (1, .long b29_L1)] d_X9_placesOver0_29 2 rfl ki_1 (by decide) rfl ?_
    refine z_goto cx 4 d_X9_placesOver0_32 (by decide) ?_
    exact z_lv [1, 2, 0] _ rfl (hs4 b29_L1 (b29_L3 + 1) M hF)
  have hL4 : ∀ (fuel : Nat), ∀ (b4_L1 : Int64) (b4_L3 : Int32) (M : zMem), itF (fun _ _ _ => none) (F_X9_placesOver0_4 p0) fuel b4_L1 b4_L3 M = some (r9, M9) → zJ p l e rm_X9_placesOver0 s m args below meth c G shX ad n A 4 (MQ below (zQ G shX ad n M9 (some (.long r9)) A) args s 0 0 A) 0 0 M 4 [(0, .ref (ad p0)), (1, .long b4_L1), (3, .int b4_L3)] [] := by
    intro fuel
    induction fuel with
    | zero => intro b4_L1 b4_L3 M hF; cases hF
    | succ fuel hs4 =>
      intro b4_L1 b4_L3 M hF
      have hF : F_X9_placesOver0_4 p0 (itF (fun _ _ _ => none) (F_X9_placesOver0_4 p0) fuel) b4_L1 b4_L3 M = some (r9, M9) := hF
      generalize itF (fun _ _ _ => none) (F_X9_placesOver0_4 p0) fuel = self4 at hs4 hF
      unfold F_X9_placesOver0_4 at hF
      refine z_iload_n cx d_X9_placesOver0_4 2 rfl ?_
      refine z_aload_n cx d_X9_placesOver0_5 0 rfl ?_
      refine z_alenI cx hT_p0 za_16 d_X9_placesOver0_6 ?_
      refine z_icmp_ge cx 35 d_X9_placesOver0_7 (by decide) hF (fun hF => ?_) (fun hF => ?_)
      · refine z_lload_n cx d_X9_placesOver0_35 1 rfl ?_
        exact z_lret cx hr hF d_X9_placesOver0_36
      refine z_iload_n cx d_X9_placesOver0_10 2 rfl ?_
      refine z_bipush (v := 64) cx d_X9_placesOver0_11 kb_64 ?_
      refine z_icmp_ge cx 35 d_X9_placesOver0_13 (by decide) hF (fun hF => ?_) (fun hF => ?_)
      · refine z_lload_n cx d_X9_placesOver0_35 1 rfl ?_
        exact z_lret cx hr hF d_X9_placesOver0_36
      refine z_aload_n cx d_X9_placesOver0_16 0 rfl ?_
      refine z_iload_n cx d_X9_placesOver0_17 2 rfl ?_
      obtain ⟨hi1, hF⟩ := gin_inv hF
      refine z_iald cx hT_p0 za_16 hi1 b4_L3.toNatClampNeg rfl d_X9_placesOver0_18 ?_
      refine z_if_le cx 29 d_X9_placesOver0_19 (by decide) hF (fun hF => ?_) (fun hF => ?_)
      · exact hb29 self4 hs4 b4_L1 b4_L3 M hF
      refine z_lload_n cx d_X9_placesOver0_22 1 rfl ?_
      refine z_iload_n cx d_X9_placesOver0_23 2 rfl ?_
      obtain ⟨v3, M2, hc, hF⟩ := zb_inv hF
      refine z_callS cx (As := [.int b4_L3]) (rest := [.long b4_L1]) (c_X9_bit l cx.2.2.2.1.1 M b4_L3  hc) cs_SunnyPans_298 ⟨rfl, rfl, Nat.le_of_ble_eq_true rfl, Nat.le_of_ble_eq_true rfl⟩ rfl rfl ⟨Nat.zero_le _, Nat.zero_le _⟩ (Nat.le_of_ble_eq_true rfl) d_X9_placesOver0_24 ?_
      refine z_lor cx d_X9_placesOver0_27 ?_
      refine z_nml hF (fun v4 hF => ?_)
      refine z_lstore_n cx 1 [(1, .long v4), (0, .ref (ad p0)), (3, .int b4_L3)] d_X9_placesOver0_28 rfl (by decide) rfl ?_
      exact z_lv [1, 0, 2] _ rfl (hb29 self4 hs4 v4 b4_L3 M2 hF)
  unfold F_X9_placesOver0 at hF
  refine z_lconst (v := 0) cx d_X9_placesOver0_0 (by decide +kernel) ?_
  refine z_lstore_n cx 1 [(1, .long (0 : Int64)), (0, .ref (ad p0))] d_X9_placesOver0_1 rfl (by decide) rfl ?_
  refine z_iconst (v := 0) cx d_X9_placesOver0_2 ki_0 ?_
  refine z_istore_n cx 3 [(3, .int (0 : Int32)), (1, .long (0 : Int64)), (0, .ref (ad p0))] d_X9_placesOver0_3 rfl (by decide) rfl ?_
  exact z_lv [2, 1, 0] _ rfl (hL4 zFuel (0 : Int64) (0 : Int32) M hF)
/-! SunnyPans$Pans.brinePlaces -/
set_option maxRecDepth 100000 in
theorem wd_989 : Cond.code yX9_placesOver0 cX9_placesOver0 4 (some .long) ∈ tbG := tw4 169 rfl rfl
set_option maxRecDepth 100000 in
theorem wd_987 : Cond.methodLinkNest "SunnyPans$Pans" 50 yX9_placesOver0 "SunnyPans" ∈ tbN := twn4 167 rfl rfl
theorem cn_Pans_50 : zCN "SunnyPans$Pans" 50 yX9_placesOver0 cX9_placesOver0 4 (some .long) 1 := ⟨wd_987, wd_101, wd_989, by decide +kernel⟩
set_option maxRecDepth 100000 in
theorem wd_988 : Cond.static yX9_placesOver0 ∈ tbG := tw4 168 rfl rfl
theorem d_X4_brinePlaces_0 : decode cX4_brinePlaces 0 = .ok (.aload_n 0, 1) := by decide +kernel
theorem d_X4_brinePlaces_1 : decode cX4_brinePlaces 1 = .ok (.getfield 9, 3) := by decide +kernel
theorem d_X4_brinePlaces_4 : decode cX4_brinePlaces 4 = .ok (.invokestatic 50, 3) := by decide +kernel
theorem d_X4_brinePlaces_7 : decode cX4_brinePlaces 7 = .ok (.lreturn, 1) := by decide +kernel
def F_X4_brinePlaces (M : zMem) (t : Nat) : Option (Int64 × zMem) :=
  zb (F_X9_placesOver0 M (t + 1)) fun v2 M1 =>
  some (v2, M1)
def rm_X4_brinePlaces : Room := { frames := 4, cells := 0, slots := 0, locals := 123 }
set_option maxHeartbeats 4000000 in
set_option maxRecDepth 100000 in
theorem c_X4_brinePlaces (l : Launch) {G : zG} {ad : Nat → Nat} {n : Nat} (hA : zInj ad n) (M : zMem) (t : Nat) (hT_t : zT shX n t 5) {r9 : Int64} {M9 : zMem} (hF : F_X4_brinePlaces M t = some (r9, M9)) : zM l yX4_brinePlaces cX4_brinePlaces 1 (some .long) rm_X4_brinePlaces G shX ad n M [.ref (ad t)] (some (.long r9)) M9 := by
  refine zM_of hA (by decide +kernel) (lv := [(0, .ref (ad t))]) (Nat.le_of_ble_eq_true rfl) rfl (fun p e s m args below meth c A cx hr => ?_)
  unfold F_X4_brinePlaces at hF
  refine z_aload_n cx d_X4_brinePlaces_0 0 rfl ?_
  refine z_getR cx hT_t fg_Pans_9 (t + 1) rfl d_X4_brinePlaces_1 ?_
  obtain ⟨v2, M1, hc, hF⟩ := zb_inv hF
  refine z_callSN cx (As := [.ref (ad (t + 1))]) (rest := []) (c_X9_placesOver0 l cx.2.2.2.1.1 M (t + 1) (tfX_5_1 hT_t) hc) cn_Pans_50 wd_988 ⟨rfl, rfl, Nat.le_of_ble_eq_true rfl, Nat.le_of_ble_eq_true rfl⟩ rfl rfl ⟨Nat.zero_le _, Nat.zero_le _⟩ (Nat.le_of_ble_eq_true rfl) d_X4_brinePlaces_4 ?_
  exact z_lret cx hr hF d_X4_brinePlaces_7
/-! SunnyPans$Pans.saltPlaces -/
theorem d_X4_saltPlaces_0 : decode cX4_saltPlaces 0 = .ok (.aload_n 0, 1) := by decide +kernel
theorem d_X4_saltPlaces_1 : decode cX4_saltPlaces 1 = .ok (.getfield 15, 3) := by decide +kernel
theorem d_X4_saltPlaces_4 : decode cX4_saltPlaces 4 = .ok (.invokestatic 50, 3) := by decide +kernel
theorem d_X4_saltPlaces_7 : decode cX4_saltPlaces 7 = .ok (.lreturn, 1) := by decide +kernel
def F_X4_saltPlaces (M : zMem) (t : Nat) : Option (Int64 × zMem) :=
  zb (F_X9_placesOver0 M (t + 2)) fun v2 M1 =>
  some (v2, M1)
def rm_X4_saltPlaces : Room := { frames := 4, cells := 0, slots := 0, locals := 123 }
set_option maxHeartbeats 4000000 in
set_option maxRecDepth 100000 in
theorem c_X4_saltPlaces (l : Launch) {G : zG} {ad : Nat → Nat} {n : Nat} (hA : zInj ad n) (M : zMem) (t : Nat) (hT_t : zT shX n t 5) {r9 : Int64} {M9 : zMem} (hF : F_X4_saltPlaces M t = some (r9, M9)) : zM l yX4_saltPlaces cX4_saltPlaces 1 (some .long) rm_X4_saltPlaces G shX ad n M [.ref (ad t)] (some (.long r9)) M9 := by
  refine zM_of hA (by decide +kernel) (lv := [(0, .ref (ad t))]) (Nat.le_of_ble_eq_true rfl) rfl (fun p e s m args below meth c A cx hr => ?_)
  unfold F_X4_saltPlaces at hF
  refine z_aload_n cx d_X4_saltPlaces_0 0 rfl ?_
  refine z_getR cx hT_t fg_Pans_15 (t + 2) rfl d_X4_saltPlaces_1 ?_
  obtain ⟨v2, M1, hc, hF⟩ := zb_inv hF
  refine z_callSN cx (As := [.ref (ad (t + 2))]) (rest := []) (c_X9_placesOver0 l cx.2.2.2.1.1 M (t + 2) (tfX_5_2 hT_t) hc) cn_Pans_50 wd_988 ⟨rfl, rfl, Nat.le_of_ble_eq_true rfl, Nat.le_of_ble_eq_true rfl⟩ rfl rfl ⟨Nat.zero_le _, Nat.zero_le _⟩ (Nat.le_of_ble_eq_true rfl) d_X4_saltPlaces_4 ?_
  exact z_lret cx hr hF d_X4_saltPlaces_7
/-! SunnyPans$Pans.heapPlaces -/
theorem d_X4_heapPlaces_0 : decode cX4_heapPlaces 0 = .ok (.aload_n 0, 1) := by decide +kernel
theorem d_X4_heapPlaces_1 : decode cX4_heapPlaces 1 = .ok (.getfield 18, 3) := by decide +kernel
theorem d_X4_heapPlaces_4 : decode cX4_heapPlaces 4 = .ok (.invokestatic 50, 3) := by decide +kernel
theorem d_X4_heapPlaces_7 : decode cX4_heapPlaces 7 = .ok (.lreturn, 1) := by decide +kernel
def F_X4_heapPlaces (M : zMem) (t : Nat) : Option (Int64 × zMem) :=
  zb (F_X9_placesOver0 M (t + 3)) fun v2 M1 =>
  some (v2, M1)
def rm_X4_heapPlaces : Room := { frames := 4, cells := 0, slots := 0, locals := 123 }
set_option maxHeartbeats 4000000 in
set_option maxRecDepth 100000 in
theorem c_X4_heapPlaces (l : Launch) {G : zG} {ad : Nat → Nat} {n : Nat} (hA : zInj ad n) (M : zMem) (t : Nat) (hT_t : zT shX n t 5) {r9 : Int64} {M9 : zMem} (hF : F_X4_heapPlaces M t = some (r9, M9)) : zM l yX4_heapPlaces cX4_heapPlaces 1 (some .long) rm_X4_heapPlaces G shX ad n M [.ref (ad t)] (some (.long r9)) M9 := by
  refine zM_of hA (by decide +kernel) (lv := [(0, .ref (ad t))]) (Nat.le_of_ble_eq_true rfl) rfl (fun p e s m args below meth c A cx hr => ?_)
  unfold F_X4_heapPlaces at hF
  refine z_aload_n cx d_X4_heapPlaces_0 0 rfl ?_
  refine z_getR cx hT_t fg_Pans_18 (t + 3) rfl d_X4_heapPlaces_1 ?_
  obtain ⟨v2, M1, hc, hF⟩ := zb_inv hF
  refine z_callSN cx (As := [.ref (ad (t + 3))]) (rest := []) (c_X9_placesOver0 l cx.2.2.2.1.1 M (t + 3) (tfX_5_3 hT_t) hc) cn_Pans_50 wd_988 ⟨rfl, rfl, Nat.le_of_ble_eq_true rfl, Nat.le_of_ble_eq_true rfl⟩ rfl rfl ⟨Nat.zero_le _, Nat.zero_le _⟩ (Nat.le_of_ble_eq_true rfl) d_X4_heapPlaces_4 ?_
  exact z_lret cx hr hF d_X4_heapPlaces_7
/-! SunnyPans$Pans.dryPlaces -/
set_option maxRecDepth 100000 in
theorem wd_1004 : Cond.code yX4_brinePlaces cX4_brinePlaces 1 (some .long) ∈ tbG := tw4 184 rfl rfl
set_option maxRecDepth 100000 in
theorem wd_1001 : Cond.methodLink "SunnyPans$Pans" 54 yX4_brinePlaces ∈ tbG := tw4 181 rfl rfl
set_option maxRecDepth 100000 in
theorem wd_1002 : Cond.instanceMethod yX4_brinePlaces ∈ tbG := tw4 182 rfl rfl
set_option maxRecDepth 100000 in
theorem wd_1003 : Cond.selects "SunnyPans$Pans" yX4_brinePlaces yX4_brinePlaces ∈ tbG := tw4 183 rfl rfl
theorem cv_Pans_54 : zCV "SunnyPans$Pans" 54 "SunnyPans$Pans" yX4_brinePlaces cX4_brinePlaces 1 (some .long) 0 := zCV_of wd_1001 wd_1002 wd_1003 wd_104 wd_1004 (by decide +kernel)
set_option maxRecDepth 100000 in
theorem wd_986 : Cond.code yX4_heapPlaces cX4_heapPlaces 1 (some .long) ∈ tbG := tw4 166 rfl rfl
set_option maxRecDepth 100000 in
theorem wd_1005 : Cond.methodLink "SunnyPans$Pans" 58 yX4_heapPlaces ∈ tbG := tw4 185 rfl rfl
set_option maxRecDepth 100000 in
theorem wd_984 : Cond.instanceMethod yX4_heapPlaces ∈ tbG := tw4 164 rfl rfl
set_option maxRecDepth 100000 in
theorem wd_985 : Cond.selects "SunnyPans$Pans" yX4_heapPlaces yX4_heapPlaces ∈ tbG := tw4 165 rfl rfl
theorem cv_Pans_58 : zCV "SunnyPans$Pans" 58 "SunnyPans$Pans" yX4_heapPlaces cX4_heapPlaces 1 (some .long) 0 := zCV_of wd_1005 wd_984 wd_985 wd_104 wd_986 (by decide +kernel)
set_option maxRecDepth 100000 in
theorem wd_1006 : Cond.constantLong "SunnyPans$Pans" 61 (-1) ∈ tbG := tw4 186 rfl rfl
theorem d_X4_dryPlaces_0 : decode cX4_dryPlaces 0 = .ok (.aload_n 0, 1) := by decide +kernel
theorem d_X4_dryPlaces_1 : decode cX4_dryPlaces 1 = .ok (.invokevirtual 54, 3) := by decide +kernel
theorem d_X4_dryPlaces_4 : decode cX4_dryPlaces 4 = .ok (.aload_n 0, 1) := by decide +kernel
theorem d_X4_dryPlaces_5 : decode cX4_dryPlaces 5 = .ok (.invokevirtual 58, 3) := by decide +kernel
theorem d_X4_dryPlaces_8 : decode cX4_dryPlaces 8 = .ok (.lor, 1) := by decide +kernel
theorem d_X4_dryPlaces_9 : decode cX4_dryPlaces 9 = .ok (.ldc2_w 61, 3) := by decide +kernel
theorem d_X4_dryPlaces_12 : decode cX4_dryPlaces 12 = .ok (.lxor, 1) := by decide +kernel
theorem d_X4_dryPlaces_13 : decode cX4_dryPlaces 13 = .ok (.lreturn, 1) := by decide +kernel
def F_X4_dryPlaces (M : zMem) (t : Nat) : Option (Int64 × zMem) :=
  zb (F_X4_brinePlaces M t) fun v2 M1 =>
  zb (F_X4_heapPlaces M1 t) fun v4 M3 =>
  some (((v2 ||| v4) ^^^ (-1 : Int64)), M3)
def rm_X4_dryPlaces : Room := { frames := 5, cells := 0, slots := 0, locals := 143 }
set_option maxHeartbeats 4000000 in
set_option maxRecDepth 100000 in
theorem c_X4_dryPlaces (l : Launch) {G : zG} {ad : Nat → Nat} {n : Nat} (hA : zInj ad n) (M : zMem) (t : Nat) (hT_t : zT shX n t 5) {r9 : Int64} {M9 : zMem} (hF : F_X4_dryPlaces M t = some (r9, M9)) : zM l yX4_dryPlaces cX4_dryPlaces 1 (some .long) rm_X4_dryPlaces G shX ad n M [.ref (ad t)] (some (.long r9)) M9 := by
  refine zM_of hA (by decide +kernel) (lv := [(0, .ref (ad t))]) (Nat.le_of_ble_eq_true rfl) rfl (fun p e s m args below meth c A cx hr => ?_)
  unfold F_X4_dryPlaces at hF
  refine z_aload_n cx d_X4_dryPlaces_0 0 rfl ?_
  obtain ⟨v2, M1, hc, hF⟩ := zb_inv hF
  refine z_callV cx (As := []) (rest := []) (c_X4_brinePlaces l cx.2.2.2.1.1 M t hT_t hc) hT_t zo_5 cv_Pans_54 ⟨rfl, rfl, Nat.le_of_ble_eq_true rfl, Nat.le_of_ble_eq_true rfl⟩ rfl rfl ⟨Nat.zero_le _, Nat.zero_le _⟩ (Nat.le_of_ble_eq_true rfl) d_X4_dryPlaces_1 ?_
  refine z_aload_n cx d_X4_dryPlaces_4 0 rfl ?_
  obtain ⟨v4, M3, hc, hF⟩ := zb_inv hF
  refine z_callV cx (As := []) (rest := [.long v2]) (c_X4_heapPlaces l cx.2.2.2.1.1 M1 t hT_t hc) hT_t zo_5 cv_Pans_58 ⟨rfl, rfl, Nat.le_of_ble_eq_true rfl, Nat.le_of_ble_eq_true rfl⟩ rfl rfl ⟨Nat.zero_le _, Nat.zero_le _⟩ (Nat.le_of_ble_eq_true rfl) d_X4_dryPlaces_5 ?_
  refine z_lor cx d_X4_dryPlaces_8 ?_
  refine z_ldc2 cx wd_1006 d_X4_dryPlaces_9 ?_
  refine z_lxor cx d_X4_dryPlaces_12 ?_
  exact z_lret cx hr hF d_X4_dryPlaces_13
/-! SunnyPans$Pans.freePlaces -/
set_option maxRecDepth 100000 in
theorem wd_1010 : Cond.code yX4_saltPlaces cX4_saltPlaces 1 (some .long) ∈ tbG := tw4 190 rfl rfl
set_option maxRecDepth 100000 in
theorem wd_1154 : Cond.methodLink "SunnyPans$Pans" 63 yX4_saltPlaces ∈ tbG := tw5 94 rfl rfl
set_option maxRecDepth 100000 in
theorem wd_1008 : Cond.instanceMethod yX4_saltPlaces ∈ tbG := tw4 188 rfl rfl
set_option maxRecDepth 100000 in
theorem wd_1009 : Cond.selects "SunnyPans$Pans" yX4_saltPlaces yX4_saltPlaces ∈ tbG := tw4 189 rfl rfl
theorem cv_Pans_63 : zCV "SunnyPans$Pans" 63 "SunnyPans$Pans" yX4_saltPlaces cX4_saltPlaces 1 (some .long) 0 := zCV_of wd_1154 wd_1008 wd_1009 wd_104 wd_1010 (by decide +kernel)
theorem d_X4_freePlaces_0 : decode cX4_freePlaces 0 = .ok (.aload_n 0, 1) := by decide +kernel
theorem d_X4_freePlaces_1 : decode cX4_freePlaces 1 = .ok (.invokevirtual 54, 3) := by decide +kernel
theorem d_X4_freePlaces_4 : decode cX4_freePlaces 4 = .ok (.aload_n 0, 1) := by decide +kernel
theorem d_X4_freePlaces_5 : decode cX4_freePlaces 5 = .ok (.invokevirtual 63, 3) := by decide +kernel
theorem d_X4_freePlaces_8 : decode cX4_freePlaces 8 = .ok (.lor, 1) := by decide +kernel
theorem d_X4_freePlaces_9 : decode cX4_freePlaces 9 = .ok (.aload_n 0, 1) := by decide +kernel
theorem d_X4_freePlaces_10 : decode cX4_freePlaces 10 = .ok (.invokevirtual 58, 3) := by decide +kernel
theorem d_X4_freePlaces_13 : decode cX4_freePlaces 13 = .ok (.lor, 1) := by decide +kernel
theorem d_X4_freePlaces_14 : decode cX4_freePlaces 14 = .ok (.ldc2_w 61, 3) := by decide +kernel
theorem d_X4_freePlaces_17 : decode cX4_freePlaces 17 = .ok (.lxor, 1) := by decide +kernel
theorem d_X4_freePlaces_18 : decode cX4_freePlaces 18 = .ok (.lreturn, 1) := by decide +kernel
def F_X4_freePlaces (M : zMem) (t : Nat) : Option (Int64 × zMem) :=
  zb (F_X4_brinePlaces M t) fun v2 M1 =>
  zb (F_X4_saltPlaces M1 t) fun v4 M3 =>
  zb (F_X4_heapPlaces M3 t) fun v6 M5 =>
  some ((((v2 ||| v4) ||| v6) ^^^ (-1 : Int64)), M5)
def rm_X4_freePlaces : Room := { frames := 5, cells := 0, slots := 0, locals := 143 }
set_option maxHeartbeats 4000000 in
set_option maxRecDepth 100000 in
theorem c_X4_freePlaces (l : Launch) {G : zG} {ad : Nat → Nat} {n : Nat} (hA : zInj ad n) (M : zMem) (t : Nat) (hT_t : zT shX n t 5) {r9 : Int64} {M9 : zMem} (hF : F_X4_freePlaces M t = some (r9, M9)) : zM l yX4_freePlaces cX4_freePlaces 1 (some .long) rm_X4_freePlaces G shX ad n M [.ref (ad t)] (some (.long r9)) M9 := by
  refine zM_of hA (by decide +kernel) (lv := [(0, .ref (ad t))]) (Nat.le_of_ble_eq_true rfl) rfl (fun p e s m args below meth c A cx hr => ?_)
  unfold F_X4_freePlaces at hF
  refine z_aload_n cx d_X4_freePlaces_0 0 rfl ?_
  obtain ⟨v2, M1, hc, hF⟩ := zb_inv hF
  refine z_callV cx (As := []) (rest := []) (c_X4_brinePlaces l cx.2.2.2.1.1 M t hT_t hc) hT_t zo_5 cv_Pans_54 ⟨rfl, rfl, Nat.le_of_ble_eq_true rfl, Nat.le_of_ble_eq_true rfl⟩ rfl rfl ⟨Nat.zero_le _, Nat.zero_le _⟩ (Nat.le_of_ble_eq_true rfl) d_X4_freePlaces_1 ?_
  refine z_aload_n cx d_X4_freePlaces_4 0 rfl ?_
  obtain ⟨v4, M3, hc, hF⟩ := zb_inv hF
  refine z_callV cx (As := []) (rest := [.long v2]) (c_X4_saltPlaces l cx.2.2.2.1.1 M1 t hT_t hc) hT_t zo_5 cv_Pans_63 ⟨rfl, rfl, Nat.le_of_ble_eq_true rfl, Nat.le_of_ble_eq_true rfl⟩ rfl rfl ⟨Nat.zero_le _, Nat.zero_le _⟩ (Nat.le_of_ble_eq_true rfl) d_X4_freePlaces_5 ?_
  refine z_lor cx d_X4_freePlaces_8 ?_
  refine z_aload_n cx d_X4_freePlaces_9 0 rfl ?_
  obtain ⟨v6, M5, hc, hF⟩ := zb_inv hF
  refine z_callV cx (As := []) (rest := [.long (v2 ||| v4)]) (c_X4_heapPlaces l cx.2.2.2.1.1 M3 t hT_t hc) hT_t zo_5 cv_Pans_58 ⟨rfl, rfl, Nat.le_of_ble_eq_true rfl, Nat.le_of_ble_eq_true rfl⟩ rfl rfl ⟨Nat.zero_le _, Nat.zero_le _⟩ (Nat.le_of_ble_eq_true rfl) d_X4_freePlaces_10 ?_
  refine z_lor cx d_X4_freePlaces_13 ?_
  refine z_ldc2 cx wd_1006 d_X4_freePlaces_14 ?_
  refine z_lxor cx d_X4_freePlaces_17 ?_
  exact z_lret cx hr hF d_X4_freePlaces_18
/-! SunnyPans$Pans.canPour -/
theorem d_X4_canPour_0 : decode cX4_canPour 0 = .ok (.aload_n 0, 1) := by decide +kernel
theorem d_X4_canPour_1 : decode cX4_canPour 1 = .ok (.getfield 18, 3) := by decide +kernel
theorem d_X4_canPour_4 : decode cX4_canPour 4 = .ok (.iload_n 1, 1) := by decide +kernel
theorem d_X4_canPour_5 : decode cX4_canPour 5 = .ok (.iaload, 1) := by decide +kernel
theorem d_X4_canPour_6 : decode cX4_canPour 6 = .ok (.ifCond .ne 38, 3) := by decide +kernel
theorem d_X4_canPour_9 : decode cX4_canPour 9 = .ok (.aload_n 0, 1) := by decide +kernel
theorem d_X4_canPour_10 : decode cX4_canPour 10 = .ok (.getfield 9, 3) := by decide +kernel
theorem d_X4_canPour_13 : decode cX4_canPour 13 = .ok (.iload_n 1, 1) := by decide +kernel
theorem d_X4_canPour_14 : decode cX4_canPour 14 = .ok (.iaload, 1) := by decide +kernel
theorem d_X4_canPour_15 : decode cX4_canPour 15 = .ok (.iload_n 2, 1) := by decide +kernel
theorem d_X4_canPour_16 : decode cX4_canPour 16 = .ok (.iadd, 1) := by decide +kernel
theorem d_X4_canPour_17 : decode cX4_canPour 17 = .ok (.sipush 9999, 3) := by decide +kernel
theorem d_X4_canPour_20 : decode cX4_canPour 20 = .ok (.if_icmp .gt 24, 3) := by decide +kernel
theorem d_X4_canPour_23 : decode cX4_canPour 23 = .ok (.aload_n 0, 1) := by decide +kernel
theorem d_X4_canPour_24 : decode cX4_canPour 24 = .ok (.getfield 15, 3) := by decide +kernel
theorem d_X4_canPour_27 : decode cX4_canPour 27 = .ok (.iload_n 1, 1) := by decide +kernel
theorem d_X4_canPour_28 : decode cX4_canPour 28 = .ok (.iaload, 1) := by decide +kernel
theorem d_X4_canPour_29 : decode cX4_canPour 29 = .ok (.iload_n 2, 1) := by decide +kernel
theorem d_X4_canPour_30 : decode cX4_canPour 30 = .ok (.bipush 8, 2) := by decide +kernel
theorem d_X4_canPour_32 : decode cX4_canPour 32 = .ok (.idiv, 1) := by decide +kernel
theorem d_X4_canPour_33 : decode cX4_canPour 33 = .ok (.iadd, 1) := by decide +kernel
theorem d_X4_canPour_34 : decode cX4_canPour 34 = .ok (.sipush 9999, 3) := by decide +kernel
theorem d_X4_canPour_37 : decode cX4_canPour 37 = .ok (.if_icmp .gt 7, 3) := by decide +kernel
theorem d_X4_canPour_40 : decode cX4_canPour 40 = .ok (.iconst 1, 1) := by decide +kernel
theorem d_X4_canPour_41 : decode cX4_canPour 41 = .ok (.goto 4, 3) := by decide +kernel
theorem d_X4_canPour_44 : decode cX4_canPour 44 = .ok (.iconst 0, 1) := by decide +kernel
theorem d_X4_canPour_45 : decode cX4_canPour 45 = .ok (.ireturn, 1) := by decide +kernel
def F_X4_canPour (M : zMem) (t : Nat) (p0 : Int32) (p1 : Int32) : Option (Int32 × zMem) :=
  gin p0 64 <|
  if (M.1 (t + 3) p0.toNatClampNeg) = 0 then
    if (9999 : Int32) < ((M.1 (t + 1) p0.toNatClampNeg) + p1) then
      some ((0 : Int32), M)
    else
      if (9999 : Int32) < ((M.1 (t + 2) p0.toNatClampNeg) + (p1 / (8 : Int32))) then
        some ((0 : Int32), M)
      else
        some ((1 : Int32), M)
  else
    some ((0 : Int32), M)
def rm_X4_canPour : Room := { frames := 2, cells := 0, slots := 0, locals := 80 }
set_option maxHeartbeats 4000000 in
set_option maxRecDepth 100000 in
theorem c_X4_canPour (l : Launch) {G : zG} {ad : Nat → Nat} {n : Nat} (hA : zInj ad n) (M : zMem) (t : Nat) (p0 : Int32) (p1 : Int32) (hT_t : zT shX n t 5) {r9 : Int32} {M9 : zMem} (hF : F_X4_canPour M t p0 p1 = some (r9, M9)) : zM l yX4_canPour cX4_canPour 3 (some .boolean) rm_X4_canPour G shX ad n M [.ref (ad t), .int p0, .int p1] (some (.int r9)) M9 := by
  refine zM_of hA (by decide +kernel) (lv := [(0, .ref (ad t)), (1, .int p0), (2, .int p1)]) (Nat.le_of_ble_eq_true rfl) rfl (fun p e s m args below meth c A cx hr => ?_)
  unfold F_X4_canPour at hF
  refine z_aload_n cx d_X4_canPour_0 0 rfl ?_
  refine z_getR cx hT_t fg_Pans_18 (t + 3) rfl d_X4_canPour_1 ?_
  refine z_iload_n cx d_X4_canPour_4 1 rfl ?_
  obtain ⟨hi1, hF⟩ := gin_inv hF
  refine z_iald cx (tfX_5_3 hT_t) za_16 hi1 p0.toNatClampNeg rfl d_X4_canPour_5 ?_
  refine z_if_ne cx 44 d_X4_canPour_6 (by decide) hF (fun hF => ?_) (fun hF => ?_)
  · refine z_iconst (v := 0) cx d_X4_canPour_44 ki_0 ?_
    exact z_iret cx hr nb0 hF d_X4_canPour_45
  refine z_aload_n cx d_X4_canPour_9 0 rfl ?_
  refine z_getR cx hT_t fg_Pans_9 (t + 1) rfl d_X4_canPour_10 ?_
  refine z_iload_n cx d_X4_canPour_13 1 rfl ?_
  refine z_iald cx (tfX_5_1 hT_t) za_16 hi1 p0.toNatClampNeg rfl d_X4_canPour_14 ?_
  refine z_iload_n cx d_X4_canPour_15 2 rfl ?_
  refine z_iadd cx d_X4_canPour_16 ?_
  refine z_sipush (v := 9999) cx d_X4_canPour_17 ks_9999 ?_
  refine z_icmp_gt cx 44 d_X4_canPour_20 (by decide) hF (fun hF => ?_) (fun hF => ?_)
  · refine z_iconst (v := 0) cx d_X4_canPour_44 ki_0 ?_
    exact z_iret cx hr nb0 hF d_X4_canPour_45
  refine z_aload_n cx d_X4_canPour_23 0 rfl ?_
  refine z_getR cx hT_t fg_Pans_15 (t + 2) rfl d_X4_canPour_24 ?_
  refine z_iload_n cx d_X4_canPour_27 1 rfl ?_
  refine z_iald cx (tfX_5_2 hT_t) za_16 hi1 p0.toNatClampNeg rfl d_X4_canPour_28 ?_
  refine z_iload_n cx d_X4_canPour_29 2 rfl ?_
  refine z_bipush (v := 8) cx d_X4_canPour_30 kb_8 ?_
  refine z_idiv cx d_X4_canPour_32 (by decide) ?_
  refine z_iadd cx d_X4_canPour_33 ?_
  refine z_sipush (v := 9999) cx d_X4_canPour_34 ks_9999 ?_
  refine z_icmp_gt cx 44 d_X4_canPour_37 (by decide) hF (fun hF => ?_) (fun hF => ?_)
  · refine z_iconst (v := 0) cx d_X4_canPour_44 ki_0 ?_
    exact z_iret cx hr nb0 hF d_X4_canPour_45
  refine z_iconst (v := 1) cx d_X4_canPour_40 ki_1 ?_
  refine z_goto cx 45 d_X4_canPour_41 (by decide) ?_
  exact z_iret cx hr nb1 hF d_X4_canPour_45
/-! SunnyPans$Pans.pour -/
set_option maxRecDepth 100000 in
theorem wd_907 : Cond.code yX4_canPour cX4_canPour 3 (some .boolean) ∈ tbG := tw4 87 rfl rfl
set_option maxRecDepth 100000 in
theorem wd_904 : Cond.methodLink "SunnyPans$Pans" 66 yX4_canPour ∈ tbG := tw4 84 rfl rfl
set_option maxRecDepth 100000 in
theorem wd_905 : Cond.instanceMethod yX4_canPour ∈ tbG := tw4 85 rfl rfl
set_option maxRecDepth 100000 in
theorem wd_906 : Cond.selects "SunnyPans$Pans" yX4_canPour yX4_canPour ∈ tbG := tw4 86 rfl rfl
theorem cv_Pans_66 : zCV "SunnyPans$Pans" 66 "SunnyPans$Pans" yX4_canPour cX4_canPour 3 (some .boolean) 2 := zCV_of wd_904 wd_905 wd_906 wd_104 wd_907 (by decide +kernel)
theorem d_X4_pour_0 : decode cX4_pour 0 = .ok (.aload_n 0, 1) := by decide +kernel
theorem d_X4_pour_1 : decode cX4_pour 1 = .ok (.iload_n 1, 1) := by decide +kernel
theorem d_X4_pour_2 : decode cX4_pour 2 = .ok (.iload_n 2, 1) := by decide +kernel
theorem d_X4_pour_3 : decode cX4_pour 3 = .ok (.invokevirtual 66, 3) := by decide +kernel
theorem d_X4_pour_6 : decode cX4_pour 6 = .ok (.ifCond .ne 5, 3) := by decide +kernel
theorem d_X4_pour_9 : decode cX4_pour 9 = .ok (.iconst 0, 1) := by decide +kernel
theorem d_X4_pour_10 : decode cX4_pour 10 = .ok (.ireturn, 1) := by decide +kernel
theorem d_X4_pour_11 : decode cX4_pour 11 = .ok (.aload_n 0, 1) := by decide +kernel
theorem d_X4_pour_12 : decode cX4_pour 12 = .ok (.getfield 9, 3) := by decide +kernel
theorem d_X4_pour_15 : decode cX4_pour 15 = .ok (.iload_n 1, 1) := by decide +kernel
theorem d_X4_pour_16 : decode cX4_pour 16 = .ok (.dup2, 1) := by decide +kernel
theorem d_X4_pour_17 : decode cX4_pour 17 = .ok (.iaload, 1) := by decide +kernel
theorem d_X4_pour_18 : decode cX4_pour 18 = .ok (.iload_n 2, 1) := by decide +kernel
theorem d_X4_pour_19 : decode cX4_pour 19 = .ok (.iadd, 1) := by decide +kernel
theorem d_X4_pour_20 : decode cX4_pour 20 = .ok (.iastore, 1) := by decide +kernel
theorem d_X4_pour_21 : decode cX4_pour 21 = .ok (.aload_n 0, 1) := by decide +kernel
theorem d_X4_pour_22 : decode cX4_pour 22 = .ok (.getfield 15, 3) := by decide +kernel
theorem d_X4_pour_25 : decode cX4_pour 25 = .ok (.iload_n 1, 1) := by decide +kernel
theorem d_X4_pour_26 : decode cX4_pour 26 = .ok (.dup2, 1) := by decide +kernel
theorem d_X4_pour_27 : decode cX4_pour 27 = .ok (.iaload, 1) := by decide +kernel
theorem d_X4_pour_28 : decode cX4_pour 28 = .ok (.iload_n 2, 1) := by decide +kernel
theorem d_X4_pour_29 : decode cX4_pour 29 = .ok (.bipush 8, 2) := by decide +kernel
theorem d_X4_pour_31 : decode cX4_pour 31 = .ok (.idiv, 1) := by decide +kernel
theorem d_X4_pour_32 : decode cX4_pour 32 = .ok (.iadd, 1) := by decide +kernel
theorem d_X4_pour_33 : decode cX4_pour 33 = .ok (.iastore, 1) := by decide +kernel
theorem d_X4_pour_34 : decode cX4_pour 34 = .ok (.iconst 1, 1) := by decide +kernel
theorem d_X4_pour_35 : decode cX4_pour 35 = .ok (.ireturn, 1) := by decide +kernel
def F_X4_pour (M : zMem) (t : Nat) (p0 : Int32) (p1 : Int32) : Option (Int32 × zMem) :=
  zb (F_X4_canPour M t p0 p1) fun v2 M1 =>
  if v2 = 0 then
    some ((0 : Int32), M1)
  else
    gin p0 64 <|
    zl (zI M1 (t + 1) p0.toNatClampNeg ((M1.1 (t + 1) p0.toNatClampNeg) + p1)) fun M4 =>
    zl (zI M4 (t + 2) p0.toNatClampNeg ((M4.1 (t + 2) p0.toNatClampNeg) + (p1 / (8 : Int32)))) fun M5 =>
    some ((1 : Int32), M5)
def rm_X4_pour : Room := { frames := 3, cells := 0, slots := 0, locals := 102 }
set_option maxHeartbeats 4000000 in
set_option maxRecDepth 100000 in
theorem c_X4_pour (l : Launch) {G : zG} {ad : Nat → Nat} {n : Nat} (hA : zInj ad n) (M : zMem) (t : Nat) (p0 : Int32) (p1 : Int32) (hT_t : zT shX n t 5) {r9 : Int32} {M9 : zMem} (hF : F_X4_pour M t p0 p1 = some (r9, M9)) : zM l yX4_pour cX4_pour 3 (some .boolean) rm_X4_pour G shX ad n M [.ref (ad t), .int p0, .int p1] (some (.int r9)) M9 := by
  refine zM_of hA (by decide +kernel) (lv := [(0, .ref (ad t)), (1, .int p0), (2, .int p1)]) (Nat.le_of_ble_eq_true rfl) rfl (fun p e s m args below meth c A cx hr => ?_)
  unfold F_X4_pour at hF
  refine z_aload_n cx d_X4_pour_0 0 rfl ?_
  refine z_iload_n cx d_X4_pour_1 1 rfl ?_
  refine z_iload_n cx d_X4_pour_2 2 rfl ?_
  obtain ⟨v2, M1, hc, hF⟩ := zb_inv hF
  refine z_callV cx (As := [.int p0, .int p1]) (rest := []) (c_X4_canPour l cx.2.2.2.1.1 M t p0 p1 hT_t hc) hT_t zo_5 cv_Pans_66 ⟨rfl, rfl, Nat.le_of_ble_eq_true rfl, Nat.le_of_ble_eq_true rfl⟩ rfl rfl ⟨Nat.zero_le _, Nat.zero_le _⟩ (Nat.le_of_ble_eq_true rfl) d_X4_pour_3 ?_
  refine z_if_ne cx 11 d_X4_pour_6 (by decide) hF (fun hF => ?_) (fun hF => ?_)
  · refine z_aload_n cx d_X4_pour_11 0 rfl ?_
    refine z_getR cx hT_t fg_Pans_9 (t + 1) rfl d_X4_pour_12 ?_
    refine z_iload_n cx d_X4_pour_15 1 rfl ?_
    refine z_dup2 cx d_X4_pour_16 rfl rfl ?_
    obtain ⟨hi3, hF⟩ := gin_inv hF
    refine z_iald cx (tfX_5_1 hT_t) za_16 hi3 p0.toNatClampNeg rfl d_X4_pour_17 ?_
    refine z_iload_n cx d_X4_pour_18 2 rfl ?_
    refine z_iadd cx d_X4_pour_19 ?_
    refine z_iast cx (tfX_5_1 hT_t) za_16 hi3 p0.toNatClampNeg rfl d_X4_pour_20 ?_
    refine z_nmM hF (fun M4 hF => ?_)
    refine z_aload_n cx d_X4_pour_21 0 rfl ?_
    refine z_getR cx hT_t fg_Pans_15 (t + 2) rfl d_X4_pour_22 ?_
    refine z_iload_n cx d_X4_pour_25 1 rfl ?_
    refine z_dup2 cx d_X4_pour_26 rfl rfl ?_
    refine z_iald cx (tfX_5_2 hT_t) za_16 hi3 p0.toNatClampNeg rfl d_X4_pour_27 ?_
    refine z_iload_n cx d_X4_pour_28 2 rfl ?_
    refine z_bipush (v := 8) cx d_X4_pour_29 kb_8 ?_
    refine z_idiv cx d_X4_pour_31 (by decide) ?_
    refine z_iadd cx d_X4_pour_32 ?_
    refine z_iast cx (tfX_5_2 hT_t) za_16 hi3 p0.toNatClampNeg rfl d_X4_pour_33 ?_
    refine z_nmM hF (fun M5 hF => ?_)
    refine z_iconst (v := 1) cx d_X4_pour_34 ki_1 ?_
    exact z_iret cx hr nb1 hF d_X4_pour_35
  refine z_iconst (v := 0) cx d_X4_pour_9 ki_0 ?_
  exact z_iret cx hr nb0 hF d_X4_pour_10
/-! SunnyPans$Pans.canScrape -/
theorem d_X4_canScrape_0 : decode cX4_canScrape 0 = .ok (.iload_n 1, 1) := by decide +kernel
theorem d_X4_canScrape_1 : decode cX4_canScrape 1 = .ok (.iload_n 2, 1) := by decide +kernel
theorem d_X4_canScrape_2 : decode cX4_canScrape 2 = .ok (.if_icmp .eq 71, 3) := by decide +kernel
theorem d_X4_canScrape_5 : decode cX4_canScrape 5 = .ok (.aload_n 0, 1) := by decide +kernel
theorem d_X4_canScrape_6 : decode cX4_canScrape 6 = .ok (.getfield 9, 3) := by decide +kernel
theorem d_X4_canScrape_9 : decode cX4_canScrape 9 = .ok (.iload_n 1, 1) := by decide +kernel
theorem d_X4_canScrape_10 : decode cX4_canScrape 10 = .ok (.iaload, 1) := by decide +kernel
theorem d_X4_canScrape_11 : decode cX4_canScrape 11 = .ok (.ifCond .ne 62, 3) := by decide +kernel
theorem d_X4_canScrape_14 : decode cX4_canScrape 14 = .ok (.aload_n 0, 1) := by decide +kernel
theorem d_X4_canScrape_15 : decode cX4_canScrape 15 = .ok (.getfield 18, 3) := by decide +kernel
theorem d_X4_canScrape_18 : decode cX4_canScrape 18 = .ok (.iload_n 1, 1) := by decide +kernel
theorem d_X4_canScrape_19 : decode cX4_canScrape 19 = .ok (.iaload, 1) := by decide +kernel
theorem d_X4_canScrape_20 : decode cX4_canScrape 20 = .ok (.ifCond .ne 53, 3) := by decide +kernel
theorem d_X4_canScrape_23 : decode cX4_canScrape 23 = .ok (.aload_n 0, 1) := by decide +kernel
theorem d_X4_canScrape_24 : decode cX4_canScrape 24 = .ok (.getfield 15, 3) := by decide +kernel
theorem d_X4_canScrape_27 : decode cX4_canScrape 27 = .ok (.iload_n 1, 1) := by decide +kernel
theorem d_X4_canScrape_28 : decode cX4_canScrape 28 = .ok (.iaload, 1) := by decide +kernel
theorem d_X4_canScrape_29 : decode cX4_canScrape 29 = .ok (.ifCond .le 44, 3) := by decide +kernel
theorem d_X4_canScrape_32 : decode cX4_canScrape 32 = .ok (.aload_n 0, 1) := by decide +kernel
theorem d_X4_canScrape_33 : decode cX4_canScrape 33 = .ok (.getfield 9, 3) := by decide +kernel
theorem d_X4_canScrape_36 : decode cX4_canScrape 36 = .ok (.iload_n 2, 1) := by decide +kernel
theorem d_X4_canScrape_37 : decode cX4_canScrape 37 = .ok (.iaload, 1) := by decide +kernel
theorem d_X4_canScrape_38 : decode cX4_canScrape 38 = .ok (.ifCond .ne 35, 3) := by decide +kernel
theorem d_X4_canScrape_41 : decode cX4_canScrape 41 = .ok (.aload_n 0, 1) := by decide +kernel
theorem d_X4_canScrape_42 : decode cX4_canScrape 42 = .ok (.getfield 15, 3) := by decide +kernel
theorem d_X4_canScrape_45 : decode cX4_canScrape 45 = .ok (.iload_n 2, 1) := by decide +kernel
theorem d_X4_canScrape_46 : decode cX4_canScrape 46 = .ok (.iaload, 1) := by decide +kernel
theorem d_X4_canScrape_47 : decode cX4_canScrape 47 = .ok (.ifCond .ne 26, 3) := by decide +kernel
theorem d_X4_canScrape_50 : decode cX4_canScrape 50 = .ok (.aload_n 0, 1) := by decide +kernel
theorem d_X4_canScrape_51 : decode cX4_canScrape 51 = .ok (.getfield 18, 3) := by decide +kernel
theorem d_X4_canScrape_54 : decode cX4_canScrape 54 = .ok (.iload_n 2, 1) := by decide +kernel
theorem d_X4_canScrape_55 : decode cX4_canScrape 55 = .ok (.iaload, 1) := by decide +kernel
theorem d_X4_canScrape_56 : decode cX4_canScrape 56 = .ok (.aload_n 0, 1) := by decide +kernel
theorem d_X4_canScrape_57 : decode cX4_canScrape 57 = .ok (.getfield 15, 3) := by decide +kernel
theorem d_X4_canScrape_60 : decode cX4_canScrape 60 = .ok (.iload_n 1, 1) := by decide +kernel
theorem d_X4_canScrape_61 : decode cX4_canScrape 61 = .ok (.iaload, 1) := by decide +kernel
theorem d_X4_canScrape_62 : decode cX4_canScrape 62 = .ok (.iadd, 1) := by decide +kernel
theorem d_X4_canScrape_63 : decode cX4_canScrape 63 = .ok (.sipush 9999, 3) := by decide +kernel
theorem d_X4_canScrape_66 : decode cX4_canScrape 66 = .ok (.if_icmp .gt 7, 3) := by decide +kernel
theorem d_X4_canScrape_69 : decode cX4_canScrape 69 = .ok (.iconst 1, 1) := by decide +kernel
theorem d_X4_canScrape_70 : decode cX4_canScrape 70 = .ok (.goto 4, 3) := by decide +kernel
theorem d_X4_canScrape_73 : decode cX4_canScrape 73 = .ok (.iconst 0, 1) := by decide +kernel
theorem d_X4_canScrape_74 : decode cX4_canScrape 74 = .ok (.ireturn, 1) := by decide +kernel
def F_X4_canScrape (M : zMem) (t : Nat) (p0 : Int32) (p1 : Int32) : Option (Int32 × zMem) :=
  if p0 = p1 then
    some ((0 : Int32), M)
  else
    gin p0 64 <|
    if (M.1 (t + 1) p0.toNatClampNeg) = 0 then
      if (M.1 (t + 3) p0.toNatClampNeg) = 0 then
        if (M.1 (t + 2) p0.toNatClampNeg) ≤ 0 then
          some ((0 : Int32), M)
        else
          gin p1 64 <|
          if (M.1 (t + 1) p1.toNatClampNeg) = 0 then
            if (M.1 (t + 2) p1.toNatClampNeg) = 0 then
              if (9999 : Int32) < ((M.1 (t + 3) p1.toNatClampNeg) + (M.1 (t + 2) p0.toNatClampNeg)) then
                some ((0 : Int32), M)
              else
                some ((1 : Int32), M)
            else
              some ((0 : Int32), M)
          else
            some ((0 : Int32), M)
      else
        some ((0 : Int32), M)
    else
      some ((0 : Int32), M)
def rm_X4_canScrape : Room := { frames := 2, cells := 0, slots := 0, locals := 80 }
set_option maxHeartbeats 4000000 in
set_option maxRecDepth 100000 in
theorem c_X4_canScrape (l : Launch) {G : zG} {ad : Nat → Nat} {n : Nat} (hA : zInj ad n) (M : zMem) (t : Nat) (p0 : Int32) (p1 : Int32) (hT_t : zT shX n t 5) {r9 : Int32} {M9 : zMem} (hF : F_X4_canScrape M t p0 p1 = some (r9, M9)) : zM l yX4_canScrape cX4_canScrape 3 (some .boolean) rm_X4_canScrape G shX ad n M [.ref (ad t), .int p0, .int p1] (some (.int r9)) M9 := by
  refine zM_of hA (by decide +kernel) (lv := [(0, .ref (ad t)), (1, .int p0), (2, .int p1)]) (Nat.le_of_ble_eq_true rfl) rfl (fun p e s m args below meth c A cx hr => ?_)
  unfold F_X4_canScrape at hF
  refine z_iload_n cx d_X4_canScrape_0 1 rfl ?_
  refine z_iload_n cx d_X4_canScrape_1 2 rfl ?_
  refine z_icmp_eq cx 73 d_X4_canScrape_2 (by decide) hF (fun hF => ?_) (fun hF => ?_)
  · refine z_iconst (v := 0) cx d_X4_canScrape_73 ki_0 ?_
    exact z_iret cx hr nb0 hF d_X4_canScrape_74
  refine z_aload_n cx d_X4_canScrape_5 0 rfl ?_
  refine z_getR cx hT_t fg_Pans_9 (t + 1) rfl d_X4_canScrape_6 ?_
  refine z_iload_n cx d_X4_canScrape_9 1 rfl ?_
  obtain ⟨hi1, hF⟩ := gin_inv hF
  refine z_iald cx (tfX_5_1 hT_t) za_16 hi1 p0.toNatClampNeg rfl d_X4_canScrape_10 ?_
  refine z_if_ne cx 73 d_X4_canScrape_11 (by decide) hF (fun hF => ?_) (fun hF => ?_)
  · refine z_iconst (v := 0) cx d_X4_canScrape_73 ki_0 ?_
    exact z_iret cx hr nb0 hF d_X4_canScrape_74
  refine z_aload_n cx d_X4_canScrape_14 0 rfl ?_
  refine z_getR cx hT_t fg_Pans_18 (t + 3) rfl d_X4_canScrape_15 ?_
  refine z_iload_n cx d_X4_canScrape_18 1 rfl ?_
  refine z_iald cx (tfX_5_3 hT_t) za_16 hi1 p0.toNatClampNeg rfl d_X4_canScrape_19 ?_
  refine z_if_ne cx 73 d_X4_canScrape_20 (by decide) hF (fun hF => ?_) (fun hF => ?_)
  · refine z_iconst (v := 0) cx d_X4_canScrape_73 ki_0 ?_
    exact z_iret cx hr nb0 hF d_X4_canScrape_74
  refine z_aload_n cx d_X4_canScrape_23 0 rfl ?_
  refine z_getR cx hT_t fg_Pans_15 (t + 2) rfl d_X4_canScrape_24 ?_
  refine z_iload_n cx d_X4_canScrape_27 1 rfl ?_
  refine z_iald cx (tfX_5_2 hT_t) za_16 hi1 p0.toNatClampNeg rfl d_X4_canScrape_28 ?_
  refine z_if_le cx 73 d_X4_canScrape_29 (by decide) hF (fun hF => ?_) (fun hF => ?_)
  · refine z_iconst (v := 0) cx d_X4_canScrape_73 ki_0 ?_
    exact z_iret cx hr nb0 hF d_X4_canScrape_74
  refine z_aload_n cx d_X4_canScrape_32 0 rfl ?_
  refine z_getR cx hT_t fg_Pans_9 (t + 1) rfl d_X4_canScrape_33 ?_
  refine z_iload_n cx d_X4_canScrape_36 2 rfl ?_
  obtain ⟨hi2, hF⟩ := gin_inv hF
  refine z_iald cx (tfX_5_1 hT_t) za_16 hi2 p1.toNatClampNeg rfl d_X4_canScrape_37 ?_
  refine z_if_ne cx 73 d_X4_canScrape_38 (by decide) hF (fun hF => ?_) (fun hF => ?_)
  · refine z_iconst (v := 0) cx d_X4_canScrape_73 ki_0 ?_
    exact z_iret cx hr nb0 hF d_X4_canScrape_74
  refine z_aload_n cx d_X4_canScrape_41 0 rfl ?_
  refine z_getR cx hT_t fg_Pans_15 (t + 2) rfl d_X4_canScrape_42 ?_
  refine z_iload_n cx d_X4_canScrape_45 2 rfl ?_
  refine z_iald cx (tfX_5_2 hT_t) za_16 hi2 p1.toNatClampNeg rfl d_X4_canScrape_46 ?_
  refine z_if_ne cx 73 d_X4_canScrape_47 (by decide) hF (fun hF => ?_) (fun hF => ?_)
  · refine z_iconst (v := 0) cx d_X4_canScrape_73 ki_0 ?_
    exact z_iret cx hr nb0 hF d_X4_canScrape_74
  refine z_aload_n cx d_X4_canScrape_50 0 rfl ?_
  refine z_getR cx hT_t fg_Pans_18 (t + 3) rfl d_X4_canScrape_51 ?_
  refine z_iload_n cx d_X4_canScrape_54 2 rfl ?_
  refine z_iald cx (tfX_5_3 hT_t) za_16 hi2 p1.toNatClampNeg rfl d_X4_canScrape_55 ?_
  refine z_aload_n cx d_X4_canScrape_56 0 rfl ?_
  refine z_getR cx hT_t fg_Pans_15 (t + 2) rfl d_X4_canScrape_57 ?_
  refine z_iload_n cx d_X4_canScrape_60 1 rfl ?_
  refine z_iald cx (tfX_5_2 hT_t) za_16 hi1 p0.toNatClampNeg rfl d_X4_canScrape_61 ?_
  refine z_iadd cx d_X4_canScrape_62 ?_
  refine z_sipush (v := 9999) cx d_X4_canScrape_63 ks_9999 ?_
  refine z_icmp_gt cx 73 d_X4_canScrape_66 (by decide) hF (fun hF => ?_) (fun hF => ?_)
  · refine z_iconst (v := 0) cx d_X4_canScrape_73 ki_0 ?_
    exact z_iret cx hr nb0 hF d_X4_canScrape_74
  refine z_iconst (v := 1) cx d_X4_canScrape_69 ki_1 ?_
  refine z_goto cx 74 d_X4_canScrape_70 (by decide) ?_
  exact z_iret cx hr nb1 hF d_X4_canScrape_74
/-! SunnyPans$Pans.scrape -/
set_option maxRecDepth 100000 in
theorem wd_915 : Cond.code yX4_canScrape cX4_canScrape 3 (some .boolean) ∈ tbG := tw4 95 rfl rfl
set_option maxRecDepth 100000 in
theorem wd_912 : Cond.methodLink "SunnyPans$Pans" 70 yX4_canScrape ∈ tbG := tw4 92 rfl rfl
set_option maxRecDepth 100000 in
theorem wd_913 : Cond.instanceMethod yX4_canScrape ∈ tbG := tw4 93 rfl rfl
set_option maxRecDepth 100000 in
theorem wd_914 : Cond.selects "SunnyPans$Pans" yX4_canScrape yX4_canScrape ∈ tbG := tw4 94 rfl rfl
theorem cv_Pans_70 : zCV "SunnyPans$Pans" 70 "SunnyPans$Pans" yX4_canScrape cX4_canScrape 3 (some .boolean) 2 := zCV_of wd_912 wd_913 wd_914 wd_104 wd_915 (by decide +kernel)
theorem d_X4_scrape_0 : decode cX4_scrape 0 = .ok (.aload_n 0, 1) := by decide +kernel
theorem d_X4_scrape_1 : decode cX4_scrape 1 = .ok (.iload_n 2, 1) := by decide +kernel
theorem d_X4_scrape_2 : decode cX4_scrape 2 = .ok (.iload_n 3, 1) := by decide +kernel
theorem d_X4_scrape_3 : decode cX4_scrape 3 = .ok (.invokevirtual 70, 3) := by decide +kernel
theorem d_X4_scrape_6 : decode cX4_scrape 6 = .ok (.ifCond .ne 5, 3) := by decide +kernel
theorem d_X4_scrape_9 : decode cX4_scrape 9 = .ok (.iconst 0, 1) := by decide +kernel
theorem d_X4_scrape_10 : decode cX4_scrape 10 = .ok (.ireturn, 1) := by decide +kernel
theorem d_X4_scrape_11 : decode cX4_scrape 11 = .ok (.aload_n 0, 1) := by decide +kernel
theorem d_X4_scrape_12 : decode cX4_scrape 12 = .ok (.getfield 18, 3) := by decide +kernel
theorem d_X4_scrape_15 : decode cX4_scrape 15 = .ok (.iload_n 3, 1) := by decide +kernel
theorem d_X4_scrape_16 : decode cX4_scrape 16 = .ok (.dup2, 1) := by decide +kernel
theorem d_X4_scrape_17 : decode cX4_scrape 17 = .ok (.iaload, 1) := by decide +kernel
theorem d_X4_scrape_18 : decode cX4_scrape 18 = .ok (.aload_n 0, 1) := by decide +kernel
theorem d_X4_scrape_19 : decode cX4_scrape 19 = .ok (.getfield 15, 3) := by decide +kernel
theorem d_X4_scrape_22 : decode cX4_scrape 22 = .ok (.iload_n 2, 1) := by decide +kernel
theorem d_X4_scrape_23 : decode cX4_scrape 23 = .ok (.iaload, 1) := by decide +kernel
theorem d_X4_scrape_24 : decode cX4_scrape 24 = .ok (.iadd, 1) := by decide +kernel
theorem d_X4_scrape_25 : decode cX4_scrape 25 = .ok (.iastore, 1) := by decide +kernel
theorem d_X4_scrape_26 : decode cX4_scrape 26 = .ok (.aload_n 0, 1) := by decide +kernel
theorem d_X4_scrape_27 : decode cX4_scrape 27 = .ok (.getfield 15, 3) := by decide +kernel
theorem d_X4_scrape_30 : decode cX4_scrape 30 = .ok (.iload_n 2, 1) := by decide +kernel
theorem d_X4_scrape_31 : decode cX4_scrape 31 = .ok (.iconst 0, 1) := by decide +kernel
theorem d_X4_scrape_32 : decode cX4_scrape 32 = .ok (.iastore, 1) := by decide +kernel
theorem d_X4_scrape_33 : decode cX4_scrape 33 = .ok (.aload_n 0, 1) := by decide +kernel
theorem d_X4_scrape_34 : decode cX4_scrape 34 = .ok (.aload_n 1, 1) := by decide +kernel
theorem d_X4_scrape_35 : decode cX4_scrape 35 = .ok (.invokevirtual 46, 3) := by decide +kernel
theorem d_X4_scrape_38 : decode cX4_scrape 38 = .ok (.iconst 1, 1) := by decide +kernel
theorem d_X4_scrape_39 : decode cX4_scrape 39 = .ok (.ireturn, 1) := by decide +kernel
def F_X4_scrape (M : zMem) (t : Nat) (p0 : Nat) (p1 : Int32) (p2 : Int32) : Option (Int32 × zMem) :=
  zb (F_X4_canScrape M t p1 p2) fun v2 M1 =>
  if v2 = 0 then
    some ((0 : Int32), M1)
  else
    gin p2 64 <|
    gin p1 64 <|
    zl (zI M1 (t + 3) p2.toNatClampNeg ((M1.1 (t + 3) p2.toNatClampNeg) + (M1.1 (t + 2) p1.toNatClampNeg))) fun M5 =>
    zl (zI M5 (t + 2) p1.toNatClampNeg (0 : Int32)) fun M6 =>
    zbv (F_X4_learnShades M6 t p0) fun M7 =>
    some ((1 : Int32), M7)
def rm_X4_scrape : Room := { frames := 5, cells := 0, slots := 0, locals := 154 }
set_option maxHeartbeats 4000000 in
set_option maxRecDepth 100000 in
theorem c_X4_scrape (l : Launch) {G : zG} {ad : Nat → Nat} {n : Nat} (hA : zInj ad n) (M : zMem) (t : Nat) (p0 : Nat) (p1 : Int32) (p2 : Int32) (hT_t : zT shX n t 5) (hT_p0 : zT shX n p0 6) {r9 : Int32} {M9 : zMem} (hF : F_X4_scrape M t p0 p1 p2 = some (r9, M9)) : zM l yX4_scrape cX4_scrape 4 (some .boolean) rm_X4_scrape G shX ad n M [.ref (ad t), .ref (ad p0), .int p1, .int p2] (some (.int r9)) M9 := by
  refine zM_of hA (by decide +kernel) (lv := [(0, .ref (ad t)), (1, .ref (ad p0)), (2, .int p1), (3, .int p2)]) (Nat.le_of_ble_eq_true rfl) rfl (fun p e s m args below meth c A cx hr => ?_)
  unfold F_X4_scrape at hF
  refine z_aload_n cx d_X4_scrape_0 0 rfl ?_
  refine z_iload_n cx d_X4_scrape_1 2 rfl ?_
  refine z_iload_n cx d_X4_scrape_2 3 rfl ?_
  obtain ⟨v2, M1, hc, hF⟩ := zb_inv hF
  refine z_callV cx (As := [.int p1, .int p2]) (rest := []) (c_X4_canScrape l cx.2.2.2.1.1 M t p1 p2 hT_t hc) hT_t zo_5 cv_Pans_70 ⟨rfl, rfl, Nat.le_of_ble_eq_true rfl, Nat.le_of_ble_eq_true rfl⟩ rfl rfl ⟨Nat.zero_le _, Nat.zero_le _⟩ (Nat.le_of_ble_eq_true rfl) d_X4_scrape_3 ?_
  refine z_if_ne cx 11 d_X4_scrape_6 (by decide) hF (fun hF => ?_) (fun hF => ?_)
  · refine z_aload_n cx d_X4_scrape_11 0 rfl ?_
    refine z_getR cx hT_t fg_Pans_18 (t + 3) rfl d_X4_scrape_12 ?_
    refine z_iload_n cx d_X4_scrape_15 3 rfl ?_
    refine z_dup2 cx d_X4_scrape_16 rfl rfl ?_
    obtain ⟨hi3, hF⟩ := gin_inv hF
    refine z_iald cx (tfX_5_3 hT_t) za_16 hi3 p2.toNatClampNeg rfl d_X4_scrape_17 ?_
    refine z_aload_n cx d_X4_scrape_18 0 rfl ?_
    refine z_getR cx hT_t fg_Pans_15 (t + 2) rfl d_X4_scrape_19 ?_
    refine z_iload_n cx d_X4_scrape_22 2 rfl ?_
    obtain ⟨hi4, hF⟩ := gin_inv hF
    refine z_iald cx (tfX_5_2 hT_t) za_16 hi4 p1.toNatClampNeg rfl d_X4_scrape_23 ?_
    refine z_iadd cx d_X4_scrape_24 ?_
    refine z_iast cx (tfX_5_3 hT_t) za_16 hi3 p2.toNatClampNeg rfl d_X4_scrape_25 ?_
    refine z_nmM hF (fun M5 hF => ?_)
    refine z_aload_n cx d_X4_scrape_26 0 rfl ?_
    refine z_getR cx hT_t fg_Pans_15 (t + 2) rfl d_X4_scrape_27 ?_
    refine z_iload_n cx d_X4_scrape_30 2 rfl ?_
    refine z_iconst (v := 0) cx d_X4_scrape_31 ki_0 ?_
    refine z_iast cx (tfX_5_2 hT_t) za_16 hi4 p1.toNatClampNeg rfl d_X4_scrape_32 ?_
    refine z_nmM hF (fun M6 hF => ?_)
    refine z_aload_n cx d_X4_scrape_33 0 rfl ?_
    refine z_aload_n cx d_X4_scrape_34 1 rfl ?_
    obtain ⟨M7, hc, hF⟩ := zbv_inv hF
    refine z_callV cx (As := [.ref (ad p0)]) (rest := []) (c_X4_learnShades l cx.2.2.2.1.1 M6 t p0 hT_t hT_p0 hc) hT_t zo_5 cv_Pans_46 ⟨rfl, rfl, Nat.le_of_ble_eq_true rfl, Nat.le_of_ble_eq_true rfl⟩ rfl rfl ⟨Nat.zero_le _, Nat.zero_le _⟩ (Nat.le_of_ble_eq_true rfl) d_X4_scrape_35 ?_
    refine z_iconst (v := 1) cx d_X4_scrape_38 ki_1 ?_
    exact z_iret cx hr nb1 hF d_X4_scrape_39
  refine z_iconst (v := 0) cx d_X4_scrape_9 ki_0 ?_
  exact z_iret cx hr nb0 hF d_X4_scrape_10
/-! SunnyPans$Pans.haul -/
theorem d_X4_haul_0 : decode cX4_haul 0 = .ok (.aload_n 0, 1) := by decide +kernel
theorem d_X4_haul_1 : decode cX4_haul 1 = .ok (.getfield 18, 3) := by decide +kernel
theorem d_X4_haul_4 : decode cX4_haul 4 = .ok (.iload_n 2, 1) := by decide +kernel
theorem d_X4_haul_5 : decode cX4_haul 5 = .ok (.iaload, 1) := by decide +kernel
theorem d_X4_haul_6 : decode cX4_haul 6 = .ok (.ifCond .ne 5, 3) := by decide +kernel
theorem d_X4_haul_9 : decode cX4_haul 9 = .ok (.iconst 0, 1) := by decide +kernel
theorem d_X4_haul_10 : decode cX4_haul 10 = .ok (.ireturn, 1) := by decide +kernel
theorem d_X4_haul_11 : decode cX4_haul 11 = .ok (.aload_n 0, 1) := by decide +kernel
theorem d_X4_haul_12 : decode cX4_haul 12 = .ok (.dup, 1) := by decide +kernel
theorem d_X4_haul_13 : decode cX4_haul 13 = .ok (.getfield 31, 3) := by decide +kernel
theorem d_X4_haul_16 : decode cX4_haul 16 = .ok (.aload_n 0, 1) := by decide +kernel
theorem d_X4_haul_17 : decode cX4_haul 17 = .ok (.getfield 18, 3) := by decide +kernel
theorem d_X4_haul_20 : decode cX4_haul 20 = .ok (.iload_n 2, 1) := by decide +kernel
theorem d_X4_haul_21 : decode cX4_haul 21 = .ok (.iaload, 1) := by decide +kernel
theorem d_X4_haul_22 : decode cX4_haul 22 = .ok (.iadd, 1) := by decide +kernel
theorem d_X4_haul_23 : decode cX4_haul 23 = .ok (.putfield 31, 3) := by decide +kernel
theorem d_X4_haul_26 : decode cX4_haul 26 = .ok (.aload_n 0, 1) := by decide +kernel
theorem d_X4_haul_27 : decode cX4_haul 27 = .ok (.getfield 18, 3) := by decide +kernel
theorem d_X4_haul_30 : decode cX4_haul 30 = .ok (.iload_n 2, 1) := by decide +kernel
theorem d_X4_haul_31 : decode cX4_haul 31 = .ok (.iconst 0, 1) := by decide +kernel
theorem d_X4_haul_32 : decode cX4_haul 32 = .ok (.iastore, 1) := by decide +kernel
theorem d_X4_haul_33 : decode cX4_haul 33 = .ok (.aload_n 0, 1) := by decide +kernel
theorem d_X4_haul_34 : decode cX4_haul 34 = .ok (.aload_n 1, 1) := by decide +kernel
theorem d_X4_haul_35 : decode cX4_haul 35 = .ok (.invokevirtual 46, 3) := by decide +kernel
theorem d_X4_haul_38 : decode cX4_haul 38 = .ok (.iconst 1, 1) := by decide +kernel
theorem d_X4_haul_39 : decode cX4_haul 39 = .ok (.ireturn, 1) := by decide +kernel
def F_X4_haul (M : zMem) (t : Nat) (p0 : Nat) (p1 : Int32) : Option (Int32 × zMem) :=
  gin p1 64 <|
  if (M.1 (t + 3) p1.toNatClampNeg) = 0 then
    some ((0 : Int32), M)
  else
    zl (zI M t 3 ((M.1 t 3) + (M.1 (t + 3) p1.toNatClampNeg))) fun M2 =>
    zl (zI M2 (t + 3) p1.toNatClampNeg (0 : Int32)) fun M3 =>
    zbv (F_X4_learnShades M3 t p0) fun M4 =>
    some ((1 : Int32), M4)
def rm_X4_haul : Room := { frames := 5, cells := 0, slots := 0, locals := 154 }
set_option maxHeartbeats 4000000 in
set_option maxRecDepth 100000 in
theorem c_X4_haul (l : Launch) {G : zG} {ad : Nat → Nat} {n : Nat} (hA : zInj ad n) (M : zMem) (t : Nat) (p0 : Nat) (p1 : Int32) (hT_t : zT shX n t 5) (hT_p0 : zT shX n p0 6) {r9 : Int32} {M9 : zMem} (hF : F_X4_haul M t p0 p1 = some (r9, M9)) : zM l yX4_haul cX4_haul 3 (some .boolean) rm_X4_haul G shX ad n M [.ref (ad t), .ref (ad p0), .int p1] (some (.int r9)) M9 := by
  refine zM_of hA (by decide +kernel) (lv := [(0, .ref (ad t)), (1, .ref (ad p0)), (2, .int p1)]) (Nat.le_of_ble_eq_true rfl) rfl (fun p e s m args below meth c A cx hr => ?_)
  unfold F_X4_haul at hF
  refine z_aload_n cx d_X4_haul_0 0 rfl ?_
  refine z_getR cx hT_t fg_Pans_18 (t + 3) rfl d_X4_haul_1 ?_
  refine z_iload_n cx d_X4_haul_4 2 rfl ?_
  obtain ⟨hi1, hF⟩ := gin_inv hF
  refine z_iald cx (tfX_5_3 hT_t) za_16 hi1 p1.toNatClampNeg rfl d_X4_haul_5 ?_
  refine z_if_ne cx 11 d_X4_haul_6 (by decide) hF (fun hF => ?_) (fun hF => ?_)
  · refine z_aload_n cx d_X4_haul_11 0 rfl ?_
    refine z_dup cx d_X4_haul_12 rfl ?_
    refine z_getI cx hT_t fg_Pans_31 d_X4_haul_13 ?_
    refine z_aload_n cx d_X4_haul_16 0 rfl ?_
    refine z_getR cx hT_t fg_Pans_18 (t + 3) rfl d_X4_haul_17 ?_
    refine z_iload_n cx d_X4_haul_20 2 rfl ?_
    refine z_iald cx (tfX_5_3 hT_t) za_16 hi1 p1.toNatClampNeg rfl d_X4_haul_21 ?_
    refine z_iadd cx d_X4_haul_22 ?_
    refine z_putI cx hT_t fp_Pans_31 d_X4_haul_23 ?_
    refine z_nmM hF (fun M2 hF => ?_)
    refine z_aload_n cx d_X4_haul_26 0 rfl ?_
    refine z_getR cx hT_t fg_Pans_18 (t + 3) rfl d_X4_haul_27 ?_
    refine z_iload_n cx d_X4_haul_30 2 rfl ?_
    refine z_iconst (v := 0) cx d_X4_haul_31 ki_0 ?_
    refine z_iast cx (tfX_5_3 hT_t) za_16 hi1 p1.toNatClampNeg rfl d_X4_haul_32 ?_
    refine z_nmM hF (fun M3 hF => ?_)
    refine z_aload_n cx d_X4_haul_33 0 rfl ?_
    refine z_aload_n cx d_X4_haul_34 1 rfl ?_
    obtain ⟨M4, hc, hF⟩ := zbv_inv hF
    refine z_callV cx (As := [.ref (ad p0)]) (rest := []) (c_X4_learnShades l cx.2.2.2.1.1 M3 t p0 hT_t hT_p0 hc) hT_t zo_5 cv_Pans_46 ⟨rfl, rfl, Nat.le_of_ble_eq_true rfl, Nat.le_of_ble_eq_true rfl⟩ rfl rfl ⟨Nat.zero_le _, Nat.zero_le _⟩ (Nat.le_of_ble_eq_true rfl) d_X4_haul_35 ?_
    refine z_iconst (v := 1) cx d_X4_haul_38 ki_1 ?_
    exact z_iret cx hr nb1 hF d_X4_haul_39
  refine z_iconst (v := 0) cx d_X4_haul_9 ki_0 ?_
  exact z_iret cx hr nb0 hF d_X4_haul_10
/-! SunnyPans$Pans.wet -/
set_option maxRecDepth 100000 in
theorem wd_329 : Cond.fieldLink "SunnyPans$Pans" 79 "SunnyPans$Plan" "places" "J" ∈ tbG := tw1 229 rfl rfl
theorem fg_Pans_79 : zGetL "SunnyPans$Pans" 79 5 6 3 := ⟨RX5, TX5, 9, rfl, by decide, uw_5, wd_329, fun _ _ _ _ _ _ => ⟨_, rfl, rfl⟩⟩
set_option maxRecDepth 100000 in
theorem wd_925 : Cond.methodLinkNest "SunnyPans$Pans" 83 yX9_has "SunnyPans" ∈ tbN := twn4 105 rfl rfl
theorem cn_Pans_83 : zCN "SunnyPans$Pans" 83 yX9_has cX9_has 3 (some .boolean) 2 := ⟨wd_925, wd_101, wd_737, by decide +kernel⟩
set_option maxRecDepth 100000 in
theorem wd_926 : Cond.methodLink "SunnyPans$Pans" 87 Lib.Math.min.name ∈ tbG := tw4 106 rfl rfl
set_option maxRecDepth 100000 in
theorem wd_924 : Cond.methodLink "SunnyPans$Pans" 73 Lib.Math.max.name ∈ tbG := tw4 104 rfl rfl
theorem d_X4_wet_0 : decode cX4_wet 0 = .ok (.iconst 0, 1) := by decide +kernel
theorem d_X4_wet_1 : decode cX4_wet 1 = .ok (.istore_n 3, 1) := by decide +kernel
theorem d_X4_wet_2 : decode cX4_wet 2 = .ok (.iload_n 3, 1) := by decide +kernel
theorem d_X4_wet_3 : decode cX4_wet 3 = .ok (.bipush 64, 2) := by decide +kernel
theorem d_X4_wet_5 : decode cX4_wet 5 = .ok (.if_icmp .ge 70, 3) := by decide +kernel
theorem d_X4_wet_8 : decode cX4_wet 8 = .ok (.aload_n 0, 1) := by decide +kernel
theorem d_X4_wet_9 : decode cX4_wet 9 = .ok (.getfield 18, 3) := by decide +kernel
theorem d_X4_wet_12 : decode cX4_wet 12 = .ok (.iload_n 3, 1) := by decide +kernel
theorem d_X4_wet_13 : decode cX4_wet 13 = .ok (.iaload, 1) := by decide +kernel
theorem d_X4_wet_14 : decode cX4_wet 14 = .ok (.ifCond .le 24, 3) := by decide +kernel
theorem d_X4_wet_17 : decode cX4_wet 17 = .ok (.aload_n 0, 1) := by decide +kernel
theorem d_X4_wet_18 : decode cX4_wet 18 = .ok (.getfield 18, 3) := by decide +kernel
theorem d_X4_wet_21 : decode cX4_wet 21 = .ok (.iload_n 3, 1) := by decide +kernel
theorem d_X4_wet_22 : decode cX4_wet 22 = .ok (.iconst 0, 1) := by decide +kernel
theorem d_X4_wet_23 : decode cX4_wet 23 = .ok (.aload_n 0, 1) := by decide +kernel
theorem d_X4_wet_24 : decode cX4_wet 24 = .ok (.getfield 18, 3) := by decide +kernel
theorem d_X4_wet_27 : decode cX4_wet 27 = .ok (.iload_n 3, 1) := by decide +kernel
theorem d_X4_wet_28 : decode cX4_wet 28 = .ok (.iaload, 1) := by decide +kernel
theorem d_X4_wet_29 : decode cX4_wet 29 = .ok (.iload_n 2, 1) := by decide +kernel
theorem d_X4_wet_30 : decode cX4_wet 30 = .ok (.isub, 1) := by decide +kernel
theorem d_X4_wet_31 : decode cX4_wet 31 = .ok (.invokestatic 73, 3) := by decide +kernel
theorem d_X4_wet_34 : decode cX4_wet 34 = .ok (.iastore, 1) := by decide +kernel
theorem d_X4_wet_35 : decode cX4_wet 35 = .ok (.goto 34, 3) := by decide +kernel
theorem d_X4_wet_38 : decode cX4_wet 38 = .ok (.aload_n 1, 1) := by decide +kernel
theorem d_X4_wet_39 : decode cX4_wet 39 = .ok (.getfield 79, 3) := by decide +kernel
theorem d_X4_wet_42 : decode cX4_wet 42 = .ok (.iload_n 3, 1) := by decide +kernel
theorem d_X4_wet_43 : decode cX4_wet 43 = .ok (.invokestatic 83, 3) := by decide +kernel
theorem d_X4_wet_46 : decode cX4_wet 46 = .ok (.ifCond .eq 23, 3) := by decide +kernel
theorem d_X4_wet_49 : decode cX4_wet 49 = .ok (.aload_n 0, 1) := by decide +kernel
theorem d_X4_wet_50 : decode cX4_wet 50 = .ok (.getfield 9, 3) := by decide +kernel
theorem d_X4_wet_53 : decode cX4_wet 53 = .ok (.iload_n 3, 1) := by decide +kernel
theorem d_X4_wet_54 : decode cX4_wet 54 = .ok (.sipush 9999, 3) := by decide +kernel
theorem d_X4_wet_57 : decode cX4_wet 57 = .ok (.aload_n 0, 1) := by decide +kernel
theorem d_X4_wet_58 : decode cX4_wet 58 = .ok (.getfield 9, 3) := by decide +kernel
theorem d_X4_wet_61 : decode cX4_wet 61 = .ok (.iload_n 3, 1) := by decide +kernel
theorem d_X4_wet_62 : decode cX4_wet 62 = .ok (.iaload, 1) := by decide +kernel
theorem d_X4_wet_63 : decode cX4_wet 63 = .ok (.iload_n 2, 1) := by decide +kernel
theorem d_X4_wet_64 : decode cX4_wet 64 = .ok (.iadd, 1) := by decide +kernel
theorem d_X4_wet_65 : decode cX4_wet 65 = .ok (.invokestatic 87, 3) := by decide +kernel
theorem d_X4_wet_68 : decode cX4_wet 68 = .ok (.iastore, 1) := by decide +kernel
theorem d_X4_wet_69 : decode cX4_wet 69 = .ok (.iinc 3 1, 3) := by decide +kernel
theorem d_X4_wet_72 : decode cX4_wet 72 = .ok (.goto (-70), 3) := by decide +kernel
theorem d_X4_wet_75 : decode cX4_wet 75 = .ok (.aload_n 0, 1) := by decide +kernel
theorem d_X4_wet_76 : decode cX4_wet 76 = .ok (.aload_n 1, 1) := by decide +kernel
theorem d_X4_wet_77 : decode cX4_wet 77 = .ok (.invokevirtual 46, 3) := by decide +kernel
theorem d_X4_wet_80 : decode cX4_wet 80 = .ok (.return_, 1) := by decide +kernel
def F_X4_wet_69 (t : Nat) (p0 : Nat) (p1 : Int32) (self2 : Int32 → Int32 → zMem → Option (zMem)) (b69_L2 : Int32) (b69_L3 : Int32) (M : zMem) : Option (zMem) :=
  self2 b69_L2 (b69_L3 + 1) M
def F_X4_wet_2 (t : Nat) (p0 : Nat) (p1 : Int32) (self2 : Int32 → Int32 → zMem → Option (zMem)) (b2_L2 : Int32) (b2_L3 : Int32) (M : zMem) : Option (zMem) :=
  if (64 : Int32) ≤ b2_L3 then
    zbv (F_X4_learnShades M t p0) fun M1 =>
    some M1
  else
    gin b2_L3 64 <|
    if (M.1 (t + 3) b2_L3.toNatClampNeg) ≤ 0 then
      zb (F_X9_has M (M.2.1 p0 3) b2_L3) fun v4 M3 =>
      if v4 = 0 then
        F_X4_wet_69 t p0 p1 self2 b2_L2 b2_L3 M3
      else
        zl (zI M3 (t + 1) b2_L3.toNatClampNeg (zmin (9999 : Int32) ((M3.1 (t + 1) b2_L3.toNatClampNeg) + b2_L2))) fun M5 =>
        F_X4_wet_69 t p0 p1 self2 b2_L2 b2_L3 M5
    else
      zl (zI M (t + 3) b2_L3.toNatClampNeg (zmax (0 : Int32) ((M.1 (t + 3) b2_L3.toNatClampNeg) - b2_L2))) fun M6 =>
      F_X4_wet_69 t p0 p1 self2 b2_L2 b2_L3 M6
def F_X4_wet (M : zMem) (t : Nat) (p0 : Nat) (p1 : Int32) : Option (zMem) :=
  itF (fun _ _ _ => none) (F_X4_wet_2 t p0 p1) zFuel p1 (0 : Int32) M
def rm_X4_wet : Room := { frames := 5, cells := 0, slots := 0, locals := 154 }
set_option maxHeartbeats 4000000 in
set_option maxRecDepth 100000 in
theorem c_X4_wet (l : Launch) {G : zG} {ad : Nat → Nat} {n : Nat} (hA : zInj ad n) (M : zMem) (t : Nat) (p0 : Nat) (p1 : Int32) (hT_t : zT shX n t 5) (hT_p0 : zT shX n p0 6) {M9 : zMem} (hF : F_X4_wet M t p0 p1 = some M9) : zM l yX4_wet cX4_wet 4 none rm_X4_wet G shX ad n M [.ref (ad t), .ref (ad p0), .int p1] none M9 := by
  refine zM_of hA (by decide +kernel) (lv := [(0, .ref (ad t)), (1, .ref (ad p0)), (2, .int p1)]) (Nat.le_of_ble_eq_true rfl) rfl (fun p e s m args below meth c A cx hr => ?_)
  have hb69 : ∀ (self2 : Int32 → Int32 → zMem → Option (zMem)) (hs2 : ∀ (b2_L2 : Int32) (b2_L3 : Int32) (M : zMem), self2 b2_L2 b2_L3 M = some M9 → zJ p l e rm_X4_wet s m args below meth c G shX ad n A 4 (MQ below (zQ G shX ad n M9 none A) args s 0 0 A) 0 0 M 2 [(0, .ref (ad t)), (1, .ref (ad p0)), (2, .int b2_L2), (3, .int b2_L3)] []), ∀ (b69_L2 : Int32) (b69_L3 : Int32) (M : zMem), F_X4_wet_69 t p0 p1 self2 b69_L2 b69_L3 M = some M9 → zJ p l e rm_X4_wet s m args below meth c G shX ad n A 4 (MQ below (zQ G shX ad n M9 none A) args s 0 0 A) 0 0 M 69 [(0, .ref (ad t)), (1, .ref (ad p0)), (2, .int b69_L2), (3, .int b69_L3)] [] := by
    intro self2 hs2 b69_L2 b69_L3 M hF
    unfold F_X4_wet_69 at hF
    refine z_iinc cx 3 1 [(3, .int (b69_L3 + 1)), (0, .ref (ad t)), (1, .ref (ad p0)), (2, .int b69_L2)] d_X4_wet_69 3 rfl ki_1 (by decide) rfl ?_
    refine z_goto cx 2 d_X4_wet_72 (by decide) ?_
    exact z_lv [1, 2, 3, 0] _ rfl (hs2 b69_L2 (b69_L3 + 1) M hF)
  have hL2 : ∀ (fuel : Nat), ∀ (b2_L2 : Int32) (b2_L3 : Int32) (M : zMem), itF (fun _ _ _ => none) (F_X4_wet_2 t p0 p1) fuel b2_L2 b2_L3 M = some M9 → zJ p l e rm_X4_wet s m args below meth c G shX ad n A 4 (MQ below (zQ G shX ad n M9 none A) args s 0 0 A) 0 0 M 2 [(0, .ref (ad t)), (1, .ref (ad p0)), (2, .int b2_L2), (3, .int b2_L3)] [] := by
    intro fuel
    induction fuel with
    | zero => intro b2_L2 b2_L3 M hF; cases hF
    | succ fuel hs2 =>
      intro b2_L2 b2_L3 M hF
      have hF : F_X4_wet_2 t p0 p1 (itF (fun _ _ _ => none) (F_X4_wet_2 t p0 p1) fuel) b2_L2 b2_L3 M = some M9 := hF
      generalize itF (fun _ _ _ => none) (F_X4_wet_2 t p0 p1) fuel = self2 at hs2 hF
      unfold F_X4_wet_2 at hF
      refine z_iload_n cx d_X4_wet_2 3 rfl ?_
      refine z_bipush (v := 64) cx d_X4_wet_3 kb_64 ?_
      refine z_icmp_ge cx 75 d_X4_wet_5 (by decide) hF (fun hF => ?_) (fun hF => ?_)
      · refine z_aload_n cx d_X4_wet_75 0 rfl ?_
        refine z_aload_n cx d_X4_wet_76 1 rfl ?_
        obtain ⟨M1, hc, hF⟩ := zbv_inv hF
        refine z_callV cx (As := [.ref (ad p0)]) (rest := []) (c_X4_learnShades l cx.2.2.2.1.1 M t p0 hT_t hT_p0 hc) hT_t zo_5 cv_Pans_46 ⟨rfl, rfl, Nat.le_of_ble_eq_true rfl, Nat.le_of_ble_eq_true rfl⟩ rfl rfl ⟨Nat.zero_le _, Nat.zero_le _⟩ (Nat.le_of_ble_eq_true rfl) d_X4_wet_77 ?_
        exact z_vret cx hr hF d_X4_wet_80
      refine z_aload_n cx d_X4_wet_8 0 rfl ?_
      refine z_getR cx hT_t fg_Pans_18 (t + 3) rfl d_X4_wet_9 ?_
      refine z_iload_n cx d_X4_wet_12 3 rfl ?_
      obtain ⟨hi2, hF⟩ := gin_inv hF
      refine z_iald cx (tfX_5_3 hT_t) za_16 hi2 b2_L3.toNatClampNeg rfl d_X4_wet_13 ?_
      refine z_if_le cx 38 d_X4_wet_14 (by decide) hF (fun hF => ?_) (fun hF => ?_)
      · refine z_aload_n cx d_X4_wet_38 1 rfl ?_
        refine z_getL cx hT_p0 fg_Pans_79 d_X4_wet_39 ?_
        refine z_iload_n cx d_X4_wet_42 3 rfl ?_
        obtain ⟨v4, M3, hc, hF⟩ := zb_inv hF
        refine z_callSN cx (As := [.long (M.2.1 p0 3), .int b2_L3]) (rest := []) (c_X9_has l cx.2.2.2.1.1 M (M.2.1 p0 3) b2_L3  hc) cn_Pans_83 wd_736 ⟨rfl, rfl, Nat.le_of_ble_eq_true rfl, Nat.le_of_ble_eq_true rfl⟩ rfl rfl ⟨Nat.zero_le _, Nat.zero_le _⟩ (Nat.le_of_ble_eq_true rfl) d_X4_wet_43 ?_
        refine z_if_eq cx 69 d_X4_wet_46 (by decide) hF (fun hF => ?_) (fun hF => ?_)
        · exact hb69 self2 hs2 b2_L2 b2_L3 M3 hF
        refine z_aload_n cx d_X4_wet_49 0 rfl ?_
        refine z_getR cx hT_t fg_Pans_9 (t + 1) rfl d_X4_wet_50 ?_
        refine z_iload_n cx d_X4_wet_53 3 rfl ?_
        refine z_sipush (v := 9999) cx d_X4_wet_54 ks_9999 ?_
        refine z_aload_n cx d_X4_wet_57 0 rfl ?_
        refine z_getR cx hT_t fg_Pans_9 (t + 1) rfl d_X4_wet_58 ?_
        refine z_iload_n cx d_X4_wet_61 3 rfl ?_
        refine z_iald cx (tfX_5_1 hT_t) za_16 hi2 b2_L3.toNatClampNeg rfl d_X4_wet_62 ?_
        refine z_iload_n cx d_X4_wet_63 2 rfl ?_
        refine z_iadd cx d_X4_wet_64 ?_
        refine z_mmin cx ⟨wd_926, wd_602, wd_116, wd_603⟩ ⟨Nat.le_of_ble_eq_true rfl, Nat.le_of_ble_eq_true rfl, Nat.zero_le _, Nat.zero_le _⟩ d_X4_wet_65 ?_
        refine z_iast cx (tfX_5_1 hT_t) za_16 hi2 b2_L3.toNatClampNeg rfl d_X4_wet_68 ?_
        refine z_nmM hF (fun M5 hF => ?_)
        exact hb69 self2 hs2 b2_L2 b2_L3 M5 hF
      refine z_aload_n cx d_X4_wet_17 0 rfl ?_
      refine z_getR cx hT_t fg_Pans_18 (t + 3) rfl d_X4_wet_18 ?_
      refine z_iload_n cx d_X4_wet_21 3 rfl ?_
      refine z_iconst (v := 0) cx d_X4_wet_22 ki_0 ?_
      refine z_aload_n cx d_X4_wet_23 0 rfl ?_
      refine z_getR cx hT_t fg_Pans_18 (t + 3) rfl d_X4_wet_24 ?_
      refine z_iload_n cx d_X4_wet_27 3 rfl ?_
      refine z_iald cx (tfX_5_3 hT_t) za_16 hi2 b2_L3.toNatClampNeg rfl d_X4_wet_28 ?_
      refine z_iload_n cx d_X4_wet_29 2 rfl ?_
      refine z_isub cx d_X4_wet_30 ?_
      refine z_mmax cx ⟨wd_924, wd_605, wd_116, wd_606⟩ ⟨Nat.le_of_ble_eq_true rfl, Nat.le_of_ble_eq_true rfl, Nat.zero_le _, Nat.zero_le _⟩ d_X4_wet_31 ?_
      refine z_iast cx (tfX_5_3 hT_t) za_16 hi2 b2_L3.toNatClampNeg rfl d_X4_wet_34 ?_
      refine z_nmM hF (fun M6 hF => ?_)
      refine z_goto cx 69 d_X4_wet_35 (by decide) ?_
      exact hb69 self2 hs2 b2_L2 b2_L3 M6 hF
  unfold F_X4_wet at hF
  refine z_iconst (v := 0) cx d_X4_wet_0 ki_0 ?_
  refine z_istore_n cx 3 [(3, .int (0 : Int32)), (0, .ref (ad t)), (1, .ref (ad p0)), (2, .int p1)] d_X4_wet_1 rfl (by decide) rfl ?_
  exact z_lv [1, 2, 3, 0] _ rfl (hL2 zFuel p1 (0 : Int32) M hF)
/-! SunnyPans$Pans.shadeAt -/
theorem d_X4_shadeAt_0 : decode cX4_shadeAt 0 = .ok (.iload_n 1, 1) := by decide +kernel
theorem d_X4_shadeAt_1 : decode cX4_shadeAt 1 = .ok (.ifCond .lt 18, 3) := by decide +kernel
theorem d_X4_shadeAt_4 : decode cX4_shadeAt 4 = .ok (.iload_n 1, 1) := by decide +kernel
theorem d_X4_shadeAt_5 : decode cX4_shadeAt 5 = .ok (.bipush 10, 2) := by decide +kernel
theorem d_X4_shadeAt_7 : decode cX4_shadeAt 7 = .ok (.if_icmp .ge 12, 3) := by decide +kernel
theorem d_X4_shadeAt_10 : decode cX4_shadeAt 10 = .ok (.aload_n 0, 1) := by decide +kernel
theorem d_X4_shadeAt_11 : decode cX4_shadeAt 11 = .ok (.getfield 21, 3) := by decide +kernel
theorem d_X4_shadeAt_14 : decode cX4_shadeAt 14 = .ok (.iload_n 1, 1) := by decide +kernel
theorem d_X4_shadeAt_15 : decode cX4_shadeAt 15 = .ok (.laload, 1) := by decide +kernel
theorem d_X4_shadeAt_16 : decode cX4_shadeAt 16 = .ok (.goto 4, 3) := by decide +kernel
theorem d_X4_shadeAt_19 : decode cX4_shadeAt 19 = .ok (.lconst 0, 1) := by decide +kernel
theorem d_X4_shadeAt_20 : decode cX4_shadeAt 20 = .ok (.lreturn, 1) := by decide +kernel
def F_X4_shadeAt (M : zMem) (t : Nat) (p0 : Int32) : Option (Int64 × zMem) :=
  if p0 < 0 then
    some ((0 : Int64), M)
  else
    if (10 : Int32) ≤ p0 then
      some ((0 : Int64), M)
    else
      gin p0 10 <|
      some ((M.2.1 (t + 4) p0.toNatClampNeg), M)
def rm_X4_shadeAt : Room := { frames := 2, cells := 0, slots := 0, locals := 80 }
set_option maxHeartbeats 4000000 in
set_option maxRecDepth 100000 in
theorem c_X4_shadeAt (l : Launch) {G : zG} {ad : Nat → Nat} {n : Nat} (hA : zInj ad n) (M : zMem) (t : Nat) (p0 : Int32) (hT_t : zT shX n t 5) {r9 : Int64} {M9 : zMem} (hF : F_X4_shadeAt M t p0 = some (r9, M9)) : zM l yX4_shadeAt cX4_shadeAt 2 (some .long) rm_X4_shadeAt G shX ad n M [.ref (ad t), .int p0] (some (.long r9)) M9 := by
  refine zM_of hA (by decide +kernel) (lv := [(0, .ref (ad t)), (1, .int p0)]) (Nat.le_of_ble_eq_true rfl) rfl (fun p e s m args below meth c A cx hr => ?_)
  unfold F_X4_shadeAt at hF
  refine z_iload_n cx d_X4_shadeAt_0 1 rfl ?_
  refine z_if_lt cx 19 d_X4_shadeAt_1 (by decide) hF (fun hF => ?_) (fun hF => ?_)
  · refine z_lconst (v := 0) cx d_X4_shadeAt_19 (by decide +kernel) ?_
    exact z_lret cx hr hF d_X4_shadeAt_20
  refine z_iload_n cx d_X4_shadeAt_4 1 rfl ?_
  refine z_bipush (v := 10) cx d_X4_shadeAt_5 kb_10 ?_
  refine z_icmp_ge cx 19 d_X4_shadeAt_7 (by decide) hF (fun hF => ?_) (fun hF => ?_)
  · refine z_lconst (v := 0) cx d_X4_shadeAt_19 (by decide +kernel) ?_
    exact z_lret cx hr hF d_X4_shadeAt_20
  refine z_aload_n cx d_X4_shadeAt_10 0 rfl ?_
  refine z_getR cx hT_t fg_Pans_21 (t + 4) rfl d_X4_shadeAt_11 ?_
  refine z_iload_n cx d_X4_shadeAt_14 1 rfl ?_
  obtain ⟨hi1, hF⟩ := gin_inv hF
  refine z_lald cx (tfX_5_4 hT_t) za_18 hi1 p0.toNatClampNeg rfl d_X4_shadeAt_15 ?_
  refine z_goto cx 20 d_X4_shadeAt_16 (by decide) ?_
  exact z_lret cx hr hF d_X4_shadeAt_20
/-! SunnyPans$Plan.square -/
theorem d_X5_square_0 : decode cX5_square 0 = .ok (.lconst 0, 1) := by decide +kernel
theorem d_X5_square_1 : decode cX5_square 1 = .ok (.lstore_n 2, 1) := by decide +kernel
theorem d_X5_square_2 : decode cX5_square 2 = .ok (.iconst 0, 1) := by decide +kernel
theorem d_X5_square_3 : decode cX5_square 3 = .ok (.istore 4, 2) := by decide +kernel
theorem d_X5_square_5 : decode cX5_square 5 = .ok (.iload 4, 2) := by decide +kernel
theorem d_X5_square_7 : decode cX5_square 7 = .ok (.iload_n 1, 1) := by decide +kernel
theorem d_X5_square_8 : decode cX5_square 8 = .ok (.if_icmp .ge 37, 3) := by decide +kernel
theorem d_X5_square_11 : decode cX5_square 11 = .ok (.iconst 0, 1) := by decide +kernel
theorem d_X5_square_12 : decode cX5_square 12 = .ok (.istore 5, 2) := by decide +kernel
theorem d_X5_square_14 : decode cX5_square 14 = .ok (.iload 5, 2) := by decide +kernel
theorem d_X5_square_16 : decode cX5_square 16 = .ok (.iload_n 0, 1) := by decide +kernel
theorem d_X5_square_17 : decode cX5_square 17 = .ok (.if_icmp .ge 22, 3) := by decide +kernel
theorem d_X5_square_20 : decode cX5_square 20 = .ok (.lload_n 2, 1) := by decide +kernel
theorem d_X5_square_21 : decode cX5_square 21 = .ok (.iload 5, 2) := by decide +kernel
theorem d_X5_square_23 : decode cX5_square 23 = .ok (.iload 4, 2) := by decide +kernel
theorem d_X5_square_25 : decode cX5_square 25 = .ok (.invokestatic 103, 3) := by decide +kernel
theorem d_X5_square_28 : decode cX5_square 28 = .ok (.invokestatic 106, 3) := by decide +kernel
theorem d_X5_square_31 : decode cX5_square 31 = .ok (.lor, 1) := by decide +kernel
theorem d_X5_square_32 : decode cX5_square 32 = .ok (.lstore_n 2, 1) := by decide +kernel
theorem d_X5_square_33 : decode cX5_square 33 = .ok (.iinc 5 1, 3) := by decide +kernel
theorem d_X5_square_36 : decode cX5_square 36 = .ok (.goto (-22), 3) := by decide +kernel
theorem d_X5_square_39 : decode cX5_square 39 = .ok (.iinc 4 1, 3) := by decide +kernel
theorem d_X5_square_42 : decode cX5_square 42 = .ok (.goto (-37), 3) := by decide +kernel
theorem d_X5_square_45 : decode cX5_square 45 = .ok (.lload_n 2, 1) := by decide +kernel
theorem d_X5_square_46 : decode cX5_square 46 = .ok (.lreturn, 1) := by decide +kernel
def F_X5_square_14 (p0 : Int32) (p1 : Int32) (self5 : Int32 → Int32 → Int64 → Int32 → zMem → Option (Int64 × zMem)) (self14 : Int32 → Int32 → Int64 → Int32 → Int32 → zMem → Option (Int64 × zMem)) (b14_L0 : Int32) (b14_L1 : Int32) (b14_L2 : Int64) (b14_L4 : Int32) (b14_L5 : Int32) (M : zMem) : Option (Int64 × zMem) :=
  if b14_L0 ≤ b14_L5 then
    self5 b14_L0 b14_L1 b14_L2 (b14_L4 + 1) M
  else
    zb (F_X9_placeOf M b14_L5 b14_L4) fun v2 M1 =>
    zb (F_X9_bit M1 v2) fun v4 M3 =>
    zl (b14_L2 ||| v4) fun v5 =>
    self14 b14_L0 b14_L1 v5 b14_L4 (b14_L5 + 1) M3
def F_X5_square_5 (p0 : Int32) (p1 : Int32) (self5 : Int32 → Int32 → Int64 → Int32 → zMem → Option (Int64 × zMem)) (b5_L0 : Int32) (b5_L1 : Int32) (b5_L2 : Int64) (b5_L4 : Int32) (M : zMem) : Option (Int64 × zMem) :=
  if b5_L1 ≤ b5_L4 then
    some (b5_L2, M)
  else
    itF (fun _ _ _ _ _ _ => none) (F_X5_square_14 p0 p1 self5) zFuel b5_L0 b5_L1 b5_L2 b5_L4 (0 : Int32) M
def F_X5_square (M : zMem) (p0 : Int32) (p1 : Int32) : Option (Int64 × zMem) :=
  itF (fun _ _ _ _ _ => none) (F_X5_square_5 p0 p1) zFuel p0 p1 (0 : Int64) (0 : Int32) M
def rm_X5_square : Room := { frames := 3, cells := 0, slots := 0, locals := 101 }
set_option maxHeartbeats 4000000 in
set_option maxRecDepth 100000 in
theorem c_X5_square (l : Launch) {G : zG} {ad : Nat → Nat} {n : Nat} (hA : zInj ad n) (M : zMem) (p0 : Int32) (p1 : Int32) {r9 : Int64} {M9 : zMem} (hF : F_X5_square M p0 p1 = some (r9, M9)) : zM l yX5_square cX5_square 6 (some .long) rm_X5_square G shX ad n M [.int p0, .int p1] (some (.long r9)) M9 := by
  refine zM_of hA (by decide +kernel) (lv := [(0, .int p0), (1, .int p1)]) (Nat.le_of_ble_eq_true rfl) rfl (fun p e s m args below meth c A cx hr => ?_)
  have hL14 : ∀ (self5 : Int32 → Int32 → Int64 → Int32 → zMem → Option (Int64 × zMem)) (hs5 : ∀ (b5_L0 : Int32) (b5_L1 : Int32) (b5_L2 : Int64) (b5_L4 : Int32) (M : zMem), self5 b5_L0 b5_L1 b5_L2 b5_L4 M = some (r9, M9) → zJ p l e rm_X5_square s m args below meth c G shX ad n A 6 (MQ below (zQ G shX ad n M9 (some (.long r9)) A) args s 0 0 A) 0 0 M 5 [(0, .int b5_L0), (1, .int b5_L1), (2, .long b5_L2), (4, .int b5_L4)] []) (fuel : Nat), ∀ (b14_L0 : Int32) (b14_L1 : Int32) (b14_L2 : Int64) (b14_L4 : Int32) (b14_L5 : Int32) (M : zMem), itF (fun _ _ _ _ _ _ => none) (F_X5_square_14 p0 p1 self5) fuel b14_L0 b14_L1 b14_L2 b14_L4 b14_L5 M = some (r9, M9) → zJ p l e rm_X5_square s m args below meth c G shX ad n A 6 (MQ below (zQ G shX ad n M9 (some (.long r9)) A) args s 0 0 A) 0 0 M 14 [(0, .int b14_L0), (1, .int b14_L1), (2, .long b14_L2), (4, .int b14_L4), (5, .int b14_L5)] [] := by
    intro self5 hs5 fuel
    induction fuel with
    | zero => intro b14_L0 b14_L1 b14_L2 b14_L4 b14_L5 M hF; cases hF
    | succ fuel hs14 =>
      intro b14_L0 b14_L1 b14_L2 b14_L4 b14_L5 M hF
      have hF : F_X5_square_14 p0 p1 self5 (itF (fun _ _ _ _ _ _ => none) (F_X5_square_14 p0 p1 self5) fuel) b14_L0 b14_L1 b14_L2 b14_L4 b14_L5 M = some (r9, M9) := hF
      generalize itF (fun _ _ _ _ _ _ => none) (F_X5_square_14 p0 p1 self5) fuel = self14 at hs14 hF
      unfold F_X5_square_14 at hF
      refine z_iload cx d_X5_square_14 4 rfl ?_
      refine z_iload_n cx d_X5_square_16 0 rfl ?_
      refine z_icmp_ge cx 39 d_X5_square_17 (by decide) hF (fun hF => ?_) (fun hF => ?_)
      · refine z_iinc cx 4 1 [(4, .int (b14_L4 + 1)), (0, .int b14_L0), (1, .int b14_L1), (2, .long b14_L2), (5, .int b14_L5)] d_X5_square_39 3 rfl ki_1 (by decide) rfl ?_
        refine z_goto cx 5 d_X5_square_42 (by decide) ?_
        exact z_lv [1, 2, 3, 0] _ rfl (hs5 b14_L0 b14_L1 b14_L2 (b14_L4 + 1) M hF)
      refine z_lload_n cx d_X5_square_20 2 rfl ?_
      refine z_iload cx d_X5_square_21 4 rfl ?_
      refine z_iload cx d_X5_square_23 3 rfl ?_
      obtain ⟨v2, M1, hc, hF⟩ := zb_inv hF
      refine z_callSN cx (As := [.int b14_L5, .int b14_L4]) (rest := [.long b14_L2]) (c_X9_placeOf l cx.2.2.2.1.1 M b14_L5 b14_L4  hc) cn_Plan_103 wd_310 ⟨rfl, rfl, Nat.le_of_ble_eq_true rfl, Nat.le_of_ble_eq_true rfl⟩ rfl rfl ⟨Nat.zero_le _, Nat.zero_le _⟩ (Nat.le_of_ble_eq_true rfl) d_X5_square_25 ?_
      obtain ⟨v4, M3, hc, hF⟩ := zb_inv hF
      refine z_callSN cx (As := [.int v2]) (rest := [.long b14_L2]) (c_X9_bit l cx.2.2.2.1.1 M1 v2  hc) cn_Plan_106 wd_313 ⟨rfl, rfl, Nat.le_of_ble_eq_true rfl, Nat.le_of_ble_eq_true rfl⟩ rfl rfl ⟨Nat.zero_le _, Nat.zero_le _⟩ (Nat.le_of_ble_eq_true rfl) d_X5_square_28 ?_
      refine z_lor cx d_X5_square_31 ?_
      refine z_nml hF (fun v5 hF => ?_)
      refine z_lstore_n cx 2 [(2, .long v5), (0, .int b14_L0), (1, .int b14_L1), (4, .int b14_L4), (5, .int b14_L5)] d_X5_square_32 rfl (by decide) rfl ?_
      refine z_iinc cx 5 1 [(5, .int (b14_L5 + 1)), (2, .long v5), (0, .int b14_L0), (1, .int b14_L1), (4, .int b14_L4)] d_X5_square_33 4 rfl ki_1 (by decide) rfl ?_
      refine z_goto cx 14 d_X5_square_36 (by decide) ?_
      exact z_lv [2, 3, 1, 4, 0] _ rfl (hs14 b14_L0 b14_L1 v5 b14_L4 (b14_L5 + 1) M3 hF)
  have hL5 : ∀ (fuel : Nat), ∀ (b5_L0 : Int32) (b5_L1 : Int32) (b5_L2 : Int64) (b5_L4 : Int32) (M : zMem), itF (fun _ _ _ _ _ => none) (F_X5_square_5 p0 p1) fuel b5_L0 b5_L1 b5_L2 b5_L4 M = some (r9, M9) → zJ p l e rm_X5_square s m args below meth c G shX ad n A 6 (MQ below (zQ G shX ad n M9 (some (.long r9)) A) args s 0 0 A) 0 0 M 5 [(0, .int b5_L0), (1, .int b5_L1), (2, .long b5_L2), (4, .int b5_L4)] [] := by
    intro fuel
    induction fuel with
    | zero => intro b5_L0 b5_L1 b5_L2 b5_L4 M hF; cases hF
    | succ fuel hs5 =>
      intro b5_L0 b5_L1 b5_L2 b5_L4 M hF
      have hF : F_X5_square_5 p0 p1 (itF (fun _ _ _ _ _ => none) (F_X5_square_5 p0 p1) fuel) b5_L0 b5_L1 b5_L2 b5_L4 M = some (r9, M9) := hF
      generalize itF (fun _ _ _ _ _ => none) (F_X5_square_5 p0 p1) fuel = self5 at hs5 hF
      unfold F_X5_square_5 at hF
      refine z_iload cx d_X5_square_5 3 rfl ?_
      refine z_iload_n cx d_X5_square_7 1 rfl ?_
      refine z_icmp_ge cx 45 d_X5_square_8 (by decide) hF (fun hF => ?_) (fun hF => ?_)
      · refine z_lload_n cx d_X5_square_45 2 rfl ?_
        exact z_lret cx hr hF d_X5_square_46
      refine z_iconst (v := 0) cx d_X5_square_11 ki_0 ?_
      refine z_istore cx 5 [(5, .int (0 : Int32)), (0, .int b5_L0), (1, .int b5_L1), (2, .long b5_L2), (4, .int b5_L4)] d_X5_square_12 (by decide) rfl ?_
      exact z_lv [1, 2, 3, 4, 0] _ rfl (hL14 self5 hs5 zFuel b5_L0 b5_L1 b5_L2 b5_L4 (0 : Int32) M hF)
  unfold F_X5_square at hF
  refine z_lconst (v := 0) cx d_X5_square_0 (by decide +kernel) ?_
  refine z_lstore_n cx 2 [(2, .long (0 : Int64)), (0, .int p0), (1, .int p1)] d_X5_square_1 rfl (by decide) rfl ?_
  refine z_iconst (v := 0) cx d_X5_square_2 ki_0 ?_
  refine z_istore cx 4 [(4, .int (0 : Int32)), (2, .long (0 : Int64)), (0, .int p0), (1, .int p1)] d_X5_square_3 (by decide) rfl ?_
  exact z_lv [2, 3, 1, 0] _ rfl (hL5 zFuel p0 p1 (0 : Int64) (0 : Int32) M hF)
/-! SunnyPans$Plan.refuseOver -/
set_option maxRecDepth 100000 in
theorem wd_145 : Cond.fieldLink "SunnyPans$Plan" 88 "SunnyPans$Text" "wordFrom" "I" ∈ tbG := tw1 45 rfl rfl
theorem fg_Plan_88 : zGetI "SunnyPans$Plan" 88 8 9 4 := ⟨RX8, TX8, 8, rfl, by decide, uw_8, wd_145, fun _ _ _ _ _ _ => ⟨_, rfl, rfl⟩⟩
set_option maxRecDepth 100000 in
theorem wd_690 : Cond.methodLink "SunnyPans$Plan" 91 yX8_fail ∈ tbG := tw3 110 rfl rfl
theorem cv_Plan_91 : zCV "SunnyPans$Plan" 91 "SunnyPans$Text" yX8_fail cX8_fail 3 none 2 := zCV_of wd_690 wd_691 wd_692 wd_102 wd_693 (by decide +kernel)
theorem d_X5_refuseOver_0 : decode cX5_refuseOver 0 = .ok (.iload_n 1, 1) := by decide +kernel
theorem d_X5_refuseOver_1 : decode cX5_refuseOver 1 = .ok (.iload_n 2, 1) := by decide +kernel
theorem d_X5_refuseOver_2 : decode cX5_refuseOver 2 = .ok (.if_icmp .lt 12, 3) := by decide +kernel
theorem d_X5_refuseOver_5 : decode cX5_refuseOver 5 = .ok (.aload_n 0, 1) := by decide +kernel
theorem d_X5_refuseOver_6 : decode cX5_refuseOver 6 = .ok (.iconst 3, 1) := by decide +kernel
theorem d_X5_refuseOver_7 : decode cX5_refuseOver 7 = .ok (.aload_n 0, 1) := by decide +kernel
theorem d_X5_refuseOver_8 : decode cX5_refuseOver 8 = .ok (.getfield 88, 3) := by decide +kernel
theorem d_X5_refuseOver_11 : decode cX5_refuseOver 11 = .ok (.invokevirtual 91, 3) := by decide +kernel
theorem d_X5_refuseOver_14 : decode cX5_refuseOver 14 = .ok (.return_, 1) := by decide +kernel
def F_X5_refuseOver (M : zMem) (p0 : Nat) (p1 : Int32) (p2 : Int32) : Option (zMem) :=
  if p1 < p2 then
    some M
  else
    zbv (F_X8_fail M p0 (3 : Int32) (M.1 p0 4)) fun M1 =>
    some M1
def rm_X5_refuseOver : Room := { frames := 3, cells := 0, slots := 0, locals := 102 }
set_option maxHeartbeats 4000000 in
set_option maxRecDepth 100000 in
theorem c_X5_refuseOver (l : Launch) {G : zG} {ad : Nat → Nat} {n : Nat} (hA : zInj ad n) (M : zMem) (p0 : Nat) (p1 : Int32) (p2 : Int32) (hT_p0 : zT shX n p0 9) {M9 : zMem} (hF : F_X5_refuseOver M p0 p1 p2 = some M9) : zM l yX5_refuseOver cX5_refuseOver 3 none rm_X5_refuseOver G shX ad n M [.ref (ad p0), .int p1, .int p2] none M9 := by
  refine zM_of hA (by decide +kernel) (lv := [(0, .ref (ad p0)), (1, .int p1), (2, .int p2)]) (Nat.le_of_ble_eq_true rfl) rfl (fun p e s m args below meth c A cx hr => ?_)
  unfold F_X5_refuseOver at hF
  refine z_iload_n cx d_X5_refuseOver_0 1 rfl ?_
  refine z_iload_n cx d_X5_refuseOver_1 2 rfl ?_
  refine z_icmp_lt cx 14 d_X5_refuseOver_2 (by decide) hF (fun hF => ?_) (fun hF => ?_)
  · exact z_vret cx hr hF d_X5_refuseOver_14
  refine z_aload_n cx d_X5_refuseOver_5 0 rfl ?_
  refine z_iconst (v := 3) cx d_X5_refuseOver_6 ki_3 ?_
  refine z_aload_n cx d_X5_refuseOver_7 0 rfl ?_
  refine z_getI cx hT_p0 fg_Plan_88 d_X5_refuseOver_8 ?_
  obtain ⟨M1, hc, hF⟩ := zbv_inv hF
  refine z_callV cx (As := [.int (3 : Int32), .int (M.1 p0 4)]) (rest := []) (c_X8_fail l cx.2.2.2.1.1 M p0 (3 : Int32) (M.1 p0 4) hT_p0 hc) hT_p0 zo_9 cv_Plan_91 ⟨rfl, rfl, Nat.le_of_ble_eq_true rfl, Nat.le_of_ble_eq_true rfl⟩ rfl rfl ⟨Nat.zero_le _, Nat.zero_le _⟩ (Nat.le_of_ble_eq_true rfl) d_X5_refuseOver_11 ?_
  exact z_vret cx hr hF d_X5_refuseOver_14
/-! SunnyPans$Plan.readHour -/
set_option maxRecDepth 100000 in
theorem wd_694 : Cond.methodLink "SunnyPans$Plan" 71 yX8_number ∈ tbG := tw3 114 rfl rfl
theorem cv_Plan_71 : zCV "SunnyPans$Plan" 71 "SunnyPans$Text" yX8_number cX8_number 4 (some .int) 2 := zCV_of wd_694 wd_695 wd_696 wd_102 wd_697 (by decide +kernel)
theorem zc_5 : zCls 5 := ⟨RX5, TX5, 9, tyX5, rfl, tyX5_ok, nmX5⟩
theorem fp_Plan_42 : zPutI "SunnyPans$Plan" 42 5 6 2 := ⟨zc_5, fg_Plan_42, ⟨RX5, TX5, 9, rfl, rfl, by decide +kernel⟩, fun _ _ _ _ _ _ _ => ⟨_, rfl, Nat.le_of_ble_eq_true rfl, rfl⟩⟩
theorem d_X5_readHour_0 : decode cX5_readHour 0 = .ok (.aload_n 1, 1) := by decide +kernel
theorem d_X5_readHour_1 : decode cX5_readHour 1 = .ok (.iconst 0, 1) := by decide +kernel
theorem d_X5_readHour_2 : decode cX5_readHour 2 = .ok (.bipush 7, 2) := by decide +kernel
theorem d_X5_readHour_4 : decode cX5_readHour 4 = .ok (.invokevirtual 71, 3) := by decide +kernel
theorem d_X5_readHour_7 : decode cX5_readHour 7 = .ok (.istore_n 2, 1) := by decide +kernel
theorem d_X5_readHour_8 : decode cX5_readHour 8 = .ok (.aload_n 1, 1) := by decide +kernel
theorem d_X5_readHour_9 : decode cX5_readHour 9 = .ok (.iconst 0, 1) := by decide +kernel
theorem d_X5_readHour_10 : decode cX5_readHour 10 = .ok (.bipush 40, 2) := by decide +kernel
theorem d_X5_readHour_12 : decode cX5_readHour 12 = .ok (.invokevirtual 71, 3) := by decide +kernel
theorem d_X5_readHour_15 : decode cX5_readHour 15 = .ok (.istore_n 3, 1) := by decide +kernel
theorem d_X5_readHour_16 : decode cX5_readHour 16 = .ok (.aload_n 0, 1) := by decide +kernel
theorem d_X5_readHour_17 : decode cX5_readHour 17 = .ok (.getfield 42, 3) := by decide +kernel
theorem d_X5_readHour_20 : decode cX5_readHour 20 = .ok (.bipush 10, 2) := by decide +kernel
theorem d_X5_readHour_22 : decode cX5_readHour 22 = .ok (.if_icmp .ge 33, 3) := by decide +kernel
theorem d_X5_readHour_25 : decode cX5_readHour 25 = .ok (.aload_n 0, 1) := by decide +kernel
theorem d_X5_readHour_26 : decode cX5_readHour 26 = .ok (.getfield 26, 3) := by decide +kernel
theorem d_X5_readHour_29 : decode cX5_readHour 29 = .ok (.aload_n 0, 1) := by decide +kernel
theorem d_X5_readHour_30 : decode cX5_readHour 30 = .ok (.getfield 42, 3) := by decide +kernel
theorem d_X5_readHour_33 : decode cX5_readHour 33 = .ok (.iload_n 2, 1) := by decide +kernel
theorem d_X5_readHour_34 : decode cX5_readHour 34 = .ok (.iastore, 1) := by decide +kernel
theorem d_X5_readHour_35 : decode cX5_readHour 35 = .ok (.aload_n 0, 1) := by decide +kernel
theorem d_X5_readHour_36 : decode cX5_readHour 36 = .ok (.getfield 30, 3) := by decide +kernel
theorem d_X5_readHour_39 : decode cX5_readHour 39 = .ok (.aload_n 0, 1) := by decide +kernel
theorem d_X5_readHour_40 : decode cX5_readHour 40 = .ok (.getfield 42, 3) := by decide +kernel
theorem d_X5_readHour_43 : decode cX5_readHour 43 = .ok (.iload_n 3, 1) := by decide +kernel
theorem d_X5_readHour_44 : decode cX5_readHour 44 = .ok (.iastore, 1) := by decide +kernel
theorem d_X5_readHour_45 : decode cX5_readHour 45 = .ok (.aload_n 0, 1) := by decide +kernel
theorem d_X5_readHour_46 : decode cX5_readHour 46 = .ok (.dup, 1) := by decide +kernel
theorem d_X5_readHour_47 : decode cX5_readHour 47 = .ok (.getfield 42, 3) := by decide +kernel
theorem d_X5_readHour_50 : decode cX5_readHour 50 = .ok (.iconst 1, 1) := by decide +kernel
theorem d_X5_readHour_51 : decode cX5_readHour 51 = .ok (.iadd, 1) := by decide +kernel
theorem d_X5_readHour_52 : decode cX5_readHour 52 = .ok (.putfield 42, 3) := by decide +kernel
theorem d_X5_readHour_55 : decode cX5_readHour 55 = .ok (.return_, 1) := by decide +kernel
def F_X5_readHour (M : zMem) (t : Nat) (p0 : Nat) : Option (zMem) :=
  zb (F_X8_number M p0 (0 : Int32) (7 : Int32)) fun v2 M1 =>
  zb (F_X8_number M1 p0 (0 : Int32) (40 : Int32)) fun v4 M3 =>
  if (10 : Int32) ≤ (M3.1 t 2) then
    some M3
  else
    gin (M3.1 t 2) 10 <|
    zl (zI M3 (t + 1) ((M3.1 t 2).toNatClampNeg) v2) fun M6 =>
    gin (M6.1 t 2) 10 <|
    zl (zI M6 (t + 2) ((M6.1 t 2).toNatClampNeg) v4) fun M8 =>
    zl (zI M8 t 2 ((M8.1 t 2) + (1 : Int32))) fun M9 =>
    some M9
def rm_X5_readHour : Room := { frames := 5, cells := 0, slots := 0, locals := 143 }
set_option maxHeartbeats 4000000 in
set_option maxRecDepth 100000 in
theorem c_X5_readHour (l : Launch) {G : zG} {ad : Nat → Nat} {n : Nat} (hA : zInj ad n) (M : zMem) (t : Nat) (p0 : Nat) (hT_t : zT shX n t 6) (hT_p0 : zT shX n p0 9) {M9 : zMem} (hF : F_X5_readHour M t p0 = some M9) : zM l yX5_readHour cX5_readHour 4 none rm_X5_readHour G shX ad n M [.ref (ad t), .ref (ad p0)] none M9 := by
  refine zM_of hA (by decide +kernel) (lv := [(0, .ref (ad t)), (1, .ref (ad p0))]) (Nat.le_of_ble_eq_true rfl) rfl (fun p e s m args below meth c A cx hr => ?_)
  unfold F_X5_readHour at hF
  refine z_aload_n cx d_X5_readHour_0 1 rfl ?_
  refine z_iconst (v := 0) cx d_X5_readHour_1 ki_0 ?_
  refine z_bipush (v := 7) cx d_X5_readHour_2 kb_7 ?_
  obtain ⟨v2, M1, hc, hF⟩ := zb_inv hF
  refine z_callV cx (As := [.int (0 : Int32), .int (7 : Int32)]) (rest := []) (c_X8_number l cx.2.2.2.1.1 M p0 (0 : Int32) (7 : Int32) hT_p0 hc) hT_p0 zo_9 cv_Plan_71 ⟨rfl, rfl, Nat.le_of_ble_eq_true rfl, Nat.le_of_ble_eq_true rfl⟩ rfl rfl ⟨Nat.zero_le _, Nat.zero_le _⟩ (Nat.le_of_ble_eq_true rfl) d_X5_readHour_4 ?_
  refine z_istore_n cx 2 [(2, .int v2), (0, .ref (ad t)), (1, .ref (ad p0))] d_X5_readHour_7 rfl (by decide) rfl ?_
  refine z_aload_n cx d_X5_readHour_8 2 rfl ?_
  refine z_iconst (v := 0) cx d_X5_readHour_9 ki_0 ?_
  refine z_bipush (v := 40) cx d_X5_readHour_10 kb_40 ?_
  obtain ⟨v4, M3, hc, hF⟩ := zb_inv hF
  refine z_callV cx (As := [.int (0 : Int32), .int (40 : Int32)]) (rest := []) (c_X8_number l cx.2.2.2.1.1 M1 p0 (0 : Int32) (40 : Int32) hT_p0 hc) hT_p0 zo_9 cv_Plan_71 ⟨rfl, rfl, Nat.le_of_ble_eq_true rfl, Nat.le_of_ble_eq_true rfl⟩ rfl rfl ⟨Nat.zero_le _, Nat.zero_le _⟩ (Nat.le_of_ble_eq_true rfl) d_X5_readHour_12 ?_
  refine z_istore_n cx 3 [(3, .int v4), (2, .int v2), (0, .ref (ad t)), (1, .ref (ad p0))] d_X5_readHour_15 rfl (by decide) rfl ?_
  refine z_aload_n cx d_X5_readHour_16 2 rfl ?_
  refine z_getI cx hT_t fg_Plan_42 d_X5_readHour_17 ?_
  refine z_bipush (v := 10) cx d_X5_readHour_20 kb_10 ?_
  refine z_icmp_ge cx 55 d_X5_readHour_22 (by decide) hF (fun hF => ?_) (fun hF => ?_)
  · exact z_vret cx hr hF d_X5_readHour_55
  refine z_aload_n cx d_X5_readHour_25 2 rfl ?_
  refine z_getR cx hT_t fg_Plan_26 (t + 1) rfl d_X5_readHour_26 ?_
  refine z_aload_n cx d_X5_readHour_29 2 rfl ?_
  refine z_getI cx hT_t fg_Plan_42 d_X5_readHour_30 ?_
  refine z_iload_n cx d_X5_readHour_33 1 rfl ?_
  obtain ⟨hi5, hF⟩ := gin_inv hF
  refine z_iast cx (tfX_6_1 hT_t) za_25 hi5 ((M3.1 t 2).toNatClampNeg) rfl d_X5_readHour_34 ?_
  refine z_nmM hF (fun M6 hF => ?_)
  refine z_aload_n cx d_X5_readHour_35 2 rfl ?_
  refine z_getR cx hT_t fg_Plan_30 (t + 2) rfl d_X5_readHour_36 ?_
  refine z_aload_n cx d_X5_readHour_39 2 rfl ?_
  refine z_getI cx hT_t fg_Plan_42 d_X5_readHour_40 ?_
  refine z_iload_n cx d_X5_readHour_43 0 rfl ?_
  obtain ⟨hi7, hF⟩ := gin_inv hF
  refine z_iast cx (tfX_6_2 hT_t) za_25 hi7 ((M6.1 t 2).toNatClampNeg) rfl d_X5_readHour_44 ?_
  refine z_nmM hF (fun M8 hF => ?_)
  refine z_aload_n cx d_X5_readHour_45 2 rfl ?_
  refine z_dup cx d_X5_readHour_46 rfl ?_
  refine z_getI cx hT_t fg_Plan_42 d_X5_readHour_47 ?_
  refine z_iconst (v := 1) cx d_X5_readHour_50 ki_1 ?_
  refine z_iadd cx d_X5_readHour_51 ?_
  refine z_putI cx hT_t fp_Plan_42 d_X5_readHour_52 ?_
  refine z_nmM hF (fun M9 hF => ?_)
  exact z_vret cx hr hF d_X5_readHour_55
/-! SunnyPans$Plan.leaveOut -/
set_option maxRecDepth 100000 in
theorem wd_723 : Cond.methodLink "SunnyPans$Plan" 95 yX8_sign ∈ tbG := tw3 143 rfl rfl
theorem cv_Plan_95 : zCV "SunnyPans$Plan" 95 "SunnyPans$Text" yX8_sign cX8_sign 2 none 1 := zCV_of wd_723 wd_724 wd_725 wd_102 wd_726 (by decide +kernel)
set_option maxRecDepth 100000 in
theorem wd_623 : Cond.methodLink "SunnyPans$Plan" 58 yX8_word ∈ tbG := tw3 43 rfl rfl
theorem cv_Plan_58 : zCV "SunnyPans$Plan" 58 "SunnyPans$Text" yX8_word cX8_word 1 none 0 := zCV_of wd_623 wd_624 wd_625 wd_102 wd_626 (by decide +kernel)
set_option maxRecDepth 100000 in
theorem wd_334 : Cond.fieldLink "SunnyPans$Plan" 33 "SunnyPans$Plan" "brine" "[I" ∈ tbG := tw1 234 rfl rfl
theorem fg_Plan_33 : zGetR "SunnyPans$Plan" 33 5 6 6 3 := ⟨RX5, TX5, 9, rfl, by decide, uw_5, wd_334, fun _ _ _ _ _ _ => ⟨_, rfl, rfl⟩⟩
set_option maxRecDepth 100000 in
theorem wd_336 : Cond.fieldLink "SunnyPans$Plan" 36 "SunnyPans$Plan" "salt" "[I" ∈ tbG := tw1 236 rfl rfl
theorem fg_Plan_36 : zGetR "SunnyPans$Plan" 36 5 6 7 4 := ⟨RX5, TX5, 9, rfl, by decide, uw_5, wd_336, fun _ _ _ _ _ _ => ⟨_, rfl, rfl⟩⟩
set_option maxRecDepth 100000 in
theorem wd_327 : Cond.fieldLink "SunnyPans$Plan" 22 "SunnyPans$Plan" "places" "J" ∈ tbG := tw1 227 rfl rfl
theorem fg_Plan_22 : zGetL "SunnyPans$Plan" 22 5 6 3 := ⟨RX5, TX5, 9, rfl, by decide, uw_5, wd_327, fun _ _ _ _ _ _ => ⟨_, rfl, rfl⟩⟩
set_option maxRecDepth 100000 in
theorem wd_735 : Cond.methodLinkNest "SunnyPans$Plan" 99 yX9_has "SunnyPans" ∈ tbN := twn3 155 rfl rfl
theorem cn_Plan_99 : zCN "SunnyPans$Plan" 99 yX9_has cX9_has 3 (some .boolean) 2 := ⟨wd_735, wd_101, wd_737, by decide +kernel⟩
set_option maxRecDepth 100000 in
theorem wd_338 : Cond.fieldLink "SunnyPans$Plan" 39 "SunnyPans$Plan" "grams" "[I" ∈ tbG := tw1 238 rfl rfl
theorem fg_Plan_39 : zGetR "SunnyPans$Plan" 39 5 6 8 5 := ⟨RX5, TX5, 9, rfl, by decide, uw_5, wd_338, fun _ _ _ _ _ _ => ⟨_, rfl, rfl⟩⟩
theorem d_X5_leaveOut_0 : decode cX5_leaveOut 0 = .ok (.iconst 0, 1) := by decide +kernel
theorem d_X5_leaveOut_1 : decode cX5_leaveOut 1 = .ok (.istore_n 1, 1) := by decide +kernel
theorem d_X5_leaveOut_2 : decode cX5_leaveOut 2 = .ok (.iload_n 1, 1) := by decide +kernel
theorem d_X5_leaveOut_3 : decode cX5_leaveOut 3 = .ok (.bipush 64, 2) := by decide +kernel
theorem d_X5_leaveOut_5 : decode cX5_leaveOut 5 = .ok (.if_icmp .ge 61, 3) := by decide +kernel
theorem d_X5_leaveOut_8 : decode cX5_leaveOut 8 = .ok (.aload_n 0, 1) := by decide +kernel
theorem d_X5_leaveOut_9 : decode cX5_leaveOut 9 = .ok (.getfield 22, 3) := by decide +kernel
theorem d_X5_leaveOut_12 : decode cX5_leaveOut 12 = .ok (.iload_n 1, 1) := by decide +kernel
theorem d_X5_leaveOut_13 : decode cX5_leaveOut 13 = .ok (.invokestatic 99, 3) := by decide +kernel
theorem d_X5_leaveOut_16 : decode cX5_leaveOut 16 = .ok (.ifCond .ne 10, 3) := by decide +kernel
theorem d_X5_leaveOut_19 : decode cX5_leaveOut 19 = .ok (.aload_n 0, 1) := by decide +kernel
theorem d_X5_leaveOut_20 : decode cX5_leaveOut 20 = .ok (.getfield 39, 3) := by decide +kernel
theorem d_X5_leaveOut_23 : decode cX5_leaveOut 23 = .ok (.iload_n 1, 1) := by decide +kernel
theorem d_X5_leaveOut_24 : decode cX5_leaveOut 24 = .ok (.iconst 0, 1) := by decide +kernel
theorem d_X5_leaveOut_25 : decode cX5_leaveOut 25 = .ok (.iastore, 1) := by decide +kernel
theorem d_X5_leaveOut_26 : decode cX5_leaveOut 26 = .ok (.aload_n 0, 1) := by decide +kernel
theorem d_X5_leaveOut_27 : decode cX5_leaveOut 27 = .ok (.getfield 22, 3) := by decide +kernel
theorem d_X5_leaveOut_30 : decode cX5_leaveOut 30 = .ok (.iload_n 1, 1) := by decide +kernel
theorem d_X5_leaveOut_31 : decode cX5_leaveOut 31 = .ok (.invokestatic 99, 3) := by decide +kernel
theorem d_X5_leaveOut_34 : decode cX5_leaveOut 34 = .ok (.ifCond .eq 12, 3) := by decide +kernel
theorem d_X5_leaveOut_37 : decode cX5_leaveOut 37 = .ok (.aload_n 0, 1) := by decide +kernel
theorem d_X5_leaveOut_38 : decode cX5_leaveOut 38 = .ok (.getfield 39, 3) := by decide +kernel
theorem d_X5_leaveOut_41 : decode cX5_leaveOut 41 = .ok (.iload_n 1, 1) := by decide +kernel
theorem d_X5_leaveOut_42 : decode cX5_leaveOut 42 = .ok (.iaload, 1) := by decide +kernel
theorem d_X5_leaveOut_43 : decode cX5_leaveOut 43 = .ok (.ifCond .le 17, 3) := by decide +kernel
theorem d_X5_leaveOut_46 : decode cX5_leaveOut 46 = .ok (.aload_n 0, 1) := by decide +kernel
theorem d_X5_leaveOut_47 : decode cX5_leaveOut 47 = .ok (.getfield 33, 3) := by decide +kernel
theorem d_X5_leaveOut_50 : decode cX5_leaveOut 50 = .ok (.iload_n 1, 1) := by decide +kernel
theorem d_X5_leaveOut_51 : decode cX5_leaveOut 51 = .ok (.iconst 0, 1) := by decide +kernel
theorem d_X5_leaveOut_52 : decode cX5_leaveOut 52 = .ok (.iastore, 1) := by decide +kernel
theorem d_X5_leaveOut_53 : decode cX5_leaveOut 53 = .ok (.aload_n 0, 1) := by decide +kernel
theorem d_X5_leaveOut_54 : decode cX5_leaveOut 54 = .ok (.getfield 36, 3) := by decide +kernel
theorem d_X5_leaveOut_57 : decode cX5_leaveOut 57 = .ok (.iload_n 1, 1) := by decide +kernel
theorem d_X5_leaveOut_58 : decode cX5_leaveOut 58 = .ok (.iconst 0, 1) := by decide +kernel
theorem d_X5_leaveOut_59 : decode cX5_leaveOut 59 = .ok (.iastore, 1) := by decide +kernel
theorem d_X5_leaveOut_60 : decode cX5_leaveOut 60 = .ok (.iinc 1 1, 3) := by decide +kernel
theorem d_X5_leaveOut_63 : decode cX5_leaveOut 63 = .ok (.goto (-61), 3) := by decide +kernel
theorem d_X5_leaveOut_66 : decode cX5_leaveOut 66 = .ok (.return_, 1) := by decide +kernel
def F_X5_leaveOut_60 (t : Nat) (self2 : Int32 → zMem → Option (zMem)) (b60_L1 : Int32) (M : zMem) : Option (zMem) :=
  self2 (b60_L1 + 1) M
def F_X5_leaveOut_46 (t : Nat) (self2 : Int32 → zMem → Option (zMem)) (b46_L1 : Int32) (M : zMem) : Option (zMem) :=
  gin b46_L1 64 <|
  zl (zI M (t + 3) b46_L1.toNatClampNeg (0 : Int32)) fun M2 =>
  zl (zI M2 (t + 4) b46_L1.toNatClampNeg (0 : Int32)) fun M3 =>
  F_X5_leaveOut_60 t self2 b46_L1 M3
def F_X5_leaveOut_26 (t : Nat) (self2 : Int32 → zMem → Option (zMem)) (b26_L1 : Int32) (M : zMem) : Option (zMem) :=
  zb (F_X9_has M (M.2.1 t 3) b26_L1) fun v5 M4 =>
  if v5 = 0 then
    F_X5_leaveOut_46 t self2 b26_L1 M4
  else
    gin b26_L1 64 <|
    if (M4.1 (t + 5) b26_L1.toNatClampNeg) ≤ 0 then
      F_X5_leaveOut_60 t self2 b26_L1 M4
    else
      F_X5_leaveOut_46 t self2 b26_L1 M4
def F_X5_leaveOut_2 (t : Nat) (self2 : Int32 → zMem → Option (zMem)) (b2_L1 : Int32) (M : zMem) : Option (zMem) :=
  if (64 : Int32) ≤ b2_L1 then
    some M
  else
    zb (F_X9_has M (M.2.1 t 3) b2_L1) fun v8 M7 =>
    if v8 = 0 then
      gin b2_L1 64 <|
      zl (zI M7 (t + 5) b2_L1.toNatClampNeg (0 : Int32)) fun M10 =>
      F_X5_leaveOut_26 t self2 b2_L1 M10
    else
      F_X5_leaveOut_26 t self2 b2_L1 M7
def F_X5_leaveOut (M : zMem) (t : Nat) : Option (zMem) :=
  itF (fun _ _ => none) (F_X5_leaveOut_2 t) zFuel (0 : Int32) M
def rm_X5_leaveOut : Room := { frames := 3, cells := 0, slots := 0, locals := 102 }
set_option maxHeartbeats 4000000 in
set_option maxRecDepth 100000 in
theorem c_X5_leaveOut (l : Launch) {G : zG} {ad : Nat → Nat} {n : Nat} (hA : zInj ad n) (M : zMem) (t : Nat) (hT_t : zT shX n t 6) {M9 : zMem} (hF : F_X5_leaveOut M t = some M9) : zM l yX5_leaveOut cX5_leaveOut 2 none rm_X5_leaveOut G shX ad n M [.ref (ad t)] none M9 := by
  refine zM_of hA (by decide +kernel) (lv := [(0, .ref (ad t))]) (Nat.le_of_ble_eq_true rfl) rfl (fun p e s m args below meth c A cx hr => ?_)
  have hb60 : ∀ (self2 : Int32 → zMem → Option (zMem)) (hs2 : ∀ (b2_L1 : Int32) (M : zMem), self2 b2_L1 M = some M9 → zJ p l e rm_X5_leaveOut s m args below meth c G shX ad n A 2 (MQ below (zQ G shX ad n M9 none A) args s 0 0 A) 0 0 M 2 [(0, .ref (ad t)), (1, .int b2_L1)] []), ∀ (b60_L1 : Int32) (M : zMem), F_X5_leaveOut_60 t self2 b60_L1 M = some M9 → zJ p l e rm_X5_leaveOut s m args below meth c G shX ad n A 2 (MQ below (zQ G shX ad n M9 none A) args s 0 0 A) 0 0 M 60 [(0, .ref (ad t)), (1, .int b60_L1)] [] := by
    intro self2 hs2 b60_L1 M hF
    unfold F_X5_leaveOut_60 at hF
    refine z_iinc cx 1 1 [(1, .int (b60_L1 + 1)), (0, .ref (ad t))] d_X5_leaveOut_60 1 rfl ki_1 (by decide) rfl ?_
    refine z_goto cx 2 d_X5_leaveOut_63 (by decide) ?_
    exact z_lv [1, 0] _ rfl (hs2 (b60_L1 + 1) M hF)
  have hb46 : ∀ (self2 : Int32 → zMem → Option (zMem)) (hs2 : ∀ (b2_L1 : Int32) (M : zMem), self2 b2_L1 M = some M9 → zJ p l e rm_X5_leaveOut s m args below meth c G shX ad n A 2 (MQ below (zQ G shX ad n M9 none A) args s 0 0 A) 0 0 M 2 [(0, .ref (ad t)), (1, .int b2_L1)] []), ∀ (b46_L1 : Int32) (M : zMem), F_X5_leaveOut_46 t self2 b46_L1 M = some M9 → zJ p l e rm_X5_leaveOut s m args below meth c G shX ad n A 2 (MQ below (zQ G shX ad n M9 none A) args s 0 0 A) 0 0 M 46 [(0, .ref (ad t)), (1, .int b46_L1)] [] := by
    intro self2 hs2 b46_L1 M hF
    unfold F_X5_leaveOut_46 at hF
    refine z_aload_n cx d_X5_leaveOut_46 0 rfl ?_
    refine z_getR cx hT_t fg_Plan_33 (t + 3) rfl d_X5_leaveOut_47 ?_
    refine z_iload_n cx d_X5_leaveOut_50 1 rfl ?_
    refine z_iconst (v := 0) cx d_X5_leaveOut_51 ki_0 ?_
    obtain ⟨hi1, hF⟩ := gin_inv hF
    refine z_iast cx (tfX_6_3 hT_t) za_16 hi1 b46_L1.toNatClampNeg rfl d_X5_leaveOut_52 ?_
    refine z_nmM hF (fun M2 hF => ?_)
    refine z_aload_n cx d_X5_leaveOut_53 0 rfl ?_
    refine z_getR cx hT_t fg_Plan_36 (t + 4) rfl d_X5_leaveOut_54 ?_
    refine z_iload_n cx d_X5_leaveOut_57 1 rfl ?_
    refine z_iconst (v := 0) cx d_X5_leaveOut_58 ki_0 ?_
    refine z_iast cx (tfX_6_4 hT_t) za_16 hi1 b46_L1.toNatClampNeg rfl d_X5_leaveOut_59 ?_
    refine z_nmM hF (fun M3 hF => ?_)
    exact hb60 self2 hs2 b46_L1 M3 hF
  have hb26 : ∀ (self2 : Int32 → zMem → Option (zMem)) (hs2 : ∀ (b2_L1 : Int32) (M : zMem), self2 b2_L1 M = some M9 → zJ p l e rm_X5_leaveOut s m args below meth c G shX ad n A 2 (MQ below (zQ G shX ad n M9 none A) args s 0 0 A) 0 0 M 2 [(0, .ref (ad t)), (1, .int b2_L1)] []), ∀ (b26_L1 : Int32) (M : zMem), F_X5_leaveOut_26 t self2 b26_L1 M = some M9 → zJ p l e rm_X5_leaveOut s m args below meth c G shX ad n A 2 (MQ below (zQ G shX ad n M9 none A) args s 0 0 A) 0 0 M 26 [(0, .ref (ad t)), (1, .int b26_L1)] [] := by
    intro self2 hs2 b26_L1 M hF
    unfold F_X5_leaveOut_26 at hF
    refine z_aload_n cx d_X5_leaveOut_26 0 rfl ?_
    refine z_getL cx hT_t fg_Plan_22 d_X5_leaveOut_27 ?_
    refine z_iload_n cx d_X5_leaveOut_30 1 rfl ?_
    obtain ⟨v5, M4, hc, hF⟩ := zb_inv hF
    refine z_callSN cx (As := [.long (M.2.1 t 3), .int b26_L1]) (rest := []) (c_X9_has l cx.2.2.2.1.1 M (M.2.1 t 3) b26_L1  hc) cn_Plan_99 wd_736 ⟨rfl, rfl, Nat.le_of_ble_eq_true rfl, Nat.le_of_ble_eq_true rfl⟩ rfl rfl ⟨Nat.zero_le _, Nat.zero_le _⟩ (Nat.le_of_ble_eq_true rfl) d_X5_leaveOut_31 ?_
    refine z_if_eq cx 46 d_X5_leaveOut_34 (by decide) hF (fun hF => ?_) (fun hF => ?_)
    · exact hb46 self2 hs2 b26_L1 M4 hF
    refine z_aload_n cx d_X5_leaveOut_37 0 rfl ?_
    refine z_getR cx hT_t fg_Plan_39 (t + 5) rfl d_X5_leaveOut_38 ?_
    refine z_iload_n cx d_X5_leaveOut_41 1 rfl ?_
    obtain ⟨hi6, hF⟩ := gin_inv hF
    refine z_iald cx (tfX_6_5 hT_t) za_16 hi6 b26_L1.toNatClampNeg rfl d_X5_leaveOut_42 ?_
    refine z_if_le cx 60 d_X5_leaveOut_43 (by decide) hF (fun hF => ?_) (fun hF => ?_)
    · exact hb60 self2 hs2 b26_L1 M4 hF
    exact hb46 self2 hs2 b26_L1 M4 hF
  have hL2 : ∀ (fuel : Nat), ∀ (b2_L1 : Int32) (M : zMem), itF (fun _ _ => none) (F_X5_leaveOut_2 t) fuel b2_L1 M = some M9 → zJ p l e rm_X5_leaveOut s m args below meth c G shX ad n A 2 (MQ below (zQ G shX ad n M9 none A) args s 0 0 A) 0 0 M 2 [(0, .ref (ad t)), (1, .int b2_L1)] [] := by
    intro fuel
    induction fuel with
    | zero => intro b2_L1 M hF; cases hF
    | succ fuel hs2 =>
      intro b2_L1 M hF
      have hF : F_X5_leaveOut_2 t (itF (fun _ _ => none) (F_X5_leaveOut_2 t) fuel) b2_L1 M = some M9 := hF
      generalize itF (fun _ _ => none) (F_X5_leaveOut_2 t) fuel = self2 at hs2 hF
      unfold F_X5_leaveOut_2 at hF
      refine z_iload_n cx d_X5_leaveOut_2 1 rfl ?_
      refine z_bipush (v := 64) cx d_X5_leaveOut_3 kb_64 ?_
      refine z_icmp_ge cx 66 d_X5_leaveOut_5 (by decide) hF (fun hF => ?_) (fun hF => ?_)
      · exact z_vret cx hr hF d_X5_leaveOut_66
      refine z_aload_n cx d_X5_leaveOut_8 0 rfl ?_
      refine z_getL cx hT_t fg_Plan_22 d_X5_leaveOut_9 ?_
      refine z_iload_n cx d_X5_leaveOut_12 1 rfl ?_
      obtain ⟨v8, M7, hc, hF⟩ := zb_inv hF
      refine z_callSN cx (As := [.long (M.2.1 t 3), .int b2_L1]) (rest := []) (c_X9_has l cx.2.2.2.1.1 M (M.2.1 t 3) b2_L1  hc) cn_Plan_99 wd_736 ⟨rfl, rfl, Nat.le_of_ble_eq_true rfl, Nat.le_of_ble_eq_true rfl⟩ rfl rfl ⟨Nat.zero_le _, Nat.zero_le _⟩ (Nat.le_of_ble_eq_true rfl) d_X5_leaveOut_13 ?_
      refine z_if_ne cx 26 d_X5_leaveOut_16 (by decide) hF (fun hF => ?_) (fun hF => ?_)
      · exact hb26 self2 hs2 b2_L1 M7 hF
      refine z_aload_n cx d_X5_leaveOut_19 0 rfl ?_
      refine z_getR cx hT_t fg_Plan_39 (t + 5) rfl d_X5_leaveOut_20 ?_
      refine z_iload_n cx d_X5_leaveOut_23 1 rfl ?_
      refine z_iconst (v := 0) cx d_X5_leaveOut_24 ki_0 ?_
      obtain ⟨hi9, hF⟩ := gin_inv hF
      refine z_iast cx (tfX_6_5 hT_t) za_16 hi9 b2_L1.toNatClampNeg rfl d_X5_leaveOut_25 ?_
      refine z_nmM hF (fun M10 hF => ?_)
      exact hb26 self2 hs2 b2_L1 M10 hF
  unfold F_X5_leaveOut at hF
  refine z_iconst (v := 0) cx d_X5_leaveOut_0 ki_0 ?_
  refine z_istore_n cx 1 [(1, .int (0 : Int32)), (0, .ref (ad t))] d_X5_leaveOut_1 rfl (by decide) rfl ?_
  exact z_lv [1, 0] _ rfl (hL2 zFuel (0 : Int32) M hF)
/-! SunnyPans$Shadows.lay -/
set_option maxRecDepth 100000 in
theorem wd_308 : Cond.code yX5_square cX5_square 6 (some .long) ∈ tbG := tw1 208 rfl rfl
set_option maxRecDepth 100000 in
theorem wd_306 : Cond.methodLink "SunnyPans$Plan" 18 yX5_square ∈ tbG := tw1 206 rfl rfl
set_option maxRecDepth 100000 in
theorem wd_307 : Cond.static yX5_square ∈ tbG := tw1 207 rfl rfl
theorem cs_Plan_18 : zCS "SunnyPans$Plan" 18 yX5_square cX5_square 6 (some .long) 2 := zCS_of wd_306 wd_307 wd_108 wd_308 (by decide +kernel)
theorem fp_Plan_22 : zPutL "SunnyPans$Plan" 22 5 6 3 := ⟨zc_5, fg_Plan_22, ⟨RX5, TX5, 9, rfl, rfl, by decide +kernel⟩, fun _ _ _ _ _ _ _ => ⟨_, rfl, Nat.le_of_ble_eq_true rfl, rfl⟩⟩
set_option maxRecDepth 100000 in
theorem wd_734 : Cond.code yX5_leaveOut cX5_leaveOut 2 none ∈ tbG := tw3 154 rfl rfl
set_option maxRecDepth 100000 in
theorem wd_731 : Cond.methodLink "SunnyPans$Plan" 55 yX5_leaveOut ∈ tbG := tw3 151 rfl rfl
set_option maxRecDepth 100000 in
theorem wd_733 : Cond.instanceMethod yX5_leaveOut ∈ tbG := tw3 153 rfl rfl
theorem wd_8 : Cond.selects "SunnyPans$Plan" yX5_leaveOut yX5_leaveOut ∈ tbG := tw 8 (by decide +kernel) rfl
theorem cv_Plan_55 : zCV "SunnyPans$Plan" 55 "SunnyPans$Plan" yX5_leaveOut cX5_leaveOut 2 none 0 := zCV_of wd_731 wd_733 wd_8 wd_108 wd_734 (by decide +kernel)
set_option maxRecDepth 100000 in
theorem wd_611 : Cond.methodLink "SunnyPans$Plan" 45 yX8_goesOn ∈ tbG := tw3 31 rfl rfl
theorem cv_Plan_45 : zCV "SunnyPans$Plan" 45 "SunnyPans$Text" yX8_goesOn cX8_goesOn 1 (some .boolean) 0 := zCV_of wd_611 wd_612 wd_613 wd_102 wd_614 (by decide +kernel)
theorem tfX_7_66 {n k : Nat} (h : zT shX n k 7) : zT shX n (k + 66) 24 := zT_off h (shX_f (by decide) (by decide +kernel)) (by decide) (by decide)
theorem tfX_7_1 {n k : Nat} (h : zT shX n k 7) : zT shX n (k + 1) 23 := zT_off h (shX_f (by decide) (by decide +kernel)) (by decide) (by decide)
set_option maxRecDepth 100000 in
theorem wd_324 : Cond.fieldLink "SunnyPans$Shadows" 23 "SunnyPans$Plan" "hours" "I" ∈ tbG := tw1 224 rfl rfl
theorem fg_Shadows_23 : zGetI "SunnyPans$Shadows" 23 5 6 2 := ⟨RX5, TX5, 9, rfl, by decide, uw_5, wd_324, fun _ _ _ _ _ _ => ⟨_, rfl, rfl⟩⟩
set_option maxRecDepth 100000 in
theorem wd_1159 : Cond.methodLinkNest "SunnyPans$Shadows" 29 yX9_has "SunnyPans" ∈ tbN := twn5 99 rfl rfl
theorem cn_Shadows_29 : zCN "SunnyPans$Shadows" 29 yX9_has cX9_has 3 (some .boolean) 2 := ⟨wd_1159, wd_101, wd_737, by decide +kernel⟩
set_option maxRecDepth 100000 in
theorem wd_275 : Cond.fieldLink "SunnyPans$Shadows" 11 "SunnyPans$Shadows" "added" "[[J" ∈ tbG := tw1 175 rfl rfl
theorem uw_6 : ∀ w ∈ u_ws RX6 TX6 3, w ∈ tbG := zUW _ [278, 280, 282] (by decide +kernel) (by decide +kernel)
theorem fg_Shadows_11 : zGetR "SunnyPans$Shadows" 11 6 7 0 1 := ⟨RX6, TX6, 3, rfl, by decide, uw_6, wd_275, fun _ _ _ _ _ _ => ⟨_, rfl, rfl⟩⟩
theorem za_23 : zArrR 23 64 5 1 1 := ⟨by decide, fun _ _ _ _ _ _ => rfl⟩
theorem teX_23 {n k : Nat} {i : Int32} (h : zT shX n k 23) (hi : vp_in i 64) : zT shX n (k + (1 + 1 * i.toNatClampNeg)) 18 := by
  have hlt : i.toNatClampNeg < 64 := Nat.not_le.mp fun q => hi (Or.inr q)
  have h2 : k + 65 ≤ n := h.2.2
  exact ⟨shX_e (by decide) (by decide +kernel) k h.1 _ hlt, by omega, by show _ + 1 ≤ n; omega⟩
set_option maxRecDepth 100000 in
theorem wd_1160 : Cond.methodLink "SunnyPans$Shadows" 33 yX5_shadedBy ∈ tbG := tw5 100 rfl rfl
theorem cv_Shadows_33 : zCV "SunnyPans$Shadows" 33 "SunnyPans$Plan" yX5_shadedBy cX5_shadedBy 10 (some .long) 3 := zCV_of wd_1160 wd_756 wd_757 wd_108 wd_758 (by decide +kernel)
set_option maxRecDepth 100000 in
theorem wd_938 : Cond.code yX4_shadeAt cX4_shadeAt 2 (some .long) ∈ tbG := tw4 118 rfl rfl
set_option maxRecDepth 100000 in
theorem wd_1161 : Cond.methodLink "SunnyPans$Shadows" 37 yX4_shadeAt ∈ tbG := tw5 101 rfl rfl
set_option maxRecDepth 100000 in
theorem wd_936 : Cond.instanceMethod yX4_shadeAt ∈ tbG := tw4 116 rfl rfl
set_option maxRecDepth 100000 in
theorem wd_937 : Cond.selects "SunnyPans$Pans" yX4_shadeAt yX4_shadeAt ∈ tbG := tw4 117 rfl rfl
theorem cv_Shadows_37 : zCV "SunnyPans$Shadows" 37 "SunnyPans$Pans" yX4_shadeAt cX4_shadeAt 2 (some .long) 1 := zCV_of wd_1161 wd_936 wd_937 wd_104 wd_938 (by decide +kernel)
set_option maxRecDepth 100000 in
theorem wd_1162 : Cond.constantLong "SunnyPans$Shadows" 43 (-1) ∈ tbG := tw5 102 rfl rfl
set_option maxRecDepth 100000 in
theorem wd_276 : Cond.fieldLink "SunnyPans$Shadows" 16 "SunnyPans$Shadows" "touched" "[J" ∈ tbG := tw1 176 rfl rfl
theorem fg_Shadows_16 : zGetR "SunnyPans$Shadows" 16 6 7 1 66 := ⟨RX6, TX6, 3, rfl, by decide, uw_6, wd_276, fun _ _ _ _ _ _ => ⟨_, rfl, rfl⟩⟩
theorem za_24 : zArrL 24 64 := fun _ _ _ _ _ _ => rfl
theorem d_X6_lay_0 : decode cX6_lay 0 = .ok (.iconst 0, 1) := by decide +kernel
theorem d_X6_lay_1 : decode cX6_lay 1 = .ok (.istore 6, 2) := by decide +kernel
theorem d_X6_lay_3 : decode cX6_lay 3 = .ok (.iload 6, 2) := by decide +kernel
theorem d_X6_lay_5 : decode cX6_lay 5 = .ok (.bipush 64, 2) := by decide +kernel
theorem d_X6_lay_7 : decode cX6_lay 7 = .ok (.if_icmp .ge 95, 3) := by decide +kernel
theorem d_X6_lay_10 : decode cX6_lay 10 = .ok (.aload_n 0, 1) := by decide +kernel
theorem d_X6_lay_11 : decode cX6_lay 11 = .ok (.getfield 16, 3) := by decide +kernel
theorem d_X6_lay_14 : decode cX6_lay 14 = .ok (.iload 6, 2) := by decide +kernel
theorem d_X6_lay_16 : decode cX6_lay 16 = .ok (.lconst 0, 1) := by decide +kernel
theorem d_X6_lay_17 : decode cX6_lay 17 = .ok (.lastore, 1) := by decide +kernel
theorem d_X6_lay_18 : decode cX6_lay 18 = .ok (.iconst 0, 1) := by decide +kernel
theorem d_X6_lay_19 : decode cX6_lay 19 = .ok (.istore 7, 2) := by decide +kernel
theorem d_X6_lay_21 : decode cX6_lay 21 = .ok (.iload 7, 2) := by decide +kernel
theorem d_X6_lay_23 : decode cX6_lay 23 = .ok (.aload_n 1, 1) := by decide +kernel
theorem d_X6_lay_24 : decode cX6_lay 24 = .ok (.getfield 23, 3) := by decide +kernel
theorem d_X6_lay_27 : decode cX6_lay 27 = .ok (.if_icmp .ge 69, 3) := by decide +kernel
theorem d_X6_lay_30 : decode cX6_lay 30 = .ok (.lload_n 3, 1) := by decide +kernel
theorem d_X6_lay_31 : decode cX6_lay 31 = .ok (.iload 6, 2) := by decide +kernel
theorem d_X6_lay_33 : decode cX6_lay 33 = .ok (.invokestatic 29, 3) := by decide +kernel
theorem d_X6_lay_36 : decode cX6_lay 36 = .ok (.ifCond .eq 60, 3) := by decide +kernel
theorem d_X6_lay_39 : decode cX6_lay 39 = .ok (.aload_n 0, 1) := by decide +kernel
theorem d_X6_lay_40 : decode cX6_lay 40 = .ok (.getfield 11, 3) := by decide +kernel
theorem d_X6_lay_43 : decode cX6_lay 43 = .ok (.iload 6, 2) := by decide +kernel
theorem d_X6_lay_45 : decode cX6_lay 45 = .ok (.aaload, 1) := by decide +kernel
theorem d_X6_lay_46 : decode cX6_lay 46 = .ok (.iload 7, 2) := by decide +kernel
theorem d_X6_lay_48 : decode cX6_lay 48 = .ok (.aload_n 1, 1) := by decide +kernel
theorem d_X6_lay_49 : decode cX6_lay 49 = .ok (.iload 6, 2) := by decide +kernel
theorem d_X6_lay_51 : decode cX6_lay 51 = .ok (.iload 5, 2) := by decide +kernel
theorem d_X6_lay_53 : decode cX6_lay 53 = .ok (.iload 7, 2) := by decide +kernel
theorem d_X6_lay_55 : decode cX6_lay 55 = .ok (.invokevirtual 33, 3) := by decide +kernel
theorem d_X6_lay_58 : decode cX6_lay 58 = .ok (.aload_n 2, 1) := by decide +kernel
theorem d_X6_lay_59 : decode cX6_lay 59 = .ok (.iload 7, 2) := by decide +kernel
theorem d_X6_lay_61 : decode cX6_lay 61 = .ok (.invokevirtual 37, 3) := by decide +kernel
theorem d_X6_lay_64 : decode cX6_lay 64 = .ok (.ldc2_w 43, 3) := by decide +kernel
theorem d_X6_lay_67 : decode cX6_lay 67 = .ok (.lxor, 1) := by decide +kernel
theorem d_X6_lay_68 : decode cX6_lay 68 = .ok (.land, 1) := by decide +kernel
theorem d_X6_lay_69 : decode cX6_lay 69 = .ok (.lastore, 1) := by decide +kernel
theorem d_X6_lay_70 : decode cX6_lay 70 = .ok (.aload_n 0, 1) := by decide +kernel
theorem d_X6_lay_71 : decode cX6_lay 71 = .ok (.getfield 16, 3) := by decide +kernel
theorem d_X6_lay_74 : decode cX6_lay 74 = .ok (.iload 6, 2) := by decide +kernel
theorem d_X6_lay_76 : decode cX6_lay 76 = .ok (.dup2, 1) := by decide +kernel
theorem d_X6_lay_77 : decode cX6_lay 77 = .ok (.laload, 1) := by decide +kernel
theorem d_X6_lay_78 : decode cX6_lay 78 = .ok (.aload_n 0, 1) := by decide +kernel
theorem d_X6_lay_79 : decode cX6_lay 79 = .ok (.getfield 11, 3) := by decide +kernel
theorem d_X6_lay_82 : decode cX6_lay 82 = .ok (.iload 6, 2) := by decide +kernel
theorem d_X6_lay_84 : decode cX6_lay 84 = .ok (.aaload, 1) := by decide +kernel
theorem d_X6_lay_85 : decode cX6_lay 85 = .ok (.iload 7, 2) := by decide +kernel
theorem d_X6_lay_87 : decode cX6_lay 87 = .ok (.laload, 1) := by decide +kernel
theorem d_X6_lay_88 : decode cX6_lay 88 = .ok (.lor, 1) := by decide +kernel
theorem d_X6_lay_89 : decode cX6_lay 89 = .ok (.lastore, 1) := by decide +kernel
theorem d_X6_lay_90 : decode cX6_lay 90 = .ok (.iinc 7 1, 3) := by decide +kernel
theorem d_X6_lay_93 : decode cX6_lay 93 = .ok (.goto (-72), 3) := by decide +kernel
theorem d_X6_lay_96 : decode cX6_lay 96 = .ok (.iinc 6 1, 3) := by decide +kernel
theorem d_X6_lay_99 : decode cX6_lay 99 = .ok (.goto (-96), 3) := by decide +kernel
theorem d_X6_lay_102 : decode cX6_lay 102 = .ok (.return_, 1) := by decide +kernel
def F_X6_lay_96 (t : Nat) (p0 : Nat) (p1 : Nat) (p2 : Int64) (p3 : Int32) (self3 : Int64 → Int32 → Int32 → zMem → Option (zMem)) (b96_L3 : Int64) (b96_L5 : Int32) (b96_L6 : Int32) (M : zMem) : Option (zMem) :=
  self3 b96_L3 b96_L5 (b96_L6 + 1) M
def F_X6_lay_21 (t : Nat) (p0 : Nat) (p1 : Nat) (p2 : Int64) (p3 : Int32) (self3 : Int64 → Int32 → Int32 → zMem → Option (zMem)) (self21 : Int64 → Int32 → Int32 → Int32 → zMem → Option (zMem)) (b21_L3 : Int64) (b21_L5 : Int32) (b21_L6 : Int32) (b21_L7 : Int32) (M : zMem) : Option (zMem) :=
  if (M.1 p0 2) ≤ b21_L7 then
    F_X6_lay_96 t p0 p1 p2 p3 self3 b21_L3 b21_L5 b21_L6 M
  else
    zb (F_X9_has M b21_L3 b21_L6) fun v2 M1 =>
    if v2 = 0 then
      F_X6_lay_96 t p0 p1 p2 p3 self3 b21_L3 b21_L5 b21_L6 M1
    else
      gin b21_L6 64 <|
      zb (F_X5_shadedBy M1 p0 b21_L6 b21_L5 b21_L7) fun v5 M4 =>
      zb (F_X4_shadeAt M4 p1 b21_L7) fun v7 M6 =>
      gin b21_L7 10 <|
      zl (zL M6 ((t + 1) + (1 + 1 * b21_L6.toNatClampNeg)) b21_L7.toNatClampNeg (v5 &&& (v7 ^^^ (-1 : Int64)))) fun M9 =>
      zl (zL M9 (t + 66) b21_L6.toNatClampNeg ((M9.2.1 (t + 66) b21_L6.toNatClampNeg) ||| (M9.2.1 ((t + 1) + (1 + 1 * b21_L6.toNatClampNeg)) b21_L7.toNatClampNeg))) fun M10 =>
      self21 b21_L3 b21_L5 b21_L6 (b21_L7 + 1) M10
def F_X6_lay_3 (t : Nat) (p0 : Nat) (p1 : Nat) (p2 : Int64) (p3 : Int32) (self3 : Int64 → Int32 → Int32 → zMem → Option (zMem)) (b3_L3 : Int64) (b3_L5 : Int32) (b3_L6 : Int32) (M : zMem) : Option (zMem) :=
  if (64 : Int32) ≤ b3_L6 then
    some M
  else
    gin b3_L6 64 <|
    zl (zL M (t + 66) b3_L6.toNatClampNeg (0 : Int64)) fun M12 =>
    itF (fun _ _ _ _ _ => none) (F_X6_lay_21 t p0 p1 p2 p3 self3) zFuel b3_L3 b3_L5 b3_L6 (0 : Int32) M12
def F_X6_lay (M : zMem) (t : Nat) (p0 : Nat) (p1 : Nat) (p2 : Int64) (p3 : Int32) : Option (zMem) :=
  itF (fun _ _ _ _ => none) (F_X6_lay_3 t p0 p1 p2 p3) zFuel p2 p3 (0 : Int32) M
def rm_X6_lay : Room := { frames := 4, cells := 0, slots := 0, locals := 131 }
set_option maxHeartbeats 4000000 in
set_option maxRecDepth 100000 in
theorem c_X6_lay (l : Launch) {G : zG} {ad : Nat → Nat} {n : Nat} (hA : zInj ad n) (M : zMem) (t : Nat) (p0 : Nat) (p1 : Nat) (p2 : Int64) (p3 : Int32) (hT_t : zT shX n t 7) (hT_p0 : zT shX n p0 6) (hT_p1 : zT shX n p1 5) {M9 : zMem} (hF : F_X6_lay M t p0 p1 p2 p3 = some M9) : zM l yX6_lay cX6_lay 8 none rm_X6_lay G shX ad n M [.ref (ad t), .ref (ad p0), .ref (ad p1), .long p2, .int p3] none M9 := by
  refine zM_of hA (by decide +kernel) (lv := [(0, .ref (ad t)), (1, .ref (ad p0)), (2, .ref (ad p1)), (3, .long p2), (5, .int p3)]) (Nat.le_of_ble_eq_true rfl) rfl (fun p e s m args below meth c A cx hr => ?_)
  have hb96 : ∀ (self3 : Int64 → Int32 → Int32 → zMem → Option (zMem)) (hs3 : ∀ (b3_L3 : Int64) (b3_L5 : Int32) (b3_L6 : Int32) (M : zMem), self3 b3_L3 b3_L5 b3_L6 M = some M9 → zJ p l e rm_X6_lay s m args below meth c G shX ad n A 8 (MQ below (zQ G shX ad n M9 none A) args s 0 0 A) 0 0 M 3 [(0, .ref (ad t)), (1, .ref (ad p0)), (2, .ref (ad p1)), (3, .long b3_L3), (5, .int b3_L5), (6, .int b3_L6)] []), ∀ (b96_L3 : Int64) (b96_L5 : Int32) (b96_L6 : Int32) (M : zMem), F_X6_lay_96 t p0 p1 p2 p3 self3 b96_L3 b96_L5 b96_L6 M = some M9 → zJ p l e rm_X6_lay s m args below meth c G shX ad n A 8 (MQ below (zQ G shX ad n M9 none A) args s 0 0 A) 0 0 M 96 [(0, .ref (ad t)), (1, .ref (ad p0)), (2, .ref (ad p1)), (3, .long b96_L3), (5, .int b96_L5), (6, .int b96_L6)] [] := by
    intro self3 hs3 b96_L3 b96_L5 b96_L6 M hF
    unfold F_X6_lay_96 at hF
    refine z_iinc cx 6 1 [(6, .int (b96_L6 + 1)), (0, .ref (ad t)), (1, .ref (ad p0)), (2, .ref (ad p1)), (3, .long b96_L3), (5, .int b96_L5)] d_X6_lay_96 5 rfl ki_1 (by decide) rfl ?_
    refine z_goto cx 3 d_X6_lay_99 (by decide) ?_
    exact z_lv [1, 2, 3, 4, 5, 0] _ rfl (hs3 b96_L3 b96_L5 (b96_L6 + 1) M hF)
  have hL21 : ∀ (self3 : Int64 → Int32 → Int32 → zMem → Option (zMem)) (hs3 : ∀ (b3_L3 : Int64) (b3_L5 : Int32) (b3_L6 : Int32) (M : zMem), self3 b3_L3 b3_L5 b3_L6 M = some M9 → zJ p l e rm_X6_lay s m args below meth c G shX ad n A 8 (MQ below (zQ G shX ad n M9 none A) args s 0 0 A) 0 0 M 3 [(0, .ref (ad t)), (1, .ref (ad p0)), (2, .ref (ad p1)), (3, .long b3_L3), (5, .int b3_L5), (6, .int b3_L6)] []) (fuel : Nat), ∀ (b21_L3 : Int64) (b21_L5 : Int32) (b21_L6 : Int32) (b21_L7 : Int32) (M : zMem), itF (fun _ _ _ _ _ => none) (F_X6_lay_21 t p0 p1 p2 p3 self3) fuel b21_L3 b21_L5 b21_L6 b21_L7 M = some M9 → zJ p l e rm_X6_lay s m args below meth c G shX ad n A 8 (MQ below (zQ G shX ad n M9 none A) args s 0 0 A) 0 0 M 21 [(0, .ref (ad t)), (1, .ref (ad p0)), (2, .ref (ad p1)), (3, .long b21_L3), (5, .int b21_L5), (6, .int b21_L6), (7, .int b21_L7)] [] := by
    intro self3 hs3 fuel
    induction fuel with
    | zero => intro b21_L3 b21_L5 b21_L6 b21_L7 M hF; cases hF
    | succ fuel hs21 =>
      intro b21_L3 b21_L5 b21_L6 b21_L7 M hF
      have hF : F_X6_lay_21 t p0 p1 p2 p3 self3 (itF (fun _ _ _ _ _ => none) (F_X6_lay_21 t p0 p1 p2 p3 self3) fuel) b21_L3 b21_L5 b21_L6 b21_L7 M = some M9 := hF
      generalize itF (fun _ _ _ _ _ => none) (F_X6_lay_21 t p0 p1 p2 p3 self3) fuel = self21 at hs21 hF
      unfold F_X6_lay_21 at hF
      refine z_iload cx d_X6_lay_21 6 rfl ?_
      refine z_aload_n cx d_X6_lay_23 1 rfl ?_
      refine z_getI cx hT_p0 fg_Shadows_23 d_X6_lay_24 ?_
      refine z_icmp_ge cx 96 d_X6_lay_27 (by decide) hF (fun hF => ?_) (fun hF => ?_)
      · exact z_lv [0, 1, 2, 3, 4, 5] _ rfl (hb96 self3 hs3 b21_L3 b21_L5 b21_L6 M hF)
      refine z_lload_n cx d_X6_lay_30 3 rfl ?_
      refine z_iload cx d_X6_lay_31 5 rfl ?_
      obtain ⟨v2, M1, hc, hF⟩ := zb_inv hF
      refine z_callSN cx (As := [.long b21_L3, .int b21_L6]) (rest := []) (c_X9_has l cx.2.2.2.1.1 M b21_L3 b21_L6  hc) cn_Shadows_29 wd_736 ⟨rfl, rfl, Nat.le_of_ble_eq_true rfl, Nat.le_of_ble_eq_true rfl⟩ rfl rfl ⟨Nat.zero_le _, Nat.zero_le _⟩ (Nat.le_of_ble_eq_true rfl) d_X6_lay_33 ?_
      refine z_if_eq cx 96 d_X6_lay_36 (by decide) hF (fun hF => ?_) (fun hF => ?_)
      · exact z_lv [0, 1, 2, 3, 4, 5] _ rfl (hb96 self3 hs3 b21_L3 b21_L5 b21_L6 M1 hF)
      refine z_aload_n cx d_X6_lay_39 0 rfl ?_
      refine z_getR cx hT_t fg_Shadows_11 (t + 1) rfl d_X6_lay_40 ?_
      refine z_iload cx d_X6_lay_43 5 rfl ?_
      obtain ⟨hi3, hF⟩ := gin_inv hF
      refine z_aald cx (tfX_7_1 hT_t) za_23 hi3 ((t + 1) + (1 + 1 * b21_L6.toNatClampNeg)) rfl d_X6_lay_45 ?_
      refine z_iload cx d_X6_lay_46 6 rfl ?_
      refine z_aload_n cx d_X6_lay_48 1 rfl ?_
      refine z_iload cx d_X6_lay_49 5 rfl ?_
      refine z_iload cx d_X6_lay_51 4 rfl ?_
      refine z_iload cx d_X6_lay_53 6 rfl ?_
      obtain ⟨v5, M4, hc, hF⟩ := zb_inv hF
      refine z_callV cx (As := [.int b21_L6, .int b21_L5, .int b21_L7]) (rest := [.int b21_L7, .ref (ad ((t + 1) + (1 + 1 * b21_L6.toNatClampNeg)))]) (c_X5_shadedBy l cx.2.2.2.1.1 M1 p0 b21_L6 b21_L5 b21_L7 hT_p0 hc) hT_p0 zo_6 cv_Shadows_33 ⟨rfl, rfl, Nat.le_of_ble_eq_true rfl, Nat.le_of_ble_eq_true rfl⟩ rfl rfl ⟨Nat.zero_le _, Nat.zero_le _⟩ (Nat.le_of_ble_eq_true rfl) d_X6_lay_55 ?_
      refine z_aload_n cx d_X6_lay_58 2 rfl ?_
      refine z_iload cx d_X6_lay_59 6 rfl ?_
      obtain ⟨v7, M6, hc, hF⟩ := zb_inv hF
      refine z_callV cx (As := [.int b21_L7]) (rest := [.long v5, .int b21_L7, .ref (ad ((t + 1) + (1 + 1 * b21_L6.toNatClampNeg)))]) (c_X4_shadeAt l cx.2.2.2.1.1 M4 p1 b21_L7 hT_p1 hc) hT_p1 zo_5 cv_Shadows_37 ⟨rfl, rfl, Nat.le_of_ble_eq_true rfl, Nat.le_of_ble_eq_true rfl⟩ rfl rfl ⟨Nat.zero_le _, Nat.zero_le _⟩ (Nat.le_of_ble_eq_true rfl) d_X6_lay_61 ?_
      refine z_ldc2 cx wd_1162 d_X6_lay_64 ?_
      refine z_lxor cx d_X6_lay_67 ?_
      refine z_land cx d_X6_lay_68 ?_
      obtain ⟨hi8, hF⟩ := gin_inv hF
      refine z_last cx (teX_23 (tfX_7_1 hT_t) hi3) za_18 hi8 b21_L7.toNatClampNeg rfl d_X6_lay_69 ?_
      refine z_nmM hF (fun M9 hF => ?_)
      refine z_aload_n cx d_X6_lay_70 0 rfl ?_
      refine z_getR cx hT_t fg_Shadows_16 (t + 66) rfl d_X6_lay_71 ?_
      refine z_iload cx d_X6_lay_74 5 rfl ?_
      refine z_dup2 cx d_X6_lay_76 rfl rfl ?_
      refine z_lald cx (tfX_7_66 hT_t) za_24 hi3 b21_L6.toNatClampNeg rfl d_X6_lay_77 ?_
      refine z_aload_n cx d_X6_lay_78 0 rfl ?_
      refine z_getR cx hT_t fg_Shadows_11 (t + 1) rfl d_X6_lay_79 ?_
      refine z_iload cx d_X6_lay_82 5 rfl ?_
      refine z_aald cx (tfX_7_1 hT_t) za_23 hi3 ((t + 1) + (1 + 1 * b21_L6.toNatClampNeg)) rfl d_X6_lay_84 ?_
      refine z_iload cx d_X6_lay_85 6 rfl ?_
      refine z_lald cx (teX_23 (tfX_7_1 hT_t) hi3) za_18 hi8 b21_L7.toNatClampNeg rfl d_X6_lay_87 ?_
      refine z_lor cx d_X6_lay_88 ?_
      refine z_last cx (tfX_7_66 hT_t) za_24 hi3 b21_L6.toNatClampNeg rfl d_X6_lay_89 ?_
      refine z_nmM hF (fun M10 hF => ?_)
      refine z_iinc cx 7 1 [(7, .int (b21_L7 + 1)), (0, .ref (ad t)), (1, .ref (ad p0)), (2, .ref (ad p1)), (3, .long b21_L3), (5, .int b21_L5), (6, .int b21_L6)] d_X6_lay_90 6 rfl ki_1 (by decide) rfl ?_
      refine z_goto cx 21 d_X6_lay_93 (by decide) ?_
      exact z_lv [1, 2, 3, 4, 5, 6, 0] _ rfl (hs21 b21_L3 b21_L5 b21_L6 (b21_L7 + 1) M10 hF)
  have hL3 : ∀ (fuel : Nat), ∀ (b3_L3 : Int64) (b3_L5 : Int32) (b3_L6 : Int32) (M : zMem), itF (fun _ _ _ _ => none) (F_X6_lay_3 t p0 p1 p2 p3) fuel b3_L3 b3_L5 b3_L6 M = some M9 → zJ p l e rm_X6_lay s m args below meth c G shX ad n A 8 (MQ below (zQ G shX ad n M9 none A) args s 0 0 A) 0 0 M 3 [(0, .ref (ad t)), (1, .ref (ad p0)), (2, .ref (ad p1)), (3, .long b3_L3), (5, .int b3_L5), (6, .int b3_L6)] [] := by
    intro fuel
    induction fuel with
    | zero => intro b3_L3 b3_L5 b3_L6 M hF; cases hF
    | succ fuel hs3 =>
      intro b3_L3 b3_L5 b3_L6 M hF
      have hF : F_X6_lay_3 t p0 p1 p2 p3 (itF (fun _ _ _ _ => none) (F_X6_lay_3 t p0 p1 p2 p3) fuel) b3_L3 b3_L5 b3_L6 M = some M9 := hF
      generalize itF (fun _ _ _ _ => none) (F_X6_lay_3 t p0 p1 p2 p3) fuel = self3 at hs3 hF
      unfold F_X6_lay_3 at hF
      refine z_iload cx d_X6_lay_3 5 rfl ?_
      refine z_bipush (v := 64) cx d_X6_lay_5 kb_64 ?_
      refine z_icmp_ge cx 102 d_X6_lay_7 (by decide) hF (fun hF => ?_) (fun hF => ?_)
      · exact z_vret cx hr hF d_X6_lay_102
      refine z_aload_n cx d_X6_lay_10 0 rfl ?_
      refine z_getR cx hT_t fg_Shadows_16 (t + 66) rfl d_X6_lay_11 ?_
      refine z_iload cx d_X6_lay_14 5 rfl ?_
      refine z_lconst (v := 0) cx d_X6_lay_16 (by decide +kernel) ?_
      obtain ⟨hi11, hF⟩ := gin_inv hF
      refine z_last cx (tfX_7_66 hT_t) za_24 hi11 b3_L6.toNatClampNeg rfl d_X6_lay_17 ?_
      refine z_nmM hF (fun M12 hF => ?_)
      refine z_iconst (v := 0) cx d_X6_lay_18 ki_0 ?_
      refine z_istore cx 7 [(7, .int (0 : Int32)), (0, .ref (ad t)), (1, .ref (ad p0)), (2, .ref (ad p1)), (3, .long b3_L3), (5, .int b3_L5), (6, .int b3_L6)] d_X6_lay_19 (by decide) rfl ?_
      exact z_lv [1, 2, 3, 4, 5, 6, 0] _ rfl (hL21 self3 hs3 zFuel b3_L3 b3_L5 b3_L6 (0 : Int32) M12 hF)
  unfold F_X6_lay at hF
  refine z_iconst (v := 0) cx d_X6_lay_0 ki_0 ?_
  refine z_istore cx 6 [(6, .int (0 : Int32)), (0, .ref (ad t)), (1, .ref (ad p0)), (2, .ref (ad p1)), (3, .long p2), (5, .int p3)] d_X6_lay_1 (by decide) rfl ?_
  exact z_lv [1, 2, 3, 4, 5, 0] _ rfl (hL3 zFuel p2 p3 (0 : Int32) M hF)
/-! SunnyPans$Shadows.addedAt -/
theorem kb_63 : (Int8.ofInt (63)).toInt32 = (63 : Int32) := by decide +kernel
set_option maxRecDepth 100000 in
theorem wd_1171 : Cond.methodLinkNest "SunnyPans$Shadows" 45 yX9_within "SunnyPans" ∈ tbN := twn5 111 rfl rfl
theorem cn_Shadows_45 : zCN "SunnyPans$Shadows" 45 yX9_within cX9_within 3 (some .boolean) 3 := ⟨wd_1171, wd_101, wd_709, by decide +kernel⟩
theorem kb_9 : (Int8.ofInt (9)).toInt32 = (9 : Int32) := by decide +kernel
theorem d_X6_addedAt_0 : decode cX6_addedAt 0 = .ok (.iload_n 1, 1) := by decide +kernel
theorem d_X6_addedAt_1 : decode cX6_addedAt 1 = .ok (.iconst 0, 1) := by decide +kernel
theorem d_X6_addedAt_2 : decode cX6_addedAt 2 = .ok (.bipush 63, 2) := by decide +kernel
theorem d_X6_addedAt_4 : decode cX6_addedAt 4 = .ok (.invokestatic 45, 3) := by decide +kernel
theorem d_X6_addedAt_7 : decode cX6_addedAt 7 = .ok (.ifCond .eq 24, 3) := by decide +kernel
theorem d_X6_addedAt_10 : decode cX6_addedAt 10 = .ok (.iload_n 2, 1) := by decide +kernel
theorem d_X6_addedAt_11 : decode cX6_addedAt 11 = .ok (.iconst 0, 1) := by decide +kernel
theorem d_X6_addedAt_12 : decode cX6_addedAt 12 = .ok (.bipush 9, 2) := by decide +kernel
theorem d_X6_addedAt_14 : decode cX6_addedAt 14 = .ok (.invokestatic 45, 3) := by decide +kernel
theorem d_X6_addedAt_17 : decode cX6_addedAt 17 = .ok (.ifCond .eq 14, 3) := by decide +kernel
theorem d_X6_addedAt_20 : decode cX6_addedAt 20 = .ok (.aload_n 0, 1) := by decide +kernel
theorem d_X6_addedAt_21 : decode cX6_addedAt 21 = .ok (.getfield 11, 3) := by decide +kernel
theorem d_X6_addedAt_24 : decode cX6_addedAt 24 = .ok (.iload_n 1, 1) := by decide +kernel
theorem d_X6_addedAt_25 : decode cX6_addedAt 25 = .ok (.aaload, 1) := by decide +kernel
theorem d_X6_addedAt_26 : decode cX6_addedAt 26 = .ok (.iload_n 2, 1) := by decide +kernel
theorem d_X6_addedAt_27 : decode cX6_addedAt 27 = .ok (.laload, 1) := by decide +kernel
theorem d_X6_addedAt_28 : decode cX6_addedAt 28 = .ok (.goto 4, 3) := by decide +kernel
theorem d_X6_addedAt_31 : decode cX6_addedAt 31 = .ok (.lconst 0, 1) := by decide +kernel
theorem d_X6_addedAt_32 : decode cX6_addedAt 32 = .ok (.lreturn, 1) := by decide +kernel
def F_X6_addedAt (M : zMem) (t : Nat) (p0 : Int32) (p1 : Int32) : Option (Int64 × zMem) :=
  zb (F_X9_within M p0 (0 : Int32) (63 : Int32)) fun v2 M1 =>
  if v2 = 0 then
    some ((0 : Int64), M1)
  else
    zb (F_X9_within M1 p1 (0 : Int32) (9 : Int32)) fun v4 M3 =>
    if v4 = 0 then
      some ((0 : Int64), M3)
    else
      gin p0 64 <|
      gin p1 10 <|
      some ((M3.2.1 ((t + 1) + (1 + 1 * p0.toNatClampNeg)) p1.toNatClampNeg), M3)
def rm_X6_addedAt : Room := { frames := 3, cells := 0, slots := 0, locals := 102 }
set_option maxHeartbeats 4000000 in
set_option maxRecDepth 100000 in
theorem c_X6_addedAt (l : Launch) {G : zG} {ad : Nat → Nat} {n : Nat} (hA : zInj ad n) (M : zMem) (t : Nat) (p0 : Int32) (p1 : Int32) (hT_t : zT shX n t 7) {r9 : Int64} {M9 : zMem} (hF : F_X6_addedAt M t p0 p1 = some (r9, M9)) : zM l yX6_addedAt cX6_addedAt 3 (some .long) rm_X6_addedAt G shX ad n M [.ref (ad t), .int p0, .int p1] (some (.long r9)) M9 := by
  refine zM_of hA (by decide +kernel) (lv := [(0, .ref (ad t)), (1, .int p0), (2, .int p1)]) (Nat.le_of_ble_eq_true rfl) rfl (fun p e s m args below meth c A cx hr => ?_)
  unfold F_X6_addedAt at hF
  refine z_iload_n cx d_X6_addedAt_0 1 rfl ?_
  refine z_iconst (v := 0) cx d_X6_addedAt_1 ki_0 ?_
  refine z_bipush (v := 63) cx d_X6_addedAt_2 kb_63 ?_
  obtain ⟨v2, M1, hc, hF⟩ := zb_inv hF
  refine z_callSN cx (As := [.int p0, .int (0 : Int32), .int (63 : Int32)]) (rest := []) (c_X9_within l cx.2.2.2.1.1 M p0 (0 : Int32) (63 : Int32)  hc) cn_Shadows_45 wd_708 ⟨rfl, rfl, Nat.le_of_ble_eq_true rfl, Nat.le_of_ble_eq_true rfl⟩ rfl rfl ⟨Nat.zero_le _, Nat.zero_le _⟩ (Nat.le_of_ble_eq_true rfl) d_X6_addedAt_4 ?_
  refine z_if_eq cx 31 d_X6_addedAt_7 (by decide) hF (fun hF => ?_) (fun hF => ?_)
  · refine z_lconst (v := 0) cx d_X6_addedAt_31 (by decide +kernel) ?_
    exact z_lret cx hr hF d_X6_addedAt_32
  refine z_iload_n cx d_X6_addedAt_10 2 rfl ?_
  refine z_iconst (v := 0) cx d_X6_addedAt_11 ki_0 ?_
  refine z_bipush (v := 9) cx d_X6_addedAt_12 kb_9 ?_
  obtain ⟨v4, M3, hc, hF⟩ := zb_inv hF
  refine z_callSN cx (As := [.int p1, .int (0 : Int32), .int (9 : Int32)]) (rest := []) (c_X9_within l cx.2.2.2.1.1 M1 p1 (0 : Int32) (9 : Int32)  hc) cn_Shadows_45 wd_708 ⟨rfl, rfl, Nat.le_of_ble_eq_true rfl, Nat.le_of_ble_eq_true rfl⟩ rfl rfl ⟨Nat.zero_le _, Nat.zero_le _⟩ (Nat.le_of_ble_eq_true rfl) d_X6_addedAt_14 ?_
  refine z_if_eq cx 31 d_X6_addedAt_17 (by decide) hF (fun hF => ?_) (fun hF => ?_)
  · refine z_lconst (v := 0) cx d_X6_addedAt_31 (by decide +kernel) ?_
    exact z_lret cx hr hF d_X6_addedAt_32
  refine z_aload_n cx d_X6_addedAt_20 0 rfl ?_
  refine z_getR cx hT_t fg_Shadows_11 (t + 1) rfl d_X6_addedAt_21 ?_
  refine z_iload_n cx d_X6_addedAt_24 1 rfl ?_
  obtain ⟨hi5, hF⟩ := gin_inv hF
  refine z_aald cx (tfX_7_1 hT_t) za_23 hi5 ((t + 1) + (1 + 1 * p0.toNatClampNeg)) rfl d_X6_addedAt_25 ?_
  refine z_iload_n cx d_X6_addedAt_26 2 rfl ?_
  obtain ⟨hi6, hF⟩ := gin_inv hF
  refine z_lald cx (teX_23 (tfX_7_1 hT_t) hi5) za_18 hi6 p1.toNatClampNeg rfl d_X6_addedAt_27 ?_
  refine z_goto cx 32 d_X6_addedAt_28 (by decide) ?_
  exact z_lret cx hr hF d_X6_addedAt_32
/-! SunnyPans$Shadows.touchedBy -/
theorem d_X6_touchedBy_0 : decode cX6_touchedBy 0 = .ok (.iload_n 1, 1) := by decide +kernel
theorem d_X6_touchedBy_1 : decode cX6_touchedBy 1 = .ok (.iconst 0, 1) := by decide +kernel
theorem d_X6_touchedBy_2 : decode cX6_touchedBy 2 = .ok (.bipush 63, 2) := by decide +kernel
theorem d_X6_touchedBy_4 : decode cX6_touchedBy 4 = .ok (.invokestatic 45, 3) := by decide +kernel
theorem d_X6_touchedBy_7 : decode cX6_touchedBy 7 = .ok (.ifCond .eq 12, 3) := by decide +kernel
theorem d_X6_touchedBy_10 : decode cX6_touchedBy 10 = .ok (.aload_n 0, 1) := by decide +kernel
theorem d_X6_touchedBy_11 : decode cX6_touchedBy 11 = .ok (.getfield 16, 3) := by decide +kernel
theorem d_X6_touchedBy_14 : decode cX6_touchedBy 14 = .ok (.iload_n 1, 1) := by decide +kernel
theorem d_X6_touchedBy_15 : decode cX6_touchedBy 15 = .ok (.laload, 1) := by decide +kernel
theorem d_X6_touchedBy_16 : decode cX6_touchedBy 16 = .ok (.goto 4, 3) := by decide +kernel
theorem d_X6_touchedBy_19 : decode cX6_touchedBy 19 = .ok (.lconst 0, 1) := by decide +kernel
theorem d_X6_touchedBy_20 : decode cX6_touchedBy 20 = .ok (.lreturn, 1) := by decide +kernel
def F_X6_touchedBy (M : zMem) (t : Nat) (p0 : Int32) : Option (Int64 × zMem) :=
  zb (F_X9_within M p0 (0 : Int32) (63 : Int32)) fun v2 M1 =>
  if v2 = 0 then
    some ((0 : Int64), M1)
  else
    gin p0 64 <|
    some ((M1.2.1 (t + 66) p0.toNatClampNeg), M1)
def rm_X6_touchedBy : Room := { frames := 3, cells := 0, slots := 0, locals := 102 }
set_option maxHeartbeats 4000000 in
set_option maxRecDepth 100000 in
theorem c_X6_touchedBy (l : Launch) {G : zG} {ad : Nat → Nat} {n : Nat} (hA : zInj ad n) (M : zMem) (t : Nat) (p0 : Int32) (hT_t : zT shX n t 7) {r9 : Int64} {M9 : zMem} (hF : F_X6_touchedBy M t p0 = some (r9, M9)) : zM l yX6_touchedBy cX6_touchedBy 2 (some .long) rm_X6_touchedBy G shX ad n M [.ref (ad t), .int p0] (some (.long r9)) M9 := by
  refine zM_of hA (by decide +kernel) (lv := [(0, .ref (ad t)), (1, .int p0)]) (Nat.le_of_ble_eq_true rfl) rfl (fun p e s m args below meth c A cx hr => ?_)
  unfold F_X6_touchedBy at hF
  refine z_iload_n cx d_X6_touchedBy_0 1 rfl ?_
  refine z_iconst (v := 0) cx d_X6_touchedBy_1 ki_0 ?_
  refine z_bipush (v := 63) cx d_X6_touchedBy_2 kb_63 ?_
  obtain ⟨v2, M1, hc, hF⟩ := zb_inv hF
  refine z_callSN cx (As := [.int p0, .int (0 : Int32), .int (63 : Int32)]) (rest := []) (c_X9_within l cx.2.2.2.1.1 M p0 (0 : Int32) (63 : Int32)  hc) cn_Shadows_45 wd_708 ⟨rfl, rfl, Nat.le_of_ble_eq_true rfl, Nat.le_of_ble_eq_true rfl⟩ rfl rfl ⟨Nat.zero_le _, Nat.zero_le _⟩ (Nat.le_of_ble_eq_true rfl) d_X6_touchedBy_4 ?_
  refine z_if_eq cx 19 d_X6_touchedBy_7 (by decide) hF (fun hF => ?_) (fun hF => ?_)
  · refine z_lconst (v := 0) cx d_X6_touchedBy_19 (by decide +kernel) ?_
    exact z_lret cx hr hF d_X6_touchedBy_20
  refine z_aload_n cx d_X6_touchedBy_10 0 rfl ?_
  refine z_getR cx hT_t fg_Shadows_16 (t + 66) rfl d_X6_touchedBy_11 ?_
  refine z_iload_n cx d_X6_touchedBy_14 1 rfl ?_
  obtain ⟨hi3, hF⟩ := gin_inv hF
  refine z_lald cx (tfX_7_66 hT_t) za_24 hi3 p0.toNatClampNeg rfl d_X6_touchedBy_15 ?_
  refine z_goto cx 20 d_X6_touchedBy_16 (by decide) ?_
  exact z_lret cx hr hF d_X6_touchedBy_20
/-! SunnyPans$Shadows.learnAlone -/
set_option maxRecDepth 100000 in
theorem wd_1170 : Cond.code yX6_addedAt cX6_addedAt 3 (some .long) ∈ tbG := tw5 110 rfl rfl
set_option maxRecDepth 100000 in
theorem wd_1167 : Cond.methodLink "SunnyPans$Shadows" 49 yX6_addedAt ∈ tbG := tw5 107 rfl rfl
set_option maxRecDepth 100000 in
theorem wd_1168 : Cond.instanceMethod yX6_addedAt ∈ tbG := tw5 108 rfl rfl
set_option maxRecDepth 100000 in
theorem wd_1169 : Cond.selects "SunnyPans$Shadows" yX6_addedAt yX6_addedAt ∈ tbG := tw5 109 rfl rfl
set_option maxRecDepth 100000 in
theorem wd_106 : Cond.initialized "SunnyPans$Shadows" ∈ tbG := tw1 6 rfl rfl
theorem cv_Shadows_49 : zCV "SunnyPans$Shadows" 49 "SunnyPans$Shadows" yX6_addedAt cX6_addedAt 3 (some .long) 2 := zCV_of wd_1167 wd_1168 wd_1169 wd_106 wd_1170 (by decide +kernel)
theorem zo_7 : zObj "SunnyPans$Shadows" 7 := ⟨6, (RX6, TX6, 3), rfl, rfl, fun _ _ _ _ _ _ => ⟨_, rfl⟩⟩
theorem tfX_7_67 {n k : Nat} (h : zT shX n k 7) : zT shX n (k + 67) 18 := zT_off h (shX_f (by decide) (by decide +kernel)) (by decide) (by decide)
set_option maxRecDepth 100000 in
theorem wd_277 : Cond.fieldLink "SunnyPans$Shadows" 20 "SunnyPans$Shadows" "alone" "[J" ∈ tbG := tw1 177 rfl rfl
theorem fg_Shadows_20 : zGetR "SunnyPans$Shadows" 20 6 7 2 67 := ⟨RX6, TX6, 3, rfl, by decide, uw_6, wd_277, fun _ _ _ _ _ _ => ⟨_, rfl, rfl⟩⟩
set_option maxRecDepth 100000 in
theorem wd_188 : Cond.fieldLink "SunnyPans$Shadows" 59 "SunnyPans$Pans" "grams" "[I" ∈ tbG := tw1 88 rfl rfl
theorem fg_Shadows_59 : zGetR "SunnyPans$Shadows" 59 4 5 2 3 := ⟨RX4, TX4, 7, rfl, by decide, uw_4, wd_188, fun _ _ _ _ _ _ => ⟨_, rfl, rfl⟩⟩
theorem d_X6_learnAlone_0 : decode cX6_learnAlone 0 = .ok (.iconst 0, 1) := by decide +kernel
theorem d_X6_learnAlone_1 : decode cX6_learnAlone 1 = .ok (.istore_n 3, 1) := by decide +kernel
theorem d_X6_learnAlone_2 : decode cX6_learnAlone 2 = .ok (.iload_n 3, 1) := by decide +kernel
theorem d_X6_learnAlone_3 : decode cX6_learnAlone 3 = .ok (.aload_n 1, 1) := by decide +kernel
theorem d_X6_learnAlone_4 : decode cX6_learnAlone 4 = .ok (.getfield 23, 3) := by decide +kernel
theorem d_X6_learnAlone_7 : decode cX6_learnAlone 7 = .ok (.if_icmp .ge 95, 3) := by decide +kernel
theorem d_X6_learnAlone_10 : decode cX6_learnAlone 10 = .ok (.iload_n 3, 1) := by decide +kernel
theorem d_X6_learnAlone_11 : decode cX6_learnAlone 11 = .ok (.bipush 10, 2) := by decide +kernel
theorem d_X6_learnAlone_13 : decode cX6_learnAlone 13 = .ok (.if_icmp .ge 89, 3) := by decide +kernel
theorem d_X6_learnAlone_16 : decode cX6_learnAlone 16 = .ok (.lconst 0, 1) := by decide +kernel
theorem d_X6_learnAlone_17 : decode cX6_learnAlone 17 = .ok (.lstore 4, 2) := by decide +kernel
theorem d_X6_learnAlone_19 : decode cX6_learnAlone 19 = .ok (.lconst 0, 1) := by decide +kernel
theorem d_X6_learnAlone_20 : decode cX6_learnAlone 20 = .ok (.lstore 6, 2) := by decide +kernel
theorem d_X6_learnAlone_22 : decode cX6_learnAlone 22 = .ok (.iconst 0, 1) := by decide +kernel
theorem d_X6_learnAlone_23 : decode cX6_learnAlone 23 = .ok (.istore 8, 2) := by decide +kernel
theorem d_X6_learnAlone_25 : decode cX6_learnAlone 25 = .ok (.iload 8, 2) := by decide +kernel
theorem d_X6_learnAlone_27 : decode cX6_learnAlone 27 = .ok (.bipush 64, 2) := by decide +kernel
theorem d_X6_learnAlone_29 : decode cX6_learnAlone 29 = .ok (.if_icmp .ge 52, 3) := by decide +kernel
theorem d_X6_learnAlone_32 : decode cX6_learnAlone 32 = .ok (.aload_n 2, 1) := by decide +kernel
theorem d_X6_learnAlone_33 : decode cX6_learnAlone 33 = .ok (.getfield 59, 3) := by decide +kernel
theorem d_X6_learnAlone_36 : decode cX6_learnAlone 36 = .ok (.iload 8, 2) := by decide +kernel
theorem d_X6_learnAlone_38 : decode cX6_learnAlone 38 = .ok (.iaload, 1) := by decide +kernel
theorem d_X6_learnAlone_39 : decode cX6_learnAlone 39 = .ok (.ifCond .le 36, 3) := by decide +kernel
theorem d_X6_learnAlone_42 : decode cX6_learnAlone 42 = .ok (.aload_n 1, 1) := by decide +kernel
theorem d_X6_learnAlone_43 : decode cX6_learnAlone 43 = .ok (.iload 8, 2) := by decide +kernel
theorem d_X6_learnAlone_45 : decode cX6_learnAlone 45 = .ok (.aload_n 2, 1) := by decide +kernel
theorem d_X6_learnAlone_46 : decode cX6_learnAlone 46 = .ok (.getfield 59, 3) := by decide +kernel
theorem d_X6_learnAlone_49 : decode cX6_learnAlone 49 = .ok (.iload 8, 2) := by decide +kernel
theorem d_X6_learnAlone_51 : decode cX6_learnAlone 51 = .ok (.iaload, 1) := by decide +kernel
theorem d_X6_learnAlone_52 : decode cX6_learnAlone 52 = .ok (.iload_n 3, 1) := by decide +kernel
theorem d_X6_learnAlone_53 : decode cX6_learnAlone 53 = .ok (.invokevirtual 33, 3) := by decide +kernel
theorem d_X6_learnAlone_56 : decode cX6_learnAlone 56 = .ok (.lstore 9, 2) := by decide +kernel
theorem d_X6_learnAlone_58 : decode cX6_learnAlone 58 = .ok (.lload 6, 2) := by decide +kernel
theorem d_X6_learnAlone_60 : decode cX6_learnAlone 60 = .ok (.lload 4, 2) := by decide +kernel
theorem d_X6_learnAlone_62 : decode cX6_learnAlone 62 = .ok (.lload 9, 2) := by decide +kernel
theorem d_X6_learnAlone_64 : decode cX6_learnAlone 64 = .ok (.land, 1) := by decide +kernel
theorem d_X6_learnAlone_65 : decode cX6_learnAlone 65 = .ok (.lor, 1) := by decide +kernel
theorem d_X6_learnAlone_66 : decode cX6_learnAlone 66 = .ok (.lstore 6, 2) := by decide +kernel
theorem d_X6_learnAlone_68 : decode cX6_learnAlone 68 = .ok (.lload 4, 2) := by decide +kernel
theorem d_X6_learnAlone_70 : decode cX6_learnAlone 70 = .ok (.lload 9, 2) := by decide +kernel
theorem d_X6_learnAlone_72 : decode cX6_learnAlone 72 = .ok (.lor, 1) := by decide +kernel
theorem d_X6_learnAlone_73 : decode cX6_learnAlone 73 = .ok (.lstore 4, 2) := by decide +kernel
theorem d_X6_learnAlone_75 : decode cX6_learnAlone 75 = .ok (.iinc 8 1, 3) := by decide +kernel
theorem d_X6_learnAlone_78 : decode cX6_learnAlone 78 = .ok (.goto (-53), 3) := by decide +kernel
theorem d_X6_learnAlone_81 : decode cX6_learnAlone 81 = .ok (.aload_n 0, 1) := by decide +kernel
theorem d_X6_learnAlone_82 : decode cX6_learnAlone 82 = .ok (.getfield 20, 3) := by decide +kernel
theorem d_X6_learnAlone_85 : decode cX6_learnAlone 85 = .ok (.iload_n 3, 1) := by decide +kernel
theorem d_X6_learnAlone_86 : decode cX6_learnAlone 86 = .ok (.lload 4, 2) := by decide +kernel
theorem d_X6_learnAlone_88 : decode cX6_learnAlone 88 = .ok (.lload 6, 2) := by decide +kernel
theorem d_X6_learnAlone_90 : decode cX6_learnAlone 90 = .ok (.ldc2_w 43, 3) := by decide +kernel
theorem d_X6_learnAlone_93 : decode cX6_learnAlone 93 = .ok (.lxor, 1) := by decide +kernel
theorem d_X6_learnAlone_94 : decode cX6_learnAlone 94 = .ok (.land, 1) := by decide +kernel
theorem d_X6_learnAlone_95 : decode cX6_learnAlone 95 = .ok (.lastore, 1) := by decide +kernel
theorem d_X6_learnAlone_96 : decode cX6_learnAlone 96 = .ok (.iinc 3 1, 3) := by decide +kernel
theorem d_X6_learnAlone_99 : decode cX6_learnAlone 99 = .ok (.goto (-97), 3) := by decide +kernel
theorem d_X6_learnAlone_102 : decode cX6_learnAlone 102 = .ok (.return_, 1) := by decide +kernel
def F_X6_learnAlone_75 (t : Nat) (p0 : Nat) (p1 : Nat) (self2 : Int32 → zMem → Option (zMem)) (self25 : Int32 → Int64 → Int64 → Int32 → zMem → Option (zMem)) (b75_L3 : Int32) (b75_L4 : Int64) (b75_L6 : Int64) (b75_L8 : Int32) (M : zMem) : Option (zMem) :=
  self25 b75_L3 b75_L4 b75_L6 (b75_L8 + 1) M
def F_X6_learnAlone_25 (t : Nat) (p0 : Nat) (p1 : Nat) (self2 : Int32 → zMem → Option (zMem)) (self25 : Int32 → Int64 → Int64 → Int32 → zMem → Option (zMem)) (b25_L3 : Int32) (b25_L4 : Int64) (b25_L6 : Int64) (b25_L8 : Int32) (M : zMem) : Option (zMem) :=
  if (64 : Int32) ≤ b25_L8 then
    gin b25_L3 10 <|
    zl (zL M (t + 67) b25_L3.toNatClampNeg (b25_L4 &&& (b25_L6 ^^^ (-1 : Int64)))) fun M2 =>
    self2 (b25_L3 + 1) M2
  else
    gin b25_L8 64 <|
    if (M.1 (p1 + 3) b25_L8.toNatClampNeg) ≤ 0 then
      F_X6_learnAlone_75 t p0 p1 self2 self25 b25_L3 b25_L4 b25_L6 b25_L8 M
    else
      zb (F_X5_shadedBy M p0 b25_L8 (M.1 (p1 + 3) b25_L8.toNatClampNeg) b25_L3) fun v5 M4 =>
      zl (b25_L6 ||| (b25_L4 &&& v5)) fun v6 =>
      zl (b25_L4 ||| v5) fun v7 =>
      F_X6_learnAlone_75 t p0 p1 self2 self25 b25_L3 v7 v6 b25_L8 M4
def F_X6_learnAlone_2 (t : Nat) (p0 : Nat) (p1 : Nat) (self2 : Int32 → zMem → Option (zMem)) (b2_L3 : Int32) (M : zMem) : Option (zMem) :=
  if (M.1 p0 2) ≤ b2_L3 then
    some M
  else
    if (10 : Int32) ≤ b2_L3 then
      some M
    else
      itF (fun _ _ _ _ _ => none) (F_X6_learnAlone_25 t p0 p1 self2) zFuel b2_L3 (0 : Int64) (0 : Int64) (0 : Int32) M
def F_X6_learnAlone (M : zMem) (t : Nat) (p0 : Nat) (p1 : Nat) : Option (zMem) :=
  itF (fun _ _ => none) (F_X6_learnAlone_2 t p0 p1) zFuel (0 : Int32) M
def rm_X6_learnAlone : Room := { frames := 4, cells := 0, slots := 0, locals := 131 }
set_option maxHeartbeats 4000000 in
set_option maxRecDepth 100000 in
theorem c_X6_learnAlone (l : Launch) {G : zG} {ad : Nat → Nat} {n : Nat} (hA : zInj ad n) (M : zMem) (t : Nat) (p0 : Nat) (p1 : Nat) (hT_t : zT shX n t 7) (hT_p0 : zT shX n p0 6) (hT_p1 : zT shX n p1 5) {M9 : zMem} (hF : F_X6_learnAlone M t p0 p1 = some M9) : zM l yX6_learnAlone cX6_learnAlone 11 none rm_X6_learnAlone G shX ad n M [.ref (ad t), .ref (ad p0), .ref (ad p1)] none M9 := by
  refine zM_of hA (by decide +kernel) (lv := [(0, .ref (ad t)), (1, .ref (ad p0)), (2, .ref (ad p1))]) (Nat.le_of_ble_eq_true rfl) rfl (fun p e s m args below meth c A cx hr => ?_)
  have hb75 : ∀ (self2 : Int32 → zMem → Option (zMem)) (hs2 : ∀ (b2_L3 : Int32) (M : zMem), self2 b2_L3 M = some M9 → zJ p l e rm_X6_learnAlone s m args below meth c G shX ad n A 11 (MQ below (zQ G shX ad n M9 none A) args s 0 0 A) 0 0 M 2 [(0, .ref (ad t)), (1, .ref (ad p0)), (2, .ref (ad p1)), (3, .int b2_L3)] []) (self25 : Int32 → Int64 → Int64 → Int32 → zMem → Option (zMem)) (hs25 : ∀ (b25_L3 : Int32) (b25_L4 : Int64) (b25_L6 : Int64) (b25_L8 : Int32) (M : zMem), self25 b25_L3 b25_L4 b25_L6 b25_L8 M = some M9 → zJ p l e rm_X6_learnAlone s m args below meth c G shX ad n A 11 (MQ below (zQ G shX ad n M9 none A) args s 0 0 A) 0 0 M 25 [(0, .ref (ad t)), (1, .ref (ad p0)), (2, .ref (ad p1)), (3, .int b25_L3), (4, .long b25_L4), (6, .long b25_L6), (8, .int b25_L8)] []), ∀ (b75_L3 : Int32) (b75_L4 : Int64) (b75_L6 : Int64) (b75_L8 : Int32) (M : zMem), F_X6_learnAlone_75 t p0 p1 self2 self25 b75_L3 b75_L4 b75_L6 b75_L8 M = some M9 → zJ p l e rm_X6_learnAlone s m args below meth c G shX ad n A 11 (MQ below (zQ G shX ad n M9 none A) args s 0 0 A) 0 0 M 75 [(0, .ref (ad t)), (1, .ref (ad p0)), (2, .ref (ad p1)), (3, .int b75_L3), (4, .long b75_L4), (6, .long b75_L6), (8, .int b75_L8)] [] := by
    intro self2 hs2 self25 hs25 b75_L3 b75_L4 b75_L6 b75_L8 M hF
    unfold F_X6_learnAlone_75 at hF
    refine z_iinc cx 8 1 [(8, .int (b75_L8 + 1)), (0, .ref (ad t)), (1, .ref (ad p0)), (2, .ref (ad p1)), (3, .int b75_L3), (4, .long b75_L4), (6, .long b75_L6)] d_X6_learnAlone_75 6 rfl ki_1 (by decide) rfl ?_
    refine z_goto cx 25 d_X6_learnAlone_78 (by decide) ?_
    exact z_lv [1, 2, 3, 4, 5, 6, 0] _ rfl (hs25 b75_L3 b75_L4 b75_L6 (b75_L8 + 1) M hF)
  have hL25 : ∀ (self2 : Int32 → zMem → Option (zMem)) (hs2 : ∀ (b2_L3 : Int32) (M : zMem), self2 b2_L3 M = some M9 → zJ p l e rm_X6_learnAlone s m args below meth c G shX ad n A 11 (MQ below (zQ G shX ad n M9 none A) args s 0 0 A) 0 0 M 2 [(0, .ref (ad t)), (1, .ref (ad p0)), (2, .ref (ad p1)), (3, .int b2_L3)] []) (fuel : Nat), ∀ (b25_L3 : Int32) (b25_L4 : Int64) (b25_L6 : Int64) (b25_L8 : Int32) (M : zMem), itF (fun _ _ _ _ _ => none) (F_X6_learnAlone_25 t p0 p1 self2) fuel b25_L3 b25_L4 b25_L6 b25_L8 M = some M9 → zJ p l e rm_X6_learnAlone s m args below meth c G shX ad n A 11 (MQ below (zQ G shX ad n M9 none A) args s 0 0 A) 0 0 M 25 [(0, .ref (ad t)), (1, .ref (ad p0)), (2, .ref (ad p1)), (3, .int b25_L3), (4, .long b25_L4), (6, .long b25_L6), (8, .int b25_L8)] [] := by
    intro self2 hs2 fuel
    induction fuel with
    | zero => intro b25_L3 b25_L4 b25_L6 b25_L8 M hF; cases hF
    | succ fuel hs25 =>
      intro b25_L3 b25_L4 b25_L6 b25_L8 M hF
      have hF : F_X6_learnAlone_25 t p0 p1 self2 (itF (fun _ _ _ _ _ => none) (F_X6_learnAlone_25 t p0 p1 self2) fuel) b25_L3 b25_L4 b25_L6 b25_L8 M = some M9 := hF
      generalize itF (fun _ _ _ _ _ => none) (F_X6_learnAlone_25 t p0 p1 self2) fuel = self25 at hs25 hF
      unfold F_X6_learnAlone_25 at hF
      refine z_iload cx d_X6_learnAlone_25 6 rfl ?_
      refine z_bipush (v := 64) cx d_X6_learnAlone_27 kb_64 ?_
      refine z_icmp_ge cx 81 d_X6_learnAlone_29 (by decide) hF (fun hF => ?_) (fun hF => ?_)
      · refine z_aload_n cx d_X6_learnAlone_81 0 rfl ?_
        refine z_getR cx hT_t fg_Shadows_20 (t + 67) rfl d_X6_learnAlone_82 ?_
        refine z_iload_n cx d_X6_learnAlone_85 3 rfl ?_
        refine z_lload cx d_X6_learnAlone_86 4 rfl ?_
        refine z_lload cx d_X6_learnAlone_88 5 rfl ?_
        refine z_ldc2 cx wd_1162 d_X6_learnAlone_90 ?_
        refine z_lxor cx d_X6_learnAlone_93 ?_
        refine z_land cx d_X6_learnAlone_94 ?_
        obtain ⟨hi1, hF⟩ := gin_inv hF
        refine z_last cx (tfX_7_67 hT_t) za_18 hi1 b25_L3.toNatClampNeg rfl d_X6_learnAlone_95 ?_
        refine z_nmM hF (fun M2 hF => ?_)
        refine z_iinc cx 3 1 [(3, .int (b25_L3 + 1)), (0, .ref (ad t)), (1, .ref (ad p0)), (2, .ref (ad p1)), (4, .long b25_L4), (6, .long b25_L6), (8, .int b25_L8)] d_X6_learnAlone_96 3 rfl ki_1 (by decide) rfl ?_
        refine z_goto cx 2 d_X6_learnAlone_99 (by decide) ?_
        exact z_lv [1, 2, 3, 0] _ rfl (hs2 (b25_L3 + 1) M2 hF)
      refine z_aload_n cx d_X6_learnAlone_32 2 rfl ?_
      refine z_getR cx hT_p1 fg_Shadows_59 (p1 + 3) rfl d_X6_learnAlone_33 ?_
      refine z_iload cx d_X6_learnAlone_36 6 rfl ?_
      obtain ⟨hi3, hF⟩ := gin_inv hF
      refine z_iald cx (tfX_5_3 hT_p1) za_16 hi3 b25_L8.toNatClampNeg rfl d_X6_learnAlone_38 ?_
      refine z_if_le cx 75 d_X6_learnAlone_39 (by decide) hF (fun hF => ?_) (fun hF => ?_)
      · exact hb75 self2 hs2 self25 hs25 b25_L3 b25_L4 b25_L6 b25_L8 M hF
      refine z_aload_n cx d_X6_learnAlone_42 1 rfl ?_
      refine z_iload cx d_X6_learnAlone_43 6 rfl ?_
      refine z_aload_n cx d_X6_learnAlone_45 2 rfl ?_
      refine z_getR cx hT_p1 fg_Shadows_59 (p1 + 3) rfl d_X6_learnAlone_46 ?_
      refine z_iload cx d_X6_learnAlone_49 6 rfl ?_
      refine z_iald cx (tfX_5_3 hT_p1) za_16 hi3 b25_L8.toNatClampNeg rfl d_X6_learnAlone_51 ?_
      refine z_iload_n cx d_X6_learnAlone_52 3 rfl ?_
      obtain ⟨v5, M4, hc, hF⟩ := zb_inv hF
      refine z_callV cx (As := [.int b25_L8, .int (M.1 (p1 + 3) b25_L8.toNatClampNeg), .int b25_L3]) (rest := []) (c_X5_shadedBy l cx.2.2.2.1.1 M p0 b25_L8 (M.1 (p1 + 3) b25_L8.toNatClampNeg) b25_L3 hT_p0 hc) hT_p0 zo_6 cv_Shadows_33 ⟨rfl, rfl, Nat.le_of_ble_eq_true rfl, Nat.le_of_ble_eq_true rfl⟩ rfl rfl ⟨Nat.zero_le _, Nat.zero_le _⟩ (Nat.le_of_ble_eq_true rfl) d_X6_learnAlone_53 ?_
      refine z_lstore cx 9 [(9, .long v5), (0, .ref (ad t)), (1, .ref (ad p0)), (2, .ref (ad p1)), (3, .int b25_L3), (4, .long b25_L4), (6, .long b25_L6), (8, .int b25_L8)] d_X6_learnAlone_56 (by decide) rfl ?_
      refine z_lload cx d_X6_learnAlone_58 6 rfl ?_
      refine z_lload cx d_X6_learnAlone_60 5 rfl ?_
      refine z_lload cx d_X6_learnAlone_62 0 rfl ?_
      refine z_land cx d_X6_learnAlone_64 ?_
      refine z_lor cx d_X6_learnAlone_65 ?_
      refine z_nml hF (fun v6 hF => ?_)
      refine z_lstore cx 6 [(6, .long v6), (9, .long v5), (0, .ref (ad t)), (1, .ref (ad p0)), (2, .ref (ad p1)), (3, .int b25_L3), (4, .long b25_L4), (8, .int b25_L8)] d_X6_learnAlone_66 (by decide) rfl ?_
      refine z_lload cx d_X6_learnAlone_68 6 rfl ?_
      refine z_lload cx d_X6_learnAlone_70 1 rfl ?_
      refine z_lor cx d_X6_learnAlone_72 ?_
      refine z_nml hF (fun v7 hF => ?_)
      refine z_lstore cx 4 [(4, .long v7), (6, .long v6), (9, .long v5), (0, .ref (ad t)), (1, .ref (ad p0)), (2, .ref (ad p1)), (3, .int b25_L3), (8, .int b25_L8)] d_X6_learnAlone_73 (by decide) rfl ?_
      exact z_lv [3, 4, 5, 6, 0, 1, 7] _ rfl (hb75 self2 hs2 self25 hs25 b25_L3 v7 v6 b25_L8 M4 hF)
  have hL2 : ∀ (fuel : Nat), ∀ (b2_L3 : Int32) (M : zMem), itF (fun _ _ => none) (F_X6_learnAlone_2 t p0 p1) fuel b2_L3 M = some M9 → zJ p l e rm_X6_learnAlone s m args below meth c G shX ad n A 11 (MQ below (zQ G shX ad n M9 none A) args s 0 0 A) 0 0 M 2 [(0, .ref (ad t)), (1, .ref (ad p0)), (2, .ref (ad p1)), (3, .int b2_L3)] [] := by
    intro fuel
    induction fuel with
    | zero => intro b2_L3 M hF; cases hF
    | succ fuel hs2 =>
      intro b2_L3 M hF
      have hF : F_X6_learnAlone_2 t p0 p1 (itF (fun _ _ => none) (F_X6_learnAlone_2 t p0 p1) fuel) b2_L3 M = some M9 := hF
      generalize itF (fun _ _ => none) (F_X6_learnAlone_2 t p0 p1) fuel = self2 at hs2 hF
      unfold F_X6_learnAlone_2 at hF
      refine z_iload_n cx d_X6_learnAlone_2 3 rfl ?_
      refine z_aload_n cx d_X6_learnAlone_3 1 rfl ?_
      refine z_getI cx hT_p0 fg_Shadows_23 d_X6_learnAlone_4 ?_
      refine z_icmp_ge cx 102 d_X6_learnAlone_7 (by decide) hF (fun hF => ?_) (fun hF => ?_)
      · exact z_vret cx hr hF d_X6_learnAlone_102
      refine z_iload_n cx d_X6_learnAlone_10 3 rfl ?_
      refine z_bipush (v := 10) cx d_X6_learnAlone_11 kb_10 ?_
      refine z_icmp_ge cx 102 d_X6_learnAlone_13 (by decide) hF (fun hF => ?_) (fun hF => ?_)
      · exact z_vret cx hr hF d_X6_learnAlone_102
      refine z_lconst (v := 0) cx d_X6_learnAlone_16 (by decide +kernel) ?_
      refine z_lstore cx 4 [(4, .long (0 : Int64)), (0, .ref (ad t)), (1, .ref (ad p0)), (2, .ref (ad p1)), (3, .int b2_L3)] d_X6_learnAlone_17 (by decide) rfl ?_
      refine z_lconst (v := 0) cx d_X6_learnAlone_19 (by decide +kernel) ?_
      refine z_lstore cx 6 [(6, .long (0 : Int64)), (4, .long (0 : Int64)), (0, .ref (ad t)), (1, .ref (ad p0)), (2, .ref (ad p1)), (3, .int b2_L3)] d_X6_learnAlone_20 (by decide) rfl ?_
      refine z_iconst (v := 0) cx d_X6_learnAlone_22 ki_0 ?_
      refine z_istore cx 8 [(8, .int (0 : Int32)), (6, .long (0 : Int64)), (4, .long (0 : Int64)), (0, .ref (ad t)), (1, .ref (ad p0)), (2, .ref (ad p1)), (3, .int b2_L3)] d_X6_learnAlone_23 (by decide) rfl ?_
      exact z_lv [3, 4, 5, 6, 2, 1, 0] _ rfl (hL25 self2 hs2 zFuel b2_L3 (0 : Int64) (0 : Int64) (0 : Int32) M hF)
  unfold F_X6_learnAlone at hF
  refine z_iconst (v := 0) cx d_X6_learnAlone_0 ki_0 ?_
  refine z_istore_n cx 3 [(3, .int (0 : Int32)), (0, .ref (ad t)), (1, .ref (ad p0)), (2, .ref (ad p1))] d_X6_learnAlone_1 rfl (by decide) rfl ?_
  exact z_lv [1, 2, 3, 0] _ rfl (hL2 zFuel (0 : Int32) M hF)
/-! SunnyPans$Stand.start -/
theorem tfX_8_1 {n k : Nat} (h : zT shX n k 8) : zT shX n (k + 1) 5 := zT_off h (shX_f (by decide) (by decide +kernel)) (by decide) (by decide)
set_option maxRecDepth 100000 in
theorem wd_214 : Cond.fieldLink "SunnyPans$Stand" 12 "SunnyPans$Stand" "now" "LSunnyPans$Pans;" ∈ tbG := tw1 114 rfl rfl
theorem uw_7 : ∀ w ∈ u_ws RX7 TX7 3, w ∈ tbG := zUW _ [219, 221, 223] (by decide +kernel) (by decide +kernel)
theorem fg_Stand_12 : zGetR "SunnyPans$Stand" 12 7 8 0 1 := ⟨RX7, TX7, 3, rfl, by decide, uw_7, wd_214, fun _ _ _ _ _ _ => ⟨_, rfl, rfl⟩⟩
set_option maxRecDepth 100000 in
theorem wd_750 : Cond.code yX4_start cX4_start 2 none ∈ tbG := tw3 170 rfl rfl
set_option maxRecDepth 100000 in
theorem wd_747 : Cond.methodLink "SunnyPans$Stand" 22 yX4_start ∈ tbG := tw3 167 rfl rfl
set_option maxRecDepth 100000 in
theorem wd_748 : Cond.instanceMethod yX4_start ∈ tbG := tw3 168 rfl rfl
set_option maxRecDepth 100000 in
theorem wd_749 : Cond.selects "SunnyPans$Pans" yX4_start yX4_start ∈ tbG := tw3 169 rfl rfl
theorem cv_Stand_22 : zCV "SunnyPans$Stand" 22 "SunnyPans$Pans" yX4_start cX4_start 2 none 1 := zCV_of wd_747 wd_748 wd_749 wd_104 wd_750 (by decide +kernel)
set_option maxRecDepth 100000 in
theorem wd_216 : Cond.fieldLink "SunnyPans$Stand" 26 "SunnyPans$Stand" "kept" "I" ∈ tbG := tw1 116 rfl rfl
theorem fg_Stand_26 : zGetI "SunnyPans$Stand" 26 7 8 1 := ⟨RX7, TX7, 3, rfl, by decide, uw_7, wd_216, fun _ _ _ _ _ _ => ⟨_, rfl, rfl⟩⟩
theorem zc_7 : zCls 7 := ⟨RX7, TX7, 3, tyX7, rfl, tyX7_ok, nmX7⟩
theorem fp_Stand_26 : zPutI "SunnyPans$Stand" 26 7 8 1 := ⟨zc_7, fg_Stand_26, ⟨RX7, TX7, 3, rfl, rfl, by decide +kernel⟩, fun _ _ _ _ _ _ _ => ⟨_, rfl, Nat.le_of_ble_eq_true rfl, rfl⟩⟩
theorem d_X7_start_0 : decode cX7_start 0 = .ok (.aload_n 0, 1) := by decide +kernel
theorem d_X7_start_1 : decode cX7_start 1 = .ok (.getfield 12, 3) := by decide +kernel
theorem d_X7_start_4 : decode cX7_start 4 = .ok (.aload_n 1, 1) := by decide +kernel
theorem d_X7_start_5 : decode cX7_start 5 = .ok (.invokevirtual 22, 3) := by decide +kernel
theorem d_X7_start_8 : decode cX7_start 8 = .ok (.aload_n 0, 1) := by decide +kernel
theorem d_X7_start_9 : decode cX7_start 9 = .ok (.iconst 0, 1) := by decide +kernel
theorem d_X7_start_10 : decode cX7_start 10 = .ok (.putfield 26, 3) := by decide +kernel
theorem d_X7_start_13 : decode cX7_start 13 = .ok (.return_, 1) := by decide +kernel
def F_X7_start (M : zMem) (t : Nat) (p0 : Nat) : Option (zMem) :=
  zbv (F_X4_start M (t + 1) p0) fun M1 =>
  zl (zI M1 t 1 (0 : Int32)) fun M2 =>
  some M2
def rm_X7_start : Room := { frames := 6, cells := 0, slots := 0, locals := 175 }
set_option maxHeartbeats 4000000 in
set_option maxRecDepth 100000 in
theorem c_X7_start (l : Launch) {G : zG} {ad : Nat → Nat} {n : Nat} (hA : zInj ad n) (M : zMem) (t : Nat) (p0 : Nat) (hT_t : zT shX n t 8) (hT_p0 : zT shX n p0 6) {M9 : zMem} (hF : F_X7_start M t p0 = some M9) : zM l yX7_start cX7_start 2 none rm_X7_start G shX ad n M [.ref (ad t), .ref (ad p0)] none M9 := by
  refine zM_of hA (by decide +kernel) (lv := [(0, .ref (ad t)), (1, .ref (ad p0))]) (Nat.le_of_ble_eq_true rfl) rfl (fun p e s m args below meth c A cx hr => ?_)
  unfold F_X7_start at hF
  refine z_aload_n cx d_X7_start_0 0 rfl ?_
  refine z_getR cx hT_t fg_Stand_12 (t + 1) rfl d_X7_start_1 ?_
  refine z_aload_n cx d_X7_start_4 1 rfl ?_
  obtain ⟨M1, hc, hF⟩ := zbv_inv hF
  refine z_callV cx (As := [.ref (ad p0)]) (rest := []) (c_X4_start l cx.2.2.2.1.1 M (t + 1) p0 (tfX_8_1 hT_t) hT_p0 hc) (tfX_8_1 hT_t) zo_5 cv_Stand_22 ⟨rfl, rfl, Nat.le_of_ble_eq_true rfl, Nat.le_of_ble_eq_true rfl⟩ rfl rfl ⟨Nat.zero_le _, Nat.zero_le _⟩ (Nat.le_of_ble_eq_true rfl) d_X7_start_5 ?_
  refine z_aload_n cx d_X7_start_8 0 rfl ?_
  refine z_iconst (v := 0) cx d_X7_start_9 ki_0 ?_
  refine z_putI cx hT_t fp_Stand_26 d_X7_start_10 ?_
  refine z_nmM hF (fun M2 hF => ?_)
  exact z_vret cx hr hF d_X7_start_13
/-! SunnyPans$Text.add -/
theorem tfX_8_6 {n k : Nat} (h : zT shX n k 8) : zT shX n (k + 6) 19 := zT_off h (shX_f (by decide) (by decide +kernel)) (by decide) (by decide)
theorem kb_16 : (Int8.ofInt (16)).toInt32 = (16 : Int32) := by decide +kernel
set_option maxRecDepth 100000 in
theorem wd_218 : Cond.fieldLink "SunnyPans$Stand" 18 "SunnyPans$Stand" "before" "[LSunnyPans$Pans;" ∈ tbG := tw1 118 rfl rfl
theorem fg_Stand_18 : zGetR "SunnyPans$Stand" 18 7 8 2 6 := ⟨RX7, TX7, 3, rfl, by decide, uw_7, wd_218, fun _ _ _ _ _ _ => ⟨_, rfl, rfl⟩⟩
theorem za_19 : zArrR 19 16 2 1 5 := ⟨by decide, fun _ _ _ _ _ _ => rfl⟩
theorem teX_19 {n k : Nat} {i : Int32} (h : zT shX n k 19) (hi : vp_in i 16) : zT shX n (k + (1 + 5 * i.toNatClampNeg)) 5 := by
  have hlt : i.toNatClampNeg < 16 := Nat.not_le.mp fun q => hi (Or.inr q)
  have h2 : k + 81 ≤ n := h.2.2
  exact ⟨shX_e (by decide) (by decide +kernel) k h.1 _ hlt, by omega, by show _ + 5 ≤ n; omega⟩
theorem ki_m8 : Int32.ofInt (-8) = (-8 : Int32) := by decide +kernel
set_option maxRecDepth 100000 in
theorem wd_140 : Cond.fieldLink "SunnyPans$Text" 19 "SunnyPans$Text" "size" "I" ∈ tbG := tw1 40 rfl rfl
theorem fg_Text_19 : zGetI "SunnyPans$Text" 19 8 9 1 := ⟨RX8, TX8, 8, rfl, by decide, uw_8, wd_140, fun _ _ _ _ _ _ => ⟨_, rfl, rfl⟩⟩
theorem ks_255 : (Int16.ofInt (255)).toInt32 = (255 : Int32) := by decide +kernel
theorem fp_Text_19 : zPutI "SunnyPans$Text" 19 8 9 1 := ⟨zc_8, fg_Text_19, ⟨RX8, TX8, 8, rfl, rfl, by decide +kernel⟩, fun _ _ _ _ _ _ _ => ⟨_, rfl, Nat.le_of_ble_eq_true rfl, rfl⟩⟩
theorem kb_24 : (Int8.ofInt (24)).toInt32 = (24 : Int32) := by decide +kernel
theorem d_X8_add_0 : decode cX8_add 0 = .ok (.bipush 24, 2) := by decide +kernel
theorem d_X8_add_2 : decode cX8_add 2 = .ok (.istore_n 2, 1) := by decide +kernel
theorem d_X8_add_3 : decode cX8_add 3 = .ok (.iload_n 2, 1) := by decide +kernel
theorem d_X8_add_4 : decode cX8_add 4 = .ok (.ifCond .lt 47, 3) := by decide +kernel
theorem d_X8_add_7 : decode cX8_add 7 = .ok (.aload_n 0, 1) := by decide +kernel
theorem d_X8_add_8 : decode cX8_add 8 = .ok (.getfield 19, 3) := by decide +kernel
theorem d_X8_add_11 : decode cX8_add 11 = .ok (.aload_n 0, 1) := by decide +kernel
theorem d_X8_add_12 : decode cX8_add 12 = .ok (.getfield 9, 3) := by decide +kernel
theorem d_X8_add_15 : decode cX8_add 15 = .ok (.arraylength, 1) := by decide +kernel
theorem d_X8_add_16 : decode cX8_add 16 = .ok (.if_icmp .ge 29, 3) := by decide +kernel
theorem d_X8_add_19 : decode cX8_add 19 = .ok (.aload_n 0, 1) := by decide +kernel
theorem d_X8_add_20 : decode cX8_add 20 = .ok (.getfield 9, 3) := by decide +kernel
theorem d_X8_add_23 : decode cX8_add 23 = .ok (.aload_n 0, 1) := by decide +kernel
theorem d_X8_add_24 : decode cX8_add 24 = .ok (.getfield 19, 3) := by decide +kernel
theorem d_X8_add_27 : decode cX8_add 27 = .ok (.iload_n 1, 1) := by decide +kernel
theorem d_X8_add_28 : decode cX8_add 28 = .ok (.iload_n 2, 1) := by decide +kernel
theorem d_X8_add_29 : decode cX8_add 29 = .ok (.iushr, 1) := by decide +kernel
theorem d_X8_add_30 : decode cX8_add 30 = .ok (.sipush 255, 3) := by decide +kernel
theorem d_X8_add_33 : decode cX8_add 33 = .ok (.iand, 1) := by decide +kernel
theorem d_X8_add_34 : decode cX8_add 34 = .ok (.iastore, 1) := by decide +kernel
theorem d_X8_add_35 : decode cX8_add 35 = .ok (.aload_n 0, 1) := by decide +kernel
theorem d_X8_add_36 : decode cX8_add 36 = .ok (.dup, 1) := by decide +kernel
theorem d_X8_add_37 : decode cX8_add 37 = .ok (.getfield 19, 3) := by decide +kernel
theorem d_X8_add_40 : decode cX8_add 40 = .ok (.iconst 1, 1) := by decide +kernel
theorem d_X8_add_41 : decode cX8_add 41 = .ok (.iadd, 1) := by decide +kernel
theorem d_X8_add_42 : decode cX8_add 42 = .ok (.putfield 19, 3) := by decide +kernel
theorem d_X8_add_45 : decode cX8_add 45 = .ok (.iinc 2 (-8), 3) := by decide +kernel
theorem d_X8_add_48 : decode cX8_add 48 = .ok (.goto (-45), 3) := by decide +kernel
theorem d_X8_add_51 : decode cX8_add 51 = .ok (.return_, 1) := by decide +kernel
def F_X8_add_45 (t : Nat) (p0 : Int32) (self3 : Int32 → Int32 → zMem → Option (zMem)) (b45_L1 : Int32) (b45_L2 : Int32) (M : zMem) : Option (zMem) :=
  self3 b45_L1 (b45_L2 + (-8)) M
def F_X8_add_3 (t : Nat) (p0 : Int32) (self3 : Int32 → Int32 → zMem → Option (zMem)) (b3_L1 : Int32) (b3_L2 : Int32) (M : zMem) : Option (zMem) :=
  if b3_L2 < 0 then
    some M
  else
    if (nI 600) ≤ (M.1 t 1) then
      F_X8_add_45 t p0 self3 b3_L1 b3_L2 M
    else
      gin (M.1 t 1) 600 <|
      zl (zI M (t + 1) ((M.1 t 1).toNatClampNeg) ((b3_L1.toUInt32 >>> (b3_L2.toUInt32 &&& Int32.toUInt32 31)).toInt32 &&& (255 : Int32))) fun M2 =>
      zl (zI M2 t 1 ((M2.1 t 1) + (1 : Int32))) fun M3 =>
      F_X8_add_45 t p0 self3 b3_L1 b3_L2 M3
def F_X8_add (M : zMem) (t : Nat) (p0 : Int32) : Option (zMem) :=
  itF (fun _ _ _ => none) (F_X8_add_3 t p0) zFuel p0 (24 : Int32) M
def rm_X8_add : Room := { frames := 2, cells := 0, slots := 0, locals := 80 }
set_option maxHeartbeats 4000000 in
set_option maxRecDepth 100000 in
theorem c_X8_add (l : Launch) {G : zG} {ad : Nat → Nat} {n : Nat} (hA : zInj ad n) (M : zMem) (t : Nat) (p0 : Int32) (hT_t : zT shX n t 9) {M9 : zMem} (hF : F_X8_add M t p0 = some M9) : zM l yX8_add cX8_add 3 none rm_X8_add G shX ad n M [.ref (ad t), .int p0] none M9 := by
  refine zM_of hA (by decide +kernel) (lv := [(0, .ref (ad t)), (1, .int p0)]) (Nat.le_of_ble_eq_true rfl) rfl (fun p e s m args below meth c A cx hr => ?_)
  have hb45 : ∀ (self3 : Int32 → Int32 → zMem → Option (zMem)) (hs3 : ∀ (b3_L1 : Int32) (b3_L2 : Int32) (M : zMem), self3 b3_L1 b3_L2 M = some M9 → zJ p l e rm_X8_add s m args below meth c G shX ad n A 3 (MQ below (zQ G shX ad n M9 none A) args s 0 0 A) 0 0 M 3 [(0, .ref (ad t)), (1, .int b3_L1), (2, .int b3_L2)] []), ∀ (b45_L1 : Int32) (b45_L2 : Int32) (M : zMem), F_X8_add_45 t p0 self3 b45_L1 b45_L2 M = some M9 → zJ p l e rm_X8_add s m args below meth c G shX ad n A 3 (MQ below (zQ G shX ad n M9 none A) args s 0 0 A) 0 0 M 45 [(0, .ref (ad t)), (1, .int b45_L1), (2, .int b45_L2)] [] := by
    intro self3 hs3 b45_L1 b45_L2 M hF
    unfold F_X8_add_45 at hF
    refine z_iinc cx 2 (-8) [(2, .int (b45_L2 + (-8))), (0, .ref (ad t)), (1, .int b45_L1)] d_X8_add_45 2 rfl ki_m8 (by decide) rfl ?_
    refine z_goto cx 3 d_X8_add_48 (by decide) ?_
    exact z_lv [1, 2, 0] _ rfl (hs3 b45_L1 (b45_L2 + (-8)) M hF)
  have hL3 : ∀ (fuel : Nat), ∀ (b3_L1 : Int32) (b3_L2 : Int32) (M : zMem), itF (fun _ _ _ => none) (F_X8_add_3 t p0) fuel b3_L1 b3_L2 M = some M9 → zJ p l e rm_X8_add s m args below meth c G shX ad n A 3 (MQ below (zQ G shX ad n M9 none A) args s 0 0 A) 0 0 M 3 [(0, .ref (ad t)), (1, .int b3_L1), (2, .int b3_L2)] [] := by
    intro fuel
    induction fuel with
    | zero => intro b3_L1 b3_L2 M hF; cases hF
    | succ fuel hs3 =>
      intro b3_L1 b3_L2 M hF
      have hF : F_X8_add_3 t p0 (itF (fun _ _ _ => none) (F_X8_add_3 t p0) fuel) b3_L1 b3_L2 M = some M9 := hF
      generalize itF (fun _ _ _ => none) (F_X8_add_3 t p0) fuel = self3 at hs3 hF
      unfold F_X8_add_3 at hF
      refine z_iload_n cx d_X8_add_3 2 rfl ?_
      refine z_if_lt cx 51 d_X8_add_4 (by decide) hF (fun hF => ?_) (fun hF => ?_)
      · exact z_vret cx hr hF d_X8_add_51
      refine z_aload_n cx d_X8_add_7 0 rfl ?_
      refine z_getI cx hT_t fg_Text_19 d_X8_add_8 ?_
      refine z_aload_n cx d_X8_add_11 0 rfl ?_
      refine z_getR cx hT_t fg_Text_9 (t + 1) rfl d_X8_add_12 ?_
      refine z_alenI cx (tfX_9_1 hT_t) za_17 d_X8_add_15 ?_
      refine z_icmp_ge cx 45 d_X8_add_16 (by decide) hF (fun hF => ?_) (fun hF => ?_)
      · exact hb45 self3 hs3 b3_L1 b3_L2 M hF
      refine z_aload_n cx d_X8_add_19 0 rfl ?_
      refine z_getR cx hT_t fg_Text_9 (t + 1) rfl d_X8_add_20 ?_
      refine z_aload_n cx d_X8_add_23 0 rfl ?_
      refine z_getI cx hT_t fg_Text_19 d_X8_add_24 ?_
      refine z_iload_n cx d_X8_add_27 1 rfl ?_
      refine z_iload_n cx d_X8_add_28 2 rfl ?_
      refine z_iushr cx d_X8_add_29 ?_
      refine z_sipush (v := 255) cx d_X8_add_30 ks_255 ?_
      refine z_iand cx d_X8_add_33 ?_
      obtain ⟨hi1, hF⟩ := gin_inv hF
      refine z_iast cx (tfX_9_1 hT_t) za_17 hi1 ((M.1 t 1).toNatClampNeg) rfl d_X8_add_34 ?_
      refine z_nmM hF (fun M2 hF => ?_)
      refine z_aload_n cx d_X8_add_35 0 rfl ?_
      refine z_dup cx d_X8_add_36 rfl ?_
      refine z_getI cx hT_t fg_Text_19 d_X8_add_37 ?_
      refine z_iconst (v := 1) cx d_X8_add_40 ki_1 ?_
      refine z_iadd cx d_X8_add_41 ?_
      refine z_putI cx hT_t fp_Text_19 d_X8_add_42 ?_
      refine z_nmM hF (fun M3 hF => ?_)
      exact hb45 self3 hs3 b3_L1 b3_L2 M3 hF
  unfold F_X8_add at hF
  refine z_bipush (v := 24) cx d_X8_add_0 kb_24 ?_
  refine z_istore_n cx 2 [(2, .int (24 : Int32)), (0, .ref (ad t)), (1, .int p0)] d_X8_add_2 rfl (by decide) rfl ?_
  exact z_lv [1, 2, 0] _ rfl (hL3 zFuel p0 (24 : Int32) M hF)
/-! SunnyPans$Text.open -/
set_option maxRecDepth 100000 in
theorem wd_604 : Cond.methodLink "SunnyPans$Text" 28 Lib.Math.max.name ∈ tbG := tw3 24 rfl rfl
theorem fp_Text_31 : zPutI "SunnyPans$Text" 31 8 9 6 := ⟨zc_8, fg_Text_31, ⟨RX8, TX8, 8, rfl, rfl, by decide +kernel⟩, fun _ _ _ _ _ _ _ => ⟨_, rfl, Nat.le_of_ble_eq_true rfl, rfl⟩⟩
theorem d_X8_open_0 : decode cX8_open 0 = .ok (.aload_n 0, 1) := by decide +kernel
theorem d_X8_open_1 : decode cX8_open 1 = .ok (.iconst 0, 1) := by decide +kernel
theorem d_X8_open_2 : decode cX8_open 2 = .ok (.iload_n 1, 1) := by decide +kernel
theorem d_X8_open_3 : decode cX8_open 3 = .ok (.aload_n 0, 1) := by decide +kernel
theorem d_X8_open_4 : decode cX8_open 4 = .ok (.getfield 9, 3) := by decide +kernel
theorem d_X8_open_7 : decode cX8_open 7 = .ok (.arraylength, 1) := by decide +kernel
theorem d_X8_open_8 : decode cX8_open 8 = .ok (.invokestatic 22, 3) := by decide +kernel
theorem d_X8_open_11 : decode cX8_open 11 = .ok (.invokestatic 28, 3) := by decide +kernel
theorem d_X8_open_14 : decode cX8_open 14 = .ok (.putfield 31, 3) := by decide +kernel
theorem d_X8_open_17 : decode cX8_open 17 = .ok (.aload_n 0, 1) := by decide +kernel
theorem d_X8_open_18 : decode cX8_open 18 = .ok (.iconst 0, 1) := by decide +kernel
theorem d_X8_open_19 : decode cX8_open 19 = .ok (.putfield 34, 3) := by decide +kernel
theorem d_X8_open_22 : decode cX8_open 22 = .ok (.aload_n 0, 1) := by decide +kernel
theorem d_X8_open_23 : decode cX8_open 23 = .ok (.iconst 0, 1) := by decide +kernel
theorem d_X8_open_24 : decode cX8_open 24 = .ok (.putfield 19, 3) := by decide +kernel
theorem d_X8_open_27 : decode cX8_open 27 = .ok (.aload_n 0, 1) := by decide +kernel
theorem d_X8_open_28 : decode cX8_open 28 = .ok (.iconst 0, 1) := by decide +kernel
theorem d_X8_open_29 : decode cX8_open 29 = .ok (.putfield 37, 3) := by decide +kernel
theorem d_X8_open_32 : decode cX8_open 32 = .ok (.aload_n 0, 1) := by decide +kernel
theorem d_X8_open_33 : decode cX8_open 33 = .ok (.iconst (-1), 1) := by decide +kernel
theorem d_X8_open_34 : decode cX8_open 34 = .ok (.putfield 15, 3) := by decide +kernel
theorem d_X8_open_37 : decode cX8_open 37 = .ok (.return_, 1) := by decide +kernel
def F_X8_open (M : zMem) (t : Nat) (p0 : Int32) : Option (zMem) :=
  zl (zI M t 6 (zmax (0 : Int32) (zmin p0 (nI 600)))) fun M1 =>
  zl (zI M1 t 7 (0 : Int32)) fun M2 =>
  zl (zI M2 t 1 (0 : Int32)) fun M3 =>
  zl (zI M3 t 2 (0 : Int32)) fun M4 =>
  zl (zI M4 t 3 (-1 : Int32)) fun M5 =>
  some M5
def rm_X8_open : Room := { frames := 3, cells := 0, slots := 0, locals := 80 }
set_option maxHeartbeats 4000000 in
set_option maxRecDepth 100000 in
theorem c_X8_open (l : Launch) {G : zG} {ad : Nat → Nat} {n : Nat} (hA : zInj ad n) (M : zMem) (t : Nat) (p0 : Int32) (hT_t : zT shX n t 9) {M9 : zMem} (hF : F_X8_open M t p0 = some M9) : zM l yX8_open cX8_open 2 none rm_X8_open G shX ad n M [.ref (ad t), .int p0] none M9 := by
  refine zM_of hA (by decide +kernel) (lv := [(0, .ref (ad t)), (1, .int p0)]) (Nat.le_of_ble_eq_true rfl) rfl (fun p e s m args below meth c A cx hr => ?_)
  unfold F_X8_open at hF
  refine z_aload_n cx d_X8_open_0 0 rfl ?_
  refine z_iconst (v := 0) cx d_X8_open_1 ki_0 ?_
  refine z_iload_n cx d_X8_open_2 1 rfl ?_
  refine z_aload_n cx d_X8_open_3 0 rfl ?_
  refine z_getR cx hT_t fg_Text_9 (t + 1) rfl d_X8_open_4 ?_
  refine z_alenI cx (tfX_9_1 hT_t) za_17 d_X8_open_7 ?_
  refine z_mmin cx ⟨wd_601, wd_602, wd_116, wd_603⟩ ⟨Nat.le_of_ble_eq_true rfl, Nat.le_of_ble_eq_true rfl, Nat.zero_le _, Nat.zero_le _⟩ d_X8_open_8 ?_
  refine z_mmax cx ⟨wd_604, wd_605, wd_116, wd_606⟩ ⟨Nat.le_of_ble_eq_true rfl, Nat.le_of_ble_eq_true rfl, Nat.zero_le _, Nat.zero_le _⟩ d_X8_open_11 ?_
  refine z_putI cx hT_t fp_Text_31 d_X8_open_14 ?_
  refine z_nmM hF (fun M1 hF => ?_)
  refine z_aload_n cx d_X8_open_17 0 rfl ?_
  refine z_iconst (v := 0) cx d_X8_open_18 ki_0 ?_
  refine z_putI cx hT_t fp_Text_34 d_X8_open_19 ?_
  refine z_nmM hF (fun M2 hF => ?_)
  refine z_aload_n cx d_X8_open_22 0 rfl ?_
  refine z_iconst (v := 0) cx d_X8_open_23 ki_0 ?_
  refine z_putI cx hT_t fp_Text_19 d_X8_open_24 ?_
  refine z_nmM hF (fun M3 hF => ?_)
  refine z_aload_n cx d_X8_open_27 0 rfl ?_
  refine z_iconst (v := 0) cx d_X8_open_28 ki_0 ?_
  refine z_putI cx hT_t fp_Text_37 d_X8_open_29 ?_
  refine z_nmM hF (fun M4 hF => ?_)
  refine z_aload_n cx d_X8_open_32 0 rfl ?_
  refine z_iconst (v := -1) cx d_X8_open_33 ki_m1 ?_
  refine z_putI cx hT_t fp_Text_15 d_X8_open_34 ?_
  refine z_nmM hF (fun M5 hF => ?_)
  exact z_vret cx hr hF d_X8_open_37
/-! SunnyPans.feed -/
theorem tfX_10_1 {n k : Nat} (h : zT shX n k 10) : zT shX n (k + 1) 9 := zT_off h (shX_f (by decide) (by decide +kernel)) (by decide) (by decide)
set_option maxRecDepth 100000 in
theorem wd_409 : Cond.fieldLink "SunnyPans" 10 "SunnyPans" "tape" "LSunnyPans$Text;" ∈ tbG := tw2 69 rfl rfl
theorem uw_9 : ∀ w ∈ u_ws RX9 TX9 19, w ∈ tbG := zUW _ [428, 430, 432, 434, 436, 438, 440, 442, 444, 446, 448, 450, 452, 454, 456, 458, 460, 462, 464] (by decide +kernel) (by decide +kernel)
theorem fg_SunnyPans_10 : zGetR "SunnyPans" 10 9 10 0 1 := ⟨RX9, TX9, 19, rfl, by decide, uw_9, wd_409, fun _ _ _ _ _ _ => ⟨_, rfl, rfl⟩⟩
set_option maxRecDepth 100000 in
theorem wd_139 : Cond.fieldLink "SunnyPans" 89 "SunnyPans$Text" "size" "I" ∈ tbG := tw1 39 rfl rfl
theorem fg_SunnyPans_89 : zGetI "SunnyPans" 89 8 9 1 := ⟨RX8, TX8, 8, rfl, by decide, uw_8, wd_139, fun _ _ _ _ _ _ => ⟨_, rfl, rfl⟩⟩
theorem kb_20 : (Int8.ofInt (20)).toInt32 = (20 : Int32) := by decide +kernel
theorem ks_600 : (Int16.ofInt (600)).toInt32 = (600 : Int32) := by decide +kernel
set_option maxRecDepth 100000 in
theorem wd_474 : Cond.code yX8_add cX8_add 3 none ∈ tbG := tw2 134 rfl rfl
set_option maxRecDepth 100000 in
theorem wd_471 : Cond.methodLink "SunnyPans" 93 yX8_add ∈ tbG := tw2 131 rfl rfl
set_option maxRecDepth 100000 in
theorem wd_472 : Cond.instanceMethod yX8_add ∈ tbG := tw2 132 rfl rfl
set_option maxRecDepth 100000 in
theorem wd_473 : Cond.selects "SunnyPans$Text" yX8_add yX8_add ∈ tbG := tw2 133 rfl rfl
theorem cv_SunnyPans_93 : zCV "SunnyPans" 93 "SunnyPans$Text" yX8_add cX8_add 3 none 1 := zCV_of wd_471 wd_472 wd_473 wd_102 wd_474 (by decide +kernel)
theorem d_X9_feed_0 : decode cX9_feed 0 = .ok (.aload_n 0, 1) := by decide +kernel
theorem d_X9_feed_1 : decode cX9_feed 1 = .ok (.getfield 10, 3) := by decide +kernel
theorem d_X9_feed_4 : decode cX9_feed 4 = .ok (.getfield 89, 3) := by decide +kernel
theorem d_X9_feed_7 : decode cX9_feed 7 = .ok (.bipush 20, 2) := by decide +kernel
theorem d_X9_feed_9 : decode cX9_feed 9 = .ok (.iadd, 1) := by decide +kernel
theorem d_X9_feed_10 : decode cX9_feed 10 = .ok (.sipush 600, 3) := by decide +kernel
theorem d_X9_feed_13 : decode cX9_feed 13 = .ok (.if_icmp .le 5, 3) := by decide +kernel
theorem d_X9_feed_16 : decode cX9_feed 16 = .ok (.iconst (-1), 1) := by decide +kernel
theorem d_X9_feed_17 : decode cX9_feed 17 = .ok (.ireturn, 1) := by decide +kernel
theorem d_X9_feed_18 : decode cX9_feed 18 = .ok (.aload_n 0, 1) := by decide +kernel
theorem d_X9_feed_19 : decode cX9_feed 19 = .ok (.getfield 10, 3) := by decide +kernel
theorem d_X9_feed_22 : decode cX9_feed 22 = .ok (.iload_n 1, 1) := by decide +kernel
theorem d_X9_feed_23 : decode cX9_feed 23 = .ok (.invokevirtual 93, 3) := by decide +kernel
theorem d_X9_feed_26 : decode cX9_feed 26 = .ok (.aload_n 0, 1) := by decide +kernel
theorem d_X9_feed_27 : decode cX9_feed 27 = .ok (.getfield 10, 3) := by decide +kernel
theorem d_X9_feed_30 : decode cX9_feed 30 = .ok (.iload_n 2, 1) := by decide +kernel
theorem d_X9_feed_31 : decode cX9_feed 31 = .ok (.invokevirtual 93, 3) := by decide +kernel
theorem d_X9_feed_34 : decode cX9_feed 34 = .ok (.aload_n 0, 1) := by decide +kernel
theorem d_X9_feed_35 : decode cX9_feed 35 = .ok (.getfield 10, 3) := by decide +kernel
theorem d_X9_feed_38 : decode cX9_feed 38 = .ok (.iload_n 3, 1) := by decide +kernel
theorem d_X9_feed_39 : decode cX9_feed 39 = .ok (.invokevirtual 93, 3) := by decide +kernel
theorem d_X9_feed_42 : decode cX9_feed 42 = .ok (.aload_n 0, 1) := by decide +kernel
theorem d_X9_feed_43 : decode cX9_feed 43 = .ok (.getfield 10, 3) := by decide +kernel
theorem d_X9_feed_46 : decode cX9_feed 46 = .ok (.iload 4, 2) := by decide +kernel
theorem d_X9_feed_48 : decode cX9_feed 48 = .ok (.invokevirtual 93, 3) := by decide +kernel
theorem d_X9_feed_51 : decode cX9_feed 51 = .ok (.aload_n 0, 1) := by decide +kernel
theorem d_X9_feed_52 : decode cX9_feed 52 = .ok (.getfield 10, 3) := by decide +kernel
theorem d_X9_feed_55 : decode cX9_feed 55 = .ok (.iload 5, 2) := by decide +kernel
theorem d_X9_feed_57 : decode cX9_feed 57 = .ok (.invokevirtual 93, 3) := by decide +kernel
theorem d_X9_feed_60 : decode cX9_feed 60 = .ok (.aload_n 0, 1) := by decide +kernel
theorem d_X9_feed_61 : decode cX9_feed 61 = .ok (.getfield 10, 3) := by decide +kernel
theorem d_X9_feed_64 : decode cX9_feed 64 = .ok (.getfield 89, 3) := by decide +kernel
theorem d_X9_feed_67 : decode cX9_feed 67 = .ok (.ireturn, 1) := by decide +kernel
def F_X9_feed (M : zMem) (p0 : Int32) (p1 : Int32) (p2 : Int32) (p3 : Int32) (p4 : Int32) : Option (Int32 × zMem) :=
  if ((M.1 1 1) + (20 : Int32)) ≤ (600 : Int32) then
    zbv (F_X8_add M 1 p0) fun M1 =>
    zbv (F_X8_add M1 1 p1) fun M2 =>
    zbv (F_X8_add M2 1 p2) fun M3 =>
    zbv (F_X8_add M3 1 p3) fun M4 =>
    zbv (F_X8_add M4 1 p4) fun M5 =>
    some ((M5.1 1 1), M5)
  else
    some ((-1 : Int32), M)
def rm_X9_feed : Room := { frames := 3, cells := 0, slots := 0, locals := 102 }
set_option maxHeartbeats 4000000 in
set_option maxRecDepth 100000 in
theorem c_X9_feed (l : Launch) {G : zG} {ad : Nat → Nat} {n : Nat} (hA : zInj ad n) (M : zMem) (p0 : Int32) (p1 : Int32) (p2 : Int32) (p3 : Int32) (p4 : Int32) (hT : zT shX n 0 10) {r9 : Int32} {M9 : zMem} (hF : F_X9_feed M p0 p1 p2 p3 p4 = some (r9, M9)) : zM l yX9_feed cX9_feed 6 (some .int) rm_X9_feed G shX ad n M [.ref (ad 0), .int p0, .int p1, .int p2, .int p3, .int p4] (some (.int r9)) M9 := by
  refine zM_of hA (by decide +kernel) (lv := [(0, .ref (ad 0)), (1, .int p0), (2, .int p1), (3, .int p2), (4, .int p3), (5, .int p4)]) (Nat.le_of_ble_eq_true rfl) rfl (fun p e s m args below meth c A cx hr => ?_)
  unfold F_X9_feed at hF
  refine z_aload_n cx d_X9_feed_0 0 rfl ?_
  refine z_getR cx hT fg_SunnyPans_10 1 rfl d_X9_feed_1 ?_
  refine z_getI cx (tfX_10_1 hT) fg_SunnyPans_89 d_X9_feed_4 ?_
  refine z_bipush (v := 20) cx d_X9_feed_7 kb_20 ?_
  refine z_iadd cx d_X9_feed_9 ?_
  refine z_sipush (v := 600) cx d_X9_feed_10 ks_600 ?_
  refine z_icmp_le cx 18 d_X9_feed_13 (by decide) hF (fun hF => ?_) (fun hF => ?_)
  · refine z_aload_n cx d_X9_feed_18 0 rfl ?_
    refine z_getR cx hT fg_SunnyPans_10 1 rfl d_X9_feed_19 ?_
    refine z_iload_n cx d_X9_feed_22 1 rfl ?_
    obtain ⟨M1, hc, hF⟩ := zbv_inv hF
    refine z_callV cx (As := [.int p0]) (rest := []) (c_X8_add l cx.2.2.2.1.1 M 1 p0 (tfX_10_1 hT) hc) (tfX_10_1 hT) zo_9 cv_SunnyPans_93 ⟨rfl, rfl, Nat.le_of_ble_eq_true rfl, Nat.le_of_ble_eq_true rfl⟩ rfl rfl ⟨Nat.zero_le _, Nat.zero_le _⟩ (Nat.le_of_ble_eq_true rfl) d_X9_feed_23 ?_
    refine z_aload_n cx d_X9_feed_26 0 rfl ?_
    refine z_getR cx hT fg_SunnyPans_10 1 rfl d_X9_feed_27 ?_
    refine z_iload_n cx d_X9_feed_30 2 rfl ?_
    obtain ⟨M2, hc, hF⟩ := zbv_inv hF
    refine z_callV cx (As := [.int p1]) (rest := []) (c_X8_add l cx.2.2.2.1.1 M1 1 p1 (tfX_10_1 hT) hc) (tfX_10_1 hT) zo_9 cv_SunnyPans_93 ⟨rfl, rfl, Nat.le_of_ble_eq_true rfl, Nat.le_of_ble_eq_true rfl⟩ rfl rfl ⟨Nat.zero_le _, Nat.zero_le _⟩ (Nat.le_of_ble_eq_true rfl) d_X9_feed_31 ?_
    refine z_aload_n cx d_X9_feed_34 0 rfl ?_
    refine z_getR cx hT fg_SunnyPans_10 1 rfl d_X9_feed_35 ?_
    refine z_iload_n cx d_X9_feed_38 3 rfl ?_
    obtain ⟨M3, hc, hF⟩ := zbv_inv hF
    refine z_callV cx (As := [.int p2]) (rest := []) (c_X8_add l cx.2.2.2.1.1 M2 1 p2 (tfX_10_1 hT) hc) (tfX_10_1 hT) zo_9 cv_SunnyPans_93 ⟨rfl, rfl, Nat.le_of_ble_eq_true rfl, Nat.le_of_ble_eq_true rfl⟩ rfl rfl ⟨Nat.zero_le _, Nat.zero_le _⟩ (Nat.le_of_ble_eq_true rfl) d_X9_feed_39 ?_
    refine z_aload_n cx d_X9_feed_42 0 rfl ?_
    refine z_getR cx hT fg_SunnyPans_10 1 rfl d_X9_feed_43 ?_
    refine z_iload cx d_X9_feed_46 4 rfl ?_
    obtain ⟨M4, hc, hF⟩ := zbv_inv hF
    refine z_callV cx (As := [.int p3]) (rest := []) (c_X8_add l cx.2.2.2.1.1 M3 1 p3 (tfX_10_1 hT) hc) (tfX_10_1 hT) zo_9 cv_SunnyPans_93 ⟨rfl, rfl, Nat.le_of_ble_eq_true rfl, Nat.le_of_ble_eq_true rfl⟩ rfl rfl ⟨Nat.zero_le _, Nat.zero_le _⟩ (Nat.le_of_ble_eq_true rfl) d_X9_feed_48 ?_
    refine z_aload_n cx d_X9_feed_51 0 rfl ?_
    refine z_getR cx hT fg_SunnyPans_10 1 rfl d_X9_feed_52 ?_
    refine z_iload cx d_X9_feed_55 5 rfl ?_
    obtain ⟨M5, hc, hF⟩ := zbv_inv hF
    refine z_callV cx (As := [.int p4]) (rest := []) (c_X8_add l cx.2.2.2.1.1 M4 1 p4 (tfX_10_1 hT) hc) (tfX_10_1 hT) zo_9 cv_SunnyPans_93 ⟨rfl, rfl, Nat.le_of_ble_eq_true rfl, Nat.le_of_ble_eq_true rfl⟩ rfl rfl ⟨Nat.zero_le _, Nat.zero_le _⟩ (Nat.le_of_ble_eq_true rfl) d_X9_feed_57 ?_
    refine z_aload_n cx d_X9_feed_60 0 rfl ?_
    refine z_getR cx hT fg_SunnyPans_10 1 rfl d_X9_feed_61 ?_
    refine z_getI cx (tfX_10_1 hT) fg_SunnyPans_89 d_X9_feed_64 ?_
    exact z_iret cx hr rfl hF d_X9_feed_67
  refine z_iconst (v := -1) cx d_X9_feed_16 ki_m1 ?_
  exact z_iret cx hr rfl hF d_X9_feed_17
/-! SunnyPans.lossOf -/
theorem tfX_10_3 {n k : Nat} (h : zT shX n k 10) : zT shX n (k + 3) 8 := zT_off h (shX_f (by decide) (by decide +kernel)) (by decide) (by decide)
set_option maxRecDepth 100000 in
theorem wd_417 : Cond.fieldLink "SunnyPans" 62 "SunnyPans" "plan" "LSunnyPans$Plan;" ∈ tbG := tw2 77 rfl rfl
theorem fg_SunnyPans_62 : zGetD "SunnyPans" 62 9 10 8 := ⟨RX9, TX9, 19, rfl, by decide, uw_9, wd_417, fun _ _ _ _ _ _ => ⟨_, rfl, rfl⟩⟩
theorem td_6 {n k : Nat} (h0 : zT shX n 0 10) (h : (shX k == 6) = true) : zT shX n k 6 := zT_g h (shX_b (by decide) (by decide +kernel) (by decide) h0.2.2) (by decide)
set_option maxRecDepth 100000 in
theorem wd_325 : Cond.fieldLink "SunnyPans" 127 "SunnyPans$Plan" "hours" "I" ∈ tbG := tw1 225 rfl rfl
theorem fg_SunnyPans_127 : zGetI "SunnyPans" 127 5 6 2 := ⟨RX5, TX5, 9, rfl, by decide, uw_5, wd_325, fun _ _ _ _ _ _ => ⟨_, rfl, rfl⟩⟩
set_option maxRecDepth 100000 in
theorem wd_935 : Cond.methodLink "SunnyPans" 330 yX4_shadeAt ∈ tbG := tw4 115 rfl rfl
theorem cv_SunnyPans_330 : zCV "SunnyPans" 330 "SunnyPans$Pans" yX4_shadeAt cX4_shadeAt 2 (some .long) 1 := zCV_of wd_935 wd_936 wd_937 wd_104 wd_938 (by decide +kernel)
set_option maxRecDepth 100000 in
theorem wd_939 : Cond.methodLink "SunnyPans" 231 yX9_has ∈ tbG := tw4 119 rfl rfl
theorem cs_SunnyPans_231 : zCS "SunnyPans" 231 yX9_has cX9_has 3 (some .boolean) 2 := zCS_of wd_939 wd_736 wd_101 wd_737 (by decide +kernel)
set_option maxRecDepth 100000 in
theorem wd_333 : Cond.fieldLink "SunnyPans" 241 "SunnyPans$Plan" "reach" "[I" ∈ tbG := tw1 233 rfl rfl
theorem fg_SunnyPans_241 : zGetR "SunnyPans" 241 5 6 5 2 := ⟨RX5, TX5, 9, rfl, by decide, uw_5, wd_333, fun _ _ _ _ _ _ => ⟨_, rfl, rfl⟩⟩
set_option maxRecDepth 100000 in
theorem wd_419 : Cond.fieldLink "SunnyPans" 72 "SunnyPans" "rule" "LSunnyPans$Law;" ∈ tbG := tw2 79 rfl rfl
theorem fg_SunnyPans_72 : zGetD "SunnyPans" 72 9 10 10 := ⟨RX9, TX9, 19, rfl, by decide, uw_9, wd_419, fun _ _ _ _ _ _ => ⟨_, rfl, rfl⟩⟩
theorem td_4 {n k : Nat} (h0 : zT shX n 0 10) (h : (shX k == 4) = true) : zT shX n k 4 := zT_g h (shX_b (by decide) (by decide +kernel) (by decide) h0.2.2) (by decide)
set_option maxRecDepth 100000 in
theorem wd_186 : Cond.fieldLink "SunnyPans" 181 "SunnyPans$Pans" "salt" "[I" ∈ tbG := tw1 86 rfl rfl
theorem fg_SunnyPans_181 : zGetR "SunnyPans" 181 4 5 1 2 := ⟨RX4, TX4, 7, rfl, by decide, uw_4, wd_186, fun _ _ _ _ _ _ => ⟨_, rfl, rfl⟩⟩
set_option maxRecDepth 100000 in
theorem wd_331 : Cond.fieldLink "SunnyPans" 238 "SunnyPans$Plan" "side" "[I" ∈ tbG := tw1 231 rfl rfl
theorem fg_SunnyPans_238 : zGetR "SunnyPans" 238 5 6 4 1 := ⟨RX5, TX5, 9, rfl, by decide, uw_5, wd_331, fun _ _ _ _ _ _ => ⟨_, rfl, rfl⟩⟩
set_option maxRecDepth 100000 in
theorem wd_943 : Cond.code yX3_rate cX3_rate 11 (some .int) ∈ tbG := tw4 123 rfl rfl
set_option maxRecDepth 100000 in
theorem wd_940 : Cond.methodLink "SunnyPans" 251 yX3_rate ∈ tbG := tw4 120 rfl rfl
set_option maxRecDepth 100000 in
theorem wd_941 : Cond.instanceMethod yX3_rate ∈ tbG := tw4 121 rfl rfl
set_option maxRecDepth 100000 in
theorem wd_942 : Cond.selects "SunnyPans$Law" yX3_rate yX3_rate ∈ tbG := tw4 122 rfl rfl
theorem cv_SunnyPans_251 : zCV "SunnyPans" 251 "SunnyPans$Law" yX3_rate cX3_rate 11 (some .int) 7 := zCV_of wd_940 wd_941 wd_942 wd_109 wd_943 (by decide +kernel)
set_option maxRecDepth 100000 in
theorem wd_949 : Cond.methodLink "SunnyPans" 290 Lib.Math.min.name ∈ tbG := tw4 129 rfl rfl
theorem d_X9_lossOf_0 : decode cX9_lossOf 0 = .ok (.iload_n 3, 1) := by decide +kernel
theorem d_X9_lossOf_1 : decode cX9_lossOf 1 = .ok (.ifCond .eq 33, 3) := by decide +kernel
theorem d_X9_lossOf_4 : decode cX9_lossOf 4 = .ok (.iload 4, 2) := by decide +kernel
theorem d_X9_lossOf_6 : decode cX9_lossOf 6 = .ok (.ifCond .lt 28, 3) := by decide +kernel
theorem d_X9_lossOf_9 : decode cX9_lossOf 9 = .ok (.iload 4, 2) := by decide +kernel
theorem d_X9_lossOf_11 : decode cX9_lossOf 11 = .ok (.aload_n 0, 1) := by decide +kernel
theorem d_X9_lossOf_12 : decode cX9_lossOf 12 = .ok (.getfield 62, 3) := by decide +kernel
theorem d_X9_lossOf_15 : decode cX9_lossOf 15 = .ok (.getfield 127, 3) := by decide +kernel
theorem d_X9_lossOf_18 : decode cX9_lossOf 18 = .ok (.if_icmp .ge 16, 3) := by decide +kernel
theorem d_X9_lossOf_21 : decode cX9_lossOf 21 = .ok (.aload_n 1, 1) := by decide +kernel
theorem d_X9_lossOf_22 : decode cX9_lossOf 22 = .ok (.iload 4, 2) := by decide +kernel
theorem d_X9_lossOf_24 : decode cX9_lossOf 24 = .ok (.invokevirtual 330, 3) := by decide +kernel
theorem d_X9_lossOf_27 : decode cX9_lossOf 27 = .ok (.iload_n 2, 1) := by decide +kernel
theorem d_X9_lossOf_28 : decode cX9_lossOf 28 = .ok (.invokestatic 231, 3) := by decide +kernel
theorem d_X9_lossOf_31 : decode cX9_lossOf 31 = .ok (.ifCond .eq 5, 3) := by decide +kernel
theorem d_X9_lossOf_34 : decode cX9_lossOf 34 = .ok (.iconst 0, 1) := by decide +kernel
theorem d_X9_lossOf_35 : decode cX9_lossOf 35 = .ok (.ireturn, 1) := by decide +kernel
theorem d_X9_lossOf_36 : decode cX9_lossOf 36 = .ok (.aload_n 0, 1) := by decide +kernel
theorem d_X9_lossOf_37 : decode cX9_lossOf 37 = .ok (.getfield 62, 3) := by decide +kernel
theorem d_X9_lossOf_40 : decode cX9_lossOf 40 = .ok (.getfield 241, 3) := by decide +kernel
theorem d_X9_lossOf_43 : decode cX9_lossOf 43 = .ok (.iload 4, 2) := by decide +kernel
theorem d_X9_lossOf_45 : decode cX9_lossOf 45 = .ok (.iaload, 1) := by decide +kernel
theorem d_X9_lossOf_46 : decode cX9_lossOf 46 = .ok (.istore 6, 2) := by decide +kernel
theorem d_X9_lossOf_48 : decode cX9_lossOf 48 = .ok (.iload_n 3, 1) := by decide +kernel
theorem d_X9_lossOf_49 : decode cX9_lossOf 49 = .ok (.aload_n 0, 1) := by decide +kernel
theorem d_X9_lossOf_50 : decode cX9_lossOf 50 = .ok (.getfield 72, 3) := by decide +kernel
theorem d_X9_lossOf_53 : decode cX9_lossOf 53 = .ok (.iload_n 3, 1) := by decide +kernel
theorem d_X9_lossOf_54 : decode cX9_lossOf 54 = .ok (.aload_n 1, 1) := by decide +kernel
theorem d_X9_lossOf_55 : decode cX9_lossOf 55 = .ok (.getfield 181, 3) := by decide +kernel
theorem d_X9_lossOf_58 : decode cX9_lossOf 58 = .ok (.iload_n 2, 1) := by decide +kernel
theorem d_X9_lossOf_59 : decode cX9_lossOf 59 = .ok (.iaload, 1) := by decide +kernel
theorem d_X9_lossOf_60 : decode cX9_lossOf 60 = .ok (.iload 6, 2) := by decide +kernel
theorem d_X9_lossOf_62 : decode cX9_lossOf 62 = .ok (.aload_n 0, 1) := by decide +kernel
theorem d_X9_lossOf_63 : decode cX9_lossOf 63 = .ok (.getfield 62, 3) := by decide +kernel
theorem d_X9_lossOf_66 : decode cX9_lossOf 66 = .ok (.getfield 238, 3) := by decide +kernel
theorem d_X9_lossOf_69 : decode cX9_lossOf 69 = .ok (.iload 4, 2) := by decide +kernel
theorem d_X9_lossOf_71 : decode cX9_lossOf 71 = .ok (.iaload, 1) := by decide +kernel
theorem d_X9_lossOf_72 : decode cX9_lossOf 72 = .ok (.iload 4, 2) := by decide +kernel
theorem d_X9_lossOf_74 : decode cX9_lossOf 74 = .ok (.iload 5, 2) := by decide +kernel
theorem d_X9_lossOf_76 : decode cX9_lossOf 76 = .ok (.iload_n 2, 1) := by decide +kernel
theorem d_X9_lossOf_77 : decode cX9_lossOf 77 = .ok (.invokevirtual 251, 3) := by decide +kernel
theorem d_X9_lossOf_80 : decode cX9_lossOf 80 = .ok (.invokestatic 290, 3) := by decide +kernel
theorem d_X9_lossOf_83 : decode cX9_lossOf 83 = .ok (.ireturn, 1) := by decide +kernel
def F_X9_lossOf (M : zMem) (p0 : Nat) (p1 : Int32) (p2 : Int32) (p3 : Int32) (p4 : Int32) : Option (Int32 × zMem) :=
  if p2 = 0 then
    some ((0 : Int32), M)
  else
    if p3 < 0 then
      some ((0 : Int32), M)
    else
      gd (shX (M.2.2 0 8) == 6) <|
      if (M.1 (M.2.2 0 8) 2) ≤ p3 then
        some ((0 : Int32), M)
      else
        zb (F_X4_shadeAt M p0 p3) fun v3 M2 =>
        zb (F_X9_has M2 v3 p1) fun v5 M4 =>
        if v5 = 0 then
          gd (shX (M4.2.2 0 8) == 6) <|
          gin p3 10 <|
          zl (M4.1 ((M4.2.2 0 8) + 2) p3.toNatClampNeg) fun v8 =>
          gd (shX (M4.2.2 0 10) == 4) <|
          gin p1 64 <|
          zb (F_X3_rate M4 (M4.2.2 0 10) p2 (M4.1 (p0 + 2) p1.toNatClampNeg) v8 (M4.1 ((M4.2.2 0 8) + 1) p3.toNatClampNeg) p3 p4 p1) fun v12 M11 =>
          some ((zmin p2 v12), M11)
        else
          some ((0 : Int32), M4)
def rm_X9_lossOf : Room := { frames := 5, cells := 0, slots := 0, locals := 132 }
set_option maxHeartbeats 4000000 in
set_option maxRecDepth 100000 in
theorem c_X9_lossOf (l : Launch) {G : zG} {ad : Nat → Nat} {n : Nat} (hA : zInj ad n) (M : zMem) (p0 : Nat) (p1 : Int32) (p2 : Int32) (p3 : Int32) (p4 : Int32) (hT : zT shX n 0 10) (hT_p0 : zT shX n p0 5) {r9 : Int32} {M9 : zMem} (hF : F_X9_lossOf M p0 p1 p2 p3 p4 = some (r9, M9)) : zM l yX9_lossOf cX9_lossOf 7 (some .int) rm_X9_lossOf G shX ad n M [.ref (ad 0), .ref (ad p0), .int p1, .int p2, .int p3, .int p4] (some (.int r9)) M9 := by
  refine zM_of hA (by decide +kernel) (lv := [(0, .ref (ad 0)), (1, .ref (ad p0)), (2, .int p1), (3, .int p2), (4, .int p3), (5, .int p4)]) (Nat.le_of_ble_eq_true rfl) rfl (fun p e s m args below meth c A cx hr => ?_)
  unfold F_X9_lossOf at hF
  refine z_iload_n cx d_X9_lossOf_0 3 rfl ?_
  refine z_if_eq cx 34 d_X9_lossOf_1 (by decide) hF (fun hF => ?_) (fun hF => ?_)
  · refine z_iconst (v := 0) cx d_X9_lossOf_34 ki_0 ?_
    exact z_iret cx hr rfl hF d_X9_lossOf_35
  refine z_iload cx d_X9_lossOf_4 4 rfl ?_
  refine z_if_lt cx 34 d_X9_lossOf_6 (by decide) hF (fun hF => ?_) (fun hF => ?_)
  · refine z_iconst (v := 0) cx d_X9_lossOf_34 ki_0 ?_
    exact z_iret cx hr rfl hF d_X9_lossOf_35
  refine z_iload cx d_X9_lossOf_9 4 rfl ?_
  refine z_aload_n cx d_X9_lossOf_11 0 rfl ?_
  obtain ⟨hg1, hF⟩ := gd_inv hF
  refine z_getD cx hT fg_SunnyPans_62 d_X9_lossOf_12 ?_
  refine z_getI cx (td_6 hT hg1) fg_SunnyPans_127 d_X9_lossOf_15 ?_
  refine z_icmp_ge cx 34 d_X9_lossOf_18 (by decide) hF (fun hF => ?_) (fun hF => ?_)
  · refine z_iconst (v := 0) cx d_X9_lossOf_34 ki_0 ?_
    exact z_iret cx hr rfl hF d_X9_lossOf_35
  refine z_aload_n cx d_X9_lossOf_21 1 rfl ?_
  refine z_iload cx d_X9_lossOf_22 4 rfl ?_
  obtain ⟨v3, M2, hc, hF⟩ := zb_inv hF
  refine z_callV cx (As := [.int p3]) (rest := []) (c_X4_shadeAt l cx.2.2.2.1.1 M p0 p3 hT_p0 hc) hT_p0 zo_5 cv_SunnyPans_330 ⟨rfl, rfl, Nat.le_of_ble_eq_true rfl, Nat.le_of_ble_eq_true rfl⟩ rfl rfl ⟨Nat.zero_le _, Nat.zero_le _⟩ (Nat.le_of_ble_eq_true rfl) d_X9_lossOf_24 ?_
  refine z_iload_n cx d_X9_lossOf_27 2 rfl ?_
  obtain ⟨v5, M4, hc, hF⟩ := zb_inv hF
  refine z_callS cx (As := [.long v3, .int p1]) (rest := []) (c_X9_has l cx.2.2.2.1.1 M2 v3 p1  hc) cs_SunnyPans_231 ⟨rfl, rfl, Nat.le_of_ble_eq_true rfl, Nat.le_of_ble_eq_true rfl⟩ rfl rfl ⟨Nat.zero_le _, Nat.zero_le _⟩ (Nat.le_of_ble_eq_true rfl) d_X9_lossOf_28 ?_
  refine z_if_eq cx 36 d_X9_lossOf_31 (by decide) hF (fun hF => ?_) (fun hF => ?_)
  · refine z_aload_n cx d_X9_lossOf_36 0 rfl ?_
    obtain ⟨hg6, hF⟩ := gd_inv hF
    refine z_getD cx hT fg_SunnyPans_62 d_X9_lossOf_37 ?_
    refine z_getR cx (td_6 hT hg6) fg_SunnyPans_241 ((M4.2.2 0 8) + 2) rfl d_X9_lossOf_40 ?_
    refine z_iload cx d_X9_lossOf_43 4 rfl ?_
    obtain ⟨hi7, hF⟩ := gin_inv hF
    refine z_iald cx (tfX_6_2 (td_6 hT hg6)) za_25 hi7 p3.toNatClampNeg rfl d_X9_lossOf_45 ?_
    refine z_nm hF (fun v8 hF => ?_)
    refine z_istore cx 6 [(6, .int v8), (0, .ref (ad 0)), (1, .ref (ad p0)), (2, .int p1), (3, .int p2), (4, .int p3), (5, .int p4)] d_X9_lossOf_46 (by decide) rfl ?_
    refine z_iload_n cx d_X9_lossOf_48 4 rfl ?_
    refine z_aload_n cx d_X9_lossOf_49 1 rfl ?_
    obtain ⟨hg9, hF⟩ := gd_inv hF
    refine z_getD cx hT fg_SunnyPans_72 d_X9_lossOf_50 ?_
    refine z_iload_n cx d_X9_lossOf_53 4 rfl ?_
    refine z_aload_n cx d_X9_lossOf_54 2 rfl ?_
    refine z_getR cx hT_p0 fg_SunnyPans_181 (p0 + 2) rfl d_X9_lossOf_55 ?_
    refine z_iload_n cx d_X9_lossOf_58 3 rfl ?_
    obtain ⟨hi10, hF⟩ := gin_inv hF
    refine z_iald cx (tfX_5_2 hT_p0) za_16 hi10 p1.toNatClampNeg rfl d_X9_lossOf_59 ?_
    refine z_iload cx d_X9_lossOf_60 0 rfl ?_
    refine z_aload_n cx d_X9_lossOf_62 1 rfl ?_
    refine z_getD cx hT fg_SunnyPans_62 d_X9_lossOf_63 ?_
    refine z_getR cx (td_6 hT hg6) fg_SunnyPans_238 ((M4.2.2 0 8) + 1) rfl d_X9_lossOf_66 ?_
    refine z_iload cx d_X9_lossOf_69 5 rfl ?_
    refine z_iald cx (tfX_6_1 (td_6 hT hg6)) za_25 hi7 p3.toNatClampNeg rfl d_X9_lossOf_71 ?_
    refine z_iload cx d_X9_lossOf_72 5 rfl ?_
    refine z_iload cx d_X9_lossOf_74 6 rfl ?_
    refine z_iload_n cx d_X9_lossOf_76 3 rfl ?_
    obtain ⟨v12, M11, hc, hF⟩ := zb_inv hF
    refine z_callV cx (As := [.int p2, .int (M4.1 (p0 + 2) p1.toNatClampNeg), .int v8, .int (M4.1 ((M4.2.2 0 8) + 1) p3.toNatClampNeg), .int p3, .int p4, .int p1]) (rest := [.int p2]) (c_X3_rate l cx.2.2.2.1.1 M4 (M4.2.2 0 10) p2 (M4.1 (p0 + 2) p1.toNatClampNeg) v8 (M4.1 ((M4.2.2 0 8) + 1) p3.toNatClampNeg) p3 p4 p1 (td_4 hT hg9) hc) (td_4 hT hg9) zo_4 cv_SunnyPans_251 ⟨rfl, rfl, Nat.le_of_ble_eq_true rfl, Nat.le_of_ble_eq_true rfl⟩ rfl rfl ⟨Nat.zero_le _, Nat.zero_le _⟩ (Nat.le_of_ble_eq_true rfl) d_X9_lossOf_77 ?_
    refine z_mmin cx ⟨wd_949, wd_602, wd_116, wd_603⟩ ⟨Nat.le_of_ble_eq_true rfl, Nat.le_of_ble_eq_true rfl, Nat.zero_le _, Nat.zero_le _⟩ d_X9_lossOf_80 ?_
    exact z_iret cx hr rfl hF d_X9_lossOf_83
  refine z_iconst (v := 0) cx d_X9_lossOf_34 ki_0 ?_
  exact z_iret cx hr rfl hF d_X9_lossOf_35
/-! SunnyPans.passHour -/
set_option maxRecDepth 100000 in
theorem wd_195 : Cond.fieldLink "SunnyPans" 171 "SunnyPans$Pans" "next" "I" ∈ tbG := tw1 95 rfl rfl
theorem fg_SunnyPans_171 : zGetI "SunnyPans" 171 4 5 5 := ⟨RX4, TX4, 7, rfl, by decide, uw_4, wd_195, fun _ _ _ _ _ _ => ⟨_, rfl, rfl⟩⟩
theorem fp_SunnyPans_171 : zPutI "SunnyPans" 171 4 5 5 := ⟨zc_4, fg_SunnyPans_171, ⟨RX4, TX4, 7, rfl, rfl, by decide +kernel⟩, fun _ _ _ _ _ _ _ => ⟨_, rfl, Nat.le_of_ble_eq_true rfl, rfl⟩⟩
set_option maxRecDepth 100000 in
theorem wd_193 : Cond.fieldLink "SunnyPans" 168 "SunnyPans$Pans" "day" "I" ∈ tbG := tw1 93 rfl rfl
theorem fg_SunnyPans_168 : zGetI "SunnyPans" 168 4 5 4 := ⟨RX4, TX4, 7, rfl, by decide, uw_4, wd_193, fun _ _ _ _ _ _ => ⟨_, rfl, rfl⟩⟩
theorem fp_SunnyPans_168 : zPutI "SunnyPans" 168 4 5 4 := ⟨zc_4, fg_SunnyPans_168, ⟨RX4, TX4, 7, rfl, rfl, by decide +kernel⟩, fun _ _ _ _ _ _ _ => ⟨_, rfl, Nat.le_of_ble_eq_true rfl, rfl⟩⟩
set_option maxRecDepth 100000 in
theorem wd_184 : Cond.fieldLink "SunnyPans" 174 "SunnyPans$Pans" "brine" "[I" ∈ tbG := tw1 84 rfl rfl
theorem fg_SunnyPans_174 : zGetR "SunnyPans" 174 4 5 0 1 := ⟨RX4, TX4, 7, rfl, by decide, uw_4, wd_184, fun _ _ _ _ _ _ => ⟨_, rfl, rfl⟩⟩
set_option maxRecDepth 100000 in
theorem wd_934 : Cond.code yX9_lossOf cX9_lossOf 7 (some .int) ∈ tbG := tw4 114 rfl rfl
set_option maxRecDepth 100000 in
theorem wd_931 : Cond.methodLink "SunnyPans" 326 yX9_lossOf ∈ tbG := tw4 111 rfl rfl
set_option maxRecDepth 100000 in
theorem wd_933 : Cond.instanceMethod yX9_lossOf ∈ tbG := tw4 113 rfl rfl
theorem wd_22 : Cond.selects "SunnyPans" yX9_lossOf yX9_lossOf ∈ tbG := tw 22 (by decide +kernel) rfl
theorem cv_SunnyPans_326 : zCV "SunnyPans" 326 "SunnyPans" yX9_lossOf cX9_lossOf 7 (some .int) 5 := zCV_of wd_931 wd_933 wd_22 wd_101 wd_934 (by decide +kernel)
theorem zo_10 : zObj "SunnyPans" 10 := ⟨9, (RX9, TX9, 19), rfl, rfl, fun _ _ _ _ _ _ => ⟨_, rfl⟩⟩
theorem d_X9_passHour_0 : decode cX9_passHour 0 = .ok (.iconst 0, 1) := by decide +kernel
theorem d_X9_passHour_1 : decode cX9_passHour 1 = .ok (.istore_n 2, 1) := by decide +kernel
theorem d_X9_passHour_2 : decode cX9_passHour 2 = .ok (.iload_n 2, 1) := by decide +kernel
theorem d_X9_passHour_3 : decode cX9_passHour 3 = .ok (.bipush 64, 2) := by decide +kernel
theorem d_X9_passHour_5 : decode cX9_passHour 5 = .ok (.if_icmp .ge 38, 3) := by decide +kernel
theorem d_X9_passHour_8 : decode cX9_passHour 8 = .ok (.aload_n 1, 1) := by decide +kernel
theorem d_X9_passHour_9 : decode cX9_passHour 9 = .ok (.getfield 174, 3) := by decide +kernel
theorem d_X9_passHour_12 : decode cX9_passHour 12 = .ok (.iload_n 2, 1) := by decide +kernel
theorem d_X9_passHour_13 : decode cX9_passHour 13 = .ok (.dup2, 1) := by decide +kernel
theorem d_X9_passHour_14 : decode cX9_passHour 14 = .ok (.iaload, 1) := by decide +kernel
theorem d_X9_passHour_15 : decode cX9_passHour 15 = .ok (.aload_n 0, 1) := by decide +kernel
theorem d_X9_passHour_16 : decode cX9_passHour 16 = .ok (.aload_n 1, 1) := by decide +kernel
theorem d_X9_passHour_17 : decode cX9_passHour 17 = .ok (.iload_n 2, 1) := by decide +kernel
theorem d_X9_passHour_18 : decode cX9_passHour 18 = .ok (.aload_n 1, 1) := by decide +kernel
theorem d_X9_passHour_19 : decode cX9_passHour 19 = .ok (.getfield 174, 3) := by decide +kernel
theorem d_X9_passHour_22 : decode cX9_passHour 22 = .ok (.iload_n 2, 1) := by decide +kernel
theorem d_X9_passHour_23 : decode cX9_passHour 23 = .ok (.iaload, 1) := by decide +kernel
theorem d_X9_passHour_24 : decode cX9_passHour 24 = .ok (.aload_n 1, 1) := by decide +kernel
theorem d_X9_passHour_25 : decode cX9_passHour 25 = .ok (.getfield 171, 3) := by decide +kernel
theorem d_X9_passHour_28 : decode cX9_passHour 28 = .ok (.aload_n 1, 1) := by decide +kernel
theorem d_X9_passHour_29 : decode cX9_passHour 29 = .ok (.getfield 168, 3) := by decide +kernel
theorem d_X9_passHour_32 : decode cX9_passHour 32 = .ok (.invokevirtual 326, 3) := by decide +kernel
theorem d_X9_passHour_35 : decode cX9_passHour 35 = .ok (.isub, 1) := by decide +kernel
theorem d_X9_passHour_36 : decode cX9_passHour 36 = .ok (.iastore, 1) := by decide +kernel
theorem d_X9_passHour_37 : decode cX9_passHour 37 = .ok (.iinc 2 1, 3) := by decide +kernel
theorem d_X9_passHour_40 : decode cX9_passHour 40 = .ok (.goto (-38), 3) := by decide +kernel
theorem d_X9_passHour_43 : decode cX9_passHour 43 = .ok (.aload_n 1, 1) := by decide +kernel
theorem d_X9_passHour_44 : decode cX9_passHour 44 = .ok (.dup, 1) := by decide +kernel
theorem d_X9_passHour_45 : decode cX9_passHour 45 = .ok (.getfield 171, 3) := by decide +kernel
theorem d_X9_passHour_48 : decode cX9_passHour 48 = .ok (.iconst 1, 1) := by decide +kernel
theorem d_X9_passHour_49 : decode cX9_passHour 49 = .ok (.iadd, 1) := by decide +kernel
theorem d_X9_passHour_50 : decode cX9_passHour 50 = .ok (.putfield 171, 3) := by decide +kernel
theorem d_X9_passHour_53 : decode cX9_passHour 53 = .ok (.aload_n 1, 1) := by decide +kernel
theorem d_X9_passHour_54 : decode cX9_passHour 54 = .ok (.getfield 171, 3) := by decide +kernel
theorem d_X9_passHour_57 : decode cX9_passHour 57 = .ok (.aload_n 0, 1) := by decide +kernel
theorem d_X9_passHour_58 : decode cX9_passHour 58 = .ok (.getfield 62, 3) := by decide +kernel
theorem d_X9_passHour_61 : decode cX9_passHour 61 = .ok (.getfield 127, 3) := by decide +kernel
theorem d_X9_passHour_64 : decode cX9_passHour 64 = .ok (.if_icmp .lt 18, 3) := by decide +kernel
theorem d_X9_passHour_67 : decode cX9_passHour 67 = .ok (.aload_n 1, 1) := by decide +kernel
theorem d_X9_passHour_68 : decode cX9_passHour 68 = .ok (.iconst 0, 1) := by decide +kernel
theorem d_X9_passHour_69 : decode cX9_passHour 69 = .ok (.putfield 171, 3) := by decide +kernel
theorem d_X9_passHour_72 : decode cX9_passHour 72 = .ok (.aload_n 1, 1) := by decide +kernel
theorem d_X9_passHour_73 : decode cX9_passHour 73 = .ok (.dup, 1) := by decide +kernel
theorem d_X9_passHour_74 : decode cX9_passHour 74 = .ok (.getfield 168, 3) := by decide +kernel
theorem d_X9_passHour_77 : decode cX9_passHour 77 = .ok (.iconst 1, 1) := by decide +kernel
theorem d_X9_passHour_78 : decode cX9_passHour 78 = .ok (.iadd, 1) := by decide +kernel
theorem d_X9_passHour_79 : decode cX9_passHour 79 = .ok (.putfield 168, 3) := by decide +kernel
theorem d_X9_passHour_82 : decode cX9_passHour 82 = .ok (.return_, 1) := by decide +kernel
def F_X9_passHour_2 (p0 : Nat) (self2 : Int32 → zMem → Option (zMem)) (b2_L2 : Int32) (M : zMem) : Option (zMem) :=
  if (64 : Int32) ≤ b2_L2 then
    zl (zI M p0 5 ((M.1 p0 5) + (1 : Int32))) fun M1 =>
    gd (shX (M1.2.2 0 8) == 6) <|
    if (M1.1 p0 5) < (M1.1 (M1.2.2 0 8) 2) then
      some M1
    else
      zl (zI M1 p0 5 (0 : Int32)) fun M3 =>
      zl (zI M3 p0 4 ((M3.1 p0 4) + (1 : Int32))) fun M4 =>
      some M4
  else
    gin b2_L2 64 <|
    zb (F_X9_lossOf M p0 b2_L2 (M.1 (p0 + 1) b2_L2.toNatClampNeg) (M.1 p0 5) (M.1 p0 4)) fun v7 M6 =>
    zl (zI M6 (p0 + 1) b2_L2.toNatClampNeg ((M.1 (p0 + 1) b2_L2.toNatClampNeg) - v7)) fun M8 =>
    self2 (b2_L2 + 1) M8
def F_X9_passHour (M : zMem) (p0 : Nat) : Option (zMem) :=
  itF (fun _ _ => none) (F_X9_passHour_2 p0) zFuel (0 : Int32) M
def rm_X9_passHour : Room := { frames := 6, cells := 0, slots := 0, locals := 158 }
set_option maxHeartbeats 4000000 in
set_option maxRecDepth 100000 in
theorem c_X9_passHour (l : Launch) {G : zG} {ad : Nat → Nat} {n : Nat} (hA : zInj ad n) (M : zMem) (p0 : Nat) (hT : zT shX n 0 10) (hT_p0 : zT shX n p0 5) {M9 : zMem} (hF : F_X9_passHour M p0 = some M9) : zM l yX9_passHour cX9_passHour 3 none rm_X9_passHour G shX ad n M [.ref (ad 0), .ref (ad p0)] none M9 := by
  refine zM_of hA (by decide +kernel) (lv := [(0, .ref (ad 0)), (1, .ref (ad p0))]) (Nat.le_of_ble_eq_true rfl) rfl (fun p e s m args below meth c A cx hr => ?_)
  have hL2 : ∀ (fuel : Nat), ∀ (b2_L2 : Int32) (M : zMem), itF (fun _ _ => none) (F_X9_passHour_2 p0) fuel b2_L2 M = some M9 → zJ p l e rm_X9_passHour s m args below meth c G shX ad n A 3 (MQ below (zQ G shX ad n M9 none A) args s 0 0 A) 0 0 M 2 [(0, .ref (ad 0)), (1, .ref (ad p0)), (2, .int b2_L2)] [] := by
    intro fuel
    induction fuel with
    | zero => intro b2_L2 M hF; cases hF
    | succ fuel hs2 =>
      intro b2_L2 M hF
      have hF : F_X9_passHour_2 p0 (itF (fun _ _ => none) (F_X9_passHour_2 p0) fuel) b2_L2 M = some M9 := hF
      generalize itF (fun _ _ => none) (F_X9_passHour_2 p0) fuel = self2 at hs2 hF
      unfold F_X9_passHour_2 at hF
      refine z_iload_n cx d_X9_passHour_2 2 rfl ?_
      refine z_bipush (v := 64) cx d_X9_passHour_3 kb_64 ?_
      refine z_icmp_ge cx 43 d_X9_passHour_5 (by decide) hF (fun hF => ?_) (fun hF => ?_)
      · refine z_aload_n cx d_X9_passHour_43 1 rfl ?_
        refine z_dup cx d_X9_passHour_44 rfl ?_
        refine z_getI cx hT_p0 fg_SunnyPans_171 d_X9_passHour_45 ?_
        refine z_iconst (v := 1) cx d_X9_passHour_48 ki_1 ?_
        refine z_iadd cx d_X9_passHour_49 ?_
        refine z_putI cx hT_p0 fp_SunnyPans_171 d_X9_passHour_50 ?_
        refine z_nmM hF (fun M1 hF => ?_)
        refine z_aload_n cx d_X9_passHour_53 1 rfl ?_
        refine z_getI cx hT_p0 fg_SunnyPans_171 d_X9_passHour_54 ?_
        refine z_aload_n cx d_X9_passHour_57 0 rfl ?_
        obtain ⟨hg2, hF⟩ := gd_inv hF
        refine z_getD cx hT fg_SunnyPans_62 d_X9_passHour_58 ?_
        refine z_getI cx (td_6 hT hg2) fg_SunnyPans_127 d_X9_passHour_61 ?_
        refine z_icmp_lt cx 82 d_X9_passHour_64 (by decide) hF (fun hF => ?_) (fun hF => ?_)
        · exact z_vret cx hr hF d_X9_passHour_82
        refine z_aload_n cx d_X9_passHour_67 1 rfl ?_
        refine z_iconst (v := 0) cx d_X9_passHour_68 ki_0 ?_
        refine z_putI cx hT_p0 fp_SunnyPans_171 d_X9_passHour_69 ?_
        refine z_nmM hF (fun M3 hF => ?_)
        refine z_aload_n cx d_X9_passHour_72 1 rfl ?_
        refine z_dup cx d_X9_passHour_73 rfl ?_
        refine z_getI cx hT_p0 fg_SunnyPans_168 d_X9_passHour_74 ?_
        refine z_iconst (v := 1) cx d_X9_passHour_77 ki_1 ?_
        refine z_iadd cx d_X9_passHour_78 ?_
        refine z_putI cx hT_p0 fp_SunnyPans_168 d_X9_passHour_79 ?_
        refine z_nmM hF (fun M4 hF => ?_)
        exact z_vret cx hr hF d_X9_passHour_82
      refine z_aload_n cx d_X9_passHour_8 1 rfl ?_
      refine z_getR cx hT_p0 fg_SunnyPans_174 (p0 + 1) rfl d_X9_passHour_9 ?_
      refine z_iload_n cx d_X9_passHour_12 2 rfl ?_
      refine z_dup2 cx d_X9_passHour_13 rfl rfl ?_
      obtain ⟨hi5, hF⟩ := gin_inv hF
      refine z_iald cx (tfX_5_1 hT_p0) za_16 hi5 b2_L2.toNatClampNeg rfl d_X9_passHour_14 ?_
      refine z_aload_n cx d_X9_passHour_15 0 rfl ?_
      refine z_aload_n cx d_X9_passHour_16 1 rfl ?_
      refine z_iload_n cx d_X9_passHour_17 2 rfl ?_
      refine z_aload_n cx d_X9_passHour_18 1 rfl ?_
      refine z_getR cx hT_p0 fg_SunnyPans_174 (p0 + 1) rfl d_X9_passHour_19 ?_
      refine z_iload_n cx d_X9_passHour_22 2 rfl ?_
      refine z_iald cx (tfX_5_1 hT_p0) za_16 hi5 b2_L2.toNatClampNeg rfl d_X9_passHour_23 ?_
      refine z_aload_n cx d_X9_passHour_24 1 rfl ?_
      refine z_getI cx hT_p0 fg_SunnyPans_171 d_X9_passHour_25 ?_
      refine z_aload_n cx d_X9_passHour_28 1 rfl ?_
      refine z_getI cx hT_p0 fg_SunnyPans_168 d_X9_passHour_29 ?_
      obtain ⟨v7, M6, hc, hF⟩ := zb_inv hF
      refine z_callV cx (As := [.ref (ad p0), .int b2_L2, .int (M.1 (p0 + 1) b2_L2.toNatClampNeg), .int (M.1 p0 5), .int (M.1 p0 4)]) (rest := [.int (M.1 (p0 + 1) b2_L2.toNatClampNeg), .int b2_L2, .ref (ad (p0 + 1))]) (c_X9_lossOf l cx.2.2.2.1.1 M p0 b2_L2 (M.1 (p0 + 1) b2_L2.toNatClampNeg) (M.1 p0 5) (M.1 p0 4) hT hT_p0 hc) hT zo_10 cv_SunnyPans_326 ⟨rfl, rfl, Nat.le_of_ble_eq_true rfl, Nat.le_of_ble_eq_true rfl⟩ rfl rfl ⟨Nat.zero_le _, Nat.zero_le _⟩ (Nat.le_of_ble_eq_true rfl) d_X9_passHour_32 ?_
      refine z_isub cx d_X9_passHour_35 ?_
      refine z_iast cx (tfX_5_1 hT_p0) za_16 hi5 b2_L2.toNatClampNeg rfl d_X9_passHour_36 ?_
      refine z_nmM hF (fun M8 hF => ?_)
      refine z_iinc cx 2 1 [(2, .int (b2_L2 + 1)), (0, .ref (ad 0)), (1, .ref (ad p0))] d_X9_passHour_37 2 rfl ki_1 (by decide) rfl ?_
      refine z_goto cx 2 d_X9_passHour_40 (by decide) ?_
      exact z_lv [1, 2, 0] _ rfl (hs2 (b2_L2 + 1) M8 hF)
  unfold F_X9_passHour at hF
  refine z_iconst (v := 0) cx d_X9_passHour_0 ki_0 ?_
  refine z_istore_n cx 2 [(2, .int (0 : Int32)), (0, .ref (ad 0)), (1, .ref (ad p0))] d_X9_passHour_1 rfl (by decide) rfl ?_
  exact z_lv [1, 2, 0] _ rfl (hL2 zFuel (0 : Int32) M hF)
/-! SunnyPans.doStep -/
theorem ks_400 : (Int16.ofInt (400)).toInt32 = (400 : Int32) := by decide +kernel
set_option maxRecDepth 100000 in
theorem wd_930 : Cond.code yX9_passHour cX9_passHour 3 none ∈ tbG := tw4 110 rfl rfl
set_option maxRecDepth 100000 in
theorem wd_927 : Cond.methodLink "SunnyPans" 311 yX9_passHour ∈ tbG := tw4 107 rfl rfl
set_option maxRecDepth 100000 in
theorem wd_929 : Cond.instanceMethod yX9_passHour ∈ tbG := tw4 109 rfl rfl
theorem wd_21 : Cond.selects "SunnyPans" yX9_passHour yX9_passHour ∈ tbG := tw 21 (by decide +kernel) rfl
theorem cv_SunnyPans_311 : zCV "SunnyPans" 311 "SunnyPans" yX9_passHour cX9_passHour 3 none 1 := zCV_of wd_927 wd_929 wd_21 wd_101 wd_930 (by decide +kernel)
set_option maxRecDepth 100000 in
theorem wd_923 : Cond.code yX4_wet cX4_wet 4 none ∈ tbG := tw4 103 rfl rfl
set_option maxRecDepth 100000 in
theorem wd_920 : Cond.methodLink "SunnyPans" 461 yX4_wet ∈ tbG := tw4 100 rfl rfl
set_option maxRecDepth 100000 in
theorem wd_921 : Cond.instanceMethod yX4_wet ∈ tbG := tw4 101 rfl rfl
set_option maxRecDepth 100000 in
theorem wd_922 : Cond.selects "SunnyPans$Pans" yX4_wet yX4_wet ∈ tbG := tw4 102 rfl rfl
theorem cv_SunnyPans_461 : zCV "SunnyPans" 461 "SunnyPans$Pans" yX4_wet cX4_wet 4 none 2 := zCV_of wd_920 wd_921 wd_922 wd_104 wd_923 (by decide +kernel)
set_option maxRecDepth 100000 in
theorem wd_919 : Cond.code yX4_haul cX4_haul 3 (some .boolean) ∈ tbG := tw4 99 rfl rfl
set_option maxRecDepth 100000 in
theorem wd_916 : Cond.methodLink "SunnyPans" 402 yX4_haul ∈ tbG := tw4 96 rfl rfl
set_option maxRecDepth 100000 in
theorem wd_917 : Cond.instanceMethod yX4_haul ∈ tbG := tw4 97 rfl rfl
set_option maxRecDepth 100000 in
theorem wd_918 : Cond.selects "SunnyPans$Pans" yX4_haul yX4_haul ∈ tbG := tw4 98 rfl rfl
theorem cv_SunnyPans_402 : zCV "SunnyPans" 402 "SunnyPans$Pans" yX4_haul cX4_haul 3 (some .boolean) 2 := zCV_of wd_916 wd_917 wd_918 wd_104 wd_919 (by decide +kernel)
set_option maxRecDepth 100000 in
theorem wd_911 : Cond.code yX4_scrape cX4_scrape 4 (some .boolean) ∈ tbG := tw4 91 rfl rfl
set_option maxRecDepth 100000 in
theorem wd_908 : Cond.methodLink "SunnyPans" 457 yX4_scrape ∈ tbG := tw4 88 rfl rfl
set_option maxRecDepth 100000 in
theorem wd_909 : Cond.instanceMethod yX4_scrape ∈ tbG := tw4 89 rfl rfl
set_option maxRecDepth 100000 in
theorem wd_910 : Cond.selects "SunnyPans$Pans" yX4_scrape yX4_scrape ∈ tbG := tw4 90 rfl rfl
theorem cv_SunnyPans_457 : zCV "SunnyPans" 457 "SunnyPans$Pans" yX4_scrape cX4_scrape 4 (some .boolean) 3 := zCV_of wd_908 wd_909 wd_910 wd_104 wd_911 (by decide +kernel)
set_option maxRecDepth 100000 in
theorem wd_903 : Cond.code yX4_pour cX4_pour 3 (some .boolean) ∈ tbG := tw4 83 rfl rfl
set_option maxRecDepth 100000 in
theorem wd_900 : Cond.methodLink "SunnyPans" 399 yX4_pour ∈ tbG := tw4 80 rfl rfl
set_option maxRecDepth 100000 in
theorem wd_901 : Cond.instanceMethod yX4_pour ∈ tbG := tw4 81 rfl rfl
set_option maxRecDepth 100000 in
theorem wd_902 : Cond.selects "SunnyPans$Pans" yX4_pour yX4_pour ∈ tbG := tw4 82 rfl rfl
theorem cv_SunnyPans_399 : zCV "SunnyPans" 399 "SunnyPans$Pans" yX4_pour cX4_pour 3 (some .boolean) 2 := zCV_of wd_900 wd_901 wd_902 wd_104 wd_903 (by decide +kernel)
set_option maxRecDepth 100000 in
theorem wd_410 : Cond.fieldLink "SunnyPans" 19 "SunnyPans" "stand" "LSunnyPans$Stand;" ∈ tbG := tw2 70 rfl rfl
theorem fg_SunnyPans_19 : zGetR "SunnyPans" 19 9 10 1 3 := ⟨RX9, TX9, 19, rfl, by decide, uw_9, wd_410, fun _ _ _ _ _ _ => ⟨_, rfl, rfl⟩⟩
set_option maxRecDepth 100000 in
theorem wd_215 : Cond.fieldLink "SunnyPans" 159 "SunnyPans$Stand" "now" "LSunnyPans$Pans;" ∈ tbG := tw1 115 rfl rfl
theorem fg_SunnyPans_159 : zGetR "SunnyPans" 159 7 8 0 1 := ⟨RX7, TX7, 3, rfl, by decide, uw_7, wd_215, fun _ _ _ _ _ _ => ⟨_, rfl, rfl⟩⟩
theorem d_X9_doStep_0 : decode cX9_doStep 0 = .ok (.aload_n 0, 1) := by decide +kernel
theorem d_X9_doStep_1 : decode cX9_doStep 1 = .ok (.getfield 19, 3) := by decide +kernel
theorem d_X9_doStep_4 : decode cX9_doStep 4 = .ok (.getfield 159, 3) := by decide +kernel
theorem d_X9_doStep_7 : decode cX9_doStep 7 = .ok (.astore 5, 2) := by decide +kernel
theorem d_X9_doStep_9 : decode cX9_doStep 9 = .ok (.iload_n 1, 1) := by decide +kernel
theorem d_X9_doStep_10 : decode cX9_doStep 10 = .ok (.tableswitch 75 0 3 #[30, 39, 51, 62], 30) := by decide +kernel
theorem d_X9_doStep_40 : decode cX9_doStep 40 = .ok (.aload 5, 2) := by decide +kernel
theorem d_X9_doStep_42 : decode cX9_doStep 42 = .ok (.iload_n 2, 1) := by decide +kernel
theorem d_X9_doStep_43 : decode cX9_doStep 43 = .ok (.iload 4, 2) := by decide +kernel
theorem d_X9_doStep_45 : decode cX9_doStep 45 = .ok (.invokevirtual 399, 3) := by decide +kernel
theorem d_X9_doStep_48 : decode cX9_doStep 48 = .ok (.ireturn, 1) := by decide +kernel
theorem d_X9_doStep_49 : decode cX9_doStep 49 = .ok (.aload 5, 2) := by decide +kernel
theorem d_X9_doStep_51 : decode cX9_doStep 51 = .ok (.aload_n 0, 1) := by decide +kernel
theorem d_X9_doStep_52 : decode cX9_doStep 52 = .ok (.getfield 62, 3) := by decide +kernel
theorem d_X9_doStep_55 : decode cX9_doStep 55 = .ok (.iload_n 2, 1) := by decide +kernel
theorem d_X9_doStep_56 : decode cX9_doStep 56 = .ok (.iload_n 3, 1) := by decide +kernel
theorem d_X9_doStep_57 : decode cX9_doStep 57 = .ok (.invokevirtual 457, 3) := by decide +kernel
theorem d_X9_doStep_60 : decode cX9_doStep 60 = .ok (.ireturn, 1) := by decide +kernel
theorem d_X9_doStep_61 : decode cX9_doStep 61 = .ok (.aload 5, 2) := by decide +kernel
theorem d_X9_doStep_63 : decode cX9_doStep 63 = .ok (.aload_n 0, 1) := by decide +kernel
theorem d_X9_doStep_64 : decode cX9_doStep 64 = .ok (.getfield 62, 3) := by decide +kernel
theorem d_X9_doStep_67 : decode cX9_doStep 67 = .ok (.iload_n 2, 1) := by decide +kernel
theorem d_X9_doStep_68 : decode cX9_doStep 68 = .ok (.invokevirtual 402, 3) := by decide +kernel
theorem d_X9_doStep_71 : decode cX9_doStep 71 = .ok (.ireturn, 1) := by decide +kernel
theorem d_X9_doStep_72 : decode cX9_doStep 72 = .ok (.aload 5, 2) := by decide +kernel
theorem d_X9_doStep_74 : decode cX9_doStep 74 = .ok (.aload_n 0, 1) := by decide +kernel
theorem d_X9_doStep_75 : decode cX9_doStep 75 = .ok (.getfield 62, 3) := by decide +kernel
theorem d_X9_doStep_78 : decode cX9_doStep 78 = .ok (.iload 4, 2) := by decide +kernel
theorem d_X9_doStep_80 : decode cX9_doStep 80 = .ok (.invokevirtual 461, 3) := by decide +kernel
theorem d_X9_doStep_83 : decode cX9_doStep 83 = .ok (.iconst 1, 1) := by decide +kernel
theorem d_X9_doStep_84 : decode cX9_doStep 84 = .ok (.ireturn, 1) := by decide +kernel
theorem d_X9_doStep_85 : decode cX9_doStep 85 = .ok (.aload_n 0, 1) := by decide +kernel
theorem d_X9_doStep_86 : decode cX9_doStep 86 = .ok (.getfield 62, 3) := by decide +kernel
theorem d_X9_doStep_89 : decode cX9_doStep 89 = .ok (.getfield 127, 3) := by decide +kernel
theorem d_X9_doStep_92 : decode cX9_doStep 92 = .ok (.ifCond .eq 14, 3) := by decide +kernel
theorem d_X9_doStep_95 : decode cX9_doStep 95 = .ok (.aload 5, 2) := by decide +kernel
theorem d_X9_doStep_97 : decode cX9_doStep 97 = .ok (.getfield 168, 3) := by decide +kernel
theorem d_X9_doStep_100 : decode cX9_doStep 100 = .ok (.sipush 400, 3) := by decide +kernel
theorem d_X9_doStep_103 : decode cX9_doStep 103 = .ok (.if_icmp .lt 5, 3) := by decide +kernel
theorem d_X9_doStep_106 : decode cX9_doStep 106 = .ok (.iconst 0, 1) := by decide +kernel
theorem d_X9_doStep_107 : decode cX9_doStep 107 = .ok (.ireturn, 1) := by decide +kernel
theorem d_X9_doStep_108 : decode cX9_doStep 108 = .ok (.aload_n 0, 1) := by decide +kernel
theorem d_X9_doStep_109 : decode cX9_doStep 109 = .ok (.aload 5, 2) := by decide +kernel
theorem d_X9_doStep_111 : decode cX9_doStep 111 = .ok (.invokevirtual 311, 3) := by decide +kernel
theorem d_X9_doStep_114 : decode cX9_doStep 114 = .ok (.iconst 1, 1) := by decide +kernel
theorem d_X9_doStep_115 : decode cX9_doStep 115 = .ok (.ireturn, 1) := by decide +kernel
def F_X9_doStep_85 (p0 : Int32) (p1 : Int32) (p2 : Int32) (p3 : Int32) (M : zMem) : Option (Int32 × zMem) :=
  gd (shX (M.2.2 0 8) == 6) <|
  if (M.1 (M.2.2 0 8) 2) = 0 then
    some ((0 : Int32), M)
  else
    if (M.1 4 4) < (400 : Int32) then
      zbv (F_X9_passHour M 4) fun M2 =>
      some ((1 : Int32), M2)
    else
      some ((0 : Int32), M)
def F_X9_doStep_72 (p0 : Int32) (p1 : Int32) (p2 : Int32) (p3 : Int32) (b72_L4 : Int32) (M : zMem) : Option (Int32 × zMem) :=
  gd (shX (M.2.2 0 8) == 6) <|
  zbv (F_X4_wet M 4 (M.2.2 0 8) b72_L4) fun M4 =>
  some ((1 : Int32), M4)
def F_X9_doStep_61 (p0 : Int32) (p1 : Int32) (p2 : Int32) (p3 : Int32) (b61_L2 : Int32) (M : zMem) : Option (Int32 × zMem) :=
  gd (shX (M.2.2 0 8) == 6) <|
  zb (F_X4_haul M 4 (M.2.2 0 8) b61_L2) fun v7 M6 =>
  gd (v7 == 0 || v7 == 1) <|
  some (v7, M6)
def F_X9_doStep_49 (p0 : Int32) (p1 : Int32) (p2 : Int32) (p3 : Int32) (b49_L2 : Int32) (b49_L3 : Int32) (M : zMem) : Option (Int32 × zMem) :=
  gd (shX (M.2.2 0 8) == 6) <|
  zb (F_X4_scrape M 4 (M.2.2 0 8) b49_L2 b49_L3) fun v11 M10 =>
  gd (v11 == 0 || v11 == 1) <|
  some (v11, M10)
def F_X9_doStep_40 (p0 : Int32) (p1 : Int32) (p2 : Int32) (p3 : Int32) (b40_L2 : Int32) (b40_L4 : Int32) (M : zMem) : Option (Int32 × zMem) :=
  zb (F_X4_pour M 4 b40_L2 b40_L4) fun v14 M13 =>
  gd (v14 == 0 || v14 == 1) <|
  some (v14, M13)
def F_X9_doStep (M : zMem) (p0 : Int32) (p1 : Int32) (p2 : Int32) (p3 : Int32) : Option (Int32 × zMem) :=
  if p0 = 0 then
    F_X9_doStep_40 p0 p1 p2 p3 p1 p3 M
  else
  if p0 = 1 then
    F_X9_doStep_49 p0 p1 p2 p3 p1 p2 M
  else
  if p0 = 2 then
    F_X9_doStep_61 p0 p1 p2 p3 p1 M
  else
  if p0 = 3 then
    F_X9_doStep_72 p0 p1 p2 p3 p3 M
  else
  F_X9_doStep_85 p0 p1 p2 p3 M
def rm_X9_doStep : Room := { frames := 7, cells := 0, slots := 0, locals := 180 }
set_option maxHeartbeats 4000000 in
set_option maxRecDepth 100000 in
theorem c_X9_doStep (l : Launch) {G : zG} {ad : Nat → Nat} {n : Nat} (hA : zInj ad n) (M : zMem) (p0 : Int32) (p1 : Int32) (p2 : Int32) (p3 : Int32) (hT : zT shX n 0 10) {r9 : Int32} {M9 : zMem} (hF : F_X9_doStep M p0 p1 p2 p3 = some (r9, M9)) : zM l yX9_doStep cX9_doStep 6 (some .boolean) rm_X9_doStep G shX ad n M [.ref (ad 0), .int p0, .int p1, .int p2, .int p3] (some (.int r9)) M9 := by
  refine zM_of hA (by decide +kernel) (lv := [(0, .ref (ad 0)), (1, .int p0), (2, .int p1), (3, .int p2), (4, .int p3)]) (Nat.le_of_ble_eq_true rfl) rfl (fun p e s m args below meth c A cx hr => ?_)
  have hb85 : ∀ (M : zMem), F_X9_doStep_85 p0 p1 p2 p3 M = some (r9, M9) → zJ p l e rm_X9_doStep s m args below meth c G shX ad n A 6 (MQ below (zQ G shX ad n M9 (some (.int r9)) A) args s 0 0 A) 0 0 M 85 [(0, .ref (ad 0)), (5, .ref (ad 4))] [] := by
    intro M hF
    unfold F_X9_doStep_85 at hF
    refine z_aload_n cx d_X9_doStep_85 0 rfl ?_
    obtain ⟨hg1, hF⟩ := gd_inv hF
    refine z_getD cx hT fg_SunnyPans_62 d_X9_doStep_86 ?_
    refine z_getI cx (td_6 hT hg1) fg_SunnyPans_127 d_X9_doStep_89 ?_
    refine z_if_eq cx 106 d_X9_doStep_92 (by decide) hF (fun hF => ?_) (fun hF => ?_)
    · refine z_iconst (v := 0) cx d_X9_doStep_106 ki_0 ?_
      exact z_iret cx hr nb0 hF d_X9_doStep_107
    refine z_aload cx d_X9_doStep_95 1 rfl ?_
    refine z_getI cx (tfX_8_1 (tfX_10_3 hT)) fg_SunnyPans_168 d_X9_doStep_97 ?_
    refine z_sipush (v := 400) cx d_X9_doStep_100 ks_400 ?_
    refine z_icmp_lt cx 108 d_X9_doStep_103 (by decide) hF (fun hF => ?_) (fun hF => ?_)
    · refine z_aload_n cx d_X9_doStep_108 0 rfl ?_
      refine z_aload cx d_X9_doStep_109 1 rfl ?_
      obtain ⟨M2, hc, hF⟩ := zbv_inv hF
      refine z_callV cx (As := [.ref (ad 4)]) (rest := []) (c_X9_passHour l cx.2.2.2.1.1 M 4 hT (tfX_8_1 (tfX_10_3 hT)) hc) hT zo_10 cv_SunnyPans_311 ⟨rfl, rfl, Nat.le_of_ble_eq_true rfl, Nat.le_of_ble_eq_true rfl⟩ rfl rfl ⟨Nat.zero_le _, Nat.zero_le _⟩ (Nat.le_of_ble_eq_true rfl) d_X9_doStep_111 ?_
      refine z_iconst (v := 1) cx d_X9_doStep_114 ki_1 ?_
      exact z_iret cx hr nb1 hF d_X9_doStep_115
    refine z_iconst (v := 0) cx d_X9_doStep_106 ki_0 ?_
    exact z_iret cx hr nb0 hF d_X9_doStep_107
  have hb72 : ∀ (b72_L4 : Int32) (M : zMem), F_X9_doStep_72 p0 p1 p2 p3 b72_L4 M = some (r9, M9) → zJ p l e rm_X9_doStep s m args below meth c G shX ad n A 6 (MQ below (zQ G shX ad n M9 (some (.int r9)) A) args s 0 0 A) 0 0 M 72 [(0, .ref (ad 0)), (4, .int b72_L4), (5, .ref (ad 4))] [] := by
    intro b72_L4 M hF
    unfold F_X9_doStep_72 at hF
    refine z_aload cx d_X9_doStep_72 2 rfl ?_
    refine z_aload_n cx d_X9_doStep_74 0 rfl ?_
    obtain ⟨hg3, hF⟩ := gd_inv hF
    refine z_getD cx hT fg_SunnyPans_62 d_X9_doStep_75 ?_
    refine z_iload cx d_X9_doStep_78 1 rfl ?_
    obtain ⟨M4, hc, hF⟩ := zbv_inv hF
    refine z_callV cx (As := [.ref (ad (M.2.2 0 8)), .int b72_L4]) (rest := []) (c_X4_wet l cx.2.2.2.1.1 M 4 (M.2.2 0 8) b72_L4 (tfX_8_1 (tfX_10_3 hT)) (td_6 hT hg3) hc) (tfX_8_1 (tfX_10_3 hT)) zo_5 cv_SunnyPans_461 ⟨rfl, rfl, Nat.le_of_ble_eq_true rfl, Nat.le_of_ble_eq_true rfl⟩ rfl rfl ⟨Nat.zero_le _, Nat.zero_le _⟩ (Nat.le_of_ble_eq_true rfl) d_X9_doStep_80 ?_
    refine z_iconst (v := 1) cx d_X9_doStep_83 ki_1 ?_
    exact z_iret cx hr nb1 hF d_X9_doStep_84
  have hb61 : ∀ (b61_L2 : Int32) (M : zMem), F_X9_doStep_61 p0 p1 p2 p3 b61_L2 M = some (r9, M9) → zJ p l e rm_X9_doStep s m args below meth c G shX ad n A 6 (MQ below (zQ G shX ad n M9 (some (.int r9)) A) args s 0 0 A) 0 0 M 61 [(0, .ref (ad 0)), (2, .int b61_L2), (5, .ref (ad 4))] [] := by
    intro b61_L2 M hF
    unfold F_X9_doStep_61 at hF
    refine z_aload cx d_X9_doStep_61 2 rfl ?_
    refine z_aload_n cx d_X9_doStep_63 0 rfl ?_
    obtain ⟨hg5, hF⟩ := gd_inv hF
    refine z_getD cx hT fg_SunnyPans_62 d_X9_doStep_64 ?_
    refine z_iload_n cx d_X9_doStep_67 1 rfl ?_
    obtain ⟨v7, M6, hc, hF⟩ := zb_inv hF
    refine z_callV cx (As := [.ref (ad (M.2.2 0 8)), .int b61_L2]) (rest := []) (c_X4_haul l cx.2.2.2.1.1 M 4 (M.2.2 0 8) b61_L2 (tfX_8_1 (tfX_10_3 hT)) (td_6 hT hg5) hc) (tfX_8_1 (tfX_10_3 hT)) zo_5 cv_SunnyPans_402 ⟨rfl, rfl, Nat.le_of_ble_eq_true rfl, Nat.le_of_ble_eq_true rfl⟩ rfl rfl ⟨Nat.zero_le _, Nat.zero_le _⟩ (Nat.le_of_ble_eq_true rfl) d_X9_doStep_68 ?_
    obtain ⟨hn8, hF⟩ := gd_inv hF
    exact z_iret cx hr (nbx hn8) hF d_X9_doStep_71
  have hb49 : ∀ (b49_L2 : Int32) (b49_L3 : Int32) (M : zMem), F_X9_doStep_49 p0 p1 p2 p3 b49_L2 b49_L3 M = some (r9, M9) → zJ p l e rm_X9_doStep s m args below meth c G shX ad n A 6 (MQ below (zQ G shX ad n M9 (some (.int r9)) A) args s 0 0 A) 0 0 M 49 [(0, .ref (ad 0)), (2, .int b49_L2), (3, .int b49_L3), (5, .ref (ad 4))] [] := by
    intro b49_L2 b49_L3 M hF
    unfold F_X9_doStep_49 at hF
    refine z_aload cx d_X9_doStep_49 3 rfl ?_
    refine z_aload_n cx d_X9_doStep_51 0 rfl ?_
    obtain ⟨hg9, hF⟩ := gd_inv hF
    refine z_getD cx hT fg_SunnyPans_62 d_X9_doStep_52 ?_
    refine z_iload_n cx d_X9_doStep_55 1 rfl ?_
    refine z_iload_n cx d_X9_doStep_56 2 rfl ?_
    obtain ⟨v11, M10, hc, hF⟩ := zb_inv hF
    refine z_callV cx (As := [.ref (ad (M.2.2 0 8)), .int b49_L2, .int b49_L3]) (rest := []) (c_X4_scrape l cx.2.2.2.1.1 M 4 (M.2.2 0 8) b49_L2 b49_L3 (tfX_8_1 (tfX_10_3 hT)) (td_6 hT hg9) hc) (tfX_8_1 (tfX_10_3 hT)) zo_5 cv_SunnyPans_457 ⟨rfl, rfl, Nat.le_of_ble_eq_true rfl, Nat.le_of_ble_eq_true rfl⟩ rfl rfl ⟨Nat.zero_le _, Nat.zero_le _⟩ (Nat.le_of_ble_eq_true rfl) d_X9_doStep_57 ?_
    obtain ⟨hn12, hF⟩ := gd_inv hF
    exact z_iret cx hr (nbx hn12) hF d_X9_doStep_60
  have hb40 : ∀ (b40_L2 : Int32) (b40_L4 : Int32) (M : zMem), F_X9_doStep_40 p0 p1 p2 p3 b40_L2 b40_L4 M = some (r9, M9) → zJ p l e rm_X9_doStep s m args below meth c G shX ad n A 6 (MQ below (zQ G shX ad n M9 (some (.int r9)) A) args s 0 0 A) 0 0 M 40 [(2, .int b40_L2), (4, .int b40_L4), (5, .ref (ad 4))] [] := by
    intro b40_L2 b40_L4 M hF
    unfold F_X9_doStep_40 at hF
    refine z_aload cx d_X9_doStep_40 2 rfl ?_
    refine z_iload_n cx d_X9_doStep_42 0 rfl ?_
    refine z_iload cx d_X9_doStep_43 1 rfl ?_
    obtain ⟨v14, M13, hc, hF⟩ := zb_inv hF
    refine z_callV cx (As := [.int b40_L2, .int b40_L4]) (rest := []) (c_X4_pour l cx.2.2.2.1.1 M 4 b40_L2 b40_L4 (tfX_8_1 (tfX_10_3 hT)) hc) (tfX_8_1 (tfX_10_3 hT)) zo_5 cv_SunnyPans_399 ⟨rfl, rfl, Nat.le_of_ble_eq_true rfl, Nat.le_of_ble_eq_true rfl⟩ rfl rfl ⟨Nat.zero_le _, Nat.zero_le _⟩ (Nat.le_of_ble_eq_true rfl) d_X9_doStep_45 ?_
    obtain ⟨hn15, hF⟩ := gd_inv hF
    exact z_iret cx hr (nbx hn15) hF d_X9_doStep_48
  unfold F_X9_doStep at hF
  refine z_aload_n cx d_X9_doStep_0 0 rfl ?_
  refine z_getR cx hT fg_SunnyPans_19 3 rfl d_X9_doStep_1 ?_
  refine z_getR cx (tfX_10_3 hT) fg_SunnyPans_159 4 rfl d_X9_doStep_4 ?_
  refine z_astore cx 5 [(5, .ref (ad 4)), (0, .ref (ad 0)), (1, .int p0), (2, .int p1), (3, .int p2), (4, .int p3)] d_X9_doStep_7 (by decide) rfl ?_
  refine z_iload_n cx d_X9_doStep_9 2 rfl ?_
  by_cases q0 : p0 = 0
  · rw [if_pos q0] at hF
    refine z_tabIn cx 40 d_X9_doStep_10 (by rw [q0]; decide +kernel) (by rw [q0]; decide +kernel) (by rw [q0]; rfl) (by decide) ?_
    exact z_lv [3, 5, 0] _ rfl (hb40 p1 p3 M hF)
  rw [if_neg q0] at hF
  by_cases q1 : p0 = 1
  · rw [if_pos q1] at hF
    refine z_tabIn cx 49 d_X9_doStep_10 (by rw [q1]; decide +kernel) (by rw [q1]; decide +kernel) (by rw [q1]; rfl) (by decide) ?_
    exact z_lv [1, 3, 4, 0] _ rfl (hb49 p1 p2 M hF)
  rw [if_neg q1] at hF
  by_cases q2 : p0 = 2
  · rw [if_pos q2] at hF
    refine z_tabIn cx 61 d_X9_doStep_10 (by rw [q2]; decide +kernel) (by rw [q2]; decide +kernel) (by rw [q2]; rfl) (by decide) ?_
    exact z_lv [1, 3, 0] _ rfl (hb61 p1 M hF)
  rw [if_neg q2] at hF
  by_cases q3 : p0 = 3
  · rw [if_pos q3] at hF
    refine z_tabIn cx 72 d_X9_doStep_10 (by rw [q3]; decide +kernel) (by rw [q3]; decide +kernel) (by rw [q3]; rfl) (by decide) ?_
    exact z_lv [1, 5, 0] _ rfl (hb72 p3 M hF)
  rw [if_neg q3] at hF
  refine z_tabOut cx 85 d_X9_doStep_10 (by have w0 := lv_neT q0 (a := 0) (by decide +kernel); have w1 := lv_neT q1 (a := 1) (by decide +kernel); have w2 := lv_neT q2 (a := 2) (by decide +kernel); have w3 := lv_neT q3 (a := 3) (by decide +kernel); omega) (by decide) ?_
  exact z_lv [1, 0] _ rfl (hb85 M hF)
/-! SunnyPans.doJob -/
theorem tfX_10_91 {n k : Nat} (h : zT shX n k 10) : zT shX n (k + 91) 3 := zT_off h (shX_f (by decide) (by decide +kernel)) (by decide) (by decide)
set_option maxRecDepth 100000 in
theorem wd_883 : Cond.constant "SunnyPans" 434 (1000000) ∈ tbG := tw4 63 rfl rfl
set_option maxRecDepth 100000 in
theorem wd_412 : Cond.fieldLink "SunnyPans" 30 "SunnyPans" "job" "LSunnyPans$Job;" ∈ tbG := tw2 72 rfl rfl
theorem fg_SunnyPans_30 : zGetR "SunnyPans" 30 9 10 3 91 := ⟨RX9, TX9, 19, rfl, by decide, uw_9, wd_412, fun _ _ _ _ _ _ => ⟨_, rfl, rfl⟩⟩
set_option maxRecDepth 100000 in
theorem wd_887 : Cond.code yX2_isAt cX2_isAt 2 (some .boolean) ∈ tbG := tw4 67 rfl rfl
set_option maxRecDepth 100000 in
theorem wd_884 : Cond.methodLink "SunnyPans" 435 yX2_isAt ∈ tbG := tw4 64 rfl rfl
set_option maxRecDepth 100000 in
theorem wd_885 : Cond.instanceMethod yX2_isAt ∈ tbG := tw4 65 rfl rfl
set_option maxRecDepth 100000 in
theorem wd_886 : Cond.selects "SunnyPans$Job" yX2_isAt yX2_isAt ∈ tbG := tw4 66 rfl rfl
theorem cv_SunnyPans_435 : zCV "SunnyPans" 435 "SunnyPans$Job" yX2_isAt cX2_isAt 2 (some .boolean) 1 := zCV_of wd_884 wd_885 wd_886 wd_105 wd_887 (by decide +kernel)
set_option maxRecDepth 100000 in
theorem wd_234 : Cond.fieldLink "SunnyPans" 438 "SunnyPans$Job" "kind" "[I" ∈ tbG := tw1 134 rfl rfl
theorem fg_SunnyPans_438 : zGetR "SunnyPans" 438 2 3 0 1 := ⟨RX2, TX2, 9, rfl, by decide, uw_2, wd_234, fun _ _ _ _ _ _ => ⟨_, rfl, rfl⟩⟩
theorem ks_200 : (Int16.ofInt (200)).toInt32 = (200 : Int32) := by decide +kernel
set_option maxRecDepth 100000 in
theorem wd_236 : Cond.fieldLink "SunnyPans" 447 "SunnyPans$Job" "place" "[I" ∈ tbG := tw1 136 rfl rfl
theorem fg_SunnyPans_447 : zGetR "SunnyPans" 447 2 3 1 2 := ⟨RX2, TX2, 9, rfl, by decide, uw_2, wd_236, fun _ _ _ _ _ _ => ⟨_, rfl, rfl⟩⟩
set_option maxRecDepth 100000 in
theorem wd_238 : Cond.fieldLink "SunnyPans" 448 "SunnyPans$Job" "other" "[I" ∈ tbG := tw1 138 rfl rfl
theorem fg_SunnyPans_448 : zGetR "SunnyPans" 448 2 3 2 3 := ⟨RX2, TX2, 9, rfl, by decide, uw_2, wd_238, fun _ _ _ _ _ _ => ⟨_, rfl, rfl⟩⟩
set_option maxRecDepth 100000 in
theorem wd_240 : Cond.fieldLink "SunnyPans" 451 "SunnyPans$Job" "amount" "[I" ∈ tbG := tw1 140 rfl rfl
theorem fg_SunnyPans_451 : zGetR "SunnyPans" 451 2 3 3 4 := ⟨RX2, TX2, 9, rfl, by decide, uw_2, wd_240, fun _ _ _ _ _ _ => ⟨_, rfl, rfl⟩⟩
set_option maxRecDepth 100000 in
theorem wd_899 : Cond.code yX9_doStep cX9_doStep 6 (some .boolean) ∈ tbG := tw4 79 rfl rfl
set_option maxRecDepth 100000 in
theorem wd_896 : Cond.methodLink "SunnyPans" 453 yX9_doStep ∈ tbG := tw4 76 rfl rfl
set_option maxRecDepth 100000 in
theorem wd_898 : Cond.instanceMethod yX9_doStep ∈ tbG := tw4 78 rfl rfl
theorem wd_20 : Cond.selects "SunnyPans" yX9_doStep yX9_doStep ∈ tbG := tw 20 (by decide +kernel) rfl
theorem cv_SunnyPans_453 : zCV "SunnyPans" 453 "SunnyPans" yX9_doStep cX9_doStep 6 (some .boolean) 4 := zCV_of wd_896 wd_898 wd_20 wd_101 wd_899 (by decide +kernel)
set_option maxRecDepth 100000 in
theorem wd_424 : Cond.fieldLink "SunnyPans" 124 "SunnyPans" "refusedSteps" "I" ∈ tbG := tw2 84 rfl rfl
theorem fg_SunnyPans_124 : zGetI "SunnyPans" 124 9 10 15 := ⟨RX9, TX9, 19, rfl, by decide, uw_9, wd_424, fun _ _ _ _ _ _ => ⟨_, rfl, rfl⟩⟩
theorem zc_9 : zCls 9 := ⟨RX9, TX9, 19, tyX9, rfl, tyX9_ok, nmX9⟩
theorem fp_SunnyPans_124 : zPutI "SunnyPans" 124 9 10 15 := ⟨zc_9, fg_SunnyPans_124, ⟨RX9, TX9, 19, rfl, rfl, by decide +kernel⟩, fun _ _ _ _ _ _ _ => ⟨_, rfl, Nat.le_of_ble_eq_true rfl, rfl⟩⟩
set_option maxRecDepth 100000 in
theorem wd_895 : Cond.code yX2_behindAgain cX2_behindAgain 2 (some .int) ∈ tbG := tw4 75 rfl rfl
set_option maxRecDepth 100000 in
theorem wd_892 : Cond.methodLink "SunnyPans" 444 yX2_behindAgain ∈ tbG := tw4 72 rfl rfl
set_option maxRecDepth 100000 in
theorem wd_893 : Cond.instanceMethod yX2_behindAgain ∈ tbG := tw4 73 rfl rfl
set_option maxRecDepth 100000 in
theorem wd_894 : Cond.selects "SunnyPans$Job" yX2_behindAgain yX2_behindAgain ∈ tbG := tw4 74 rfl rfl
theorem cv_SunnyPans_444 : zCV "SunnyPans" 444 "SunnyPans$Job" yX2_behindAgain cX2_behindAgain 2 (some .int) 1 := zCV_of wd_892 wd_893 wd_894 wd_105 wd_895 (by decide +kernel)
set_option maxRecDepth 100000 in
theorem wd_891 : Cond.code yX2_behindClose cX2_behindClose 3 (some .int) ∈ tbG := tw4 71 rfl rfl
set_option maxRecDepth 100000 in
theorem wd_888 : Cond.methodLink "SunnyPans" 441 yX2_behindClose ∈ tbG := tw4 68 rfl rfl
set_option maxRecDepth 100000 in
theorem wd_889 : Cond.instanceMethod yX2_behindClose ∈ tbG := tw4 69 rfl rfl
set_option maxRecDepth 100000 in
theorem wd_890 : Cond.selects "SunnyPans$Job" yX2_behindClose yX2_behindClose ∈ tbG := tw4 70 rfl rfl
theorem cv_SunnyPans_441 : zCV "SunnyPans" 441 "SunnyPans$Job" yX2_behindClose cX2_behindClose 3 (some .int) 1 := zCV_of wd_888 wd_889 wd_890 wd_105 wd_891 (by decide +kernel)
theorem d_X9_doJob_0 : decode cX9_doJob 0 = .ok (.aload_n 0, 1) := by decide +kernel
theorem d_X9_doJob_1 : decode cX9_doJob 1 = .ok (.iconst 0, 1) := by decide +kernel
theorem d_X9_doJob_2 : decode cX9_doJob 2 = .ok (.putfield 124, 3) := by decide +kernel
theorem d_X9_doJob_5 : decode cX9_doJob 5 = .ok (.iconst 0, 1) := by decide +kernel
theorem d_X9_doJob_6 : decode cX9_doJob 6 = .ok (.istore_n 1, 1) := by decide +kernel
theorem d_X9_doJob_7 : decode cX9_doJob 7 = .ok (.iconst 0, 1) := by decide +kernel
theorem d_X9_doJob_8 : decode cX9_doJob 8 = .ok (.istore_n 2, 1) := by decide +kernel
theorem d_X9_doJob_9 : decode cX9_doJob 9 = .ok (.iconst 0, 1) := by decide +kernel
theorem d_X9_doJob_10 : decode cX9_doJob 10 = .ok (.istore_n 3, 1) := by decide +kernel
theorem d_X9_doJob_11 : decode cX9_doJob 11 = .ok (.iconst 0, 1) := by decide +kernel
theorem d_X9_doJob_12 : decode cX9_doJob 12 = .ok (.istore 4, 2) := by decide +kernel
theorem d_X9_doJob_14 : decode cX9_doJob 14 = .ok (.iload 4, 2) := by decide +kernel
theorem d_X9_doJob_16 : decode cX9_doJob 16 = .ok (.ldc_w 434, 3) := by decide +kernel
theorem d_X9_doJob_19 : decode cX9_doJob 19 = .ok (.if_icmp .ge 136, 3) := by decide +kernel
theorem d_X9_doJob_22 : decode cX9_doJob 22 = .ok (.aload_n 0, 1) := by decide +kernel
theorem d_X9_doJob_23 : decode cX9_doJob 23 = .ok (.getfield 30, 3) := by decide +kernel
theorem d_X9_doJob_26 : decode cX9_doJob 26 = .ok (.iload_n 3, 1) := by decide +kernel
theorem d_X9_doJob_27 : decode cX9_doJob 27 = .ok (.invokevirtual 435, 3) := by decide +kernel
theorem d_X9_doJob_30 : decode cX9_doJob 30 = .ok (.ifCond .eq 125, 3) := by decide +kernel
theorem d_X9_doJob_33 : decode cX9_doJob 33 = .ok (.aload_n 0, 1) := by decide +kernel
theorem d_X9_doJob_34 : decode cX9_doJob 34 = .ok (.getfield 30, 3) := by decide +kernel
theorem d_X9_doJob_37 : decode cX9_doJob 37 = .ok (.getfield 438, 3) := by decide +kernel
theorem d_X9_doJob_40 : decode cX9_doJob 40 = .ok (.iload_n 3, 1) := by decide +kernel
theorem d_X9_doJob_41 : decode cX9_doJob 41 = .ok (.iaload, 1) := by decide +kernel
theorem d_X9_doJob_42 : decode cX9_doJob 42 = .ok (.istore 5, 2) := by decide +kernel
theorem d_X9_doJob_44 : decode cX9_doJob 44 = .ok (.iload 5, 2) := by decide +kernel
theorem d_X9_doJob_46 : decode cX9_doJob 46 = .ok (.bipush 6, 2) := by decide +kernel
theorem d_X9_doJob_48 : decode cX9_doJob 48 = .ok (.if_icmp .ne 15, 3) := by decide +kernel
theorem d_X9_doJob_51 : decode cX9_doJob 51 = .ok (.aload_n 0, 1) := by decide +kernel
theorem d_X9_doJob_52 : decode cX9_doJob 52 = .ok (.getfield 30, 3) := by decide +kernel
theorem d_X9_doJob_55 : decode cX9_doJob 55 = .ok (.iload_n 3, 1) := by decide +kernel
theorem d_X9_doJob_56 : decode cX9_doJob 56 = .ok (.invokevirtual 441, 3) := by decide +kernel
theorem d_X9_doJob_59 : decode cX9_doJob 59 = .ok (.istore_n 3, 1) := by decide +kernel
theorem d_X9_doJob_60 : decode cX9_doJob 60 = .ok (.goto 89, 3) := by decide +kernel
theorem d_X9_doJob_63 : decode cX9_doJob 63 = .ok (.iload_n 2, 1) := by decide +kernel
theorem d_X9_doJob_64 : decode cX9_doJob 64 = .ok (.sipush 200, 3) := by decide +kernel
theorem d_X9_doJob_67 : decode cX9_doJob 67 = .ok (.if_icmp .lt 6, 3) := by decide +kernel
theorem d_X9_doJob_70 : decode cX9_doJob 70 = .ok (.goto 85, 3) := by decide +kernel
theorem d_X9_doJob_73 : decode cX9_doJob 73 = .ok (.iinc 2 1, 3) := by decide +kernel
theorem d_X9_doJob_76 : decode cX9_doJob 76 = .ok (.iload 5, 2) := by decide +kernel
theorem d_X9_doJob_78 : decode cX9_doJob 78 = .ok (.iconst 5, 1) := by decide +kernel
theorem d_X9_doJob_79 : decode cX9_doJob 79 = .ok (.if_icmp .ne 15, 3) := by decide +kernel
theorem d_X9_doJob_82 : decode cX9_doJob 82 = .ok (.aload_n 0, 1) := by decide +kernel
theorem d_X9_doJob_83 : decode cX9_doJob 83 = .ok (.getfield 30, 3) := by decide +kernel
theorem d_X9_doJob_86 : decode cX9_doJob 86 = .ok (.iload_n 3, 1) := by decide +kernel
theorem d_X9_doJob_87 : decode cX9_doJob 87 = .ok (.invokevirtual 444, 3) := by decide +kernel
theorem d_X9_doJob_90 : decode cX9_doJob 90 = .ok (.istore_n 3, 1) := by decide +kernel
theorem d_X9_doJob_91 : decode cX9_doJob 91 = .ok (.goto 58, 3) := by decide +kernel
theorem d_X9_doJob_94 : decode cX9_doJob 94 = .ok (.aload_n 0, 1) := by decide +kernel
theorem d_X9_doJob_95 : decode cX9_doJob 95 = .ok (.iload 5, 2) := by decide +kernel
theorem d_X9_doJob_97 : decode cX9_doJob 97 = .ok (.aload_n 0, 1) := by decide +kernel
theorem d_X9_doJob_98 : decode cX9_doJob 98 = .ok (.getfield 30, 3) := by decide +kernel
theorem d_X9_doJob_101 : decode cX9_doJob 101 = .ok (.getfield 447, 3) := by decide +kernel
theorem d_X9_doJob_104 : decode cX9_doJob 104 = .ok (.iload_n 3, 1) := by decide +kernel
theorem d_X9_doJob_105 : decode cX9_doJob 105 = .ok (.iaload, 1) := by decide +kernel
theorem d_X9_doJob_106 : decode cX9_doJob 106 = .ok (.aload_n 0, 1) := by decide +kernel
theorem d_X9_doJob_107 : decode cX9_doJob 107 = .ok (.getfield 30, 3) := by decide +kernel
theorem d_X9_doJob_110 : decode cX9_doJob 110 = .ok (.getfield 448, 3) := by decide +kernel
theorem d_X9_doJob_113 : decode cX9_doJob 113 = .ok (.iload_n 3, 1) := by decide +kernel
theorem d_X9_doJob_114 : decode cX9_doJob 114 = .ok (.iaload, 1) := by decide +kernel
theorem d_X9_doJob_115 : decode cX9_doJob 115 = .ok (.aload_n 0, 1) := by decide +kernel
theorem d_X9_doJob_116 : decode cX9_doJob 116 = .ok (.getfield 30, 3) := by decide +kernel
theorem d_X9_doJob_119 : decode cX9_doJob 119 = .ok (.getfield 451, 3) := by decide +kernel
theorem d_X9_doJob_122 : decode cX9_doJob 122 = .ok (.iload_n 3, 1) := by decide +kernel
theorem d_X9_doJob_123 : decode cX9_doJob 123 = .ok (.iaload, 1) := by decide +kernel
theorem d_X9_doJob_124 : decode cX9_doJob 124 = .ok (.invokevirtual 453, 3) := by decide +kernel
theorem d_X9_doJob_127 : decode cX9_doJob 127 = .ok (.ifCond .eq 9, 3) := by decide +kernel
theorem d_X9_doJob_130 : decode cX9_doJob 130 = .ok (.iinc 1 1, 3) := by decide +kernel
theorem d_X9_doJob_133 : decode cX9_doJob 133 = .ok (.goto 13, 3) := by decide +kernel
theorem d_X9_doJob_136 : decode cX9_doJob 136 = .ok (.aload_n 0, 1) := by decide +kernel
theorem d_X9_doJob_137 : decode cX9_doJob 137 = .ok (.dup, 1) := by decide +kernel
theorem d_X9_doJob_138 : decode cX9_doJob 138 = .ok (.getfield 124, 3) := by decide +kernel
theorem d_X9_doJob_141 : decode cX9_doJob 141 = .ok (.iconst 1, 1) := by decide +kernel
theorem d_X9_doJob_142 : decode cX9_doJob 142 = .ok (.iadd, 1) := by decide +kernel
theorem d_X9_doJob_143 : decode cX9_doJob 143 = .ok (.putfield 124, 3) := by decide +kernel
theorem d_X9_doJob_146 : decode cX9_doJob 146 = .ok (.iinc 3 1, 3) := by decide +kernel
theorem d_X9_doJob_149 : decode cX9_doJob 149 = .ok (.iinc 4 1, 3) := by decide +kernel
theorem d_X9_doJob_152 : decode cX9_doJob 152 = .ok (.goto (-138), 3) := by decide +kernel
theorem d_X9_doJob_155 : decode cX9_doJob 155 = .ok (.iload_n 1, 1) := by decide +kernel
theorem d_X9_doJob_156 : decode cX9_doJob 156 = .ok (.ireturn, 1) := by decide +kernel
def F_X9_doJob_149 (self14 : Int32 → Int32 → Int32 → Int32 → zMem → Option (Int32 × zMem)) (b149_L1 : Int32) (b149_L2 : Int32) (b149_L3 : Int32) (b149_L4 : Int32) (M : zMem) : Option (Int32 × zMem) :=
  self14 b149_L1 b149_L2 b149_L3 (b149_L4 + 1) M
def F_X9_doJob_146 (self14 : Int32 → Int32 → Int32 → Int32 → zMem → Option (Int32 × zMem)) (b146_L1 : Int32) (b146_L2 : Int32) (b146_L3 : Int32) (b146_L4 : Int32) (M : zMem) : Option (Int32 × zMem) :=
  F_X9_doJob_149 self14 b146_L1 b146_L2 (b146_L3 + 1) b146_L4 M
def F_X9_doJob_14 (self14 : Int32 → Int32 → Int32 → Int32 → zMem → Option (Int32 × zMem)) (b14_L1 : Int32) (b14_L2 : Int32) (b14_L3 : Int32) (b14_L4 : Int32) (M : zMem) : Option (Int32 × zMem) :=
  if (1000000 : Int32) ≤ b14_L4 then
    some (b14_L1, M)
  else
    zb (F_X2_isAt M 91 b14_L3) fun v2 M1 =>
    if v2 = 0 then
      some (b14_L1, M1)
    else
      gin b14_L3 150 <|
      zl (M1.1 92 b14_L3.toNatClampNeg) fun v4 =>
      if v4 = (6 : Int32) then
        zb (F_X2_behindClose M1 91 b14_L3) fun v11 M10 =>
        F_X9_doJob_149 self14 b14_L1 b14_L2 v11 b14_L4 M10
      else
        if b14_L2 < (200 : Int32) then
          if v4 = (5 : Int32) then
            zb (F_X2_behindAgain M1 91 b14_L3) fun v9 M8 =>
            F_X9_doJob_149 self14 b14_L1 (b14_L2 + 1) v9 b14_L4 M8
          else
            zb (F_X9_doStep M1 v4 (M1.1 93 b14_L3.toNatClampNeg) (M1.1 94 b14_L3.toNatClampNeg) (M1.1 95 b14_L3.toNatClampNeg)) fun v6 M5 =>
            if v6 = 0 then
              zl (zI M5 0 15 ((M5.1 0 15) + (1 : Int32))) fun M7 =>
              F_X9_doJob_146 self14 b14_L1 (b14_L2 + 1) b14_L3 b14_L4 M7
            else
              F_X9_doJob_146 self14 (b14_L1 + 1) (b14_L2 + 1) b14_L3 b14_L4 M5
        else
          some (b14_L1, M1)
def F_X9_doJob (M : zMem)  : Option (Int32 × zMem) :=
  zl (zI M 0 15 (0 : Int32)) fun M12 =>
  itF (fun _ _ _ _ _ => none) (F_X9_doJob_14) zFuel (0 : Int32) (0 : Int32) (0 : Int32) (0 : Int32) M12
def rm_X9_doJob : Room := { frames := 8, cells := 0, slots := 0, locals := 205 }
set_option maxHeartbeats 4000000 in
set_option maxRecDepth 100000 in
theorem c_X9_doJob (l : Launch) {G : zG} {ad : Nat → Nat} {n : Nat} (hA : zInj ad n) (M : zMem)  (hT : zT shX n 0 10) {r9 : Int32} {M9 : zMem} (hF : F_X9_doJob M  = some (r9, M9)) : zM l yX9_doJob cX9_doJob 6 (some .int) rm_X9_doJob G shX ad n M [.ref (ad 0)] (some (.int r9)) M9 := by
  refine zM_of hA (by decide +kernel) (lv := [(0, .ref (ad 0))]) (Nat.le_of_ble_eq_true rfl) rfl (fun p e s m args below meth c A cx hr => ?_)
  have hb149 : ∀ (self14 : Int32 → Int32 → Int32 → Int32 → zMem → Option (Int32 × zMem)) (hs14 : ∀ (b14_L1 : Int32) (b14_L2 : Int32) (b14_L3 : Int32) (b14_L4 : Int32) (M : zMem), self14 b14_L1 b14_L2 b14_L3 b14_L4 M = some (r9, M9) → zJ p l e rm_X9_doJob s m args below meth c G shX ad n A 6 (MQ below (zQ G shX ad n M9 (some (.int r9)) A) args s 0 0 A) 0 0 M 14 [(0, .ref (ad 0)), (1, .int b14_L1), (2, .int b14_L2), (3, .int b14_L3), (4, .int b14_L4)] []), ∀ (b149_L1 : Int32) (b149_L2 : Int32) (b149_L3 : Int32) (b149_L4 : Int32) (M : zMem), F_X9_doJob_149 self14 b149_L1 b149_L2 b149_L3 b149_L4 M = some (r9, M9) → zJ p l e rm_X9_doJob s m args below meth c G shX ad n A 6 (MQ below (zQ G shX ad n M9 (some (.int r9)) A) args s 0 0 A) 0 0 M 149 [(0, .ref (ad 0)), (1, .int b149_L1), (2, .int b149_L2), (3, .int b149_L3), (4, .int b149_L4)] [] := by
    intro self14 hs14 b149_L1 b149_L2 b149_L3 b149_L4 M hF
    unfold F_X9_doJob_149 at hF
    refine z_iinc cx 4 1 [(4, .int (b149_L4 + 1)), (0, .ref (ad 0)), (1, .int b149_L1), (2, .int b149_L2), (3, .int b149_L3)] d_X9_doJob_149 4 rfl ki_1 (by decide) rfl ?_
    refine z_goto cx 14 d_X9_doJob_152 (by decide) ?_
    exact z_lv [1, 2, 3, 4, 0] _ rfl (hs14 b149_L1 b149_L2 b149_L3 (b149_L4 + 1) M hF)
  have hb146 : ∀ (self14 : Int32 → Int32 → Int32 → Int32 → zMem → Option (Int32 × zMem)) (hs14 : ∀ (b14_L1 : Int32) (b14_L2 : Int32) (b14_L3 : Int32) (b14_L4 : Int32) (M : zMem), self14 b14_L1 b14_L2 b14_L3 b14_L4 M = some (r9, M9) → zJ p l e rm_X9_doJob s m args below meth c G shX ad n A 6 (MQ below (zQ G shX ad n M9 (some (.int r9)) A) args s 0 0 A) 0 0 M 14 [(0, .ref (ad 0)), (1, .int b14_L1), (2, .int b14_L2), (3, .int b14_L3), (4, .int b14_L4)] []), ∀ (b146_L1 : Int32) (b146_L2 : Int32) (b146_L3 : Int32) (b146_L4 : Int32) (M : zMem), F_X9_doJob_146 self14 b146_L1 b146_L2 b146_L3 b146_L4 M = some (r9, M9) → zJ p l e rm_X9_doJob s m args below meth c G shX ad n A 6 (MQ below (zQ G shX ad n M9 (some (.int r9)) A) args s 0 0 A) 0 0 M 146 [(0, .ref (ad 0)), (1, .int b146_L1), (2, .int b146_L2), (3, .int b146_L3), (4, .int b146_L4)] [] := by
    intro self14 hs14 b146_L1 b146_L2 b146_L3 b146_L4 M hF
    unfold F_X9_doJob_146 at hF
    refine z_iinc cx 3 1 [(3, .int (b146_L3 + 1)), (0, .ref (ad 0)), (1, .int b146_L1), (2, .int b146_L2), (4, .int b146_L4)] d_X9_doJob_146 3 rfl ki_1 (by decide) rfl ?_
    exact z_lv [1, 2, 3, 0, 4] _ rfl (hb149 self14 hs14 b146_L1 b146_L2 (b146_L3 + 1) b146_L4 M hF)
  have hL14 : ∀ (fuel : Nat), ∀ (b14_L1 : Int32) (b14_L2 : Int32) (b14_L3 : Int32) (b14_L4 : Int32) (M : zMem), itF (fun _ _ _ _ _ => none) (F_X9_doJob_14) fuel b14_L1 b14_L2 b14_L3 b14_L4 M = some (r9, M9) → zJ p l e rm_X9_doJob s m args below meth c G shX ad n A 6 (MQ below (zQ G shX ad n M9 (some (.int r9)) A) args s 0 0 A) 0 0 M 14 [(0, .ref (ad 0)), (1, .int b14_L1), (2, .int b14_L2), (3, .int b14_L3), (4, .int b14_L4)] [] := by
    intro fuel
    induction fuel with
    | zero => intro b14_L1 b14_L2 b14_L3 b14_L4 M hF; cases hF
    | succ fuel hs14 =>
      intro b14_L1 b14_L2 b14_L3 b14_L4 M hF
      have hF : F_X9_doJob_14 (itF (fun _ _ _ _ _ => none) (F_X9_doJob_14) fuel) b14_L1 b14_L2 b14_L3 b14_L4 M = some (r9, M9) := hF
      generalize itF (fun _ _ _ _ _ => none) (F_X9_doJob_14) fuel = self14 at hs14 hF
      unfold F_X9_doJob_14 at hF
      refine z_iload cx d_X9_doJob_14 4 rfl ?_
      refine z_ldcw cx wd_883 d_X9_doJob_16 ?_
      refine z_icmp_ge cx 155 d_X9_doJob_19 (by decide) hF (fun hF => ?_) (fun hF => ?_)
      · refine z_iload_n cx d_X9_doJob_155 1 rfl ?_
        exact z_iret cx hr rfl hF d_X9_doJob_156
      refine z_aload_n cx d_X9_doJob_22 0 rfl ?_
      refine z_getR cx hT fg_SunnyPans_30 91 rfl d_X9_doJob_23 ?_
      refine z_iload_n cx d_X9_doJob_26 3 rfl ?_
      obtain ⟨v2, M1, hc, hF⟩ := zb_inv hF
      refine z_callV cx (As := [.int b14_L3]) (rest := []) (c_X2_isAt l cx.2.2.2.1.1 M 91 b14_L3 (tfX_10_91 hT) hc) (tfX_10_91 hT) zo_3 cv_SunnyPans_435 ⟨rfl, rfl, Nat.le_of_ble_eq_true rfl, Nat.le_of_ble_eq_true rfl⟩ rfl rfl ⟨Nat.zero_le _, Nat.zero_le _⟩ (Nat.le_of_ble_eq_true rfl) d_X9_doJob_27 ?_
      refine z_if_eq cx 155 d_X9_doJob_30 (by decide) hF (fun hF => ?_) (fun hF => ?_)
      · refine z_iload_n cx d_X9_doJob_155 1 rfl ?_
        exact z_iret cx hr rfl hF d_X9_doJob_156
      refine z_aload_n cx d_X9_doJob_33 0 rfl ?_
      refine z_getR cx hT fg_SunnyPans_30 91 rfl d_X9_doJob_34 ?_
      refine z_getR cx (tfX_10_91 hT) fg_SunnyPans_438 92 rfl d_X9_doJob_37 ?_
      refine z_iload_n cx d_X9_doJob_40 3 rfl ?_
      obtain ⟨hi3, hF⟩ := gin_inv hF
      refine z_iald cx (tfX_3_1 (tfX_10_91 hT)) za_21 hi3 b14_L3.toNatClampNeg rfl d_X9_doJob_41 ?_
      refine z_nm hF (fun v4 hF => ?_)
      refine z_istore cx 5 [(5, .int v4), (0, .ref (ad 0)), (1, .int b14_L1), (2, .int b14_L2), (3, .int b14_L3), (4, .int b14_L4)] d_X9_doJob_42 (by decide) rfl ?_
      refine z_iload cx d_X9_doJob_44 0 rfl ?_
      refine z_bipush (v := 6) cx d_X9_doJob_46 kb_6 ?_
      refine z_icmp_ne cx 63 d_X9_doJob_48 (by decide) hF (fun hF => ?_) (fun hF => ?_)
      · refine z_iload_n cx d_X9_doJob_63 3 rfl ?_
        refine z_sipush (v := 200) cx d_X9_doJob_64 ks_200 ?_
        refine z_icmp_lt cx 73 d_X9_doJob_67 (by decide) hF (fun hF => ?_) (fun hF => ?_)
        · refine z_iinc cx 2 1 [(2, .int (b14_L2 + 1)), (5, .int v4), (0, .ref (ad 0)), (1, .int b14_L1), (3, .int b14_L3), (4, .int b14_L4)] d_X9_doJob_73 3 rfl ki_1 (by decide) rfl ?_
          refine z_iload cx d_X9_doJob_76 1 rfl ?_
          refine z_iconst (v := 5) cx d_X9_doJob_78 ki_5 ?_
          refine z_icmp_ne cx 94 d_X9_doJob_79 (by decide) hF (fun hF => ?_) (fun hF => ?_)
          · refine z_aload_n cx d_X9_doJob_94 2 rfl ?_
            refine z_iload cx d_X9_doJob_95 1 rfl ?_
            refine z_aload_n cx d_X9_doJob_97 2 rfl ?_
            refine z_getR cx hT fg_SunnyPans_30 91 rfl d_X9_doJob_98 ?_
            refine z_getR cx (tfX_10_91 hT) fg_SunnyPans_447 93 rfl d_X9_doJob_101 ?_
            refine z_iload_n cx d_X9_doJob_104 4 rfl ?_
            refine z_iald cx (tfX_3_2 (tfX_10_91 hT)) za_21 hi3 b14_L3.toNatClampNeg rfl d_X9_doJob_105 ?_
            refine z_aload_n cx d_X9_doJob_106 2 rfl ?_
            refine z_getR cx hT fg_SunnyPans_30 91 rfl d_X9_doJob_107 ?_
            refine z_getR cx (tfX_10_91 hT) fg_SunnyPans_448 94 rfl d_X9_doJob_110 ?_
            refine z_iload_n cx d_X9_doJob_113 4 rfl ?_
            refine z_iald cx (tfX_3_3 (tfX_10_91 hT)) za_21 hi3 b14_L3.toNatClampNeg rfl d_X9_doJob_114 ?_
            refine z_aload_n cx d_X9_doJob_115 2 rfl ?_
            refine z_getR cx hT fg_SunnyPans_30 91 rfl d_X9_doJob_116 ?_
            refine z_getR cx (tfX_10_91 hT) fg_SunnyPans_451 95 rfl d_X9_doJob_119 ?_
            refine z_iload_n cx d_X9_doJob_122 4 rfl ?_
            refine z_iald cx (tfX_3_4 (tfX_10_91 hT)) za_21 hi3 b14_L3.toNatClampNeg rfl d_X9_doJob_123 ?_
            obtain ⟨v6, M5, hc, hF⟩ := zb_inv hF
            refine z_callV cx (As := [.int v4, .int (M1.1 93 b14_L3.toNatClampNeg), .int (M1.1 94 b14_L3.toNatClampNeg), .int (M1.1 95 b14_L3.toNatClampNeg)]) (rest := []) (c_X9_doStep l cx.2.2.2.1.1 M1 v4 (M1.1 93 b14_L3.toNatClampNeg) (M1.1 94 b14_L3.toNatClampNeg) (M1.1 95 b14_L3.toNatClampNeg) hT hc) hT zo_10 cv_SunnyPans_453 ⟨rfl, rfl, Nat.le_of_ble_eq_true rfl, Nat.le_of_ble_eq_true rfl⟩ rfl rfl ⟨Nat.zero_le _, Nat.zero_le _⟩ (Nat.le_of_ble_eq_true rfl) d_X9_doJob_124 ?_
            refine z_if_eq cx 136 d_X9_doJob_127 (by decide) hF (fun hF => ?_) (fun hF => ?_)
            · refine z_aload_n cx d_X9_doJob_136 2 rfl ?_
              refine z_dup cx d_X9_doJob_137 rfl ?_
              refine z_getI cx hT fg_SunnyPans_124 d_X9_doJob_138 ?_
              refine z_iconst (v := 1) cx d_X9_doJob_141 ki_1 ?_
              refine z_iadd cx d_X9_doJob_142 ?_
              refine z_putI cx hT fp_SunnyPans_124 d_X9_doJob_143 ?_
              refine z_nmM hF (fun M7 hF => ?_)
              exact z_lv [2, 3, 0, 4, 5] _ rfl (hb146 self14 hs14 b14_L1 (b14_L2 + 1) b14_L3 b14_L4 M7 hF)
            refine z_iinc cx 1 1 [(1, .int (b14_L1 + 1)), (2, .int (b14_L2 + 1)), (5, .int v4), (0, .ref (ad 0)), (3, .int b14_L3), (4, .int b14_L4)] d_X9_doJob_130 3 rfl ki_1 (by decide) rfl ?_
            refine z_goto cx 146 d_X9_doJob_133 (by decide) ?_
            exact z_lv [3, 0, 1, 4, 5] _ rfl (hb146 self14 hs14 (b14_L1 + 1) (b14_L2 + 1) b14_L3 b14_L4 M5 hF)
          refine z_aload_n cx d_X9_doJob_82 2 rfl ?_
          refine z_getR cx hT fg_SunnyPans_30 91 rfl d_X9_doJob_83 ?_
          refine z_iload_n cx d_X9_doJob_86 4 rfl ?_
          obtain ⟨v9, M8, hc, hF⟩ := zb_inv hF
          refine z_callV cx (As := [.int b14_L3]) (rest := []) (c_X2_behindAgain l cx.2.2.2.1.1 M1 91 b14_L3 (tfX_10_91 hT) hc) (tfX_10_91 hT) zo_3 cv_SunnyPans_444 ⟨rfl, rfl, Nat.le_of_ble_eq_true rfl, Nat.le_of_ble_eq_true rfl⟩ rfl rfl ⟨Nat.zero_le _, Nat.zero_le _⟩ (Nat.le_of_ble_eq_true rfl) d_X9_doJob_87 ?_
          refine z_istore_n cx 3 [(3, .int v9), (2, .int (b14_L2 + 1)), (5, .int v4), (0, .ref (ad 0)), (1, .int b14_L1), (4, .int b14_L4)] d_X9_doJob_90 rfl (by decide) rfl ?_
          refine z_goto cx 149 d_X9_doJob_91 (by decide) ?_
          exact z_lv [3, 4, 1, 0, 5] _ rfl (hb149 self14 hs14 b14_L1 (b14_L2 + 1) v9 b14_L4 M8 hF)
        refine z_goto cx 155 d_X9_doJob_70 (by decide) ?_
        refine z_iload_n cx d_X9_doJob_155 2 rfl ?_
        exact z_iret cx hr rfl hF d_X9_doJob_156
      refine z_aload_n cx d_X9_doJob_51 1 rfl ?_
      refine z_getR cx hT fg_SunnyPans_30 91 rfl d_X9_doJob_52 ?_
      refine z_iload_n cx d_X9_doJob_55 4 rfl ?_
      obtain ⟨v11, M10, hc, hF⟩ := zb_inv hF
      refine z_callV cx (As := [.int b14_L3]) (rest := []) (c_X2_behindClose l cx.2.2.2.1.1 M1 91 b14_L3 (tfX_10_91 hT) hc) (tfX_10_91 hT) zo_3 cv_SunnyPans_441 ⟨rfl, rfl, Nat.le_of_ble_eq_true rfl, Nat.le_of_ble_eq_true rfl⟩ rfl rfl ⟨Nat.zero_le _, Nat.zero_le _⟩ (Nat.le_of_ble_eq_true rfl) d_X9_doJob_56 ?_
      refine z_istore_n cx 3 [(3, .int v11), (5, .int v4), (0, .ref (ad 0)), (1, .int b14_L1), (2, .int b14_L2), (4, .int b14_L4)] d_X9_doJob_59 rfl (by decide) rfl ?_
      refine z_goto cx 149 d_X9_doJob_60 (by decide) ?_
      exact z_lv [2, 3, 4, 0, 5] _ rfl (hb149 self14 hs14 b14_L1 b14_L2 v11 b14_L4 M10 hF)
  unfold F_X9_doJob at hF
  refine z_aload_n cx d_X9_doJob_0 0 rfl ?_
  refine z_iconst (v := 0) cx d_X9_doJob_1 ki_0 ?_
  refine z_putI cx hT fp_SunnyPans_124 d_X9_doJob_2 ?_
  refine z_nmM hF (fun M12 hF => ?_)
  refine z_iconst (v := 0) cx d_X9_doJob_5 ki_0 ?_
  refine z_istore_n cx 1 [(1, .int (0 : Int32)), (0, .ref (ad 0))] d_X9_doJob_6 rfl (by decide) rfl ?_
  refine z_iconst (v := 0) cx d_X9_doJob_7 ki_0 ?_
  refine z_istore_n cx 2 [(2, .int (0 : Int32)), (1, .int (0 : Int32)), (0, .ref (ad 0))] d_X9_doJob_8 rfl (by decide) rfl ?_
  refine z_iconst (v := 0) cx d_X9_doJob_9 ki_0 ?_
  refine z_istore_n cx 3 [(3, .int (0 : Int32)), (2, .int (0 : Int32)), (1, .int (0 : Int32)), (0, .ref (ad 0))] d_X9_doJob_10 rfl (by decide) rfl ?_
  refine z_iconst (v := 0) cx d_X9_doJob_11 ki_0 ?_
  refine z_istore cx 4 [(4, .int (0 : Int32)), (3, .int (0 : Int32)), (2, .int (0 : Int32)), (1, .int (0 : Int32)), (0, .ref (ad 0))] d_X9_doJob_12 (by decide) rfl ?_
  exact z_lv [4, 3, 2, 1, 0] _ rfl (hL14 zFuel (0 : Int32) (0 : Int32) (0 : Int32) (0 : Int32) M12 hF)
