/-! SunnyPans$Pans.shadeAt -/
theorem d_X4_shadeAt_0 : decode cX4_shadeAt 0 = .ok (.iload_n 1, 1) := by decide +kernel
theorem d_X4_shadeAt_1 : decode cX4_shadeAt 1 = .ok (.ifCond .lt 18, 3) := by decide +kernel
theorem d_X4_shadeAt_4 : decode cX4_shadeAt 4 = .ok (.iload_n 1, 1) := by decide +kernel
theorem d_X4_shadeAt_5 : decode cX4_shadeAt 5 = .ok (.bipush 10, 2) := by decide +kernel
theorem d_X4_shadeAt_7 : decode cX4_shadeAt 7 = .ok (.if_icmp .ge 12, 3) := by decide +kernel
theorem d_X4_shadeAt_10 : decode cX4_shadeAt 10 = .ok (.aload_n 0, 1) := by decide +kernel
theorem d_X4_shadeAt_11 : decode cX4_shadeAt 11 = .ok (.getfield 21, 3) := by decide +kernel
theorem d_X4_shadeAt_14 : decode cX4_shadeAt 14 = .ok (.iload_n 1, 1) := by decide +kernel
theorem d_X4_shadeAt_15 : decode cX4_shadeAt 15 = .ok (.laload, 1) := by decide +kernel
theorem d_X4_shadeAt_16 : decode cX4_shadeAt 16 = .ok (.goto 4, 3) := by decide +kernel
theorem d_X4_shadeAt_19 : decode cX4_shadeAt 19 = .ok (.lconst 0, 1) := by decide +kernel
theorem d_X4_shadeAt_20 : decode cX4_shadeAt 20 = .ok (.lreturn, 1) := by decide +kernel
noncomputable def F_X4_shadeAt (M : zMem) (t : Nat) (p0 : Int32) : Option (Int64 × zMem) :=
  if p0 < 0 then
    some ((0 : Int64), M)
  else
    if (10 : Int32) ≤ p0 then
      some ((0 : Int64), M)
    else
      gin p0 10 <|
      some ((M.2.1 (t + 4) p0.toNatClampNeg), M)
def rm_X4_shadeAt : Room := { frames := 2, cells := 0, slots := 0, locals := 80 }
set_option maxHeartbeats 4000000 in
set_option maxRecDepth 100000 in
theorem c_X4_shadeAt (l : Launch) {G : zG} {ad : Nat → Nat} {n : Nat} (hA : zInj ad n) (M : zMem) (t : Nat) (p0 : Int32) (hT_t : zT shX n t 5) {r9 : Int64} {M9 : zMem} (hF : F_X4_shadeAt M t p0 = some (r9, M9)) : zM l yX4_shadeAt cX4_shadeAt 2 (some .long) rm_X4_shadeAt G shX ad n M [.ref (ad t), .int p0] (some (.long r9)) M9 := by
  refine zM_of hA (by decide +kernel) (lv := [(0, .ref (ad t)), (1, .int p0)]) (Nat.le_of_ble_eq_true rfl) rfl (fun p e s m args below meth c A cx hr => ?_)
  unfold F_X4_shadeAt at hF
  refine z_iload_n cx d_X4_shadeAt_0 1 rfl ?_
  refine z_if_lt cx 19 d_X4_shadeAt_1 (by decide) hF (fun hF => ?_) (fun hF => ?_)
  · refine z_lconst (v := 0) cx d_X4_shadeAt_19 (by decide +kernel) ?_
    exact z_lret cx hr hF d_X4_shadeAt_20
  refine z_iload_n cx d_X4_shadeAt_4 1 rfl ?_
  refine z_bipush (v := 10) cx d_X4_shadeAt_5 kb_10 ?_
  refine z_icmp_ge cx 19 d_X4_shadeAt_7 (by decide) hF (fun hF => ?_) (fun hF => ?_)
  · refine z_lconst (v := 0) cx d_X4_shadeAt_19 (by decide +kernel) ?_
    exact z_lret cx hr hF d_X4_shadeAt_20
  refine z_aload_n cx d_X4_shadeAt_10 0 rfl ?_
  refine z_getR cx hT_t fg_Pans_21 (t + 4) rfl d_X4_shadeAt_11 ?_
  refine z_iload_n cx d_X4_shadeAt_14 1 rfl ?_
  obtain ⟨hi1, hF⟩ := gin_inv hF
  refine z_lald cx (tfX_5_4 hT_t) za_18 hi1 p0.toNatClampNeg rfl d_X4_shadeAt_15 ?_
  refine z_goto cx 20 d_X4_shadeAt_16 (by decide) ?_
  exact z_lret cx hr hF d_X4_shadeAt_20
/-! SunnyPans$Plan.square -/
theorem d_X5_square_0 : decode cX5_square 0 = .ok (.lconst 0, 1) := by decide +kernel
theorem d_X5_square_1 : decode cX5_square 1 = .ok (.lstore_n 2, 1) := by decide +kernel
theorem d_X5_square_2 : decode cX5_square 2 = .ok (.iconst 0, 1) := by decide +kernel
theorem d_X5_square_3 : decode cX5_square 3 = .ok (.istore 4, 2) := by decide +kernel
theorem d_X5_square_5 : decode cX5_square 5 = .ok (.iload 4, 2) := by decide +kernel
theorem d_X5_square_7 : decode cX5_square 7 = .ok (.iload_n 1, 1) := by decide +kernel
theorem d_X5_square_8 : decode cX5_square 8 = .ok (.if_icmp .ge 37, 3) := by decide +kernel
theorem d_X5_square_11 : decode cX5_square 11 = .ok (.iconst 0, 1) := by decide +kernel
theorem d_X5_square_12 : decode cX5_square 12 = .ok (.istore 5, 2) := by decide +kernel
theorem d_X5_square_14 : decode cX5_square 14 = .ok (.iload 5, 2) := by decide +kernel
theorem d_X5_square_16 : decode cX5_square 16 = .ok (.iload_n 0, 1) := by decide +kernel
theorem d_X5_square_17 : decode cX5_square 17 = .ok (.if_icmp .ge 22, 3) := by decide +kernel
theorem d_X5_square_20 : decode cX5_square 20 = .ok (.lload_n 2, 1) := by decide +kernel
theorem d_X5_square_21 : decode cX5_square 21 = .ok (.iload 5, 2) := by decide +kernel
theorem d_X5_square_23 : decode cX5_square 23 = .ok (.iload 4, 2) := by decide +kernel
theorem d_X5_square_25 : decode cX5_square 25 = .ok (.invokestatic 103, 3) := by decide +kernel
theorem d_X5_square_28 : decode cX5_square 28 = .ok (.invokestatic 106, 3) := by decide +kernel
theorem d_X5_square_31 : decode cX5_square 31 = .ok (.lor, 1) := by decide +kernel
theorem d_X5_square_32 : decode cX5_square 32 = .ok (.lstore_n 2, 1) := by decide +kernel
theorem d_X5_square_33 : decode cX5_square 33 = .ok (.iinc 5 1, 3) := by decide +kernel
theorem d_X5_square_36 : decode cX5_square 36 = .ok (.goto (-22), 3) := by decide +kernel
theorem d_X5_square_39 : decode cX5_square 39 = .ok (.iinc 4 1, 3) := by decide +kernel
theorem d_X5_square_42 : decode cX5_square 42 = .ok (.goto (-37), 3) := by decide +kernel
theorem d_X5_square_45 : decode cX5_square 45 = .ok (.lload_n 2, 1) := by decide +kernel
theorem d_X5_square_46 : decode cX5_square 46 = .ok (.lreturn, 1) := by decide +kernel
noncomputable def F_X5_square_14 (p0 : Int32) (p1 : Int32) (self5 : Int32 → Int32 → Int64 → Int32 → zMem → Option (Int64 × zMem)) (self14 : Int32 → Int32 → Int64 → Int32 → Int32 → zMem → Option (Int64 × zMem)) (b14_L0 : Int32) (b14_L1 : Int32) (b14_L2 : Int64) (b14_L4 : Int32) (b14_L5 : Int32) (M : zMem) : Option (Int64 × zMem) :=
  if b14_L0 ≤ b14_L5 then
    self5 b14_L0 b14_L1 b14_L2 (b14_L4 + 1) M
  else
    zb (F_X9_placeOf M b14_L5 b14_L4) fun v2 M1 =>
    zb (F_X9_bit M1 v2) fun v4 M3 =>
    zl (b14_L2 ||| v4) fun v5 =>
    self14 b14_L0 b14_L1 v5 b14_L4 (b14_L5 + 1) M3
noncomputable def F_X5_square_5 (p0 : Int32) (p1 : Int32) (self5 : Int32 → Int32 → Int64 → Int32 → zMem → Option (Int64 × zMem)) (b5_L0 : Int32) (b5_L1 : Int32) (b5_L2 : Int64) (b5_L4 : Int32) (M : zMem) : Option (Int64 × zMem) :=
  if b5_L1 ≤ b5_L4 then
    some (b5_L2, M)
  else
    itF (fun _ _ _ _ _ _ => none) (F_X5_square_14 p0 p1 self5) zFuel b5_L0 b5_L1 b5_L2 b5_L4 (0 : Int32) M
noncomputable def F_X5_square (M : zMem) (p0 : Int32) (p1 : Int32) : Option (Int64 × zMem) :=
  itF (fun _ _ _ _ _ => none) (F_X5_square_5 p0 p1) zFuel p0 p1 (0 : Int64) (0 : Int32) M
def rm_X5_square : Room := { frames := 3, cells := 0, slots := 0, locals := 101 }
set_option maxHeartbeats 4000000 in
set_option maxRecDepth 100000 in
theorem c_X5_square (l : Launch) {G : zG} {ad : Nat → Nat} {n : Nat} (hA : zInj ad n) (M : zMem) (p0 : Int32) (p1 : Int32) {r9 : Int64} {M9 : zMem} (hF : F_X5_square M p0 p1 = some (r9, M9)) : zM l yX5_square cX5_square 6 (some .long) rm_X5_square G shX ad n M [.int p0, .int p1] (some (.long r9)) M9 := by
  refine zM_of hA (by decide +kernel) (lv := [(0, .int p0), (1, .int p1)]) (Nat.le_of_ble_eq_true rfl) rfl (fun p e s m args below meth c A cx hr => ?_)
  have hL14 : ∀ (self5 : Int32 → Int32 → Int64 → Int32 → zMem → Option (Int64 × zMem)) (hs5 : ∀ (b5_L0 : Int32) (b5_L1 : Int32) (b5_L2 : Int64) (b5_L4 : Int32) (M : zMem), self5 b5_L0 b5_L1 b5_L2 b5_L4 M = some (r9, M9) → zJ p l e rm_X5_square s m args below meth c G shX ad n A 6 (MQ below (zQ G shX ad n M9 (some (.long r9)) A) args s 0 0 A) 0 0 M 5 [(0, .int b5_L0), (1, .int b5_L1), (2, .long b5_L2), (4, .int b5_L4)] []) (fuel : Nat), ∀ (b14_L0 : Int32) (b14_L1 : Int32) (b14_L2 : Int64) (b14_L4 : Int32) (b14_L5 : Int32) (M : zMem), itF (fun _ _ _ _ _ _ => none) (F_X5_square_14 p0 p1 self5) fuel b14_L0 b14_L1 b14_L2 b14_L4 b14_L5 M = some (r9, M9) → zJ p l e rm_X5_square s m args below meth c G shX ad n A 6 (MQ below (zQ G shX ad n M9 (some (.long r9)) A) args s 0 0 A) 0 0 M 14 [(0, .int b14_L0), (1, .int b14_L1), (2, .long b14_L2), (4, .int b14_L4), (5, .int b14_L5)] [] := by
    intro self5 hs5 fuel
    induction fuel with
    | zero => intro b14_L0 b14_L1 b14_L2 b14_L4 b14_L5 M hF; cases hF
    | succ fuel hs14 =>
      intro b14_L0 b14_L1 b14_L2 b14_L4 b14_L5 M hF
      have hF : F_X5_square_14 p0 p1 self5 (itF (fun _ _ _ _ _ _ => none) (F_X5_square_14 p0 p1 self5) fuel) b14_L0 b14_L1 b14_L2 b14_L4 b14_L5 M = some (r9, M9) := hF
      generalize itF (fun _ _ _ _ _ _ => none) (F_X5_square_14 p0 p1 self5) fuel = self14 at hs14 hF
      unfold F_X5_square_14 at hF
      refine z_iload cx d_X5_square_14 4 rfl ?_
      refine z_iload_n cx d_X5_square_16 0 rfl ?_
      refine z_icmp_ge cx 39 d_X5_square_17 (by decide) hF (fun hF => ?_) (fun hF => ?_)
      · refine z_iinc cx 4 1 [(4, .int (b14_L4 + 1)), (0, .int b14_L0), (1, .int b14_L1), (2, .long b14_L2), (5, .int b14_L5)] d_X5_square_39 3 rfl ki_1 (by decide) rfl ?_
        refine z_goto cx 5 d_X5_square_42 (by decide) ?_
        exact z_lv [1, 2, 3, 0] _ rfl (hs5 b14_L0 b14_L1 b14_L2 (b14_L4 + 1) M hF)
      refine z_lload_n cx d_X5_square_20 2 rfl ?_
      refine z_iload cx d_X5_square_21 4 rfl ?_
      refine z_iload cx d_X5_square_23 3 rfl ?_
      obtain ⟨v2, M1, hc, hF⟩ := zb_inv hF
      refine z_callSN cx (As := [.int b14_L5, .int b14_L4]) (rest := [.long b14_L2]) (c_X9_placeOf l cx.2.2.2.1.1 M b14_L5 b14_L4  hc) cn_Plan_103 wd_310 ⟨rfl, rfl, Nat.le_of_ble_eq_true rfl, Nat.le_of_ble_eq_true rfl⟩ rfl rfl ⟨Nat.zero_le _, Nat.zero_le _⟩ (Nat.le_of_ble_eq_true rfl) d_X5_square_25 ?_
      obtain ⟨v4, M3, hc, hF⟩ := zb_inv hF
      refine z_callSN cx (As := [.int v2]) (rest := [.long b14_L2]) (c_X9_bit l cx.2.2.2.1.1 M1 v2  hc) cn_Plan_106 wd_313 ⟨rfl, rfl, Nat.le_of_ble_eq_true rfl, Nat.le_of_ble_eq_true rfl⟩ rfl rfl ⟨Nat.zero_le _, Nat.zero_le _⟩ (Nat.le_of_ble_eq_true rfl) d_X5_square_28 ?_
      refine z_lor cx d_X5_square_31 ?_
      refine z_nml hF (fun v5 hF => ?_)
      refine z_lstore_n cx 2 [(2, .long v5), (0, .int b14_L0), (1, .int b14_L1), (4, .int b14_L4), (5, .int b14_L5)] d_X5_square_32 rfl (by decide) rfl ?_
      refine z_iinc cx 5 1 [(5, .int (b14_L5 + 1)), (2, .long v5), (0, .int b14_L0), (1, .int b14_L1), (4, .int b14_L4)] d_X5_square_33 4 rfl ki_1 (by decide) rfl ?_
      refine z_goto cx 14 d_X5_square_36 (by decide) ?_
      exact z_lv [2, 3, 1, 4, 0] _ rfl (hs14 b14_L0 b14_L1 v5 b14_L4 (b14_L5 + 1) M3 hF)
  have hL5 : ∀ (fuel : Nat), ∀ (b5_L0 : Int32) (b5_L1 : Int32) (b5_L2 : Int64) (b5_L4 : Int32) (M : zMem), itF (fun _ _ _ _ _ => none) (F_X5_square_5 p0 p1) fuel b5_L0 b5_L1 b5_L2 b5_L4 M = some (r9, M9) → zJ p l e rm_X5_square s m args below meth c G shX ad n A 6 (MQ below (zQ G shX ad n M9 (some (.long r9)) A) args s 0 0 A) 0 0 M 5 [(0, .int b5_L0), (1, .int b5_L1), (2, .long b5_L2), (4, .int b5_L4)] [] := by
    intro fuel
    induction fuel with
    | zero => intro b5_L0 b5_L1 b5_L2 b5_L4 M hF; cases hF
    | succ fuel hs5 =>
      intro b5_L0 b5_L1 b5_L2 b5_L4 M hF
      have hF : F_X5_square_5 p0 p1 (itF (fun _ _ _ _ _ => none) (F_X5_square_5 p0 p1) fuel) b5_L0 b5_L1 b5_L2 b5_L4 M = some (r9, M9) := hF
      generalize itF (fun _ _ _ _ _ => none) (F_X5_square_5 p0 p1) fuel = self5 at hs5 hF
      unfold F_X5_square_5 at hF
      refine z_iload cx d_X5_square_5 3 rfl ?_
      refine z_iload_n cx d_X5_square_7 1 rfl ?_
      refine z_icmp_ge cx 45 d_X5_square_8 (by decide) hF (fun hF => ?_) (fun hF => ?_)
      · refine z_lload_n cx d_X5_square_45 2 rfl ?_
        exact z_lret cx hr hF d_X5_square_46
      refine z_iconst (v := 0) cx d_X5_square_11 ki_0 ?_
      refine z_istore cx 5 [(5, .int (0 : Int32)), (0, .int b5_L0), (1, .int b5_L1), (2, .long b5_L2), (4, .int b5_L4)] d_X5_square_12 (by decide) rfl ?_
      exact z_lv [1, 2, 3, 4, 0] _ rfl (hL14 self5 hs5 zFuel b5_L0 b5_L1 b5_L2 b5_L4 (0 : Int32) M hF)
  unfold F_X5_square at hF
  refine z_lconst (v := 0) cx d_X5_square_0 (by decide +kernel) ?_
  refine z_lstore_n cx 2 [(2, .long (0 : Int64)), (0, .int p0), (1, .int p1)] d_X5_square_1 rfl (by decide) rfl ?_
  refine z_iconst (v := 0) cx d_X5_square_2 ki_0 ?_
  refine z_istore cx 4 [(4, .int (0 : Int32)), (2, .long (0 : Int64)), (0, .int p0), (1, .int p1)] d_X5_square_3 (by decide) rfl ?_
  exact z_lv [2, 3, 1, 0] _ rfl (hL5 zFuel p0 p1 (0 : Int64) (0 : Int32) M hF)
/-! SunnyPans$Plan.refuseOver -/
set_option maxRecDepth 100000 in
theorem wd_145 : Cond.fieldLink "SunnyPans$Plan" 88 "SunnyPans$Text" "wordFrom" "I" ∈ tbG := tw1 45 rfl rfl
theorem fg_Plan_88 : zGetI "SunnyPans$Plan" 88 8 9 4 := ⟨RX8, TX8, 8, rfl, by decide, uw_8, wd_145, fun _ _ _ _ _ _ => ⟨_, rfl, rfl⟩⟩
set_option maxRecDepth 100000 in
theorem wd_690 : Cond.methodLink "SunnyPans$Plan" 91 yX8_fail ∈ tbG := tw3 110 rfl rfl
theorem cv_Plan_91 : zCV "SunnyPans$Plan" 91 "SunnyPans$Text" yX8_fail cX8_fail 3 none 2 := zCV_of wd_690 wd_691 wd_692 wd_102 wd_693 (by decide +kernel)
theorem d_X5_refuseOver_0 : decode cX5_refuseOver 0 = .ok (.iload_n 1, 1) := by decide +kernel
theorem d_X5_refuseOver_1 : decode cX5_refuseOver 1 = .ok (.iload_n 2, 1) := by decide +kernel
theorem d_X5_refuseOver_2 : decode cX5_refuseOver 2 = .ok (.if_icmp .lt 12, 3) := by decide +kernel
theorem d_X5_refuseOver_5 : decode cX5_refuseOver 5 = .ok (.aload_n 0, 1) := by decide +kernel
theorem d_X5_refuseOver_6 : decode cX5_refuseOver 6 = .ok (.iconst 3, 1) := by decide +kernel
theorem d_X5_refuseOver_7 : decode cX5_refuseOver 7 = .ok (.aload_n 0, 1) := by decide +kernel
theorem d_X5_refuseOver_8 : decode cX5_refuseOver 8 = .ok (.getfield 88, 3) := by decide +kernel
theorem d_X5_refuseOver_11 : decode cX5_refuseOver 11 = .ok (.invokevirtual 91, 3) := by decide +kernel
theorem d_X5_refuseOver_14 : decode cX5_refuseOver 14 = .ok (.return_, 1) := by decide +kernel
noncomputable def F_X5_refuseOver (M : zMem) (p0 : Nat) (p1 : Int32) (p2 : Int32) : Option (zMem) :=
  if p1 < p2 then
    some M
  else
    zbv (F_X8_fail M p0 (3 : Int32) (M.1 p0 4)) fun M1 =>
    some M1
def rm_X5_refuseOver : Room := { frames := 3, cells := 0, slots := 0, locals := 102 }
set_option maxHeartbeats 4000000 in
set_option maxRecDepth 100000 in
theorem c_X5_refuseOver (l : Launch) {G : zG} {ad : Nat → Nat} {n : Nat} (hA : zInj ad n) (M : zMem) (p0 : Nat) (p1 : Int32) (p2 : Int32) (hT_p0 : zT shX n p0 9) {M9 : zMem} (hF : F_X5_refuseOver M p0 p1 p2 = some M9) : zM l yX5_refuseOver cX5_refuseOver 3 none rm_X5_refuseOver G shX ad n M [.ref (ad p0), .int p1, .int p2] none M9 := by
  refine zM_of hA (by decide +kernel) (lv := [(0, .ref (ad p0)), (1, .int p1), (2, .int p2)]) (Nat.le_of_ble_eq_true rfl) rfl (fun p e s m args below meth c A cx hr => ?_)
  unfold F_X5_refuseOver at hF
  refine z_iload_n cx d_X5_refuseOver_0 1 rfl ?_
  refine z_iload_n cx d_X5_refuseOver_1 2 rfl ?_
  refine z_icmp_lt cx 14 d_X5_refuseOver_2 (by decide) hF (fun hF => ?_) (fun hF => ?_)
  · exact z_vret cx hr hF d_X5_refuseOver_14
  refine z_aload_n cx d_X5_refuseOver_5 0 rfl ?_
  refine z_iconst (v := 3) cx d_X5_refuseOver_6 ki_3 ?_
  refine z_aload_n cx d_X5_refuseOver_7 0 rfl ?_
  refine z_getI cx hT_p0 fg_Plan_88 d_X5_refuseOver_8 ?_
  obtain ⟨M1, hc, hF⟩ := zbv_inv hF
  refine z_callV cx (As := [.int (3 : Int32), .int (M.1 p0 4)]) (rest := []) (c_X8_fail l cx.2.2.2.1.1 M p0 (3 : Int32) (M.1 p0 4) hT_p0 hc) hT_p0 zo_9 cv_Plan_91 ⟨rfl, rfl, Nat.le_of_ble_eq_true rfl, Nat.le_of_ble_eq_true rfl⟩ rfl rfl ⟨Nat.zero_le _, Nat.zero_le _⟩ (Nat.le_of_ble_eq_true rfl) d_X5_refuseOver_11 ?_
  exact z_vret cx hr hF d_X5_refuseOver_14
/-! SunnyPans$Plan.readHour -/
set_option maxRecDepth 100000 in
theorem wd_694 : Cond.methodLink "SunnyPans$Plan" 71 yX8_number ∈ tbG := tw3 114 rfl rfl
theorem cv_Plan_71 : zCV "SunnyPans$Plan" 71 "SunnyPans$Text" yX8_number cX8_number 4 (some .int) 2 := zCV_of wd_694 wd_695 wd_696 wd_102 wd_697 (by decide +kernel)
theorem zc_5 : zCls 5 := ⟨RX5, TX5, 9, tyX5, rfl, tyX5_ok, nmX5⟩
theorem fp_Plan_42 : zPutI "SunnyPans$Plan" 42 5 6 2 := ⟨zc_5, fg_Plan_42, ⟨RX5, TX5, 9, rfl, rfl, by decide +kernel⟩, fun _ _ _ _ _ _ _ => ⟨_, rfl, Nat.le_of_ble_eq_true rfl, rfl⟩⟩
theorem d_X5_readHour_0 : decode cX5_readHour 0 = .ok (.aload_n 1, 1) := by decide +kernel
theorem d_X5_readHour_1 : decode cX5_readHour 1 = .ok (.iconst 0, 1) := by decide +kernel
theorem d_X5_readHour_2 : decode cX5_readHour 2 = .ok (.bipush 7, 2) := by decide +kernel
theorem d_X5_readHour_4 : decode cX5_readHour 4 = .ok (.invokevirtual 71, 3) := by decide +kernel
theorem d_X5_readHour_7 : decode cX5_readHour 7 = .ok (.istore_n 2, 1) := by decide +kernel
theorem d_X5_readHour_8 : decode cX5_readHour 8 = .ok (.aload_n 1, 1) := by decide +kernel
theorem d_X5_readHour_9 : decode cX5_readHour 9 = .ok (.iconst 0, 1) := by decide +kernel
theorem d_X5_readHour_10 : decode cX5_readHour 10 = .ok (.bipush 40, 2) := by decide +kernel
theorem d_X5_readHour_12 : decode cX5_readHour 12 = .ok (.invokevirtual 71, 3) := by decide +kernel
theorem d_X5_readHour_15 : decode cX5_readHour 15 = .ok (.istore_n 3, 1) := by decide +kernel
theorem d_X5_readHour_16 : decode cX5_readHour 16 = .ok (.aload_n 0, 1) := by decide +kernel
theorem d_X5_readHour_17 : decode cX5_readHour 17 = .ok (.getfield 42, 3) := by decide +kernel
theorem d_X5_readHour_20 : decode cX5_readHour 20 = .ok (.bipush 10, 2) := by decide +kernel
theorem d_X5_readHour_22 : decode cX5_readHour 22 = .ok (.if_icmp .ge 33, 3) := by decide +kernel
theorem d_X5_readHour_25 : decode cX5_readHour 25 = .ok (.aload_n 0, 1) := by decide +kernel
theorem d_X5_readHour_26 : decode cX5_readHour 26 = .ok (.getfield 26, 3) := by decide +kernel
theorem d_X5_readHour_29 : decode cX5_readHour 29 = .ok (.aload_n 0, 1) := by decide +kernel
theorem d_X5_readHour_30 : decode cX5_readHour 30 = .ok (.getfield 42, 3) := by decide +kernel
theorem d_X5_readHour_33 : decode cX5_readHour 33 = .ok (.iload_n 2, 1) := by decide +kernel
theorem d_X5_readHour_34 : decode cX5_readHour 34 = .ok (.iastore, 1) := by decide +kernel
theorem d_X5_readHour_35 : decode cX5_readHour 35 = .ok (.aload_n 0, 1) := by decide +kernel
theorem d_X5_readHour_36 : decode cX5_readHour 36 = .ok (.getfield 30, 3) := by decide +kernel
theorem d_X5_readHour_39 : decode cX5_readHour 39 = .ok (.aload_n 0, 1) := by decide +kernel
theorem d_X5_readHour_40 : decode cX5_readHour 40 = .ok (.getfield 42, 3) := by decide +kernel
theorem d_X5_readHour_43 : decode cX5_readHour 43 = .ok (.iload_n 3, 1) := by decide +kernel
theorem d_X5_readHour_44 : decode cX5_readHour 44 = .ok (.iastore, 1) := by decide +kernel
theorem d_X5_readHour_45 : decode cX5_readHour 45 = .ok (.aload_n 0, 1) := by decide +kernel
theorem d_X5_readHour_46 : decode cX5_readHour 46 = .ok (.dup, 1) := by decide +kernel
theorem d_X5_readHour_47 : decode cX5_readHour 47 = .ok (.getfield 42, 3) := by decide +kernel
theorem d_X5_readHour_50 : decode cX5_readHour 50 = .ok (.iconst 1, 1) := by decide +kernel
theorem d_X5_readHour_51 : decode cX5_readHour 51 = .ok (.iadd, 1) := by decide +kernel
theorem d_X5_readHour_52 : decode cX5_readHour 52 = .ok (.putfield 42, 3) := by decide +kernel
theorem d_X5_readHour_55 : decode cX5_readHour 55 = .ok (.return_, 1) := by decide +kernel
noncomputable def F_X5_readHour (M : zMem) (t : Nat) (p0 : Nat) : Option (zMem) :=
  zb (F_X8_number M p0 (0 : Int32) (7 : Int32)) fun v2 M1 =>
  zb (F_X8_number M1 p0 (0 : Int32) (40 : Int32)) fun v4 M3 =>
  if (10 : Int32) ≤ (M3.1 t 2) then
    some M3
  else
    gin (M3.1 t 2) 10 <|
    zl (zI M3 (t + 1) ((M3.1 t 2).toNatClampNeg) v2) fun M6 =>
    gin (M6.1 t 2) 10 <|
    zl (zI M6 (t + 2) ((M6.1 t 2).toNatClampNeg) v4) fun M8 =>
    zl (zI M8 t 2 ((M8.1 t 2) + (1 : Int32))) fun M9 =>
    some M9
def rm_X5_readHour : Room := { frames := 5, cells := 0, slots := 0, locals := 143 }
set_option maxHeartbeats 4000000 in
set_option maxRecDepth 100000 in
theorem c_X5_readHour (l : Launch) {G : zG} {ad : Nat → Nat} {n : Nat} (hA : zInj ad n) (M : zMem) (t : Nat) (p0 : Nat) (hT_t : zT shX n t 6) (hT_p0 : zT shX n p0 9) {M9 : zMem} (hF : F_X5_readHour M t p0 = some M9) : zM l yX5_readHour cX5_readHour 4 none rm_X5_readHour G shX ad n M [.ref (ad t), .ref (ad p0)] none M9 := by
  refine zM_of hA (by decide +kernel) (lv := [(0, .ref (ad t)), (1, .ref (ad p0))]) (Nat.le_of_ble_eq_true rfl) rfl (fun p e s m args below meth c A cx hr => ?_)
  unfold F_X5_readHour at hF
  refine z_aload_n cx d_X5_readHour_0 1 rfl ?_
  refine z_iconst (v := 0) cx d_X5_readHour_1 ki_0 ?_
  refine z_bipush (v := 7) cx d_X5_readHour_2 kb_7 ?_
  obtain ⟨v2, M1, hc, hF⟩ := zb_inv hF
  refine z_callV cx (As := [.int (0 : Int32), .int (7 : Int32)]) (rest := []) (c_X8_number l cx.2.2.2.1.1 M p0 (0 : Int32) (7 : Int32) hT_p0 hc) hT_p0 zo_9 cv_Plan_71 ⟨rfl, rfl, Nat.le_of_ble_eq_true rfl, Nat.le_of_ble_eq_true rfl⟩ rfl rfl ⟨Nat.zero_le _, Nat.zero_le _⟩ (Nat.le_of_ble_eq_true rfl) d_X5_readHour_4 ?_
  refine z_istore_n cx 2 [(2, .int v2), (0, .ref (ad t)), (1, .ref (ad p0))] d_X5_readHour_7 rfl (by decide) rfl ?_
  refine z_aload_n cx d_X5_readHour_8 2 rfl ?_
  refine z_iconst (v := 0) cx d_X5_readHour_9 ki_0 ?_
  refine z_bipush (v := 40) cx d_X5_readHour_10 kb_40 ?_
  obtain ⟨v4, M3, hc, hF⟩ := zb_inv hF
  refine z_callV cx (As := [.int (0 : Int32), .int (40 : Int32)]) (rest := []) (c_X8_number l cx.2.2.2.1.1 M1 p0 (0 : Int32) (40 : Int32) hT_p0 hc) hT_p0 zo_9 cv_Plan_71 ⟨rfl, rfl, Nat.le_of_ble_eq_true rfl, Nat.le_of_ble_eq_true rfl⟩ rfl rfl ⟨Nat.zero_le _, Nat.zero_le _⟩ (Nat.le_of_ble_eq_true rfl) d_X5_readHour_12 ?_
  refine z_istore_n cx 3 [(3, .int v4), (2, .int v2), (0, .ref (ad t)), (1, .ref (ad p0))] d_X5_readHour_15 rfl (by decide) rfl ?_
  refine z_aload_n cx d_X5_readHour_16 2 rfl ?_
  refine z_getI cx hT_t fg_Plan_42 d_X5_readHour_17 ?_
  refine z_bipush (v := 10) cx d_X5_readHour_20 kb_10 ?_
  refine z_icmp_ge cx 55 d_X5_readHour_22 (by decide) hF (fun hF => ?_) (fun hF => ?_)
  · exact z_vret cx hr hF d_X5_readHour_55
  refine z_aload_n cx d_X5_readHour_25 2 rfl ?_
  refine z_getR cx hT_t fg_Plan_26 (t + 1) rfl d_X5_readHour_26 ?_
  refine z_aload_n cx d_X5_readHour_29 2 rfl ?_
  refine z_getI cx hT_t fg_Plan_42 d_X5_readHour_30 ?_
  refine z_iload_n cx d_X5_readHour_33 1 rfl ?_
  obtain ⟨hi5, hF⟩ := gin_inv hF
  refine z_iast cx (tfX_6_1 hT_t) za_25 hi5 ((M3.1 t 2).toNatClampNeg) rfl d_X5_readHour_34 ?_
  refine z_nmM hF (fun M6 hF => ?_)
  refine z_aload_n cx d_X5_readHour_35 2 rfl ?_
  refine z_getR cx hT_t fg_Plan_30 (t + 2) rfl d_X5_readHour_36 ?_
  refine z_aload_n cx d_X5_readHour_39 2 rfl ?_
  refine z_getI cx hT_t fg_Plan_42 d_X5_readHour_40 ?_
  refine z_iload_n cx d_X5_readHour_43 0 rfl ?_
  obtain ⟨hi7, hF⟩ := gin_inv hF
  refine z_iast cx (tfX_6_2 hT_t) za_25 hi7 ((M6.1 t 2).toNatClampNeg) rfl d_X5_readHour_44 ?_
  refine z_nmM hF (fun M8 hF => ?_)
  refine z_aload_n cx d_X5_readHour_45 2 rfl ?_
  refine z_dup cx d_X5_readHour_46 rfl ?_
  refine z_getI cx hT_t fg_Plan_42 d_X5_readHour_47 ?_
  refine z_iconst (v := 1) cx d_X5_readHour_50 ki_1 ?_
  refine z_iadd cx d_X5_readHour_51 ?_
  refine z_putI cx hT_t fp_Plan_42 d_X5_readHour_52 ?_
  refine z_nmM hF (fun M9 hF => ?_)
  exact z_vret cx hr hF d_X5_readHour_55
/-! SunnyPans$Plan.readClause -/
set_option maxRecDepth 100000 in
theorem wd_723 : Cond.methodLink "SunnyPans$Plan" 95 yX8_sign ∈ tbG := tw3 143 rfl rfl
theorem cv_Plan_95 : zCV "SunnyPans$Plan" 95 "SunnyPans$Text" yX8_sign cX8_sign 2 none 1 := zCV_of wd_723 wd_724 wd_725 wd_102 wd_726 (by decide +kernel)
set_option maxRecDepth 100000 in
theorem wd_623 : Cond.methodLink "SunnyPans$Plan" 58 yX8_word ∈ tbG := tw3 43 rfl rfl
theorem cv_Plan_58 : zCV "SunnyPans$Plan" 58 "SunnyPans$Text" yX8_word cX8_word 1 none 0 := zCV_of wd_623 wd_624 wd_625 wd_102 wd_626 (by decide +kernel)
set_option maxRecDepth 100000 in
theorem wd_635 : Cond.methodLink "SunnyPans$Plan" 63 yX8_wordIs ∈ tbG := tw3 55 rfl rfl
theorem cv_Plan_63 : zCV "SunnyPans$Plan" 63 "SunnyPans$Text" yX8_wordIs cX8_wordIs 4 (some .boolean) 1 := zCV_of wd_635 wd_636 wd_637 wd_102 wd_638 (by decide +kernel)
set_option maxRecDepth 100000 in
theorem wd_689 : Cond.code yX5_refuseOver cX5_refuseOver 3 none ∈ tbG := tw3 109 rfl rfl
set_option maxRecDepth 100000 in
theorem wd_687 : Cond.methodLink "SunnyPans$Plan" 67 yX5_refuseOver ∈ tbG := tw3 107 rfl rfl
set_option maxRecDepth 100000 in
theorem wd_688 : Cond.static yX5_refuseOver ∈ tbG := tw3 108 rfl rfl
theorem cs_Plan_67 : zCS "SunnyPans$Plan" 67 yX5_refuseOver cX5_refuseOver 3 none 3 := zCS_of wd_687 wd_688 wd_108 wd_689 (by decide +kernel)
set_option maxRecDepth 100000 in
theorem wd_716 : Cond.methodLink "SunnyPans$Plan" 83 yX8_place ∈ tbG := tw3 136 rfl rfl
theorem cv_Plan_83 : zCV "SunnyPans$Plan" 83 "SunnyPans$Text" yX8_place cX8_place 5 (some .int) 2 := zCV_of wd_716 wd_717 wd_718 wd_102 wd_719 (by decide +kernel)
set_option maxRecDepth 100000 in
theorem wd_338 : Cond.fieldLink "SunnyPans$Plan" 39 "SunnyPans$Plan" "grams" "[I" ∈ tbG := tw1 238 rfl rfl
theorem fg_Plan_39 : zGetR "SunnyPans$Plan" 39 5 6 8 5 := ⟨RX5, TX5, 9, rfl, by decide, uw_5, wd_338, fun _ _ _ _ _ _ => ⟨_, rfl, rfl⟩⟩
set_option maxRecDepth 100000 in
theorem wd_334 : Cond.fieldLink "SunnyPans$Plan" 33 "SunnyPans$Plan" "brine" "[I" ∈ tbG := tw1 234 rfl rfl
theorem fg_Plan_33 : zGetR "SunnyPans$Plan" 33 5 6 6 3 := ⟨RX5, TX5, 9, rfl, by decide, uw_5, wd_334, fun _ _ _ _ _ _ => ⟨_, rfl, rfl⟩⟩
set_option maxRecDepth 100000 in
theorem wd_336 : Cond.fieldLink "SunnyPans$Plan" 36 "SunnyPans$Plan" "salt" "[I" ∈ tbG := tw1 236 rfl rfl
theorem fg_Plan_36 : zGetR "SunnyPans$Plan" 36 5 6 7 4 := ⟨RX5, TX5, 9, rfl, by decide, uw_5, wd_336, fun _ _ _ _ _ _ => ⟨_, rfl, rfl⟩⟩
set_option maxRecDepth 100000 in
theorem wd_714 : Cond.code yX5_readHour cX5_readHour 4 none ∈ tbG := tw3 134 rfl rfl
set_option maxRecDepth 100000 in
theorem wd_711 : Cond.methodLink "SunnyPans$Plan" 77 yX5_readHour ∈ tbG := tw3 131 rfl rfl
set_option maxRecDepth 100000 in
theorem wd_713 : Cond.instanceMethod yX5_readHour ∈ tbG := tw3 133 rfl rfl
theorem wd_7 : Cond.selects "SunnyPans$Plan" yX5_readHour yX5_readHour ∈ tbG := tw 7 (by decide +kernel) rfl
theorem cv_Plan_77 : zCV "SunnyPans$Plan" 77 "SunnyPans$Plan" yX5_readHour cX5_readHour 4 none 1 := zCV_of wd_711 wd_713 wd_7 wd_108 wd_714 (by decide +kernel)
theorem fp_Plan_9 : zPutI "SunnyPans$Plan" 9 5 6 0 := ⟨zc_5, fg_Plan_9, ⟨RX5, TX5, 9, rfl, rfl, by decide +kernel⟩, fun _ _ _ _ _ _ _ => ⟨_, rfl, Nat.le_of_ble_eq_true rfl, rfl⟩⟩
theorem fp_Plan_15 : zPutI "SunnyPans$Plan" 15 5 6 1 := ⟨zc_5, fg_Plan_15, ⟨RX5, TX5, 9, rfl, rfl, by decide +kernel⟩, fun _ _ _ _ _ _ _ => ⟨_, rfl, Nat.le_of_ble_eq_true rfl, rfl⟩⟩
theorem d_X5_readClause_0 : decode cX5_readClause 0 = .ok (.aload_n 1, 1) := by decide +kernel
theorem d_X5_readClause_1 : decode cX5_readClause 1 = .ok (.invokevirtual 58, 3) := by decide +kernel
theorem d_X5_readClause_4 : decode cX5_readClause 4 = .ok (.aload_n 1, 1) := by decide +kernel
theorem d_X5_readClause_5 : decode cX5_readClause 5 = .ok (.ldc 61, 2) := by decide +kernel
theorem d_X5_readClause_7 : decode cX5_readClause 7 = .ok (.invokevirtual 63, 3) := by decide +kernel
theorem d_X5_readClause_10 : decode cX5_readClause 10 = .ok (.ifCond .eq 35, 3) := by decide +kernel
theorem d_X5_readClause_13 : decode cX5_readClause 13 = .ok (.aload_n 1, 1) := by decide +kernel
theorem d_X5_readClause_14 : decode cX5_readClause 14 = .ok (.iload_n 2, 1) := by decide +kernel
theorem d_X5_readClause_15 : decode cX5_readClause 15 = .ok (.bipush 60, 2) := by decide +kernel
theorem d_X5_readClause_17 : decode cX5_readClause 17 = .ok (.invokestatic 67, 3) := by decide +kernel
theorem d_X5_readClause_20 : decode cX5_readClause 20 = .ok (.aload_n 0, 1) := by decide +kernel
theorem d_X5_readClause_21 : decode cX5_readClause 21 = .ok (.aload_n 1, 1) := by decide +kernel
theorem d_X5_readClause_22 : decode cX5_readClause 22 = .ok (.iconst 1, 1) := by decide +kernel
theorem d_X5_readClause_23 : decode cX5_readClause 23 = .ok (.bipush 8, 2) := by decide +kernel
theorem d_X5_readClause_25 : decode cX5_readClause 25 = .ok (.invokevirtual 71, 3) := by decide +kernel
theorem d_X5_readClause_28 : decode cX5_readClause 28 = .ok (.putfield 9, 3) := by decide +kernel
theorem d_X5_readClause_31 : decode cX5_readClause 31 = .ok (.aload_n 0, 1) := by decide +kernel
theorem d_X5_readClause_32 : decode cX5_readClause 32 = .ok (.aload_n 1, 1) := by decide +kernel
theorem d_X5_readClause_33 : decode cX5_readClause 33 = .ok (.iconst 1, 1) := by decide +kernel
theorem d_X5_readClause_34 : decode cX5_readClause 34 = .ok (.bipush 8, 2) := by decide +kernel
theorem d_X5_readClause_36 : decode cX5_readClause 36 = .ok (.invokevirtual 71, 3) := by decide +kernel
theorem d_X5_readClause_39 : decode cX5_readClause 39 = .ok (.putfield 15, 3) := by decide +kernel
theorem d_X5_readClause_42 : decode cX5_readClause 42 = .ok (.goto 144, 3) := by decide +kernel
theorem d_X5_readClause_45 : decode cX5_readClause 45 = .ok (.aload_n 1, 1) := by decide +kernel
theorem d_X5_readClause_46 : decode cX5_readClause 46 = .ok (.ldc 75, 2) := by decide +kernel
theorem d_X5_readClause_48 : decode cX5_readClause 48 = .ok (.invokevirtual 63, 3) := by decide +kernel
theorem d_X5_readClause_51 : decode cX5_readClause 51 = .ok (.ifCond .eq 28, 3) := by decide +kernel
theorem d_X5_readClause_54 : decode cX5_readClause 54 = .ok (.aload_n 1, 1) := by decide +kernel
theorem d_X5_readClause_55 : decode cX5_readClause 55 = .ok (.iload_n 2, 1) := by decide +kernel
theorem d_X5_readClause_56 : decode cX5_readClause 56 = .ok (.bipush 60, 2) := by decide +kernel
theorem d_X5_readClause_58 : decode cX5_readClause 58 = .ok (.invokestatic 67, 3) := by decide +kernel
theorem d_X5_readClause_61 : decode cX5_readClause 61 = .ok (.aload_n 1, 1) := by decide +kernel
theorem d_X5_readClause_62 : decode cX5_readClause 62 = .ok (.aload_n 0, 1) := by decide +kernel
theorem d_X5_readClause_63 : decode cX5_readClause 63 = .ok (.getfield 42, 3) := by decide +kernel
theorem d_X5_readClause_66 : decode cX5_readClause 66 = .ok (.bipush 10, 2) := by decide +kernel
theorem d_X5_readClause_68 : decode cX5_readClause 68 = .ok (.invokestatic 67, 3) := by decide +kernel
theorem d_X5_readClause_71 : decode cX5_readClause 71 = .ok (.aload_n 0, 1) := by decide +kernel
theorem d_X5_readClause_72 : decode cX5_readClause 72 = .ok (.aload_n 1, 1) := by decide +kernel
theorem d_X5_readClause_73 : decode cX5_readClause 73 = .ok (.invokevirtual 77, 3) := by decide +kernel
theorem d_X5_readClause_76 : decode cX5_readClause 76 = .ok (.goto 110, 3) := by decide +kernel
theorem d_X5_readClause_79 : decode cX5_readClause 79 = .ok (.aload_n 1, 1) := by decide +kernel
theorem d_X5_readClause_80 : decode cX5_readClause 80 = .ok (.ldc 81, 2) := by decide +kernel
theorem d_X5_readClause_82 : decode cX5_readClause 82 = .ok (.invokevirtual 63, 3) := by decide +kernel
theorem d_X5_readClause_85 : decode cX5_readClause 85 = .ok (.ifCond .eq 50, 3) := by decide +kernel
theorem d_X5_readClause_88 : decode cX5_readClause 88 = .ok (.aload_n 1, 1) := by decide +kernel
theorem d_X5_readClause_89 : decode cX5_readClause 89 = .ok (.iload_n 2, 1) := by decide +kernel
theorem d_X5_readClause_90 : decode cX5_readClause 90 = .ok (.bipush 60, 2) := by decide +kernel
theorem d_X5_readClause_92 : decode cX5_readClause 92 = .ok (.invokestatic 67, 3) := by decide +kernel
theorem d_X5_readClause_95 : decode cX5_readClause 95 = .ok (.aload_n 1, 1) := by decide +kernel
theorem d_X5_readClause_96 : decode cX5_readClause 96 = .ok (.bipush 8, 2) := by decide +kernel
theorem d_X5_readClause_98 : decode cX5_readClause 98 = .ok (.bipush 8, 2) := by decide +kernel
theorem d_X5_readClause_100 : decode cX5_readClause 100 = .ok (.invokevirtual 83, 3) := by decide +kernel
theorem d_X5_readClause_103 : decode cX5_readClause 103 = .ok (.istore_n 3, 1) := by decide +kernel
theorem d_X5_readClause_104 : decode cX5_readClause 104 = .ok (.aload_n 0, 1) := by decide +kernel
theorem d_X5_readClause_105 : decode cX5_readClause 105 = .ok (.getfield 33, 3) := by decide +kernel
theorem d_X5_readClause_108 : decode cX5_readClause 108 = .ok (.iload_n 3, 1) := by decide +kernel
theorem d_X5_readClause_109 : decode cX5_readClause 109 = .ok (.aload_n 1, 1) := by decide +kernel
theorem d_X5_readClause_110 : decode cX5_readClause 110 = .ok (.iconst 0, 1) := by decide +kernel
theorem d_X5_readClause_111 : decode cX5_readClause 111 = .ok (.sipush 999, 3) := by decide +kernel
theorem d_X5_readClause_114 : decode cX5_readClause 114 = .ok (.invokevirtual 71, 3) := by decide +kernel
theorem d_X5_readClause_117 : decode cX5_readClause 117 = .ok (.iastore, 1) := by decide +kernel
theorem d_X5_readClause_118 : decode cX5_readClause 118 = .ok (.aload_n 0, 1) := by decide +kernel
theorem d_X5_readClause_119 : decode cX5_readClause 119 = .ok (.getfield 36, 3) := by decide +kernel
theorem d_X5_readClause_122 : decode cX5_readClause 122 = .ok (.iload_n 3, 1) := by decide +kernel
theorem d_X5_readClause_123 : decode cX5_readClause 123 = .ok (.aload_n 1, 1) := by decide +kernel
theorem d_X5_readClause_124 : decode cX5_readClause 124 = .ok (.iconst 0, 1) := by decide +kernel
theorem d_X5_readClause_125 : decode cX5_readClause 125 = .ok (.sipush 999, 3) := by decide +kernel
theorem d_X5_readClause_128 : decode cX5_readClause 128 = .ok (.invokevirtual 71, 3) := by decide +kernel
theorem d_X5_readClause_131 : decode cX5_readClause 131 = .ok (.iastore, 1) := by decide +kernel
theorem d_X5_readClause_132 : decode cX5_readClause 132 = .ok (.goto 54, 3) := by decide +kernel
theorem d_X5_readClause_135 : decode cX5_readClause 135 = .ok (.aload_n 1, 1) := by decide +kernel
theorem d_X5_readClause_136 : decode cX5_readClause 136 = .ok (.ldc 86, 2) := by decide +kernel
theorem d_X5_readClause_138 : decode cX5_readClause 138 = .ok (.invokevirtual 63, 3) := by decide +kernel
theorem d_X5_readClause_141 : decode cX5_readClause 141 = .ok (.ifCond .eq 36, 3) := by decide +kernel
theorem d_X5_readClause_144 : decode cX5_readClause 144 = .ok (.aload_n 1, 1) := by decide +kernel
theorem d_X5_readClause_145 : decode cX5_readClause 145 = .ok (.iload_n 2, 1) := by decide +kernel
theorem d_X5_readClause_146 : decode cX5_readClause 146 = .ok (.bipush 60, 2) := by decide +kernel
theorem d_X5_readClause_148 : decode cX5_readClause 148 = .ok (.invokestatic 67, 3) := by decide +kernel
theorem d_X5_readClause_151 : decode cX5_readClause 151 = .ok (.aload_n 1, 1) := by decide +kernel
theorem d_X5_readClause_152 : decode cX5_readClause 152 = .ok (.bipush 8, 2) := by decide +kernel
theorem d_X5_readClause_154 : decode cX5_readClause 154 = .ok (.bipush 8, 2) := by decide +kernel
theorem d_X5_readClause_156 : decode cX5_readClause 156 = .ok (.invokevirtual 83, 3) := by decide +kernel
theorem d_X5_readClause_159 : decode cX5_readClause 159 = .ok (.istore_n 3, 1) := by decide +kernel
theorem d_X5_readClause_160 : decode cX5_readClause 160 = .ok (.aload_n 0, 1) := by decide +kernel
theorem d_X5_readClause_161 : decode cX5_readClause 161 = .ok (.getfield 39, 3) := by decide +kernel
theorem d_X5_readClause_164 : decode cX5_readClause 164 = .ok (.iload_n 3, 1) := by decide +kernel
theorem d_X5_readClause_165 : decode cX5_readClause 165 = .ok (.aload_n 1, 1) := by decide +kernel
theorem d_X5_readClause_166 : decode cX5_readClause 166 = .ok (.iconst 1, 1) := by decide +kernel
theorem d_X5_readClause_167 : decode cX5_readClause 167 = .ok (.sipush 999, 3) := by decide +kernel
theorem d_X5_readClause_170 : decode cX5_readClause 170 = .ok (.invokevirtual 71, 3) := by decide +kernel
theorem d_X5_readClause_173 : decode cX5_readClause 173 = .ok (.iastore, 1) := by decide +kernel
theorem d_X5_readClause_174 : decode cX5_readClause 174 = .ok (.goto 12, 3) := by decide +kernel
theorem d_X5_readClause_177 : decode cX5_readClause 177 = .ok (.aload_n 1, 1) := by decide +kernel
theorem d_X5_readClause_178 : decode cX5_readClause 178 = .ok (.iconst 1, 1) := by decide +kernel
theorem d_X5_readClause_179 : decode cX5_readClause 179 = .ok (.aload_n 1, 1) := by decide +kernel
theorem d_X5_readClause_180 : decode cX5_readClause 180 = .ok (.getfield 88, 3) := by decide +kernel
theorem d_X5_readClause_183 : decode cX5_readClause 183 = .ok (.invokevirtual 91, 3) := by decide +kernel
theorem d_X5_readClause_186 : decode cX5_readClause 186 = .ok (.aload_n 1, 1) := by decide +kernel
theorem d_X5_readClause_187 : decode cX5_readClause 187 = .ok (.bipush 59, 2) := by decide +kernel
theorem d_X5_readClause_189 : decode cX5_readClause 189 = .ok (.invokevirtual 95, 3) := by decide +kernel
theorem d_X5_readClause_192 : decode cX5_readClause 192 = .ok (.return_, 1) := by decide +kernel
noncomputable def F_X5_readClause_186 (t : Nat) (p0 : Nat) (p1 : Int32) (M : zMem) : Option (zMem) :=
  zbv (F_X8_sign M p0 (59 : Int32)) fun M1 =>
  some M1
noncomputable def F_X5_readClause (M : zMem) (t : Nat) (p0 : Nat) (p1 : Int32) : Option (zMem) :=
  zbv (F_X8_word M p0) fun M2 =>
  zb (F_X8_wordIs M2 p0 1) fun v4 M3 =>
  if v4 = 0 then
    zb (F_X8_wordIs M3 p0 2) fun v6 M5 =>
    if v6 = 0 then
      zb (F_X8_wordIs M5 p0 3) fun v8 M7 =>
      if v8 = 0 then
        zb (F_X8_wordIs M7 p0 4) fun v10 M9 =>
        if v10 = 0 then
          zbv (F_X8_fail M9 p0 (1 : Int32) (M9.1 p0 4)) fun M11 =>
          F_X5_readClause_186 t p0 p1 M11
        else
          zbv (F_X5_refuseOver M9 p0 p1 (60 : Int32)) fun M12 =>
          zb (F_X8_place M12 p0 (8 : Int32) (8 : Int32)) fun v14 M13 =>
          zb (F_X8_number M13 p0 (1 : Int32) (999 : Int32)) fun v16 M15 =>
          gin v14 64 <|
          zl (zI M15 (t + 5) v14.toNatClampNeg v16) fun M18 =>
          F_X5_readClause_186 t p0 p1 M18
      else
        zbv (F_X5_refuseOver M7 p0 p1 (60 : Int32)) fun M19 =>
        zb (F_X8_place M19 p0 (8 : Int32) (8 : Int32)) fun v21 M20 =>
        zb (F_X8_number M20 p0 (0 : Int32) (999 : Int32)) fun v23 M22 =>
        gin v21 64 <|
        zl (zI M22 (t + 3) v21.toNatClampNeg v23) fun M25 =>
        zb (F_X8_number M25 p0 (0 : Int32) (999 : Int32)) fun v27 M26 =>
        zl (zI M26 (t + 4) v21.toNatClampNeg v27) fun M28 =>
        F_X5_readClause_186 t p0 p1 M28
    else
      zbv (F_X5_refuseOver M5 p0 p1 (60 : Int32)) fun M29 =>
      zbv (F_X5_refuseOver M29 p0 (M29.1 t 2) (10 : Int32)) fun M30 =>
      zbv (F_X5_readHour M30 t p0) fun M31 =>
      F_X5_readClause_186 t p0 p1 M31
  else
    zbv (F_X5_refuseOver M3 p0 p1 (60 : Int32)) fun M32 =>
    zb (F_X8_number M32 p0 (1 : Int32) (8 : Int32)) fun v34 M33 =>
    zl (zI M33 t 0 v34) fun M35 =>
    zb (F_X8_number M35 p0 (1 : Int32) (8 : Int32)) fun v37 M36 =>
    zl (zI M36 t 1 v37) fun M38 =>
    F_X5_readClause_186 t p0 p1 M38
def rm_X5_readClause : Room := { frames := 9, cells := 0, slots := 0, locals := 283 }
set_option maxHeartbeats 4000000 in
set_option maxRecDepth 100000 in
theorem c_X5_readClause (l : Launch) {G : zG} {ad : Nat → Nat} {n : Nat} (hA : zInj ad n) (M : zMem) (t : Nat) (p0 : Nat) (p1 : Int32) (hT_t : zT shX n t 6) (hT_p0 : zT shX n p0 9) {M9 : zMem} (hF : F_X5_readClause M t p0 p1 = some M9) : zM l yX5_readClause cX5_readClause 4 none rm_X5_readClause G shX ad n M [.ref (ad t), .ref (ad p0), .int p1] none M9 := by
  refine zM_of hA (by decide +kernel) (lv := [(0, .ref (ad t)), (1, .ref (ad p0)), (2, .int p1)]) (Nat.le_of_ble_eq_true rfl) rfl (fun p e s m args below meth c A cx hr => ?_)
  have hb186 : ∀ (M : zMem), F_X5_readClause_186 t p0 p1 M = some M9 → zJ p l e rm_X5_readClause s m args below meth c G shX ad n A 4 (MQ below (zQ G shX ad n M9 none A) args s 0 0 A) 0 0 M 186 [(1, .ref (ad p0))] [] := by
    intro M hF
    unfold F_X5_readClause_186 at hF
    refine z_aload_n cx d_X5_readClause_186 0 rfl ?_
    refine z_bipush (v := 59) cx d_X5_readClause_187 kb_59 ?_
    obtain ⟨M1, hc, hF⟩ := zbv_inv hF
    refine z_callV cx (As := [.int (59 : Int32)]) (rest := []) (c_X8_sign l cx.2.2.2.1.1 M p0 (59 : Int32) hT_p0 hc) hT_p0 zo_9 cv_Plan_95 ⟨rfl, rfl, Nat.le_of_ble_eq_true rfl, Nat.le_of_ble_eq_true rfl⟩ rfl rfl ⟨Nat.zero_le _, Nat.zero_le _⟩ (Nat.le_of_ble_eq_true rfl) d_X5_readClause_189 ?_
    exact z_vret cx hr hF d_X5_readClause_192
  unfold F_X5_readClause at hF
  refine z_aload_n cx d_X5_readClause_0 1 rfl ?_
  obtain ⟨M2, hc, hF⟩ := zbv_inv hF
  refine z_callV cx (As := []) (rest := []) (c_X8_word l cx.2.2.2.1.1 M p0 hT_p0 hc) hT_p0 zo_9 cv_Plan_58 ⟨rfl, rfl, Nat.le_of_ble_eq_true rfl, Nat.le_of_ble_eq_true rfl⟩ rfl rfl ⟨Nat.zero_le _, Nat.zero_le _⟩ (Nat.le_of_ble_eq_true rfl) d_X5_readClause_1 ?_
  refine z_aload_n cx d_X5_readClause_4 1 rfl ?_
  refine z_ldcS cx 1 (by decide) d_X5_readClause_5 ?_
  obtain ⟨v4, M3, hc, hF⟩ := zb_inv hF
  refine z_callV cx (As := [.ref (zSK G 1)]) (rest := []) (c_X8_wordIs l cx.2.2.2.1.1 M2 p0 1 hT_p0 (by decide) hc) hT_p0 zo_9 cv_Plan_63 ⟨rfl, rfl, Nat.le_of_ble_eq_true rfl, Nat.le_of_ble_eq_true rfl⟩ rfl rfl ⟨Nat.zero_le _, Nat.zero_le _⟩ (Nat.le_of_ble_eq_true rfl) d_X5_readClause_7 ?_
  refine z_if_eq cx 45 d_X5_readClause_10 (by decide) hF (fun hF => ?_) (fun hF => ?_)
  · refine z_aload_n cx d_X5_readClause_45 1 rfl ?_
    refine z_ldcS cx 2 (by decide) d_X5_readClause_46 ?_
    obtain ⟨v6, M5, hc, hF⟩ := zb_inv hF
    refine z_callV cx (As := [.ref (zSK G 2)]) (rest := []) (c_X8_wordIs l cx.2.2.2.1.1 M3 p0 2 hT_p0 (by decide) hc) hT_p0 zo_9 cv_Plan_63 ⟨rfl, rfl, Nat.le_of_ble_eq_true rfl, Nat.le_of_ble_eq_true rfl⟩ rfl rfl ⟨Nat.zero_le _, Nat.zero_le _⟩ (Nat.le_of_ble_eq_true rfl) d_X5_readClause_48 ?_
    refine z_if_eq cx 79 d_X5_readClause_51 (by decide) hF (fun hF => ?_) (fun hF => ?_)
    · refine z_aload_n cx d_X5_readClause_79 1 rfl ?_
      refine z_ldcS cx 3 (by decide) d_X5_readClause_80 ?_
      obtain ⟨v8, M7, hc, hF⟩ := zb_inv hF
      refine z_callV cx (As := [.ref (zSK G 3)]) (rest := []) (c_X8_wordIs l cx.2.2.2.1.1 M5 p0 3 hT_p0 (by decide) hc) hT_p0 zo_9 cv_Plan_63 ⟨rfl, rfl, Nat.le_of_ble_eq_true rfl, Nat.le_of_ble_eq_true rfl⟩ rfl rfl ⟨Nat.zero_le _, Nat.zero_le _⟩ (Nat.le_of_ble_eq_true rfl) d_X5_readClause_82 ?_
      refine z_if_eq cx 135 d_X5_readClause_85 (by decide) hF (fun hF => ?_) (fun hF => ?_)
      · refine z_aload_n cx d_X5_readClause_135 1 rfl ?_
        refine z_ldcS cx 4 (by decide) d_X5_readClause_136 ?_
        obtain ⟨v10, M9, hc, hF⟩ := zb_inv hF
        refine z_callV cx (As := [.ref (zSK G 4)]) (rest := []) (c_X8_wordIs l cx.2.2.2.1.1 M7 p0 4 hT_p0 (by decide) hc) hT_p0 zo_9 cv_Plan_63 ⟨rfl, rfl, Nat.le_of_ble_eq_true rfl, Nat.le_of_ble_eq_true rfl⟩ rfl rfl ⟨Nat.zero_le _, Nat.zero_le _⟩ (Nat.le_of_ble_eq_true rfl) d_X5_readClause_138 ?_
        refine z_if_eq cx 177 d_X5_readClause_141 (by decide) hF (fun hF => ?_) (fun hF => ?_)
        · refine z_aload_n cx d_X5_readClause_177 1 rfl ?_
          refine z_iconst (v := 1) cx d_X5_readClause_178 ki_1 ?_
          refine z_aload_n cx d_X5_readClause_179 1 rfl ?_
          refine z_getI cx hT_p0 fg_Plan_88 d_X5_readClause_180 ?_
          obtain ⟨M11, hc, hF⟩ := zbv_inv hF
          refine z_callV cx (As := [.int (1 : Int32), .int (M9.1 p0 4)]) (rest := []) (c_X8_fail l cx.2.2.2.1.1 M9 p0 (1 : Int32) (M9.1 p0 4) hT_p0 hc) hT_p0 zo_9 cv_Plan_91 ⟨rfl, rfl, Nat.le_of_ble_eq_true rfl, Nat.le_of_ble_eq_true rfl⟩ rfl rfl ⟨Nat.zero_le _, Nat.zero_le _⟩ (Nat.le_of_ble_eq_true rfl) d_X5_readClause_183 ?_
          exact z_lv [1] _ rfl (hb186 M11 hF)
        refine z_aload_n cx d_X5_readClause_144 1 rfl ?_
        refine z_iload_n cx d_X5_readClause_145 2 rfl ?_
        refine z_bipush (v := 60) cx d_X5_readClause_146 kb_60 ?_
        obtain ⟨M12, hc, hF⟩ := zbv_inv hF
        refine z_callS cx (As := [.ref (ad p0), .int p1, .int (60 : Int32)]) (rest := []) (c_X5_refuseOver l cx.2.2.2.1.1 M9 p0 p1 (60 : Int32) hT_p0 hc) cs_Plan_67 ⟨rfl, rfl, Nat.le_of_ble_eq_true rfl, Nat.le_of_ble_eq_true rfl⟩ rfl rfl ⟨Nat.zero_le _, Nat.zero_le _⟩ (Nat.le_of_ble_eq_true rfl) d_X5_readClause_148 ?_
        refine z_aload_n cx d_X5_readClause_151 1 rfl ?_
        refine z_bipush (v := 8) cx d_X5_readClause_152 kb_8 ?_
        refine z_bipush (v := 8) cx d_X5_readClause_154 kb_8 ?_
        obtain ⟨v14, M13, hc, hF⟩ := zb_inv hF
        refine z_callV cx (As := [.int (8 : Int32), .int (8 : Int32)]) (rest := []) (c_X8_place l cx.2.2.2.1.1 M12 p0 (8 : Int32) (8 : Int32) hT_p0 hc) hT_p0 zo_9 cv_Plan_83 ⟨rfl, rfl, Nat.le_of_ble_eq_true rfl, Nat.le_of_ble_eq_true rfl⟩ rfl rfl ⟨Nat.zero_le _, Nat.zero_le _⟩ (Nat.le_of_ble_eq_true rfl) d_X5_readClause_156 ?_
        refine z_istore_n cx 3 [(3, .int v14), (0, .ref (ad t)), (1, .ref (ad p0)), (2, .int p1)] d_X5_readClause_159 rfl (by decide) rfl ?_
        refine z_aload_n cx d_X5_readClause_160 1 rfl ?_
        refine z_getR cx hT_t fg_Plan_39 (t + 5) rfl d_X5_readClause_161 ?_
        refine z_iload_n cx d_X5_readClause_164 0 rfl ?_
        refine z_aload_n cx d_X5_readClause_165 2 rfl ?_
        refine z_iconst (v := 1) cx d_X5_readClause_166 ki_1 ?_
        refine z_sipush (v := 999) cx d_X5_readClause_167 ks_999 ?_
        obtain ⟨v16, M15, hc, hF⟩ := zb_inv hF
        refine z_callV cx (As := [.int (1 : Int32), .int (999 : Int32)]) (rest := [.int v14, .ref (ad (t + 5))]) (c_X8_number l cx.2.2.2.1.1 M13 p0 (1 : Int32) (999 : Int32) hT_p0 hc) hT_p0 zo_9 cv_Plan_71 ⟨rfl, rfl, Nat.le_of_ble_eq_true rfl, Nat.le_of_ble_eq_true rfl⟩ rfl rfl ⟨Nat.zero_le _, Nat.zero_le _⟩ (Nat.le_of_ble_eq_true rfl) d_X5_readClause_170 ?_
        obtain ⟨hi17, hF⟩ := gin_inv hF
        refine z_iast cx (tfX_6_5 hT_t) za_16 hi17 v14.toNatClampNeg rfl d_X5_readClause_173 ?_
        refine z_nmM hF (fun M18 hF => ?_)
        refine z_goto cx 186 d_X5_readClause_174 (by decide) ?_
        exact z_lv [2] _ rfl (hb186 M18 hF)
      refine z_aload_n cx d_X5_readClause_88 1 rfl ?_
      refine z_iload_n cx d_X5_readClause_89 2 rfl ?_
      refine z_bipush (v := 60) cx d_X5_readClause_90 kb_60 ?_
      obtain ⟨M19, hc, hF⟩ := zbv_inv hF
      refine z_callS cx (As := [.ref (ad p0), .int p1, .int (60 : Int32)]) (rest := []) (c_X5_refuseOver l cx.2.2.2.1.1 M7 p0 p1 (60 : Int32) hT_p0 hc) cs_Plan_67 ⟨rfl, rfl, Nat.le_of_ble_eq_true rfl, Nat.le_of_ble_eq_true rfl⟩ rfl rfl ⟨Nat.zero_le _, Nat.zero_le _⟩ (Nat.le_of_ble_eq_true rfl) d_X5_readClause_92 ?_
      refine z_aload_n cx d_X5_readClause_95 1 rfl ?_
      refine z_bipush (v := 8) cx d_X5_readClause_96 kb_8 ?_
      refine z_bipush (v := 8) cx d_X5_readClause_98 kb_8 ?_
      obtain ⟨v21, M20, hc, hF⟩ := zb_inv hF
      refine z_callV cx (As := [.int (8 : Int32), .int (8 : Int32)]) (rest := []) (c_X8_place l cx.2.2.2.1.1 M19 p0 (8 : Int32) (8 : Int32) hT_p0 hc) hT_p0 zo_9 cv_Plan_83 ⟨rfl, rfl, Nat.le_of_ble_eq_true rfl, Nat.le_of_ble_eq_true rfl⟩ rfl rfl ⟨Nat.zero_le _, Nat.zero_le _⟩ (Nat.le_of_ble_eq_true rfl) d_X5_readClause_100 ?_
      refine z_istore_n cx 3 [(3, .int v21), (0, .ref (ad t)), (1, .ref (ad p0)), (2, .int p1)] d_X5_readClause_103 rfl (by decide) rfl ?_
      refine z_aload_n cx d_X5_readClause_104 1 rfl ?_
      refine z_getR cx hT_t fg_Plan_33 (t + 3) rfl d_X5_readClause_105 ?_
      refine z_iload_n cx d_X5_readClause_108 0 rfl ?_
      refine z_aload_n cx d_X5_readClause_109 2 rfl ?_
      refine z_iconst (v := 0) cx d_X5_readClause_110 ki_0 ?_
      refine z_sipush (v := 999) cx d_X5_readClause_111 ks_999 ?_
      obtain ⟨v23, M22, hc, hF⟩ := zb_inv hF
      refine z_callV cx (As := [.int (0 : Int32), .int (999 : Int32)]) (rest := [.int v21, .ref (ad (t + 3))]) (c_X8_number l cx.2.2.2.1.1 M20 p0 (0 : Int32) (999 : Int32) hT_p0 hc) hT_p0 zo_9 cv_Plan_71 ⟨rfl, rfl, Nat.le_of_ble_eq_true rfl, Nat.le_of_ble_eq_true rfl⟩ rfl rfl ⟨Nat.zero_le _, Nat.zero_le _⟩ (Nat.le_of_ble_eq_true rfl) d_X5_readClause_114 ?_
      obtain ⟨hi24, hF⟩ := gin_inv hF
      refine z_iast cx (tfX_6_3 hT_t) za_16 hi24 v21.toNatClampNeg rfl d_X5_readClause_117 ?_
      refine z_nmM hF (fun M25 hF => ?_)
      refine z_aload_n cx d_X5_readClause_118 1 rfl ?_
      refine z_getR cx hT_t fg_Plan_36 (t + 4) rfl d_X5_readClause_119 ?_
      refine z_iload_n cx d_X5_readClause_122 0 rfl ?_
      refine z_aload_n cx d_X5_readClause_123 2 rfl ?_
      refine z_iconst (v := 0) cx d_X5_readClause_124 ki_0 ?_
      refine z_sipush (v := 999) cx d_X5_readClause_125 ks_999 ?_
      obtain ⟨v27, M26, hc, hF⟩ := zb_inv hF
      refine z_callV cx (As := [.int (0 : Int32), .int (999 : Int32)]) (rest := [.int v21, .ref (ad (t + 4))]) (c_X8_number l cx.2.2.2.1.1 M25 p0 (0 : Int32) (999 : Int32) hT_p0 hc) hT_p0 zo_9 cv_Plan_71 ⟨rfl, rfl, Nat.le_of_ble_eq_true rfl, Nat.le_of_ble_eq_true rfl⟩ rfl rfl ⟨Nat.zero_le _, Nat.zero_le _⟩ (Nat.le_of_ble_eq_true rfl) d_X5_readClause_128 ?_
      refine z_iast cx (tfX_6_4 hT_t) za_16 hi24 v21.toNatClampNeg rfl d_X5_readClause_131 ?_
      refine z_nmM hF (fun M28 hF => ?_)
      refine z_goto cx 186 d_X5_readClause_132 (by decide) ?_
      exact z_lv [2] _ rfl (hb186 M28 hF)
    refine z_aload_n cx d_X5_readClause_54 1 rfl ?_
    refine z_iload_n cx d_X5_readClause_55 2 rfl ?_
    refine z_bipush (v := 60) cx d_X5_readClause_56 kb_60 ?_
    obtain ⟨M29, hc, hF⟩ := zbv_inv hF
    refine z_callS cx (As := [.ref (ad p0), .int p1, .int (60 : Int32)]) (rest := []) (c_X5_refuseOver l cx.2.2.2.1.1 M5 p0 p1 (60 : Int32) hT_p0 hc) cs_Plan_67 ⟨rfl, rfl, Nat.le_of_ble_eq_true rfl, Nat.le_of_ble_eq_true rfl⟩ rfl rfl ⟨Nat.zero_le _, Nat.zero_le _⟩ (Nat.le_of_ble_eq_true rfl) d_X5_readClause_58 ?_
    refine z_aload_n cx d_X5_readClause_61 1 rfl ?_
    refine z_aload_n cx d_X5_readClause_62 0 rfl ?_
    refine z_getI cx hT_t fg_Plan_42 d_X5_readClause_63 ?_
    refine z_bipush (v := 10) cx d_X5_readClause_66 kb_10 ?_
    obtain ⟨M30, hc, hF⟩ := zbv_inv hF
    refine z_callS cx (As := [.ref (ad p0), .int (M29.1 t 2), .int (10 : Int32)]) (rest := []) (c_X5_refuseOver l cx.2.2.2.1.1 M29 p0 (M29.1 t 2) (10 : Int32) hT_p0 hc) cs_Plan_67 ⟨rfl, rfl, Nat.le_of_ble_eq_true rfl, Nat.le_of_ble_eq_true rfl⟩ rfl rfl ⟨Nat.zero_le _, Nat.zero_le _⟩ (Nat.le_of_ble_eq_true rfl) d_X5_readClause_68 ?_
    refine z_aload_n cx d_X5_readClause_71 0 rfl ?_
    refine z_aload_n cx d_X5_readClause_72 1 rfl ?_
    obtain ⟨M31, hc, hF⟩ := zbv_inv hF
    refine z_callV cx (As := [.ref (ad p0)]) (rest := []) (c_X5_readHour l cx.2.2.2.1.1 M30 t p0 hT_t hT_p0 hc) hT_t zo_6 cv_Plan_77 ⟨rfl, rfl, Nat.le_of_ble_eq_true rfl, Nat.le_of_ble_eq_true rfl⟩ rfl rfl ⟨Nat.zero_le _, Nat.zero_le _⟩ (Nat.le_of_ble_eq_true rfl) d_X5_readClause_73 ?_
    refine z_goto cx 186 d_X5_readClause_76 (by decide) ?_
    exact z_lv [1] _ rfl (hb186 M31 hF)
  refine z_aload_n cx d_X5_readClause_13 1 rfl ?_
  refine z_iload_n cx d_X5_readClause_14 2 rfl ?_
  refine z_bipush (v := 60) cx d_X5_readClause_15 kb_60 ?_
  obtain ⟨M32, hc, hF⟩ := zbv_inv hF
  refine z_callS cx (As := [.ref (ad p0), .int p1, .int (60 : Int32)]) (rest := []) (c_X5_refuseOver l cx.2.2.2.1.1 M3 p0 p1 (60 : Int32) hT_p0 hc) cs_Plan_67 ⟨rfl, rfl, Nat.le_of_ble_eq_true rfl, Nat.le_of_ble_eq_true rfl⟩ rfl rfl ⟨Nat.zero_le _, Nat.zero_le _⟩ (Nat.le_of_ble_eq_true rfl) d_X5_readClause_17 ?_
  refine z_aload_n cx d_X5_readClause_20 0 rfl ?_
  refine z_aload_n cx d_X5_readClause_21 1 rfl ?_
  refine z_iconst (v := 1) cx d_X5_readClause_22 ki_1 ?_
  refine z_bipush (v := 8) cx d_X5_readClause_23 kb_8 ?_
  obtain ⟨v34, M33, hc, hF⟩ := zb_inv hF
  refine z_callV cx (As := [.int (1 : Int32), .int (8 : Int32)]) (rest := [.ref (ad t)]) (c_X8_number l cx.2.2.2.1.1 M32 p0 (1 : Int32) (8 : Int32) hT_p0 hc) hT_p0 zo_9 cv_Plan_71 ⟨rfl, rfl, Nat.le_of_ble_eq_true rfl, Nat.le_of_ble_eq_true rfl⟩ rfl rfl ⟨Nat.zero_le _, Nat.zero_le _⟩ (Nat.le_of_ble_eq_true rfl) d_X5_readClause_25 ?_
  refine z_putI cx hT_t fp_Plan_9 d_X5_readClause_28 ?_
  refine z_nmM hF (fun M35 hF => ?_)
  refine z_aload_n cx d_X5_readClause_31 0 rfl ?_
  refine z_aload_n cx d_X5_readClause_32 1 rfl ?_
  refine z_iconst (v := 1) cx d_X5_readClause_33 ki_1 ?_
  refine z_bipush (v := 8) cx d_X5_readClause_34 kb_8 ?_
  obtain ⟨v37, M36, hc, hF⟩ := zb_inv hF
  refine z_callV cx (As := [.int (1 : Int32), .int (8 : Int32)]) (rest := [.ref (ad t)]) (c_X8_number l cx.2.2.2.1.1 M35 p0 (1 : Int32) (8 : Int32) hT_p0 hc) hT_p0 zo_9 cv_Plan_71 ⟨rfl, rfl, Nat.le_of_ble_eq_true rfl, Nat.le_of_ble_eq_true rfl⟩ rfl rfl ⟨Nat.zero_le _, Nat.zero_le _⟩ (Nat.le_of_ble_eq_true rfl) d_X5_readClause_36 ?_
  refine z_putI cx hT_t fp_Plan_15 d_X5_readClause_39 ?_
  refine z_nmM hF (fun M38 hF => ?_)
  refine z_goto cx 186 d_X5_readClause_42 (by decide) ?_
  exact z_lv [1] _ rfl (hb186 M38 hF)
/-! SunnyPans$Plan.leaveOut -/
set_option maxRecDepth 100000 in
theorem wd_327 : Cond.fieldLink "SunnyPans$Plan" 22 "SunnyPans$Plan" "places" "J" ∈ tbG := tw1 227 rfl rfl
theorem fg_Plan_22 : zGetL "SunnyPans$Plan" 22 5 6 3 := ⟨RX5, TX5, 9, rfl, by decide, uw_5, wd_327, fun _ _ _ _ _ _ => ⟨_, rfl, rfl⟩⟩
set_option maxRecDepth 100000 in
theorem wd_735 : Cond.methodLinkNest "SunnyPans$Plan" 99 yX9_has "SunnyPans" ∈ tbN := twn3 155 rfl rfl
theorem cn_Plan_99 : zCN "SunnyPans$Plan" 99 yX9_has cX9_has 3 (some .boolean) 2 := ⟨wd_735, wd_101, wd_737, by decide +kernel⟩
theorem d_X5_leaveOut_0 : decode cX5_leaveOut 0 = .ok (.iconst 0, 1) := by decide +kernel
theorem d_X5_leaveOut_1 : decode cX5_leaveOut 1 = .ok (.istore_n 1, 1) := by decide +kernel
theorem d_X5_leaveOut_2 : decode cX5_leaveOut 2 = .ok (.iload_n 1, 1) := by decide +kernel
theorem d_X5_leaveOut_3 : decode cX5_leaveOut 3 = .ok (.bipush 64, 2) := by decide +kernel
theorem d_X5_leaveOut_5 : decode cX5_leaveOut 5 = .ok (.if_icmp .ge 61, 3) := by decide +kernel
theorem d_X5_leaveOut_8 : decode cX5_leaveOut 8 = .ok (.aload_n 0, 1) := by decide +kernel
theorem d_X5_leaveOut_9 : decode cX5_leaveOut 9 = .ok (.getfield 22, 3) := by decide +kernel
theorem d_X5_leaveOut_12 : decode cX5_leaveOut 12 = .ok (.iload_n 1, 1) := by decide +kernel
theorem d_X5_leaveOut_13 : decode cX5_leaveOut 13 = .ok (.invokestatic 99, 3) := by decide +kernel
theorem d_X5_leaveOut_16 : decode cX5_leaveOut 16 = .ok (.ifCond .ne 10, 3) := by decide +kernel
theorem d_X5_leaveOut_19 : decode cX5_leaveOut 19 = .ok (.aload_n 0, 1) := by decide +kernel
theorem d_X5_leaveOut_20 : decode cX5_leaveOut 20 = .ok (.getfield 39, 3) := by decide +kernel
theorem d_X5_leaveOut_23 : decode cX5_leaveOut 23 = .ok (.iload_n 1, 1) := by decide +kernel
theorem d_X5_leaveOut_24 : decode cX5_leaveOut 24 = .ok (.iconst 0, 1) := by decide +kernel
theorem d_X5_leaveOut_25 : decode cX5_leaveOut 25 = .ok (.iastore, 1) := by decide +kernel
theorem d_X5_leaveOut_26 : decode cX5_leaveOut 26 = .ok (.aload_n 0, 1) := by decide +kernel
theorem d_X5_leaveOut_27 : decode cX5_leaveOut 27 = .ok (.getfield 22, 3) := by decide +kernel
theorem d_X5_leaveOut_30 : decode cX5_leaveOut 30 = .ok (.iload_n 1, 1) := by decide +kernel
theorem d_X5_leaveOut_31 : decode cX5_leaveOut 31 = .ok (.invokestatic 99, 3) := by decide +kernel
theorem d_X5_leaveOut_34 : decode cX5_leaveOut 34 = .ok (.ifCond .eq 12, 3) := by decide +kernel
theorem d_X5_leaveOut_37 : decode cX5_leaveOut 37 = .ok (.aload_n 0, 1) := by decide +kernel
theorem d_X5_leaveOut_38 : decode cX5_leaveOut 38 = .ok (.getfield 39, 3) := by decide +kernel
theorem d_X5_leaveOut_41 : decode cX5_leaveOut 41 = .ok (.iload_n 1, 1) := by decide +kernel
theorem d_X5_leaveOut_42 : decode cX5_leaveOut 42 = .ok (.iaload, 1) := by decide +kernel
theorem d_X5_leaveOut_43 : decode cX5_leaveOut 43 = .ok (.ifCond .le 17, 3) := by decide +kernel
theorem d_X5_leaveOut_46 : decode cX5_leaveOut 46 = .ok (.aload_n 0, 1) := by decide +kernel
theorem d_X5_leaveOut_47 : decode cX5_leaveOut 47 = .ok (.getfield 33, 3) := by decide +kernel
theorem d_X5_leaveOut_50 : decode cX5_leaveOut 50 = .ok (.iload_n 1, 1) := by decide +kernel
theorem d_X5_leaveOut_51 : decode cX5_leaveOut 51 = .ok (.iconst 0, 1) := by decide +kernel
theorem d_X5_leaveOut_52 : decode cX5_leaveOut 52 = .ok (.iastore, 1) := by decide +kernel
theorem d_X5_leaveOut_53 : decode cX5_leaveOut 53 = .ok (.aload_n 0, 1) := by decide +kernel
theorem d_X5_leaveOut_54 : decode cX5_leaveOut 54 = .ok (.getfield 36, 3) := by decide +kernel
theorem d_X5_leaveOut_57 : decode cX5_leaveOut 57 = .ok (.iload_n 1, 1) := by decide +kernel
theorem d_X5_leaveOut_58 : decode cX5_leaveOut 58 = .ok (.iconst 0, 1) := by decide +kernel
theorem d_X5_leaveOut_59 : decode cX5_leaveOut 59 = .ok (.iastore, 1) := by decide +kernel
theorem d_X5_leaveOut_60 : decode cX5_leaveOut 60 = .ok (.iinc 1 1, 3) := by decide +kernel
theorem d_X5_leaveOut_63 : decode cX5_leaveOut 63 = .ok (.goto (-61), 3) := by decide +kernel
theorem d_X5_leaveOut_66 : decode cX5_leaveOut 66 = .ok (.return_, 1) := by decide +kernel
noncomputable def F_X5_leaveOut_60 (t : Nat) (self2 : Int32 → zMem → Option (zMem)) (b60_L1 : Int32) (M : zMem) : Option (zMem) :=
  self2 (b60_L1 + 1) M
noncomputable def F_X5_leaveOut_46 (t : Nat) (self2 : Int32 → zMem → Option (zMem)) (b46_L1 : Int32) (M : zMem) : Option (zMem) :=
  gin b46_L1 64 <|
  zl (zI M (t + 3) b46_L1.toNatClampNeg (0 : Int32)) fun M2 =>
  zl (zI M2 (t + 4) b46_L1.toNatClampNeg (0 : Int32)) fun M3 =>
  F_X5_leaveOut_60 t self2 b46_L1 M3
noncomputable def F_X5_leaveOut_26 (t : Nat) (self2 : Int32 → zMem → Option (zMem)) (b26_L1 : Int32) (M : zMem) : Option (zMem) :=
  zb (F_X9_has M (M.2.1 t 3) b26_L1) fun v5 M4 =>
  if v5 = 0 then
    F_X5_leaveOut_46 t self2 b26_L1 M4
  else
    gin b26_L1 64 <|
    if (M4.1 (t + 5) b26_L1.toNatClampNeg) ≤ 0 then
      F_X5_leaveOut_60 t self2 b26_L1 M4
    else
      F_X5_leaveOut_46 t self2 b26_L1 M4
noncomputable def F_X5_leaveOut_2 (t : Nat) (self2 : Int32 → zMem → Option (zMem)) (b2_L1 : Int32) (M : zMem) : Option (zMem) :=
  if (64 : Int32) ≤ b2_L1 then
    some M
  else
    zb (F_X9_has M (M.2.1 t 3) b2_L1) fun v8 M7 =>
    if v8 = 0 then
      gin b2_L1 64 <|
      zl (zI M7 (t + 5) b2_L1.toNatClampNeg (0 : Int32)) fun M10 =>
      F_X5_leaveOut_26 t self2 b2_L1 M10
    else
      F_X5_leaveOut_26 t self2 b2_L1 M7
noncomputable def F_X5_leaveOut (M : zMem) (t : Nat) : Option (zMem) :=
  itF (fun _ _ => none) (F_X5_leaveOut_2 t) zFuel (0 : Int32) M
def rm_X5_leaveOut : Room := { frames := 3, cells := 0, slots := 0, locals := 102 }
set_option maxHeartbeats 4000000 in
set_option maxRecDepth 100000 in
theorem c_X5_leaveOut (l : Launch) {G : zG} {ad : Nat → Nat} {n : Nat} (hA : zInj ad n) (M : zMem) (t : Nat) (hT_t : zT shX n t 6) {M9 : zMem} (hF : F_X5_leaveOut M t = some M9) : zM l yX5_leaveOut cX5_leaveOut 2 none rm_X5_leaveOut G shX ad n M [.ref (ad t)] none M9 := by
  refine zM_of hA (by decide +kernel) (lv := [(0, .ref (ad t))]) (Nat.le_of_ble_eq_true rfl) rfl (fun p e s m args below meth c A cx hr => ?_)
  have hb60 : ∀ (self2 : Int32 → zMem → Option (zMem)) (hs2 : ∀ (b2_L1 : Int32) (M : zMem), self2 b2_L1 M = some M9 → zJ p l e rm_X5_leaveOut s m args below meth c G shX ad n A 2 (MQ below (zQ G shX ad n M9 none A) args s 0 0 A) 0 0 M 2 [(0, .ref (ad t)), (1, .int b2_L1)] []), ∀ (b60_L1 : Int32) (M : zMem), F_X5_leaveOut_60 t self2 b60_L1 M = some M9 → zJ p l e rm_X5_leaveOut s m args below meth c G shX ad n A 2 (MQ below (zQ G shX ad n M9 none A) args s 0 0 A) 0 0 M 60 [(0, .ref (ad t)), (1, .int b60_L1)] [] := by
    intro self2 hs2 b60_L1 M hF
    unfold F_X5_leaveOut_60 at hF
    refine z_iinc cx 1 1 [(1, .int (b60_L1 + 1)), (0, .ref (ad t))] d_X5_leaveOut_60 1 rfl ki_1 (by decide) rfl ?_
    refine z_goto cx 2 d_X5_leaveOut_63 (by decide) ?_
    exact z_lv [1, 0] _ rfl (hs2 (b60_L1 + 1) M hF)
  have hb46 : ∀ (self2 : Int32 → zMem → Option (zMem)) (hs2 : ∀ (b2_L1 : Int32) (M : zMem), self2 b2_L1 M = some M9 → zJ p l e rm_X5_leaveOut s m args below meth c G shX ad n A 2 (MQ below (zQ G shX ad n M9 none A) args s 0 0 A) 0 0 M 2 [(0, .ref (ad t)), (1, .int b2_L1)] []), ∀ (b46_L1 : Int32) (M : zMem), F_X5_leaveOut_46 t self2 b46_L1 M = some M9 → zJ p l e rm_X5_leaveOut s m args below meth c G shX ad n A 2 (MQ below (zQ G shX ad n M9 none A) args s 0 0 A) 0 0 M 46 [(0, .ref (ad t)), (1, .int b46_L1)] [] := by
    intro self2 hs2 b46_L1 M hF
    unfold F_X5_leaveOut_46 at hF
    refine z_aload_n cx d_X5_leaveOut_46 0 rfl ?_
    refine z_getR cx hT_t fg_Plan_33 (t + 3) rfl d_X5_leaveOut_47 ?_
    refine z_iload_n cx d_X5_leaveOut_50 1 rfl ?_
    refine z_iconst (v := 0) cx d_X5_leaveOut_51 ki_0 ?_
    obtain ⟨hi1, hF⟩ := gin_inv hF
    refine z_iast cx (tfX_6_3 hT_t) za_16 hi1 b46_L1.toNatClampNeg rfl d_X5_leaveOut_52 ?_
    refine z_nmM hF (fun M2 hF => ?_)
    refine z_aload_n cx d_X5_leaveOut_53 0 rfl ?_
    refine z_getR cx hT_t fg_Plan_36 (t + 4) rfl d_X5_leaveOut_54 ?_
    refine z_iload_n cx d_X5_leaveOut_57 1 rfl ?_
    refine z_iconst (v := 0) cx d_X5_leaveOut_58 ki_0 ?_
    refine z_iast cx (tfX_6_4 hT_t) za_16 hi1 b46_L1.toNatClampNeg rfl d_X5_leaveOut_59 ?_
    refine z_nmM hF (fun M3 hF => ?_)
    exact hb60 self2 hs2 b46_L1 M3 hF
  have hb26 : ∀ (self2 : Int32 → zMem → Option (zMem)) (hs2 : ∀ (b2_L1 : Int32) (M : zMem), self2 b2_L1 M = some M9 → zJ p l e rm_X5_leaveOut s m args below meth c G shX ad n A 2 (MQ below (zQ G shX ad n M9 none A) args s 0 0 A) 0 0 M 2 [(0, .ref (ad t)), (1, .int b2_L1)] []), ∀ (b26_L1 : Int32) (M : zMem), F_X5_leaveOut_26 t self2 b26_L1 M = some M9 → zJ p l e rm_X5_leaveOut s m args below meth c G shX ad n A 2 (MQ below (zQ G shX ad n M9 none A) args s 0 0 A) 0 0 M 26 [(0, .ref (ad t)), (1, .int b26_L1)] [] := by
    intro self2 hs2 b26_L1 M hF
    unfold F_X5_leaveOut_26 at hF
    refine z_aload_n cx d_X5_leaveOut_26 0 rfl ?_
    refine z_getL cx hT_t fg_Plan_22 d_X5_leaveOut_27 ?_
    refine z_iload_n cx d_X5_leaveOut_30 1 rfl ?_
    obtain ⟨v5, M4, hc, hF⟩ := zb_inv hF
    refine z_callSN cx (As := [.long (M.2.1 t 3), .int b26_L1]) (rest := []) (c_X9_has l cx.2.2.2.1.1 M (M.2.1 t 3) b26_L1  hc) cn_Plan_99 wd_736 ⟨rfl, rfl, Nat.le_of_ble_eq_true rfl, Nat.le_of_ble_eq_true rfl⟩ rfl rfl ⟨Nat.zero_le _, Nat.zero_le _⟩ (Nat.le_of_ble_eq_true rfl) d_X5_leaveOut_31 ?_
    refine z_if_eq cx 46 d_X5_leaveOut_34 (by decide) hF (fun hF => ?_) (fun hF => ?_)
    · exact hb46 self2 hs2 b26_L1 M4 hF
    refine z_aload_n cx d_X5_leaveOut_37 0 rfl ?_
    refine z_getR cx hT_t fg_Plan_39 (t + 5) rfl d_X5_leaveOut_38 ?_
    refine z_iload_n cx d_X5_leaveOut_41 1 rfl ?_
    obtain ⟨hi6, hF⟩ := gin_inv hF
    refine z_iald cx (tfX_6_5 hT_t) za_16 hi6 b26_L1.toNatClampNeg rfl d_X5_leaveOut_42 ?_
    refine z_if_le cx 60 d_X5_leaveOut_43 (by decide) hF (fun hF => ?_) (fun hF => ?_)
    · exact hb60 self2 hs2 b26_L1 M4 hF
    exact hb46 self2 hs2 b26_L1 M4 hF
  have hL2 : ∀ (fuel : Nat), ∀ (b2_L1 : Int32) (M : zMem), itF (fun _ _ => none) (F_X5_leaveOut_2 t) fuel b2_L1 M = some M9 → zJ p l e rm_X5_leaveOut s m args below meth c G shX ad n A 2 (MQ below (zQ G shX ad n M9 none A) args s 0 0 A) 0 0 M 2 [(0, .ref (ad t)), (1, .int b2_L1)] [] := by
    intro fuel
    induction fuel with
    | zero => intro b2_L1 M hF; cases hF
    | succ fuel hs2 =>
      intro b2_L1 M hF
      have hF : F_X5_leaveOut_2 t (itF (fun _ _ => none) (F_X5_leaveOut_2 t) fuel) b2_L1 M = some M9 := hF
      generalize itF (fun _ _ => none) (F_X5_leaveOut_2 t) fuel = self2 at hs2 hF
      unfold F_X5_leaveOut_2 at hF
      refine z_iload_n cx d_X5_leaveOut_2 1 rfl ?_
      refine z_bipush (v := 64) cx d_X5_leaveOut_3 kb_64 ?_
      refine z_icmp_ge cx 66 d_X5_leaveOut_5 (by decide) hF (fun hF => ?_) (fun hF => ?_)
      · exact z_vret cx hr hF d_X5_leaveOut_66
      refine z_aload_n cx d_X5_leaveOut_8 0 rfl ?_
      refine z_getL cx hT_t fg_Plan_22 d_X5_leaveOut_9 ?_
      refine z_iload_n cx d_X5_leaveOut_12 1 rfl ?_
      obtain ⟨v8, M7, hc, hF⟩ := zb_inv hF
      refine z_callSN cx (As := [.long (M.2.1 t 3), .int b2_L1]) (rest := []) (c_X9_has l cx.2.2.2.1.1 M (M.2.1 t 3) b2_L1  hc) cn_Plan_99 wd_736 ⟨rfl, rfl, Nat.le_of_ble_eq_true rfl, Nat.le_of_ble_eq_true rfl⟩ rfl rfl ⟨Nat.zero_le _, Nat.zero_le _⟩ (Nat.le_of_ble_eq_true rfl) d_X5_leaveOut_13 ?_
      refine z_if_ne cx 26 d_X5_leaveOut_16 (by decide) hF (fun hF => ?_) (fun hF => ?_)
      · exact hb26 self2 hs2 b2_L1 M7 hF
      refine z_aload_n cx d_X5_leaveOut_19 0 rfl ?_
      refine z_getR cx hT_t fg_Plan_39 (t + 5) rfl d_X5_leaveOut_20 ?_
      refine z_iload_n cx d_X5_leaveOut_23 1 rfl ?_
      refine z_iconst (v := 0) cx d_X5_leaveOut_24 ki_0 ?_
      obtain ⟨hi9, hF⟩ := gin_inv hF
      refine z_iast cx (tfX_6_5 hT_t) za_16 hi9 b2_L1.toNatClampNeg rfl d_X5_leaveOut_25 ?_
      refine z_nmM hF (fun M10 hF => ?_)
      exact hb26 self2 hs2 b2_L1 M10 hF
  unfold F_X5_leaveOut at hF
  refine z_iconst (v := 0) cx d_X5_leaveOut_0 ki_0 ?_
  refine z_istore_n cx 1 [(1, .int (0 : Int32)), (0, .ref (ad t))] d_X5_leaveOut_1 rfl (by decide) rfl ?_
  exact z_lv [1, 0] _ rfl (hL2 zFuel (0 : Int32) M hF)
/-! SunnyPans$Plan.read -/
set_option maxRecDepth 100000 in
theorem wd_308 : Cond.code yX5_square cX5_square 6 (some .long) ∈ tbG := tw1 208 rfl rfl
set_option maxRecDepth 100000 in
theorem wd_306 : Cond.methodLink "SunnyPans$Plan" 18 yX5_square ∈ tbG := tw1 206 rfl rfl
set_option maxRecDepth 100000 in
theorem wd_307 : Cond.static yX5_square ∈ tbG := tw1 207 rfl rfl
theorem cs_Plan_18 : zCS "SunnyPans$Plan" 18 yX5_square cX5_square 6 (some .long) 2 := zCS_of wd_306 wd_307 wd_108 wd_308 (by decide +kernel)
theorem fp_Plan_22 : zPutL "SunnyPans$Plan" 22 5 6 3 := ⟨zc_5, fg_Plan_22, ⟨RX5, TX5, 9, rfl, rfl, by decide +kernel⟩, fun _ _ _ _ _ _ _ => ⟨_, rfl, Nat.le_of_ble_eq_true rfl, rfl⟩⟩
set_option maxRecDepth 100000 in
theorem wd_734 : Cond.code yX5_leaveOut cX5_leaveOut 2 none ∈ tbG := tw3 154 rfl rfl
set_option maxRecDepth 100000 in
theorem wd_731 : Cond.methodLink "SunnyPans$Plan" 55 yX5_leaveOut ∈ tbG := tw3 151 rfl rfl
set_option maxRecDepth 100000 in
theorem wd_733 : Cond.instanceMethod yX5_leaveOut ∈ tbG := tw3 153 rfl rfl
theorem wd_8 : Cond.selects "SunnyPans$Plan" yX5_leaveOut yX5_leaveOut ∈ tbG := tw 8 (by decide +kernel) rfl
theorem cv_Plan_55 : zCV "SunnyPans$Plan" 55 "SunnyPans$Plan" yX5_leaveOut cX5_leaveOut 2 none 0 := zCV_of wd_731 wd_733 wd_8 wd_108 wd_734 (by decide +kernel)
set_option maxRecDepth 100000 in
theorem wd_611 : Cond.methodLink "SunnyPans$Plan" 45 yX8_goesOn ∈ tbG := tw3 31 rfl rfl
theorem cv_Plan_45 : zCV "SunnyPans$Plan" 45 "SunnyPans$Text" yX8_goesOn cX8_goesOn 1 (some .boolean) 0 := zCV_of wd_611 wd_612 wd_613 wd_102 wd_614 (by decide +kernel)
set_option maxRecDepth 100000 in
theorem wd_622 : Cond.code yX5_readClause cX5_readClause 4 none ∈ tbG := tw3 42 rfl rfl
set_option maxRecDepth 100000 in
theorem wd_619 : Cond.methodLink "SunnyPans$Plan" 51 yX5_readClause ∈ tbG := tw3 39 rfl rfl
set_option maxRecDepth 100000 in
theorem wd_621 : Cond.instanceMethod yX5_readClause ∈ tbG := tw3 41 rfl rfl
theorem wd_5 : Cond.selects "SunnyPans$Plan" yX5_readClause yX5_readClause ∈ tbG := tw 5 (by decide +kernel) rfl
theorem cv_Plan_51 : zCV "SunnyPans$Plan" 51 "SunnyPans$Plan" yX5_readClause cX5_readClause 4 none 2 := zCV_of wd_619 wd_621 wd_5 wd_108 wd_622 (by decide +kernel)
theorem d_X5_read_0 : decode cX5_read 0 = .ok (.aload_n 0, 1) := by decide +kernel
theorem d_X5_read_1 : decode cX5_read 1 = .ok (.iconst 4, 1) := by decide +kernel
theorem d_X5_read_2 : decode cX5_read 2 = .ok (.putfield 9, 3) := by decide +kernel
theorem d_X5_read_5 : decode cX5_read 5 = .ok (.aload_n 0, 1) := by decide +kernel
theorem d_X5_read_6 : decode cX5_read 6 = .ok (.iconst 4, 1) := by decide +kernel
theorem d_X5_read_7 : decode cX5_read 7 = .ok (.putfield 15, 3) := by decide +kernel
theorem d_X5_read_10 : decode cX5_read 10 = .ok (.aload_n 0, 1) := by decide +kernel
theorem d_X5_read_11 : decode cX5_read 11 = .ok (.iconst 0, 1) := by decide +kernel
theorem d_X5_read_12 : decode cX5_read 12 = .ok (.putfield 42, 3) := by decide +kernel
theorem d_X5_read_15 : decode cX5_read 15 = .ok (.iconst 0, 1) := by decide +kernel
theorem d_X5_read_16 : decode cX5_read 16 = .ok (.istore_n 2, 1) := by decide +kernel
theorem d_X5_read_17 : decode cX5_read 17 = .ok (.iload_n 2, 1) := by decide +kernel
theorem d_X5_read_18 : decode cX5_read 18 = .ok (.bipush 64, 2) := by decide +kernel
theorem d_X5_read_20 : decode cX5_read 20 = .ok (.if_icmp .ge 30, 3) := by decide +kernel
theorem d_X5_read_23 : decode cX5_read 23 = .ok (.aload_n 0, 1) := by decide +kernel
theorem d_X5_read_24 : decode cX5_read 24 = .ok (.getfield 33, 3) := by decide +kernel
theorem d_X5_read_27 : decode cX5_read 27 = .ok (.iload_n 2, 1) := by decide +kernel
theorem d_X5_read_28 : decode cX5_read 28 = .ok (.iconst 0, 1) := by decide +kernel
theorem d_X5_read_29 : decode cX5_read 29 = .ok (.iastore, 1) := by decide +kernel
theorem d_X5_read_30 : decode cX5_read 30 = .ok (.aload_n 0, 1) := by decide +kernel
theorem d_X5_read_31 : decode cX5_read 31 = .ok (.getfield 36, 3) := by decide +kernel
theorem d_X5_read_34 : decode cX5_read 34 = .ok (.iload_n 2, 1) := by decide +kernel
theorem d_X5_read_35 : decode cX5_read 35 = .ok (.iconst 0, 1) := by decide +kernel
theorem d_X5_read_36 : decode cX5_read 36 = .ok (.iastore, 1) := by decide +kernel
theorem d_X5_read_37 : decode cX5_read 37 = .ok (.aload_n 0, 1) := by decide +kernel
theorem d_X5_read_38 : decode cX5_read 38 = .ok (.getfield 39, 3) := by decide +kernel
theorem d_X5_read_41 : decode cX5_read 41 = .ok (.iload_n 2, 1) := by decide +kernel
theorem d_X5_read_42 : decode cX5_read 42 = .ok (.iconst 0, 1) := by decide +kernel
theorem d_X5_read_43 : decode cX5_read 43 = .ok (.iastore, 1) := by decide +kernel
theorem d_X5_read_44 : decode cX5_read 44 = .ok (.iinc 2 1, 3) := by decide +kernel
theorem d_X5_read_47 : decode cX5_read 47 = .ok (.goto (-30), 3) := by decide +kernel
theorem d_X5_read_50 : decode cX5_read 50 = .ok (.iconst 0, 1) := by decide +kernel
theorem d_X5_read_51 : decode cX5_read 51 = .ok (.istore_n 2, 1) := by decide +kernel
theorem d_X5_read_52 : decode cX5_read 52 = .ok (.iload_n 2, 1) := by decide +kernel
theorem d_X5_read_53 : decode cX5_read 53 = .ok (.bipush 60, 2) := by decide +kernel
theorem d_X5_read_55 : decode cX5_read 55 = .ok (.if_icmp .gt 22, 3) := by decide +kernel
theorem d_X5_read_58 : decode cX5_read 58 = .ok (.aload_n 1, 1) := by decide +kernel
theorem d_X5_read_59 : decode cX5_read 59 = .ok (.invokevirtual 45, 3) := by decide +kernel
theorem d_X5_read_62 : decode cX5_read 62 = .ok (.ifCond .eq 15, 3) := by decide +kernel
theorem d_X5_read_65 : decode cX5_read 65 = .ok (.aload_n 0, 1) := by decide +kernel
theorem d_X5_read_66 : decode cX5_read 66 = .ok (.aload_n 1, 1) := by decide +kernel
theorem d_X5_read_67 : decode cX5_read 67 = .ok (.iload_n 2, 1) := by decide +kernel
theorem d_X5_read_68 : decode cX5_read 68 = .ok (.invokevirtual 51, 3) := by decide +kernel
theorem d_X5_read_71 : decode cX5_read 71 = .ok (.iinc 2 1, 3) := by decide +kernel
theorem d_X5_read_74 : decode cX5_read 74 = .ok (.goto (-22), 3) := by decide +kernel
theorem d_X5_read_77 : decode cX5_read 77 = .ok (.aload_n 0, 1) := by decide +kernel
theorem d_X5_read_78 : decode cX5_read 78 = .ok (.aload_n 0, 1) := by decide +kernel
theorem d_X5_read_79 : decode cX5_read 79 = .ok (.getfield 9, 3) := by decide +kernel
theorem d_X5_read_82 : decode cX5_read 82 = .ok (.aload_n 0, 1) := by decide +kernel
theorem d_X5_read_83 : decode cX5_read 83 = .ok (.getfield 15, 3) := by decide +kernel
theorem d_X5_read_86 : decode cX5_read 86 = .ok (.invokestatic 18, 3) := by decide +kernel
theorem d_X5_read_89 : decode cX5_read 89 = .ok (.putfield 22, 3) := by decide +kernel
theorem d_X5_read_92 : decode cX5_read 92 = .ok (.aload_n 0, 1) := by decide +kernel
theorem d_X5_read_93 : decode cX5_read 93 = .ok (.invokevirtual 55, 3) := by decide +kernel
theorem d_X5_read_96 : decode cX5_read 96 = .ok (.return_, 1) := by decide +kernel
noncomputable def F_X5_read_77 (t : Nat) (p0 : Nat) (M : zMem) : Option (zMem) :=
  zb (F_X5_square M (M.1 t 0) (M.1 t 1)) fun v2 M1 =>
  zl (zL M1 t 3 v2) fun M3 =>
  zbv (F_X5_leaveOut M3 t) fun M4 =>
  some M4
noncomputable def F_X5_read_52 (t : Nat) (p0 : Nat) (self52 : Int32 → zMem → Option (zMem)) (b52_L2 : Int32) (M : zMem) : Option (zMem) :=
  if (60 : Int32) < b52_L2 then
    F_X5_read_77 t p0 M
  else
    zb (F_X8_goesOn M p0) fun v6 M5 =>
    if v6 = 0 then
      F_X5_read_77 t p0 M5
    else
      zbv (F_X5_readClause M5 t p0 b52_L2) fun M7 =>
      self52 (b52_L2 + 1) M7
noncomputable def F_X5_read_17 (t : Nat) (p0 : Nat) (self17 : Int32 → zMem → Option (zMem)) (b17_L2 : Int32) (M : zMem) : Option (zMem) :=
  if (64 : Int32) ≤ b17_L2 then
    itF (fun _ _ => none) (F_X5_read_52 t p0) zFuel (0 : Int32) M
  else
    gin b17_L2 64 <|
    zl (zI M (t + 3) b17_L2.toNatClampNeg (0 : Int32)) fun M9 =>
    zl (zI M9 (t + 4) b17_L2.toNatClampNeg (0 : Int32)) fun M10 =>
    zl (zI M10 (t + 5) b17_L2.toNatClampNeg (0 : Int32)) fun M11 =>
    self17 (b17_L2 + 1) M11
noncomputable def F_X5_read (M : zMem) (t : Nat) (p0 : Nat) : Option (zMem) :=
  zl (zI M t 0 (4 : Int32)) fun M12 =>
  zl (zI M12 t 1 (4 : Int32)) fun M13 =>
  zl (zI M13 t 2 (0 : Int32)) fun M14 =>
  itF (fun _ _ => none) (F_X5_read_17 t p0) zFuel (0 : Int32) M14
def rm_X5_read : Room := { frames := 10, cells := 0, slots := 0, locals := 306 }
set_option maxHeartbeats 4000000 in
set_option maxRecDepth 100000 in
theorem c_X5_read (l : Launch) {G : zG} {ad : Nat → Nat} {n : Nat} (hA : zInj ad n) (M : zMem) (t : Nat) (p0 : Nat) (hT_t : zT shX n t 6) (hT_p0 : zT shX n p0 9) {M9 : zMem} (hF : F_X5_read M t p0 = some M9) : zM l yX5_read cX5_read 3 none rm_X5_read G shX ad n M [.ref (ad t), .ref (ad p0)] none M9 := by
  refine zM_of hA (by decide +kernel) (lv := [(0, .ref (ad t)), (1, .ref (ad p0))]) (Nat.le_of_ble_eq_true rfl) rfl (fun p e s m args below meth c A cx hr => ?_)
  have hb77 : ∀ (M : zMem), F_X5_read_77 t p0 M = some M9 → zJ p l e rm_X5_read s m args below meth c G shX ad n A 3 (MQ below (zQ G shX ad n M9 none A) args s 0 0 A) 0 0 M 77 [(0, .ref (ad t))] [] := by
    intro M hF
    unfold F_X5_read_77 at hF
    refine z_aload_n cx d_X5_read_77 0 rfl ?_
    refine z_aload_n cx d_X5_read_78 0 rfl ?_
    refine z_getI cx hT_t fg_Plan_9 d_X5_read_79 ?_
    refine z_aload_n cx d_X5_read_82 0 rfl ?_
    refine z_getI cx hT_t fg_Plan_15 d_X5_read_83 ?_
    obtain ⟨v2, M1, hc, hF⟩ := zb_inv hF
    refine z_callS cx (As := [.int (M.1 t 0), .int (M.1 t 1)]) (rest := [.ref (ad t)]) (c_X5_square l cx.2.2.2.1.1 M (M.1 t 0) (M.1 t 1)  hc) cs_Plan_18 ⟨rfl, rfl, Nat.le_of_ble_eq_true rfl, Nat.le_of_ble_eq_true rfl⟩ rfl rfl ⟨Nat.zero_le _, Nat.zero_le _⟩ (Nat.le_of_ble_eq_true rfl) d_X5_read_86 ?_
    refine z_putL cx hT_t fp_Plan_22 d_X5_read_89 ?_
    refine z_nmM hF (fun M3 hF => ?_)
    refine z_aload_n cx d_X5_read_92 0 rfl ?_
    obtain ⟨M4, hc, hF⟩ := zbv_inv hF
    refine z_callV cx (As := []) (rest := []) (c_X5_leaveOut l cx.2.2.2.1.1 M3 t hT_t hc) hT_t zo_6 cv_Plan_55 ⟨rfl, rfl, Nat.le_of_ble_eq_true rfl, Nat.le_of_ble_eq_true rfl⟩ rfl rfl ⟨Nat.zero_le _, Nat.zero_le _⟩ (Nat.le_of_ble_eq_true rfl) d_X5_read_93 ?_
    exact z_vret cx hr hF d_X5_read_96
  have hL52 : ∀ (fuel : Nat), ∀ (b52_L2 : Int32) (M : zMem), itF (fun _ _ => none) (F_X5_read_52 t p0) fuel b52_L2 M = some M9 → zJ p l e rm_X5_read s m args below meth c G shX ad n A 3 (MQ below (zQ G shX ad n M9 none A) args s 0 0 A) 0 0 M 52 [(0, .ref (ad t)), (1, .ref (ad p0)), (2, .int b52_L2)] [] := by
    intro fuel
    induction fuel with
    | zero => intro b52_L2 M hF; cases hF
    | succ fuel hs52 =>
      intro b52_L2 M hF
      have hF : F_X5_read_52 t p0 (itF (fun _ _ => none) (F_X5_read_52 t p0) fuel) b52_L2 M = some M9 := hF
      generalize itF (fun _ _ => none) (F_X5_read_52 t p0) fuel = self52 at hs52 hF
      unfold F_X5_read_52 at hF
      refine z_iload_n cx d_X5_read_52 2 rfl ?_
      refine z_bipush (v := 60) cx d_X5_read_53 kb_60 ?_
      refine z_icmp_gt cx 77 d_X5_read_55 (by decide) hF (fun hF => ?_) (fun hF => ?_)
      · exact z_lv [0] _ rfl (hb77 M hF)
      refine z_aload_n cx d_X5_read_58 1 rfl ?_
      obtain ⟨v6, M5, hc, hF⟩ := zb_inv hF
      refine z_callV cx (As := []) (rest := []) (c_X8_goesOn l cx.2.2.2.1.1 M p0 hT_p0 hc) hT_p0 zo_9 cv_Plan_45 ⟨rfl, rfl, Nat.le_of_ble_eq_true rfl, Nat.le_of_ble_eq_true rfl⟩ rfl rfl ⟨Nat.zero_le _, Nat.zero_le _⟩ (Nat.le_of_ble_eq_true rfl) d_X5_read_59 ?_
      refine z_if_eq cx 77 d_X5_read_62 (by decide) hF (fun hF => ?_) (fun hF => ?_)
      · exact z_lv [0] _ rfl (hb77 M5 hF)
      refine z_aload_n cx d_X5_read_65 0 rfl ?_
      refine z_aload_n cx d_X5_read_66 1 rfl ?_
      refine z_iload_n cx d_X5_read_67 2 rfl ?_
      obtain ⟨M7, hc, hF⟩ := zbv_inv hF
      refine z_callV cx (As := [.ref (ad p0), .int b52_L2]) (rest := []) (c_X5_readClause l cx.2.2.2.1.1 M5 t p0 b52_L2 hT_t hT_p0 hc) hT_t zo_6 cv_Plan_51 ⟨rfl, rfl, Nat.le_of_ble_eq_true rfl, Nat.le_of_ble_eq_true rfl⟩ rfl rfl ⟨Nat.zero_le _, Nat.zero_le _⟩ (Nat.le_of_ble_eq_true rfl) d_X5_read_68 ?_
      refine z_iinc cx 2 1 [(2, .int (b52_L2 + 1)), (0, .ref (ad t)), (1, .ref (ad p0))] d_X5_read_71 2 rfl ki_1 (by decide) rfl ?_
      refine z_goto cx 52 d_X5_read_74 (by decide) ?_
      exact z_lv [1, 2, 0] _ rfl (hs52 (b52_L2 + 1) M7 hF)
  have hL17 : ∀ (fuel : Nat), ∀ (b17_L2 : Int32) (M : zMem), itF (fun _ _ => none) (F_X5_read_17 t p0) fuel b17_L2 M = some M9 → zJ p l e rm_X5_read s m args below meth c G shX ad n A 3 (MQ below (zQ G shX ad n M9 none A) args s 0 0 A) 0 0 M 17 [(0, .ref (ad t)), (1, .ref (ad p0)), (2, .int b17_L2)] [] := by
    intro fuel
    induction fuel with
    | zero => intro b17_L2 M hF; cases hF
    | succ fuel hs17 =>
      intro b17_L2 M hF
      have hF : F_X5_read_17 t p0 (itF (fun _ _ => none) (F_X5_read_17 t p0) fuel) b17_L2 M = some M9 := hF
      generalize itF (fun _ _ => none) (F_X5_read_17 t p0) fuel = self17 at hs17 hF
      unfold F_X5_read_17 at hF
      refine z_iload_n cx d_X5_read_17 2 rfl ?_
      refine z_bipush (v := 64) cx d_X5_read_18 kb_64 ?_
      refine z_icmp_ge cx 50 d_X5_read_20 (by decide) hF (fun hF => ?_) (fun hF => ?_)
      · refine z_iconst (v := 0) cx d_X5_read_50 ki_0 ?_
        refine z_istore_n cx 2 [(2, .int (0 : Int32)), (0, .ref (ad t)), (1, .ref (ad p0))] d_X5_read_51 rfl (by decide) rfl ?_
        exact z_lv [1, 2, 0] _ rfl (hL52 zFuel (0 : Int32) M hF)
      refine z_aload_n cx d_X5_read_23 0 rfl ?_
      refine z_getR cx hT_t fg_Plan_33 (t + 3) rfl d_X5_read_24 ?_
      refine z_iload_n cx d_X5_read_27 2 rfl ?_
      refine z_iconst (v := 0) cx d_X5_read_28 ki_0 ?_
      obtain ⟨hi8, hF⟩ := gin_inv hF
      refine z_iast cx (tfX_6_3 hT_t) za_16 hi8 b17_L2.toNatClampNeg rfl d_X5_read_29 ?_
      refine z_nmM hF (fun M9 hF => ?_)
      refine z_aload_n cx d_X5_read_30 0 rfl ?_
      refine z_getR cx hT_t fg_Plan_36 (t + 4) rfl d_X5_read_31 ?_
      refine z_iload_n cx d_X5_read_34 2 rfl ?_
      refine z_iconst (v := 0) cx d_X5_read_35 ki_0 ?_
      refine z_iast cx (tfX_6_4 hT_t) za_16 hi8 b17_L2.toNatClampNeg rfl d_X5_read_36 ?_
      refine z_nmM hF (fun M10 hF => ?_)
      refine z_aload_n cx d_X5_read_37 0 rfl ?_
      refine z_getR cx hT_t fg_Plan_39 (t + 5) rfl d_X5_read_38 ?_
      refine z_iload_n cx d_X5_read_41 2 rfl ?_
      refine z_iconst (v := 0) cx d_X5_read_42 ki_0 ?_
      refine z_iast cx (tfX_6_5 hT_t) za_16 hi8 b17_L2.toNatClampNeg rfl d_X5_read_43 ?_
      refine z_nmM hF (fun M11 hF => ?_)
      refine z_iinc cx 2 1 [(2, .int (b17_L2 + 1)), (0, .ref (ad t)), (1, .ref (ad p0))] d_X5_read_44 2 rfl ki_1 (by decide) rfl ?_
      refine z_goto cx 17 d_X5_read_47 (by decide) ?_
      exact z_lv [1, 2, 0] _ rfl (hs17 (b17_L2 + 1) M11 hF)
  unfold F_X5_read at hF
  refine z_aload_n cx d_X5_read_0 0 rfl ?_
  refine z_iconst (v := 4) cx d_X5_read_1 ki_4 ?_
  refine z_putI cx hT_t fp_Plan_9 d_X5_read_2 ?_
  refine z_nmM hF (fun M12 hF => ?_)
  refine z_aload_n cx d_X5_read_5 0 rfl ?_
  refine z_iconst (v := 4) cx d_X5_read_6 ki_4 ?_
  refine z_putI cx hT_t fp_Plan_15 d_X5_read_7 ?_
  refine z_nmM hF (fun M13 hF => ?_)
  refine z_aload_n cx d_X5_read_10 0 rfl ?_
  refine z_iconst (v := 0) cx d_X5_read_11 ki_0 ?_
  refine z_putI cx hT_t fp_Plan_42 d_X5_read_12 ?_
  refine z_nmM hF (fun M14 hF => ?_)
  refine z_iconst (v := 0) cx d_X5_read_15 ki_0 ?_
  refine z_istore_n cx 2 [(2, .int (0 : Int32)), (0, .ref (ad t)), (1, .ref (ad p0))] d_X5_read_16 rfl (by decide) rfl ?_
  exact z_lv [1, 2, 0] _ rfl (hL17 zFuel (0 : Int32) M14 hF)
/-! SunnyPans$Shadows.lay -/
theorem tfX_7_66 {n k : Nat} (h : zT shX n k 7) : zT shX n (k + 66) 24 := zT_off h (shX_f (by decide) (by decide +kernel)) (by decide) (by decide)
theorem tfX_7_1 {n k : Nat} (h : zT shX n k 7) : zT shX n (k + 1) 23 := zT_off h (shX_f (by decide) (by decide +kernel)) (by decide) (by decide)
set_option maxRecDepth 100000 in
theorem wd_324 : Cond.fieldLink "SunnyPans$Shadows" 23 "SunnyPans$Plan" "hours" "I" ∈ tbG := tw1 224 rfl rfl
theorem fg_Shadows_23 : zGetI "SunnyPans$Shadows" 23 5 6 2 := ⟨RX5, TX5, 9, rfl, by decide, uw_5, wd_324, fun _ _ _ _ _ _ => ⟨_, rfl, rfl⟩⟩
set_option maxRecDepth 100000 in
theorem wd_1160 : Cond.methodLinkNest "SunnyPans$Shadows" 29 yX9_has "SunnyPans" ∈ tbN := twn5 100 rfl rfl
theorem cn_Shadows_29 : zCN "SunnyPans$Shadows" 29 yX9_has cX9_has 3 (some .boolean) 2 := ⟨wd_1160, wd_101, wd_737, by decide +kernel⟩
set_option maxRecDepth 100000 in
theorem wd_275 : Cond.fieldLink "SunnyPans$Shadows" 11 "SunnyPans$Shadows" "added" "[[J" ∈ tbG := tw1 175 rfl rfl
theorem uw_6 : ∀ w ∈ u_ws RX6 TX6 3, w ∈ tbG := zUW _ [278, 280, 282] (by decide +kernel) (by decide +kernel)
theorem fg_Shadows_11 : zGetR "SunnyPans$Shadows" 11 6 7 0 1 := ⟨RX6, TX6, 3, rfl, by decide, uw_6, wd_275, fun _ _ _ _ _ _ => ⟨_, rfl, rfl⟩⟩
theorem za_23 : zArrR 23 64 5 1 1 := ⟨by decide, fun _ _ _ _ _ _ => rfl⟩
theorem teX_23 {n k : Nat} {i : Int32} (h : zT shX n k 23) (hi : vp_in i 64) : zT shX n (k + (1 + 1 * i.toNatClampNeg)) 18 := by
  have hlt : i.toNatClampNeg < 64 := Nat.not_le.mp fun q => hi (Or.inr q)
  have h2 : k + 65 ≤ n := h.2.2
  exact ⟨shX_e (by decide) (by decide +kernel) k h.1 _ hlt, by omega, by show _ + 1 ≤ n; omega⟩
set_option maxRecDepth 100000 in
theorem wd_1161 : Cond.methodLink "SunnyPans$Shadows" 33 yX5_shadedBy ∈ tbG := tw5 101 rfl rfl
theorem cv_Shadows_33 : zCV "SunnyPans$Shadows" 33 "SunnyPans$Plan" yX5_shadedBy cX5_shadedBy 10 (some .long) 3 := zCV_of wd_1161 wd_756 wd_757 wd_108 wd_758 (by decide +kernel)
set_option maxRecDepth 100000 in
theorem wd_939 : Cond.code yX4_shadeAt cX4_shadeAt 2 (some .long) ∈ tbG := tw4 119 rfl rfl
set_option maxRecDepth 100000 in
theorem wd_1162 : Cond.methodLink "SunnyPans$Shadows" 37 yX4_shadeAt ∈ tbG := tw5 102 rfl rfl
set_option maxRecDepth 100000 in
theorem wd_937 : Cond.instanceMethod yX4_shadeAt ∈ tbG := tw4 117 rfl rfl
set_option maxRecDepth 100000 in
theorem wd_938 : Cond.selects "SunnyPans$Pans" yX4_shadeAt yX4_shadeAt ∈ tbG := tw4 118 rfl rfl
theorem cv_Shadows_37 : zCV "SunnyPans$Shadows" 37 "SunnyPans$Pans" yX4_shadeAt cX4_shadeAt 2 (some .long) 1 := zCV_of wd_1162 wd_937 wd_938 wd_104 wd_939 (by decide +kernel)
set_option maxRecDepth 100000 in
theorem wd_1163 : Cond.constantLong "SunnyPans$Shadows" 43 (-1) ∈ tbG := tw5 103 rfl rfl
set_option maxRecDepth 100000 in
theorem wd_276 : Cond.fieldLink "SunnyPans$Shadows" 16 "SunnyPans$Shadows" "touched" "[J" ∈ tbG := tw1 176 rfl rfl
theorem fg_Shadows_16 : zGetR "SunnyPans$Shadows" 16 6 7 1 66 := ⟨RX6, TX6, 3, rfl, by decide, uw_6, wd_276, fun _ _ _ _ _ _ => ⟨_, rfl, rfl⟩⟩
theorem za_24 : zArrL 24 64 := fun _ _ _ _ _ _ => rfl
theorem d_X6_lay_0 : decode cX6_lay 0 = .ok (.iconst 0, 1) := by decide +kernel
theorem d_X6_lay_1 : decode cX6_lay 1 = .ok (.istore 6, 2) := by decide +kernel
theorem d_X6_lay_3 : decode cX6_lay 3 = .ok (.iload 6, 2) := by decide +kernel
theorem d_X6_lay_5 : decode cX6_lay 5 = .ok (.bipush 64, 2) := by decide +kernel
theorem d_X6_lay_7 : decode cX6_lay 7 = .ok (.if_icmp .ge 102, 3) := by decide +kernel
theorem d_X6_lay_10 : decode cX6_lay 10 = .ok (.aload_n 0, 1) := by decide +kernel
theorem d_X6_lay_11 : decode cX6_lay 11 = .ok (.getfield 16, 3) := by decide +kernel
theorem d_X6_lay_14 : decode cX6_lay 14 = .ok (.iload 6, 2) := by decide +kernel
theorem d_X6_lay_16 : decode cX6_lay 16 = .ok (.lconst 0, 1) := by decide +kernel
theorem d_X6_lay_17 : decode cX6_lay 17 = .ok (.lastore, 1) := by decide +kernel
theorem d_X6_lay_18 : decode cX6_lay 18 = .ok (.iconst 0, 1) := by decide +kernel
theorem d_X6_lay_19 : decode cX6_lay 19 = .ok (.istore 7, 2) := by decide +kernel
theorem d_X6_lay_21 : decode cX6_lay 21 = .ok (.iload 7, 2) := by decide +kernel
theorem d_X6_lay_23 : decode cX6_lay 23 = .ok (.aload_n 1, 1) := by decide +kernel
theorem d_X6_lay_24 : decode cX6_lay 24 = .ok (.getfield 23, 3) := by decide +kernel
theorem d_X6_lay_27 : decode cX6_lay 27 = .ok (.if_icmp .ge 76, 3) := by decide +kernel
theorem d_X6_lay_30 : decode cX6_lay 30 = .ok (.iload 7, 2) := by decide +kernel
theorem d_X6_lay_32 : decode cX6_lay 32 = .ok (.bipush 10, 2) := by decide +kernel
theorem d_X6_lay_34 : decode cX6_lay 34 = .ok (.if_icmp .ge 69, 3) := by decide +kernel
theorem d_X6_lay_37 : decode cX6_lay 37 = .ok (.lload_n 3, 1) := by decide +kernel
theorem d_X6_lay_38 : decode cX6_lay 38 = .ok (.iload 6, 2) := by decide +kernel
theorem d_X6_lay_40 : decode cX6_lay 40 = .ok (.invokestatic 29, 3) := by decide +kernel
theorem d_X6_lay_43 : decode cX6_lay 43 = .ok (.ifCond .eq 60, 3) := by decide +kernel
theorem d_X6_lay_46 : decode cX6_lay 46 = .ok (.aload_n 0, 1) := by decide +kernel
theorem d_X6_lay_47 : decode cX6_lay 47 = .ok (.getfield 11, 3) := by decide +kernel
theorem d_X6_lay_50 : decode cX6_lay 50 = .ok (.iload 6, 2) := by decide +kernel
theorem d_X6_lay_52 : decode cX6_lay 52 = .ok (.aaload, 1) := by decide +kernel
theorem d_X6_lay_53 : decode cX6_lay 53 = .ok (.iload 7, 2) := by decide +kernel
theorem d_X6_lay_55 : decode cX6_lay 55 = .ok (.aload_n 1, 1) := by decide +kernel
theorem d_X6_lay_56 : decode cX6_lay 56 = .ok (.iload 6, 2) := by decide +kernel
theorem d_X6_lay_58 : decode cX6_lay 58 = .ok (.iload 5, 2) := by decide +kernel
theorem d_X6_lay_60 : decode cX6_lay 60 = .ok (.iload 7, 2) := by decide +kernel
theorem d_X6_lay_62 : decode cX6_lay 62 = .ok (.invokevirtual 33, 3) := by decide +kernel
theorem d_X6_lay_65 : decode cX6_lay 65 = .ok (.aload_n 2, 1) := by decide +kernel
theorem d_X6_lay_66 : decode cX6_lay 66 = .ok (.iload 7, 2) := by decide +kernel
theorem d_X6_lay_68 : decode cX6_lay 68 = .ok (.invokevirtual 37, 3) := by decide +kernel
theorem d_X6_lay_71 : decode cX6_lay 71 = .ok (.ldc2_w 43, 3) := by decide +kernel
theorem d_X6_lay_74 : decode cX6_lay 74 = .ok (.lxor, 1) := by decide +kernel
theorem d_X6_lay_75 : decode cX6_lay 75 = .ok (.land, 1) := by decide +kernel
theorem d_X6_lay_76 : decode cX6_lay 76 = .ok (.lastore, 1) := by decide +kernel
theorem d_X6_lay_77 : decode cX6_lay 77 = .ok (.aload_n 0, 1) := by decide +kernel
theorem d_X6_lay_78 : decode cX6_lay 78 = .ok (.getfield 16, 3) := by decide +kernel
theorem d_X6_lay_81 : decode cX6_lay 81 = .ok (.iload 6, 2) := by decide +kernel
theorem d_X6_lay_83 : decode cX6_lay 83 = .ok (.dup2, 1) := by decide +kernel
theorem d_X6_lay_84 : decode cX6_lay 84 = .ok (.laload, 1) := by decide +kernel
theorem d_X6_lay_85 : decode cX6_lay 85 = .ok (.aload_n 0, 1) := by decide +kernel
theorem d_X6_lay_86 : decode cX6_lay 86 = .ok (.getfield 11, 3) := by decide +kernel
theorem d_X6_lay_89 : decode cX6_lay 89 = .ok (.iload 6, 2) := by decide +kernel
theorem d_X6_lay_91 : decode cX6_lay 91 = .ok (.aaload, 1) := by decide +kernel
theorem d_X6_lay_92 : decode cX6_lay 92 = .ok (.iload 7, 2) := by decide +kernel
theorem d_X6_lay_94 : decode cX6_lay 94 = .ok (.laload, 1) := by decide +kernel
theorem d_X6_lay_95 : decode cX6_lay 95 = .ok (.lor, 1) := by decide +kernel
theorem d_X6_lay_96 : decode cX6_lay 96 = .ok (.lastore, 1) := by decide +kernel
theorem d_X6_lay_97 : decode cX6_lay 97 = .ok (.iinc 7 1, 3) := by decide +kernel
theorem d_X6_lay_100 : decode cX6_lay 100 = .ok (.goto (-79), 3) := by decide +kernel
theorem d_X6_lay_103 : decode cX6_lay 103 = .ok (.iinc 6 1, 3) := by decide +kernel
theorem d_X6_lay_106 : decode cX6_lay 106 = .ok (.goto (-103), 3) := by decide +kernel
theorem d_X6_lay_109 : decode cX6_lay 109 = .ok (.return_, 1) := by decide +kernel
noncomputable def F_X6_lay_103 (t : Nat) (p0 : Nat) (p1 : Nat) (p2 : Int64) (p3 : Int32) (self3 : Int64 → Int32 → Int32 → zMem → Option (zMem)) (b103_L3 : Int64) (b103_L5 : Int32) (b103_L6 : Int32) (M : zMem) : Option (zMem) :=
  self3 b103_L3 b103_L5 (b103_L6 + 1) M
noncomputable def F_X6_lay_21 (t : Nat) (p0 : Nat) (p1 : Nat) (p2 : Int64) (p3 : Int32) (self3 : Int64 → Int32 → Int32 → zMem → Option (zMem)) (self21 : Int64 → Int32 → Int32 → Int32 → zMem → Option (zMem)) (b21_L3 : Int64) (b21_L5 : Int32) (b21_L6 : Int32) (b21_L7 : Int32) (M : zMem) : Option (zMem) :=
  if (M.1 p0 2) ≤ b21_L7 then
    F_X6_lay_103 t p0 p1 p2 p3 self3 b21_L3 b21_L5 b21_L6 M
  else
    if (10 : Int32) ≤ b21_L7 then
      F_X6_lay_103 t p0 p1 p2 p3 self3 b21_L3 b21_L5 b21_L6 M
    else
      zb (F_X9_has M b21_L3 b21_L6) fun v2 M1 =>
      if v2 = 0 then
        F_X6_lay_103 t p0 p1 p2 p3 self3 b21_L3 b21_L5 b21_L6 M1
      else
        gin b21_L6 64 <|
        zb (F_X5_shadedBy M1 p0 b21_L6 b21_L5 b21_L7) fun v5 M4 =>
        zb (F_X4_shadeAt M4 p1 b21_L7) fun v7 M6 =>
        gin b21_L7 10 <|
        zl (zL M6 ((t + 1) + (1 + 1 * b21_L6.toNatClampNeg)) b21_L7.toNatClampNeg (v5 &&& (v7 ^^^ (-1 : Int64)))) fun M9 =>
        zl (zL M9 (t + 66) b21_L6.toNatClampNeg ((M9.2.1 (t + 66) b21_L6.toNatClampNeg) ||| (M9.2.1 ((t + 1) + (1 + 1 * b21_L6.toNatClampNeg)) b21_L7.toNatClampNeg))) fun M10 =>
        self21 b21_L3 b21_L5 b21_L6 (b21_L7 + 1) M10
noncomputable def F_X6_lay_3 (t : Nat) (p0 : Nat) (p1 : Nat) (p2 : Int64) (p3 : Int32) (self3 : Int64 → Int32 → Int32 → zMem → Option (zMem)) (b3_L3 : Int64) (b3_L5 : Int32) (b3_L6 : Int32) (M : zMem) : Option (zMem) :=
  if (64 : Int32) ≤ b3_L6 then
    some M
  else
    gin b3_L6 64 <|
    zl (zL M (t + 66) b3_L6.toNatClampNeg (0 : Int64)) fun M12 =>
    itF (fun _ _ _ _ _ => none) (F_X6_lay_21 t p0 p1 p2 p3 self3) zFuel b3_L3 b3_L5 b3_L6 (0 : Int32) M12
noncomputable def F_X6_lay (M : zMem) (t : Nat) (p0 : Nat) (p1 : Nat) (p2 : Int64) (p3 : Int32) : Option (zMem) :=
  itF (fun _ _ _ _ => none) (F_X6_lay_3 t p0 p1 p2 p3) zFuel p2 p3 (0 : Int32) M
def rm_X6_lay : Room := { frames := 4, cells := 0, slots := 0, locals := 131 }
set_option maxHeartbeats 4000000 in
set_option maxRecDepth 100000 in
theorem c_X6_lay (l : Launch) {G : zG} {ad : Nat → Nat} {n : Nat} (hA : zInj ad n) (M : zMem) (t : Nat) (p0 : Nat) (p1 : Nat) (p2 : Int64) (p3 : Int32) (hT_t : zT shX n t 7) (hT_p0 : zT shX n p0 6) (hT_p1 : zT shX n p1 5) {M9 : zMem} (hF : F_X6_lay M t p0 p1 p2 p3 = some M9) : zM l yX6_lay cX6_lay 8 none rm_X6_lay G shX ad n M [.ref (ad t), .ref (ad p0), .ref (ad p1), .long p2, .int p3] none M9 := by
  refine zM_of hA (by decide +kernel) (lv := [(0, .ref (ad t)), (1, .ref (ad p0)), (2, .ref (ad p1)), (3, .long p2), (5, .int p3)]) (Nat.le_of_ble_eq_true rfl) rfl (fun p e s m args below meth c A cx hr => ?_)
  have hb103 : ∀ (self3 : Int64 → Int32 → Int32 → zMem → Option (zMem)) (hs3 : ∀ (b3_L3 : Int64) (b3_L5 : Int32) (b3_L6 : Int32) (M : zMem), self3 b3_L3 b3_L5 b3_L6 M = some M9 → zJ p l e rm_X6_lay s m args below meth c G shX ad n A 8 (MQ below (zQ G shX ad n M9 none A) args s 0 0 A) 0 0 M 3 [(0, .ref (ad t)), (1, .ref (ad p0)), (2, .ref (ad p1)), (3, .long b3_L3), (5, .int b3_L5), (6, .int b3_L6)] []), ∀ (b103_L3 : Int64) (b103_L5 : Int32) (b103_L6 : Int32) (M : zMem), F_X6_lay_103 t p0 p1 p2 p3 self3 b103_L3 b103_L5 b103_L6 M = some M9 → zJ p l e rm_X6_lay s m args below meth c G shX ad n A 8 (MQ below (zQ G shX ad n M9 none A) args s 0 0 A) 0 0 M 103 [(0, .ref (ad t)), (1, .ref (ad p0)), (2, .ref (ad p1)), (3, .long b103_L3), (5, .int b103_L5), (6, .int b103_L6)] [] := by
    intro self3 hs3 b103_L3 b103_L5 b103_L6 M hF
    unfold F_X6_lay_103 at hF
    refine z_iinc cx 6 1 [(6, .int (b103_L6 + 1)), (0, .ref (ad t)), (1, .ref (ad p0)), (2, .ref (ad p1)), (3, .long b103_L3), (5, .int b103_L5)] d_X6_lay_103 5 rfl ki_1 (by decide) rfl ?_
    refine z_goto cx 3 d_X6_lay_106 (by decide) ?_
    exact z_lv [1, 2, 3, 4, 5, 0] _ rfl (hs3 b103_L3 b103_L5 (b103_L6 + 1) M hF)
  have hL21 : ∀ (self3 : Int64 → Int32 → Int32 → zMem → Option (zMem)) (hs3 : ∀ (b3_L3 : Int64) (b3_L5 : Int32) (b3_L6 : Int32) (M : zMem), self3 b3_L3 b3_L5 b3_L6 M = some M9 → zJ p l e rm_X6_lay s m args below meth c G shX ad n A 8 (MQ below (zQ G shX ad n M9 none A) args s 0 0 A) 0 0 M 3 [(0, .ref (ad t)), (1, .ref (ad p0)), (2, .ref (ad p1)), (3, .long b3_L3), (5, .int b3_L5), (6, .int b3_L6)] []) (fuel : Nat), ∀ (b21_L3 : Int64) (b21_L5 : Int32) (b21_L6 : Int32) (b21_L7 : Int32) (M : zMem), itF (fun _ _ _ _ _ => none) (F_X6_lay_21 t p0 p1 p2 p3 self3) fuel b21_L3 b21_L5 b21_L6 b21_L7 M = some M9 → zJ p l e rm_X6_lay s m args below meth c G shX ad n A 8 (MQ below (zQ G shX ad n M9 none A) args s 0 0 A) 0 0 M 21 [(0, .ref (ad t)), (1, .ref (ad p0)), (2, .ref (ad p1)), (3, .long b21_L3), (5, .int b21_L5), (6, .int b21_L6), (7, .int b21_L7)] [] := by
    intro self3 hs3 fuel
    induction fuel with
    | zero => intro b21_L3 b21_L5 b21_L6 b21_L7 M hF; cases hF
    | succ fuel hs21 =>
      intro b21_L3 b21_L5 b21_L6 b21_L7 M hF
      have hF : F_X6_lay_21 t p0 p1 p2 p3 self3 (itF (fun _ _ _ _ _ => none) (F_X6_lay_21 t p0 p1 p2 p3 self3) fuel) b21_L3 b21_L5 b21_L6 b21_L7 M = some M9 := hF
      generalize itF (fun _ _ _ _ _ => none) (F_X6_lay_21 t p0 p1 p2 p3 self3) fuel = self21 at hs21 hF
      unfold F_X6_lay_21 at hF
      refine z_iload cx d_X6_lay_21 6 rfl ?_
      refine z_aload_n cx d_X6_lay_23 1 rfl ?_
      refine z_getI cx hT_p0 fg_Shadows_23 d_X6_lay_24 ?_
      refine z_icmp_ge cx 103 d_X6_lay_27 (by decide) hF (fun hF => ?_) (fun hF => ?_)
      · exact z_lv [0, 1, 2, 3, 4, 5] _ rfl (hb103 self3 hs3 b21_L3 b21_L5 b21_L6 M hF)
      refine z_iload cx d_X6_lay_30 6 rfl ?_
      refine z_bipush (v := 10) cx d_X6_lay_32 kb_10 ?_
      refine z_icmp_ge cx 103 d_X6_lay_34 (by decide) hF (fun hF => ?_) (fun hF => ?_)
      · exact z_lv [0, 1, 2, 3, 4, 5] _ rfl (hb103 self3 hs3 b21_L3 b21_L5 b21_L6 M hF)
      refine z_lload_n cx d_X6_lay_37 3 rfl ?_
      refine z_iload cx d_X6_lay_38 5 rfl ?_
      obtain ⟨v2, M1, hc, hF⟩ := zb_inv hF
      refine z_callSN cx (As := [.long b21_L3, .int b21_L6]) (rest := []) (c_X9_has l cx.2.2.2.1.1 M b21_L3 b21_L6  hc) cn_Shadows_29 wd_736 ⟨rfl, rfl, Nat.le_of_ble_eq_true rfl, Nat.le_of_ble_eq_true rfl⟩ rfl rfl ⟨Nat.zero_le _, Nat.zero_le _⟩ (Nat.le_of_ble_eq_true rfl) d_X6_lay_40 ?_
      refine z_if_eq cx 103 d_X6_lay_43 (by decide) hF (fun hF => ?_) (fun hF => ?_)
      · exact z_lv [0, 1, 2, 3, 4, 5] _ rfl (hb103 self3 hs3 b21_L3 b21_L5 b21_L6 M1 hF)
      refine z_aload_n cx d_X6_lay_46 0 rfl ?_
      refine z_getR cx hT_t fg_Shadows_11 (t + 1) rfl d_X6_lay_47 ?_
      refine z_iload cx d_X6_lay_50 5 rfl ?_
      obtain ⟨hi3, hF⟩ := gin_inv hF
      refine z_aald cx (tfX_7_1 hT_t) za_23 hi3 ((t + 1) + (1 + 1 * b21_L6.toNatClampNeg)) rfl d_X6_lay_52 ?_
      refine z_iload cx d_X6_lay_53 6 rfl ?_
      refine z_aload_n cx d_X6_lay_55 1 rfl ?_
      refine z_iload cx d_X6_lay_56 5 rfl ?_
      refine z_iload cx d_X6_lay_58 4 rfl ?_
      refine z_iload cx d_X6_lay_60 6 rfl ?_
      obtain ⟨v5, M4, hc, hF⟩ := zb_inv hF
      refine z_callV cx (As := [.int b21_L6, .int b21_L5, .int b21_L7]) (rest := [.int b21_L7, .ref (ad ((t + 1) + (1 + 1 * b21_L6.toNatClampNeg)))]) (c_X5_shadedBy l cx.2.2.2.1.1 M1 p0 b21_L6 b21_L5 b21_L7 hT_p0 hc) hT_p0 zo_6 cv_Shadows_33 ⟨rfl, rfl, Nat.le_of_ble_eq_true rfl, Nat.le_of_ble_eq_true rfl⟩ rfl rfl ⟨Nat.zero_le _, Nat.zero_le _⟩ (Nat.le_of_ble_eq_true rfl) d_X6_lay_62 ?_
      refine z_aload_n cx d_X6_lay_65 2 rfl ?_
      refine z_iload cx d_X6_lay_66 6 rfl ?_
      obtain ⟨v7, M6, hc, hF⟩ := zb_inv hF
      refine z_callV cx (As := [.int b21_L7]) (rest := [.long v5, .int b21_L7, .ref (ad ((t + 1) + (1 + 1 * b21_L6.toNatClampNeg)))]) (c_X4_shadeAt l cx.2.2.2.1.1 M4 p1 b21_L7 hT_p1 hc) hT_p1 zo_5 cv_Shadows_37 ⟨rfl, rfl, Nat.le_of_ble_eq_true rfl, Nat.le_of_ble_eq_true rfl⟩ rfl rfl ⟨Nat.zero_le _, Nat.zero_le _⟩ (Nat.le_of_ble_eq_true rfl) d_X6_lay_68 ?_
      refine z_ldc2 cx wd_1163 d_X6_lay_71 ?_
      refine z_lxor cx d_X6_lay_74 ?_
      refine z_land cx d_X6_lay_75 ?_
      obtain ⟨hi8, hF⟩ := gin_inv hF
      refine z_last cx (teX_23 (tfX_7_1 hT_t) hi3) za_18 hi8 b21_L7.toNatClampNeg rfl d_X6_lay_76 ?_
      refine z_nmM hF (fun M9 hF => ?_)
      refine z_aload_n cx d_X6_lay_77 0 rfl ?_
      refine z_getR cx hT_t fg_Shadows_16 (t + 66) rfl d_X6_lay_78 ?_
      refine z_iload cx d_X6_lay_81 5 rfl ?_
      refine z_dup2 cx d_X6_lay_83 rfl rfl ?_
      refine z_lald cx (tfX_7_66 hT_t) za_24 hi3 b21_L6.toNatClampNeg rfl d_X6_lay_84 ?_
      refine z_aload_n cx d_X6_lay_85 0 rfl ?_
      refine z_getR cx hT_t fg_Shadows_11 (t + 1) rfl d_X6_lay_86 ?_
      refine z_iload cx d_X6_lay_89 5 rfl ?_
      refine z_aald cx (tfX_7_1 hT_t) za_23 hi3 ((t + 1) + (1 + 1 * b21_L6.toNatClampNeg)) rfl d_X6_lay_91 ?_
      refine z_iload cx d_X6_lay_92 6 rfl ?_
      refine z_lald cx (teX_23 (tfX_7_1 hT_t) hi3) za_18 hi8 b21_L7.toNatClampNeg rfl d_X6_lay_94 ?_
      refine z_lor cx d_X6_lay_95 ?_
      refine z_last cx (tfX_7_66 hT_t) za_24 hi3 b21_L6.toNatClampNeg rfl d_X6_lay_96 ?_
      refine z_nmM hF (fun M10 hF => ?_)
      refine z_iinc cx 7 1 [(7, .int (b21_L7 + 1)), (0, .ref (ad t)), (1, .ref (ad p0)), (2, .ref (ad p1)), (3, .long b21_L3), (5, .int b21_L5), (6, .int b21_L6)] d_X6_lay_97 6 rfl ki_1 (by decide) rfl ?_
      refine z_goto cx 21 d_X6_lay_100 (by decide) ?_
      exact z_lv [1, 2, 3, 4, 5, 6, 0] _ rfl (hs21 b21_L3 b21_L5 b21_L6 (b21_L7 + 1) M10 hF)
  have hL3 : ∀ (fuel : Nat), ∀ (b3_L3 : Int64) (b3_L5 : Int32) (b3_L6 : Int32) (M : zMem), itF (fun _ _ _ _ => none) (F_X6_lay_3 t p0 p1 p2 p3) fuel b3_L3 b3_L5 b3_L6 M = some M9 → zJ p l e rm_X6_lay s m args below meth c G shX ad n A 8 (MQ below (zQ G shX ad n M9 none A) args s 0 0 A) 0 0 M 3 [(0, .ref (ad t)), (1, .ref (ad p0)), (2, .ref (ad p1)), (3, .long b3_L3), (5, .int b3_L5), (6, .int b3_L6)] [] := by
    intro fuel
    induction fuel with
    | zero => intro b3_L3 b3_L5 b3_L6 M hF; cases hF
    | succ fuel hs3 =>
      intro b3_L3 b3_L5 b3_L6 M hF
      have hF : F_X6_lay_3 t p0 p1 p2 p3 (itF (fun _ _ _ _ => none) (F_X6_lay_3 t p0 p1 p2 p3) fuel) b3_L3 b3_L5 b3_L6 M = some M9 := hF
      generalize itF (fun _ _ _ _ => none) (F_X6_lay_3 t p0 p1 p2 p3) fuel = self3 at hs3 hF
      unfold F_X6_lay_3 at hF
      refine z_iload cx d_X6_lay_3 5 rfl ?_
      refine z_bipush (v := 64) cx d_X6_lay_5 kb_64 ?_
      refine z_icmp_ge cx 109 d_X6_lay_7 (by decide) hF (fun hF => ?_) (fun hF => ?_)
      · exact z_vret cx hr hF d_X6_lay_109
      refine z_aload_n cx d_X6_lay_10 0 rfl ?_
      refine z_getR cx hT_t fg_Shadows_16 (t + 66) rfl d_X6_lay_11 ?_
      refine z_iload cx d_X6_lay_14 5 rfl ?_
      refine z_lconst (v := 0) cx d_X6_lay_16 (by decide +kernel) ?_
      obtain ⟨hi11, hF⟩ := gin_inv hF
      refine z_last cx (tfX_7_66 hT_t) za_24 hi11 b3_L6.toNatClampNeg rfl d_X6_lay_17 ?_
      refine z_nmM hF (fun M12 hF => ?_)
      refine z_iconst (v := 0) cx d_X6_lay_18 ki_0 ?_
      refine z_istore cx 7 [(7, .int (0 : Int32)), (0, .ref (ad t)), (1, .ref (ad p0)), (2, .ref (ad p1)), (3, .long b3_L3), (5, .int b3_L5), (6, .int b3_L6)] d_X6_lay_19 (by decide) rfl ?_
      exact z_lv [1, 2, 3, 4, 5, 6, 0] _ rfl (hL21 self3 hs3 zFuel b3_L3 b3_L5 b3_L6 (0 : Int32) M12 hF)
  unfold F_X6_lay at hF
  refine z_iconst (v := 0) cx d_X6_lay_0 ki_0 ?_
  refine z_istore cx 6 [(6, .int (0 : Int32)), (0, .ref (ad t)), (1, .ref (ad p0)), (2, .ref (ad p1)), (3, .long p2), (5, .int p3)] d_X6_lay_1 (by decide) rfl ?_
  exact z_lv [1, 2, 3, 4, 5, 0] _ rfl (hL3 zFuel p2 p3 (0 : Int32) M hF)
/-! SunnyPans$Shadows.addedAt -/
theorem kb_63 : (Int8.ofInt (63)).toInt32 = (63 : Int32) := by decide +kernel
set_option maxRecDepth 100000 in
theorem wd_1172 : Cond.methodLinkNest "SunnyPans$Shadows" 45 yX9_within "SunnyPans" ∈ tbN := twn5 112 rfl rfl
theorem cn_Shadows_45 : zCN "SunnyPans$Shadows" 45 yX9_within cX9_within 3 (some .boolean) 3 := ⟨wd_1172, wd_101, wd_709, by decide +kernel⟩
theorem kb_9 : (Int8.ofInt (9)).toInt32 = (9 : Int32) := by decide +kernel
theorem d_X6_addedAt_0 : decode cX6_addedAt 0 = .ok (.iload_n 1, 1) := by decide +kernel
theorem d_X6_addedAt_1 : decode cX6_addedAt 1 = .ok (.iconst 0, 1) := by decide +kernel
theorem d_X6_addedAt_2 : decode cX6_addedAt 2 = .ok (.bipush 63, 2) := by decide +kernel
theorem d_X6_addedAt_4 : decode cX6_addedAt 4 = .ok (.invokestatic 45, 3) := by decide +kernel
theorem d_X6_addedAt_7 : decode cX6_addedAt 7 = .ok (.ifCond .eq 24, 3) := by decide +kernel
theorem d_X6_addedAt_10 : decode cX6_addedAt 10 = .ok (.iload_n 2, 1) := by decide +kernel
theorem d_X6_addedAt_11 : decode cX6_addedAt 11 = .ok (.iconst 0, 1) := by decide +kernel
theorem d_X6_addedAt_12 : decode cX6_addedAt 12 = .ok (.bipush 9, 2) := by decide +kernel
theorem d_X6_addedAt_14 : decode cX6_addedAt 14 = .ok (.invokestatic 45, 3) := by decide +kernel
theorem d_X6_addedAt_17 : decode cX6_addedAt 17 = .ok (.ifCond .eq 14, 3) := by decide +kernel
theorem d_X6_addedAt_20 : decode cX6_addedAt 20 = .ok (.aload_n 0, 1) := by decide +kernel
theorem d_X6_addedAt_21 : decode cX6_addedAt 21 = .ok (.getfield 11, 3) := by decide +kernel
theorem d_X6_addedAt_24 : decode cX6_addedAt 24 = .ok (.iload_n 1, 1) := by decide +kernel
theorem d_X6_addedAt_25 : decode cX6_addedAt 25 = .ok (.aaload, 1) := by decide +kernel
theorem d_X6_addedAt_26 : decode cX6_addedAt 26 = .ok (.iload_n 2, 1) := by decide +kernel
theorem d_X6_addedAt_27 : decode cX6_addedAt 27 = .ok (.laload, 1) := by decide +kernel
theorem d_X6_addedAt_28 : decode cX6_addedAt 28 = .ok (.goto 4, 3) := by decide +kernel
theorem d_X6_addedAt_31 : decode cX6_addedAt 31 = .ok (.lconst 0, 1) := by decide +kernel
theorem d_X6_addedAt_32 : decode cX6_addedAt 32 = .ok (.lreturn, 1) := by decide +kernel
noncomputable def F_X6_addedAt (M : zMem) (t : Nat) (p0 : Int32) (p1 : Int32) : Option (Int64 × zMem) :=
  zb (F_X9_within M p0 (0 : Int32) (63 : Int32)) fun v2 M1 =>
  if v2 = 0 then
    some ((0 : Int64), M1)
  else
    zb (F_X9_within M1 p1 (0 : Int32) (9 : Int32)) fun v4 M3 =>
    if v4 = 0 then
      some ((0 : Int64), M3)
    else
      gin p0 64 <|
      gin p1 10 <|
      some ((M3.2.1 ((t + 1) + (1 + 1 * p0.toNatClampNeg)) p1.toNatClampNeg), M3)
def rm_X6_addedAt : Room := { frames := 3, cells := 0, slots := 0, locals := 102 }
set_option maxHeartbeats 4000000 in
set_option maxRecDepth 100000 in
theorem c_X6_addedAt (l : Launch) {G : zG} {ad : Nat → Nat} {n : Nat} (hA : zInj ad n) (M : zMem) (t : Nat) (p0 : Int32) (p1 : Int32) (hT_t : zT shX n t 7) {r9 : Int64} {M9 : zMem} (hF : F_X6_addedAt M t p0 p1 = some (r9, M9)) : zM l yX6_addedAt cX6_addedAt 3 (some .long) rm_X6_addedAt G shX ad n M [.ref (ad t), .int p0, .int p1] (some (.long r9)) M9 := by
  refine zM_of hA (by decide +kernel) (lv := [(0, .ref (ad t)), (1, .int p0), (2, .int p1)]) (Nat.le_of_ble_eq_true rfl) rfl (fun p e s m args below meth c A cx hr => ?_)
  unfold F_X6_addedAt at hF
  refine z_iload_n cx d_X6_addedAt_0 1 rfl ?_
  refine z_iconst (v := 0) cx d_X6_addedAt_1 ki_0 ?_
  refine z_bipush (v := 63) cx d_X6_addedAt_2 kb_63 ?_
  obtain ⟨v2, M1, hc, hF⟩ := zb_inv hF
  refine z_callSN cx (As := [.int p0, .int (0 : Int32), .int (63 : Int32)]) (rest := []) (c_X9_within l cx.2.2.2.1.1 M p0 (0 : Int32) (63 : Int32)  hc) cn_Shadows_45 wd_708 ⟨rfl, rfl, Nat.le_of_ble_eq_true rfl, Nat.le_of_ble_eq_true rfl⟩ rfl rfl ⟨Nat.zero_le _, Nat.zero_le _⟩ (Nat.le_of_ble_eq_true rfl) d_X6_addedAt_4 ?_
  refine z_if_eq cx 31 d_X6_addedAt_7 (by decide) hF (fun hF => ?_) (fun hF => ?_)
  · refine z_lconst (v := 0) cx d_X6_addedAt_31 (by decide +kernel) ?_
    exact z_lret cx hr hF d_X6_addedAt_32
  refine z_iload_n cx d_X6_addedAt_10 2 rfl ?_
  refine z_iconst (v := 0) cx d_X6_addedAt_11 ki_0 ?_
  refine z_bipush (v := 9) cx d_X6_addedAt_12 kb_9 ?_
  obtain ⟨v4, M3, hc, hF⟩ := zb_inv hF
  refine z_callSN cx (As := [.int p1, .int (0 : Int32), .int (9 : Int32)]) (rest := []) (c_X9_within l cx.2.2.2.1.1 M1 p1 (0 : Int32) (9 : Int32)  hc) cn_Shadows_45 wd_708 ⟨rfl, rfl, Nat.le_of_ble_eq_true rfl, Nat.le_of_ble_eq_true rfl⟩ rfl rfl ⟨Nat.zero_le _, Nat.zero_le _⟩ (Nat.le_of_ble_eq_true rfl) d_X6_addedAt_14 ?_
  refine z_if_eq cx 31 d_X6_addedAt_17 (by decide) hF (fun hF => ?_) (fun hF => ?_)
  · refine z_lconst (v := 0) cx d_X6_addedAt_31 (by decide +kernel) ?_
    exact z_lret cx hr hF d_X6_addedAt_32
  refine z_aload_n cx d_X6_addedAt_20 0 rfl ?_
  refine z_getR cx hT_t fg_Shadows_11 (t + 1) rfl d_X6_addedAt_21 ?_
  refine z_iload_n cx d_X6_addedAt_24 1 rfl ?_
  obtain ⟨hi5, hF⟩ := gin_inv hF
  refine z_aald cx (tfX_7_1 hT_t) za_23 hi5 ((t + 1) + (1 + 1 * p0.toNatClampNeg)) rfl d_X6_addedAt_25 ?_
  refine z_iload_n cx d_X6_addedAt_26 2 rfl ?_
  obtain ⟨hi6, hF⟩ := gin_inv hF
  refine z_lald cx (teX_23 (tfX_7_1 hT_t) hi5) za_18 hi6 p1.toNatClampNeg rfl d_X6_addedAt_27 ?_
  refine z_goto cx 32 d_X6_addedAt_28 (by decide) ?_
  exact z_lret cx hr hF d_X6_addedAt_32
/-! SunnyPans$Shadows.touchedBy -/
theorem d_X6_touchedBy_0 : decode cX6_touchedBy 0 = .ok (.iload_n 1, 1) := by decide +kernel
theorem d_X6_touchedBy_1 : decode cX6_touchedBy 1 = .ok (.iconst 0, 1) := by decide +kernel
theorem d_X6_touchedBy_2 : decode cX6_touchedBy 2 = .ok (.bipush 63, 2) := by decide +kernel
theorem d_X6_touchedBy_4 : decode cX6_touchedBy 4 = .ok (.invokestatic 45, 3) := by decide +kernel
theorem d_X6_touchedBy_7 : decode cX6_touchedBy 7 = .ok (.ifCond .eq 12, 3) := by decide +kernel
theorem d_X6_touchedBy_10 : decode cX6_touchedBy 10 = .ok (.aload_n 0, 1) := by decide +kernel
theorem d_X6_touchedBy_11 : decode cX6_touchedBy 11 = .ok (.getfield 16, 3) := by decide +kernel
theorem d_X6_touchedBy_14 : decode cX6_touchedBy 14 = .ok (.iload_n 1, 1) := by decide +kernel
theorem d_X6_touchedBy_15 : decode cX6_touchedBy 15 = .ok (.laload, 1) := by decide +kernel
theorem d_X6_touchedBy_16 : decode cX6_touchedBy 16 = .ok (.goto 4, 3) := by decide +kernel
theorem d_X6_touchedBy_19 : decode cX6_touchedBy 19 = .ok (.lconst 0, 1) := by decide +kernel
theorem d_X6_touchedBy_20 : decode cX6_touchedBy 20 = .ok (.lreturn, 1) := by decide +kernel
noncomputable def F_X6_touchedBy (M : zMem) (t : Nat) (p0 : Int32) : Option (Int64 × zMem) :=
  zb (F_X9_within M p0 (0 : Int32) (63 : Int32)) fun v2 M1 =>
  if v2 = 0 then
    some ((0 : Int64), M1)
  else
    gin p0 64 <|
    some ((M1.2.1 (t + 66) p0.toNatClampNeg), M1)
def rm_X6_touchedBy : Room := { frames := 3, cells := 0, slots := 0, locals := 102 }
set_option maxHeartbeats 4000000 in
set_option maxRecDepth 100000 in
theorem c_X6_touchedBy (l : Launch) {G : zG} {ad : Nat → Nat} {n : Nat} (hA : zInj ad n) (M : zMem) (t : Nat) (p0 : Int32) (hT_t : zT shX n t 7) {r9 : Int64} {M9 : zMem} (hF : F_X6_touchedBy M t p0 = some (r9, M9)) : zM l yX6_touchedBy cX6_touchedBy 2 (some .long) rm_X6_touchedBy G shX ad n M [.ref (ad t), .int p0] (some (.long r9)) M9 := by
  refine zM_of hA (by decide +kernel) (lv := [(0, .ref (ad t)), (1, .int p0)]) (Nat.le_of_ble_eq_true rfl) rfl (fun p e s m args below meth c A cx hr => ?_)
  unfold F_X6_touchedBy at hF
  refine z_iload_n cx d_X6_touchedBy_0 1 rfl ?_
  refine z_iconst (v := 0) cx d_X6_touchedBy_1 ki_0 ?_
  refine z_bipush (v := 63) cx d_X6_touchedBy_2 kb_63 ?_
  obtain ⟨v2, M1, hc, hF⟩ := zb_inv hF
  refine z_callSN cx (As := [.int p0, .int (0 : Int32), .int (63 : Int32)]) (rest := []) (c_X9_within l cx.2.2.2.1.1 M p0 (0 : Int32) (63 : Int32)  hc) cn_Shadows_45 wd_708 ⟨rfl, rfl, Nat.le_of_ble_eq_true rfl, Nat.le_of_ble_eq_true rfl⟩ rfl rfl ⟨Nat.zero_le _, Nat.zero_le _⟩ (Nat.le_of_ble_eq_true rfl) d_X6_touchedBy_4 ?_
  refine z_if_eq cx 19 d_X6_touchedBy_7 (by decide) hF (fun hF => ?_) (fun hF => ?_)
  · refine z_lconst (v := 0) cx d_X6_touchedBy_19 (by decide +kernel) ?_
    exact z_lret cx hr hF d_X6_touchedBy_20
  refine z_aload_n cx d_X6_touchedBy_10 0 rfl ?_
  refine z_getR cx hT_t fg_Shadows_16 (t + 66) rfl d_X6_touchedBy_11 ?_
  refine z_iload_n cx d_X6_touchedBy_14 1 rfl ?_
  obtain ⟨hi3, hF⟩ := gin_inv hF
  refine z_lald cx (tfX_7_66 hT_t) za_24 hi3 p0.toNatClampNeg rfl d_X6_touchedBy_15 ?_
  refine z_goto cx 20 d_X6_touchedBy_16 (by decide) ?_
  exact z_lret cx hr hF d_X6_touchedBy_20
/-! java/lang/Long.bitCount -/
set_option maxRecDepth 100000 in
theorem wd_995 : Cond.constantLong "java/lang/Long" 314 (6148914691236517205) ∈ tbG := tw4 175 rfl rfl
set_option maxRecDepth 100000 in
theorem wd_996 : Cond.constantLong "java/lang/Long" 316 (3689348814741910323) ∈ tbG := tw4 176 rfl rfl
set_option maxRecDepth 100000 in
theorem wd_997 : Cond.constantLong "java/lang/Long" 318 (1085102592571150095) ∈ tbG := tw4 177 rfl rfl
theorem kb_16 : (Int8.ofInt (16)).toInt32 = (16 : Int32) := by decide +kernel
theorem kb_127 : (Int8.ofInt (127)).toInt32 = (127 : Int32) := by decide +kernel
theorem d_J13_bitCount_95d88_0 : decode cJ13_bitCount_95d88 0 = .ok (.lload_n 0, 1) := by decide +kernel
theorem d_J13_bitCount_95d88_1 : decode cJ13_bitCount_95d88 1 = .ok (.lload_n 0, 1) := by decide +kernel
theorem d_J13_bitCount_95d88_2 : decode cJ13_bitCount_95d88 2 = .ok (.iconst 1, 1) := by decide +kernel
theorem d_J13_bitCount_95d88_3 : decode cJ13_bitCount_95d88 3 = .ok (.lushr, 1) := by decide +kernel
theorem d_J13_bitCount_95d88_4 : decode cJ13_bitCount_95d88 4 = .ok (.ldc2_w 314, 3) := by decide +kernel
theorem d_J13_bitCount_95d88_7 : decode cJ13_bitCount_95d88 7 = .ok (.land, 1) := by decide +kernel
theorem d_J13_bitCount_95d88_8 : decode cJ13_bitCount_95d88 8 = .ok (.lsub, 1) := by decide +kernel
theorem d_J13_bitCount_95d88_9 : decode cJ13_bitCount_95d88 9 = .ok (.lstore_n 0, 1) := by decide +kernel
theorem d_J13_bitCount_95d88_10 : decode cJ13_bitCount_95d88 10 = .ok (.lload_n 0, 1) := by decide +kernel
theorem d_J13_bitCount_95d88_11 : decode cJ13_bitCount_95d88 11 = .ok (.ldc2_w 316, 3) := by decide +kernel
theorem d_J13_bitCount_95d88_14 : decode cJ13_bitCount_95d88 14 = .ok (.land, 1) := by decide +kernel
theorem d_J13_bitCount_95d88_15 : decode cJ13_bitCount_95d88 15 = .ok (.lload_n 0, 1) := by decide +kernel
theorem d_J13_bitCount_95d88_16 : decode cJ13_bitCount_95d88 16 = .ok (.iconst 2, 1) := by decide +kernel
theorem d_J13_bitCount_95d88_17 : decode cJ13_bitCount_95d88 17 = .ok (.lushr, 1) := by decide +kernel
theorem d_J13_bitCount_95d88_18 : decode cJ13_bitCount_95d88 18 = .ok (.ldc2_w 316, 3) := by decide +kernel
theorem d_J13_bitCount_95d88_21 : decode cJ13_bitCount_95d88 21 = .ok (.land, 1) := by decide +kernel
theorem d_J13_bitCount_95d88_22 : decode cJ13_bitCount_95d88 22 = .ok (.ladd, 1) := by decide +kernel
theorem d_J13_bitCount_95d88_23 : decode cJ13_bitCount_95d88 23 = .ok (.lstore_n 0, 1) := by decide +kernel
theorem d_J13_bitCount_95d88_24 : decode cJ13_bitCount_95d88 24 = .ok (.lload_n 0, 1) := by decide +kernel
theorem d_J13_bitCount_95d88_25 : decode cJ13_bitCount_95d88 25 = .ok (.lload_n 0, 1) := by decide +kernel
theorem d_J13_bitCount_95d88_26 : decode cJ13_bitCount_95d88 26 = .ok (.iconst 4, 1) := by decide +kernel
theorem d_J13_bitCount_95d88_27 : decode cJ13_bitCount_95d88 27 = .ok (.lushr, 1) := by decide +kernel
theorem d_J13_bitCount_95d88_28 : decode cJ13_bitCount_95d88 28 = .ok (.ladd, 1) := by decide +kernel
theorem d_J13_bitCount_95d88_29 : decode cJ13_bitCount_95d88 29 = .ok (.ldc2_w 318, 3) := by decide +kernel
theorem d_J13_bitCount_95d88_32 : decode cJ13_bitCount_95d88 32 = .ok (.land, 1) := by decide +kernel
theorem d_J13_bitCount_95d88_33 : decode cJ13_bitCount_95d88 33 = .ok (.lstore_n 0, 1) := by decide +kernel
theorem d_J13_bitCount_95d88_34 : decode cJ13_bitCount_95d88 34 = .ok (.lload_n 0, 1) := by decide +kernel
theorem d_J13_bitCount_95d88_35 : decode cJ13_bitCount_95d88 35 = .ok (.lload_n 0, 1) := by decide +kernel
theorem d_J13_bitCount_95d88_36 : decode cJ13_bitCount_95d88 36 = .ok (.bipush 8, 2) := by decide +kernel
theorem d_J13_bitCount_95d88_38 : decode cJ13_bitCount_95d88 38 = .ok (.lushr, 1) := by decide +kernel
theorem d_J13_bitCount_95d88_39 : decode cJ13_bitCount_95d88 39 = .ok (.ladd, 1) := by decide +kernel
theorem d_J13_bitCount_95d88_40 : decode cJ13_bitCount_95d88 40 = .ok (.lstore_n 0, 1) := by decide +kernel
theorem d_J13_bitCount_95d88_41 : decode cJ13_bitCount_95d88 41 = .ok (.lload_n 0, 1) := by decide +kernel
theorem d_J13_bitCount_95d88_42 : decode cJ13_bitCount_95d88 42 = .ok (.lload_n 0, 1) := by decide +kernel
theorem d_J13_bitCount_95d88_43 : decode cJ13_bitCount_95d88 43 = .ok (.bipush 16, 2) := by decide +kernel
theorem d_J13_bitCount_95d88_45 : decode cJ13_bitCount_95d88 45 = .ok (.lushr, 1) := by decide +kernel
theorem d_J13_bitCount_95d88_46 : decode cJ13_bitCount_95d88 46 = .ok (.ladd, 1) := by decide +kernel
theorem d_J13_bitCount_95d88_47 : decode cJ13_bitCount_95d88 47 = .ok (.lstore_n 0, 1) := by decide +kernel
theorem d_J13_bitCount_95d88_48 : decode cJ13_bitCount_95d88 48 = .ok (.lload_n 0, 1) := by decide +kernel
theorem d_J13_bitCount_95d88_49 : decode cJ13_bitCount_95d88 49 = .ok (.lload_n 0, 1) := by decide +kernel
theorem d_J13_bitCount_95d88_50 : decode cJ13_bitCount_95d88 50 = .ok (.bipush 32, 2) := by decide +kernel
theorem d_J13_bitCount_95d88_52 : decode cJ13_bitCount_95d88 52 = .ok (.lushr, 1) := by decide +kernel
theorem d_J13_bitCount_95d88_53 : decode cJ13_bitCount_95d88 53 = .ok (.ladd, 1) := by decide +kernel
theorem d_J13_bitCount_95d88_54 : decode cJ13_bitCount_95d88 54 = .ok (.lstore_n 0, 1) := by decide +kernel
theorem d_J13_bitCount_95d88_55 : decode cJ13_bitCount_95d88 55 = .ok (.lload_n 0, 1) := by decide +kernel
theorem d_J13_bitCount_95d88_56 : decode cJ13_bitCount_95d88 56 = .ok (.l2i, 1) := by decide +kernel
theorem d_J13_bitCount_95d88_57 : decode cJ13_bitCount_95d88 57 = .ok (.bipush 127, 2) := by decide +kernel
theorem d_J13_bitCount_95d88_59 : decode cJ13_bitCount_95d88 59 = .ok (.iand, 1) := by decide +kernel
theorem d_J13_bitCount_95d88_60 : decode cJ13_bitCount_95d88 60 = .ok (.ireturn, 1) := by decide +kernel
noncomputable def F_J13_bitCount_95d88 (M : zMem) (p0 : Int64) : Option (Int32 × zMem) :=
  zl (p0 - ((p0.toUInt64 >>> ((1 : Int32).toInt64.toUInt64 &&& Int64.toUInt64 63)).toInt64 &&& (6148914691236517205 : Int64))) fun v1 =>
  zl ((v1 &&& (3689348814741910323 : Int64)) + ((v1.toUInt64 >>> ((2 : Int32).toInt64.toUInt64 &&& Int64.toUInt64 63)).toInt64 &&& (3689348814741910323 : Int64))) fun v2 =>
  zl ((v2 + (v2.toUInt64 >>> ((4 : Int32).toInt64.toUInt64 &&& Int64.toUInt64 63)).toInt64) &&& (1085102592571150095 : Int64)) fun v3 =>
  zl (v3 + (v3.toUInt64 >>> ((8 : Int32).toInt64.toUInt64 &&& Int64.toUInt64 63)).toInt64) fun v4 =>
  zl (v4 + (v4.toUInt64 >>> ((16 : Int32).toInt64.toUInt64 &&& Int64.toUInt64 63)).toInt64) fun v5 =>
  zl (v5 + (v5.toUInt64 >>> ((32 : Int32).toInt64.toUInt64 &&& Int64.toUInt64 63)).toInt64) fun v6 =>
  some ((v6.toInt32 &&& (127 : Int32)), M)
def rm_J13_bitCount_95d88 : Room := { frames := 2, cells := 0, slots := 0, locals := 80 }
set_option maxHeartbeats 4000000 in
set_option maxRecDepth 100000 in
theorem c_J13_bitCount_95d88 (l : Launch) {G : zG} {ad : Nat → Nat} {n : Nat} (hA : zInj ad n) (M : zMem) (p0 : Int64) {r9 : Int32} {M9 : zMem} (hF : F_J13_bitCount_95d88 M p0 = some (r9, M9)) : zM l yJ13_bitCount_95d88 cJ13_bitCount_95d88 2 (some .int) rm_J13_bitCount_95d88 G shX ad n M [.long p0] (some (.int r9)) M9 := by
  refine zM_of hA (by decide +kernel) (lv := [(0, .long p0)]) (Nat.le_of_ble_eq_true rfl) rfl (fun p e s m args below meth c A cx hr => ?_)
  unfold F_J13_bitCount_95d88 at hF
  refine z_lload_n cx d_J13_bitCount_95d88_0 0 rfl ?_
  refine z_lload_n cx d_J13_bitCount_95d88_1 0 rfl ?_
  refine z_iconst (v := 1) cx d_J13_bitCount_95d88_2 ki_1 ?_
  refine z_lushr cx d_J13_bitCount_95d88_3 ?_
  refine z_ldc2 cx wd_995 d_J13_bitCount_95d88_4 ?_
  refine z_land cx d_J13_bitCount_95d88_7 ?_
  refine z_lsub cx d_J13_bitCount_95d88_8 ?_
  refine z_nml hF (fun v1 hF => ?_)
  refine z_lstore_n cx 0 [(0, .long v1)] d_J13_bitCount_95d88_9 rfl (by decide) rfl ?_
  refine z_lload_n cx d_J13_bitCount_95d88_10 0 rfl ?_
  refine z_ldc2 cx wd_996 d_J13_bitCount_95d88_11 ?_
  refine z_land cx d_J13_bitCount_95d88_14 ?_
  refine z_lload_n cx d_J13_bitCount_95d88_15 0 rfl ?_
  refine z_iconst (v := 2) cx d_J13_bitCount_95d88_16 ki_2 ?_
  refine z_lushr cx d_J13_bitCount_95d88_17 ?_
  refine z_ldc2 cx wd_996 d_J13_bitCount_95d88_18 ?_
  refine z_land cx d_J13_bitCount_95d88_21 ?_
  refine z_ladd cx d_J13_bitCount_95d88_22 ?_
  refine z_nml hF (fun v2 hF => ?_)
  refine z_lstore_n cx 0 [(0, .long v2)] d_J13_bitCount_95d88_23 rfl (by decide) rfl ?_
  refine z_lload_n cx d_J13_bitCount_95d88_24 0 rfl ?_
  refine z_lload_n cx d_J13_bitCount_95d88_25 0 rfl ?_
  refine z_iconst (v := 4) cx d_J13_bitCount_95d88_26 ki_4 ?_
  refine z_lushr cx d_J13_bitCount_95d88_27 ?_
  refine z_ladd cx d_J13_bitCount_95d88_28 ?_
  refine z_ldc2 cx wd_997 d_J13_bitCount_95d88_29 ?_
  refine z_land cx d_J13_bitCount_95d88_32 ?_
  refine z_nml hF (fun v3 hF => ?_)
  refine z_lstore_n cx 0 [(0, .long v3)] d_J13_bitCount_95d88_33 rfl (by decide) rfl ?_
  refine z_lload_n cx d_J13_bitCount_95d88_34 0 rfl ?_
  refine z_lload_n cx d_J13_bitCount_95d88_35 0 rfl ?_
  refine z_bipush (v := 8) cx d_J13_bitCount_95d88_36 kb_8 ?_
  refine z_lushr cx d_J13_bitCount_95d88_38 ?_
  refine z_ladd cx d_J13_bitCount_95d88_39 ?_
  refine z_nml hF (fun v4 hF => ?_)
  refine z_lstore_n cx 0 [(0, .long v4)] d_J13_bitCount_95d88_40 rfl (by decide) rfl ?_
  refine z_lload_n cx d_J13_bitCount_95d88_41 0 rfl ?_
  refine z_lload_n cx d_J13_bitCount_95d88_42 0 rfl ?_
  refine z_bipush (v := 16) cx d_J13_bitCount_95d88_43 kb_16 ?_
  refine z_lushr cx d_J13_bitCount_95d88_45 ?_
  refine z_ladd cx d_J13_bitCount_95d88_46 ?_
  refine z_nml hF (fun v5 hF => ?_)
  refine z_lstore_n cx 0 [(0, .long v5)] d_J13_bitCount_95d88_47 rfl (by decide) rfl ?_
  refine z_lload_n cx d_J13_bitCount_95d88_48 0 rfl ?_
  refine z_lload_n cx d_J13_bitCount_95d88_49 0 rfl ?_
  refine z_bipush (v := 32) cx d_J13_bitCount_95d88_50 kb_32 ?_
  refine z_lushr cx d_J13_bitCount_95d88_52 ?_
  refine z_ladd cx d_J13_bitCount_95d88_53 ?_
  refine z_nml hF (fun v6 hF => ?_)
  refine z_lstore_n cx 0 [(0, .long v6)] d_J13_bitCount_95d88_54 rfl (by decide) rfl ?_
  refine z_lload_n cx d_J13_bitCount_95d88_55 0 rfl ?_
  refine z_l2i cx d_J13_bitCount_95d88_56 ?_
  refine z_bipush (v := 127) cx d_J13_bitCount_95d88_57 kb_127 ?_
  refine z_iand cx d_J13_bitCount_95d88_59 ?_
  exact z_iret cx hr rfl hF d_J13_bitCount_95d88_60
/-! SunnyPans$Shadows.together -/
set_option maxRecDepth 100000 in
theorem wd_1171 : Cond.code yX6_addedAt cX6_addedAt 3 (some .long) ∈ tbG := tw5 111 rfl rfl
set_option maxRecDepth 100000 in
theorem wd_1168 : Cond.methodLink "SunnyPans$Shadows" 49 yX6_addedAt ∈ tbG := tw5 108 rfl rfl
set_option maxRecDepth 100000 in
theorem wd_1169 : Cond.instanceMethod yX6_addedAt ∈ tbG := tw5 109 rfl rfl
set_option maxRecDepth 100000 in
theorem wd_1170 : Cond.selects "SunnyPans$Shadows" yX6_addedAt yX6_addedAt ∈ tbG := tw5 110 rfl rfl
set_option maxRecDepth 100000 in
theorem wd_106 : Cond.initialized "SunnyPans$Shadows" ∈ tbG := tw1 6 rfl rfl
theorem cv_Shadows_49 : zCV "SunnyPans$Shadows" 49 "SunnyPans$Shadows" yX6_addedAt cX6_addedAt 3 (some .long) 2 := zCV_of wd_1168 wd_1169 wd_1170 wd_106 wd_1171 (by decide +kernel)
theorem zo_7 : zObj "SunnyPans$Shadows" 7 := ⟨6, (RX6, TX6, 3), rfl, rfl, fun _ _ _ _ _ _ => ⟨_, rfl⟩⟩
set_option maxRecDepth 100000 in
theorem wd_994 : Cond.code yJ13_bitCount_95d88 cJ13_bitCount_95d88 2 (some .int) ∈ tbG := tw4 174 rfl rfl
set_option maxRecDepth 100000 in
theorem wd_1173 : Cond.methodLink "SunnyPans$Shadows" 53 yJ13_bitCount_95d88 ∈ tbG := tw5 113 rfl rfl
set_option maxRecDepth 100000 in
theorem wd_993 : Cond.static yJ13_bitCount_95d88 ∈ tbG := tw4 173 rfl rfl
set_option maxRecDepth 100000 in
theorem wd_122 : Cond.initialized "java/lang/Long" ∈ tbG := tw1 22 rfl rfl
theorem cs_Shadows_53 : zCS "SunnyPans$Shadows" 53 yJ13_bitCount_95d88 cJ13_bitCount_95d88 2 (some .int) 1 := zCS_of wd_1173 wd_993 wd_122 wd_994 (by decide +kernel)
theorem d_X6_together_0 : decode cX6_together 0 = .ok (.iconst 0, 1) := by decide +kernel
theorem d_X6_together_1 : decode cX6_together 1 = .ok (.istore 4, 2) := by decide +kernel
theorem d_X6_together_3 : decode cX6_together 3 = .ok (.iconst 0, 1) := by decide +kernel
theorem d_X6_together_4 : decode cX6_together 4 = .ok (.istore 5, 2) := by decide +kernel
theorem d_X6_together_6 : decode cX6_together 6 = .ok (.iload 5, 2) := by decide +kernel
theorem d_X6_together_8 : decode cX6_together 8 = .ok (.iload_n 3, 1) := by decide +kernel
theorem d_X6_together_9 : decode cX6_together 9 = .ok (.if_icmp .ge 32, 3) := by decide +kernel
theorem d_X6_together_12 : decode cX6_together 12 = .ok (.iload 4, 2) := by decide +kernel
theorem d_X6_together_14 : decode cX6_together 14 = .ok (.aload_n 0, 1) := by decide +kernel
theorem d_X6_together_15 : decode cX6_together 15 = .ok (.iload_n 1, 1) := by decide +kernel
theorem d_X6_together_16 : decode cX6_together 16 = .ok (.iload 5, 2) := by decide +kernel
theorem d_X6_together_18 : decode cX6_together 18 = .ok (.invokevirtual 49, 3) := by decide +kernel
theorem d_X6_together_21 : decode cX6_together 21 = .ok (.aload_n 0, 1) := by decide +kernel
theorem d_X6_together_22 : decode cX6_together 22 = .ok (.iload_n 2, 1) := by decide +kernel
theorem d_X6_together_23 : decode cX6_together 23 = .ok (.iload 5, 2) := by decide +kernel
theorem d_X6_together_25 : decode cX6_together 25 = .ok (.invokevirtual 49, 3) := by decide +kernel
theorem d_X6_together_28 : decode cX6_together 28 = .ok (.lor, 1) := by decide +kernel
theorem d_X6_together_29 : decode cX6_together 29 = .ok (.invokestatic 53, 3) := by decide +kernel
theorem d_X6_together_32 : decode cX6_together 32 = .ok (.iadd, 1) := by decide +kernel
theorem d_X6_together_33 : decode cX6_together 33 = .ok (.istore 4, 2) := by decide +kernel
theorem d_X6_together_35 : decode cX6_together 35 = .ok (.iinc 5 1, 3) := by decide +kernel
theorem d_X6_together_38 : decode cX6_together 38 = .ok (.goto (-32), 3) := by decide +kernel
theorem d_X6_together_41 : decode cX6_together 41 = .ok (.iload 4, 2) := by decide +kernel
theorem d_X6_together_43 : decode cX6_together 43 = .ok (.ireturn, 1) := by decide +kernel
noncomputable def F_X6_together_6 (t : Nat) (p0 : Int32) (p1 : Int32) (p2 : Int32) (self6 : Int32 → Int32 → Int32 → Int32 → Int32 → zMem → Option (Int32 × zMem)) (b6_L1 : Int32) (b6_L2 : Int32) (b6_L3 : Int32) (b6_L4 : Int32) (b6_L5 : Int32) (M : zMem) : Option (Int32 × zMem) :=
  if b6_L3 ≤ b6_L5 then
    some (b6_L4, M)
  else
    zb (F_X6_addedAt M t b6_L1 b6_L5) fun v2 M1 =>
    zb (F_X6_addedAt M1 t b6_L2 b6_L5) fun v4 M3 =>
    zb (F_J13_bitCount_95d88 M3 (v2 ||| v4)) fun v6 M5 =>
    zl (b6_L4 + v6) fun v7 =>
    self6 b6_L1 b6_L2 b6_L3 v7 (b6_L5 + 1) M5
noncomputable def F_X6_together (M : zMem) (t : Nat) (p0 : Int32) (p1 : Int32) (p2 : Int32) : Option (Int32 × zMem) :=
  itF (fun _ _ _ _ _ _ => none) (F_X6_together_6 t p0 p1 p2) zFuel p0 p1 p2 (0 : Int32) (0 : Int32) M
def rm_X6_together : Room := { frames := 4, cells := 0, slots := 0, locals := 124 }
set_option maxHeartbeats 4000000 in
set_option maxRecDepth 100000 in
theorem c_X6_together (l : Launch) {G : zG} {ad : Nat → Nat} {n : Nat} (hA : zInj ad n) (M : zMem) (t : Nat) (p0 : Int32) (p1 : Int32) (p2 : Int32) (hT_t : zT shX n t 7) {r9 : Int32} {M9 : zMem} (hF : F_X6_together M t p0 p1 p2 = some (r9, M9)) : zM l yX6_together cX6_together 6 (some .int) rm_X6_together G shX ad n M [.ref (ad t), .int p0, .int p1, .int p2] (some (.int r9)) M9 := by
  refine zM_of hA (by decide +kernel) (lv := [(0, .ref (ad t)), (1, .int p0), (2, .int p1), (3, .int p2)]) (Nat.le_of_ble_eq_true rfl) rfl (fun p e s m args below meth c A cx hr => ?_)
  have hL6 : ∀ (fuel : Nat), ∀ (b6_L1 : Int32) (b6_L2 : Int32) (b6_L3 : Int32) (b6_L4 : Int32) (b6_L5 : Int32) (M : zMem), itF (fun _ _ _ _ _ _ => none) (F_X6_together_6 t p0 p1 p2) fuel b6_L1 b6_L2 b6_L3 b6_L4 b6_L5 M = some (r9, M9) → zJ p l e rm_X6_together s m args below meth c G shX ad n A 6 (MQ below (zQ G shX ad n M9 (some (.int r9)) A) args s 0 0 A) 0 0 M 6 [(0, .ref (ad t)), (1, .int b6_L1), (2, .int b6_L2), (3, .int b6_L3), (4, .int b6_L4), (5, .int b6_L5)] [] := by
    intro fuel
    induction fuel with
    | zero => intro b6_L1 b6_L2 b6_L3 b6_L4 b6_L5 M hF; cases hF
    | succ fuel hs6 =>
      intro b6_L1 b6_L2 b6_L3 b6_L4 b6_L5 M hF
      have hF : F_X6_together_6 t p0 p1 p2 (itF (fun _ _ _ _ _ _ => none) (F_X6_together_6 t p0 p1 p2) fuel) b6_L1 b6_L2 b6_L3 b6_L4 b6_L5 M = some (r9, M9) := hF
      generalize itF (fun _ _ _ _ _ _ => none) (F_X6_together_6 t p0 p1 p2) fuel = self6 at hs6 hF
      unfold F_X6_together_6 at hF
      refine z_iload cx d_X6_together_6 5 rfl ?_
      refine z_iload_n cx d_X6_together_8 3 rfl ?_
      refine z_icmp_ge cx 41 d_X6_together_9 (by decide) hF (fun hF => ?_) (fun hF => ?_)
      · refine z_iload cx d_X6_together_41 4 rfl ?_
        exact z_iret cx hr rfl hF d_X6_together_43
      refine z_iload cx d_X6_together_12 4 rfl ?_
      refine z_aload_n cx d_X6_together_14 0 rfl ?_
      refine z_iload_n cx d_X6_together_15 1 rfl ?_
      refine z_iload cx d_X6_together_16 5 rfl ?_
      obtain ⟨v2, M1, hc, hF⟩ := zb_inv hF
      refine z_callV cx (As := [.int b6_L1, .int b6_L5]) (rest := [.int b6_L4]) (c_X6_addedAt l cx.2.2.2.1.1 M t b6_L1 b6_L5 hT_t hc) hT_t zo_7 cv_Shadows_49 ⟨rfl, rfl, Nat.le_of_ble_eq_true rfl, Nat.le_of_ble_eq_true rfl⟩ rfl rfl ⟨Nat.zero_le _, Nat.zero_le _⟩ (Nat.le_of_ble_eq_true rfl) d_X6_together_18 ?_
      refine z_aload_n cx d_X6_together_21 0 rfl ?_
      refine z_iload_n cx d_X6_together_22 2 rfl ?_
      refine z_iload cx d_X6_together_23 5 rfl ?_
      obtain ⟨v4, M3, hc, hF⟩ := zb_inv hF
      refine z_callV cx (As := [.int b6_L2, .int b6_L5]) (rest := [.long v2, .int b6_L4]) (c_X6_addedAt l cx.2.2.2.1.1 M1 t b6_L2 b6_L5 hT_t hc) hT_t zo_7 cv_Shadows_49 ⟨rfl, rfl, Nat.le_of_ble_eq_true rfl, Nat.le_of_ble_eq_true rfl⟩ rfl rfl ⟨Nat.zero_le _, Nat.zero_le _⟩ (Nat.le_of_ble_eq_true rfl) d_X6_together_25 ?_
      refine z_lor cx d_X6_together_28 ?_
      obtain ⟨v6, M5, hc, hF⟩ := zb_inv hF
      refine z_callS cx (As := [.long (v2 ||| v4)]) (rest := [.int b6_L4]) (c_J13_bitCount_95d88 l cx.2.2.2.1.1 M3 (v2 ||| v4)  hc) cs_Shadows_53 ⟨rfl, rfl, Nat.le_of_ble_eq_true rfl, Nat.le_of_ble_eq_true rfl⟩ rfl rfl ⟨Nat.zero_le _, Nat.zero_le _⟩ (Nat.le_of_ble_eq_true rfl) d_X6_together_29 ?_
      refine z_iadd cx d_X6_together_32 ?_
      refine z_nm hF (fun v7 hF => ?_)
      refine z_istore cx 4 [(4, .int v7), (0, .ref (ad t)), (1, .int b6_L1), (2, .int b6_L2), (3, .int b6_L3), (5, .int b6_L5)] d_X6_together_33 (by decide) rfl ?_
      refine z_iinc cx 5 1 [(5, .int (b6_L5 + 1)), (4, .int v7), (0, .ref (ad t)), (1, .int b6_L1), (2, .int b6_L2), (3, .int b6_L3)] d_X6_together_35 5 rfl ki_1 (by decide) rfl ?_
      refine z_goto cx 6 d_X6_together_38 (by decide) ?_
      exact z_lv [2, 3, 4, 5, 1, 0] _ rfl (hs6 b6_L1 b6_L2 b6_L3 v7 (b6_L5 + 1) M5 hF)
  unfold F_X6_together at hF
  refine z_iconst (v := 0) cx d_X6_together_0 ki_0 ?_
  refine z_istore cx 4 [(4, .int (0 : Int32)), (0, .ref (ad t)), (1, .int p0), (2, .int p1), (3, .int p2)] d_X6_together_1 (by decide) rfl ?_
  refine z_iconst (v := 0) cx d_X6_together_3 ki_0 ?_
  refine z_istore cx 5 [(5, .int (0 : Int32)), (4, .int (0 : Int32)), (0, .ref (ad t)), (1, .int p0), (2, .int p1), (3, .int p2)] d_X6_together_4 (by decide) rfl ?_
  exact z_lv [2, 3, 4, 5, 1, 0] _ rfl (hL6 zFuel p0 p1 p2 (0 : Int32) (0 : Int32) M hF)
/-! SunnyPans$Shadows.learnAlone -/
theorem tfX_7_67 {n k : Nat} (h : zT shX n k 7) : zT shX n (k + 67) 18 := zT_off h (shX_f (by decide) (by decide +kernel)) (by decide) (by decide)
set_option maxRecDepth 100000 in
theorem wd_277 : Cond.fieldLink "SunnyPans$Shadows" 20 "SunnyPans$Shadows" "alone" "[J" ∈ tbG := tw1 177 rfl rfl
theorem fg_Shadows_20 : zGetR "SunnyPans$Shadows" 20 6 7 2 67 := ⟨RX6, TX6, 3, rfl, by decide, uw_6, wd_277, fun _ _ _ _ _ _ => ⟨_, rfl, rfl⟩⟩
set_option maxRecDepth 100000 in
theorem wd_188 : Cond.fieldLink "SunnyPans$Shadows" 59 "SunnyPans$Pans" "grams" "[I" ∈ tbG := tw1 88 rfl rfl
theorem fg_Shadows_59 : zGetR "SunnyPans$Shadows" 59 4 5 2 3 := ⟨RX4, TX4, 7, rfl, by decide, uw_4, wd_188, fun _ _ _ _ _ _ => ⟨_, rfl, rfl⟩⟩
theorem d_X6_learnAlone_0 : decode cX6_learnAlone 0 = .ok (.iconst 0, 1) := by decide +kernel
theorem d_X6_learnAlone_1 : decode cX6_learnAlone 1 = .ok (.istore_n 3, 1) := by decide +kernel
theorem d_X6_learnAlone_2 : decode cX6_learnAlone 2 = .ok (.iload_n 3, 1) := by decide +kernel
theorem d_X6_learnAlone_3 : decode cX6_learnAlone 3 = .ok (.aload_n 1, 1) := by decide +kernel
theorem d_X6_learnAlone_4 : decode cX6_learnAlone 4 = .ok (.getfield 23, 3) := by decide +kernel
theorem d_X6_learnAlone_7 : decode cX6_learnAlone 7 = .ok (.if_icmp .ge 95, 3) := by decide +kernel
theorem d_X6_learnAlone_10 : decode cX6_learnAlone 10 = .ok (.iload_n 3, 1) := by decide +kernel
theorem d_X6_learnAlone_11 : decode cX6_learnAlone 11 = .ok (.bipush 10, 2) := by decide +kernel
theorem d_X6_learnAlone_13 : decode cX6_learnAlone 13 = .ok (.if_icmp .ge 89, 3) := by decide +kernel
theorem d_X6_learnAlone_16 : decode cX6_learnAlone 16 = .ok (.lconst 0, 1) := by decide +kernel
theorem d_X6_learnAlone_17 : decode cX6_learnAlone 17 = .ok (.lstore 4, 2) := by decide +kernel
theorem d_X6_learnAlone_19 : decode cX6_learnAlone 19 = .ok (.lconst 0, 1) := by decide +kernel
theorem d_X6_learnAlone_20 : decode cX6_learnAlone 20 = .ok (.lstore 6, 2) := by decide +kernel
theorem d_X6_learnAlone_22 : decode cX6_learnAlone 22 = .ok (.iconst 0, 1) := by decide +kernel
theorem d_X6_learnAlone_23 : decode cX6_learnAlone 23 = .ok (.istore 8, 2) := by decide +kernel
theorem d_X6_learnAlone_25 : decode cX6_learnAlone 25 = .ok (.iload 8, 2) := by decide +kernel
theorem d_X6_learnAlone_27 : decode cX6_learnAlone 27 = .ok (.bipush 64, 2) := by decide +kernel
theorem d_X6_learnAlone_29 : decode cX6_learnAlone 29 = .ok (.if_icmp .ge 52, 3) := by decide +kernel
theorem d_X6_learnAlone_32 : decode cX6_learnAlone 32 = .ok (.aload_n 2, 1) := by decide +kernel
theorem d_X6_learnAlone_33 : decode cX6_learnAlone 33 = .ok (.getfield 59, 3) := by decide +kernel
theorem d_X6_learnAlone_36 : decode cX6_learnAlone 36 = .ok (.iload 8, 2) := by decide +kernel
theorem d_X6_learnAlone_38 : decode cX6_learnAlone 38 = .ok (.iaload, 1) := by decide +kernel
theorem d_X6_learnAlone_39 : decode cX6_learnAlone 39 = .ok (.ifCond .le 36, 3) := by decide +kernel
theorem d_X6_learnAlone_42 : decode cX6_learnAlone 42 = .ok (.aload_n 1, 1) := by decide +kernel
theorem d_X6_learnAlone_43 : decode cX6_learnAlone 43 = .ok (.iload 8, 2) := by decide +kernel
theorem d_X6_learnAlone_45 : decode cX6_learnAlone 45 = .ok (.aload_n 2, 1) := by decide +kernel
theorem d_X6_learnAlone_46 : decode cX6_learnAlone 46 = .ok (.getfield 59, 3) := by decide +kernel
theorem d_X6_learnAlone_49 : decode cX6_learnAlone 49 = .ok (.iload 8, 2) := by decide +kernel
theorem d_X6_learnAlone_51 : decode cX6_learnAlone 51 = .ok (.iaload, 1) := by decide +kernel
theorem d_X6_learnAlone_52 : decode cX6_learnAlone 52 = .ok (.iload_n 3, 1) := by decide +kernel
theorem d_X6_learnAlone_53 : decode cX6_learnAlone 53 = .ok (.invokevirtual 33, 3) := by decide +kernel
theorem d_X6_learnAlone_56 : decode cX6_learnAlone 56 = .ok (.lstore 9, 2) := by decide +kernel
theorem d_X6_learnAlone_58 : decode cX6_learnAlone 58 = .ok (.lload 6, 2) := by decide +kernel
theorem d_X6_learnAlone_60 : decode cX6_learnAlone 60 = .ok (.lload 4, 2) := by decide +kernel
theorem d_X6_learnAlone_62 : decode cX6_learnAlone 62 = .ok (.lload 9, 2) := by decide +kernel
theorem d_X6_learnAlone_64 : decode cX6_learnAlone 64 = .ok (.land, 1) := by decide +kernel
theorem d_X6_learnAlone_65 : decode cX6_learnAlone 65 = .ok (.lor, 1) := by decide +kernel
theorem d_X6_learnAlone_66 : decode cX6_learnAlone 66 = .ok (.lstore 6, 2) := by decide +kernel
theorem d_X6_learnAlone_68 : decode cX6_learnAlone 68 = .ok (.lload 4, 2) := by decide +kernel
theorem d_X6_learnAlone_70 : decode cX6_learnAlone 70 = .ok (.lload 9, 2) := by decide +kernel
theorem d_X6_learnAlone_72 : decode cX6_learnAlone 72 = .ok (.lor, 1) := by decide +kernel
theorem d_X6_learnAlone_73 : decode cX6_learnAlone 73 = .ok (.lstore 4, 2) := by decide +kernel
theorem d_X6_learnAlone_75 : decode cX6_learnAlone 75 = .ok (.iinc 8 1, 3) := by decide +kernel
theorem d_X6_learnAlone_78 : decode cX6_learnAlone 78 = .ok (.goto (-53), 3) := by decide +kernel
theorem d_X6_learnAlone_81 : decode cX6_learnAlone 81 = .ok (.aload_n 0, 1) := by decide +kernel
theorem d_X6_learnAlone_82 : decode cX6_learnAlone 82 = .ok (.getfield 20, 3) := by decide +kernel
theorem d_X6_learnAlone_85 : decode cX6_learnAlone 85 = .ok (.iload_n 3, 1) := by decide +kernel
theorem d_X6_learnAlone_86 : decode cX6_learnAlone 86 = .ok (.lload 4, 2) := by decide +kernel
theorem d_X6_learnAlone_88 : decode cX6_learnAlone 88 = .ok (.lload 6, 2) := by decide +kernel
theorem d_X6_learnAlone_90 : decode cX6_learnAlone 90 = .ok (.ldc2_w 43, 3) := by decide +kernel
theorem d_X6_learnAlone_93 : decode cX6_learnAlone 93 = .ok (.lxor, 1) := by decide +kernel
theorem d_X6_learnAlone_94 : decode cX6_learnAlone 94 = .ok (.land, 1) := by decide +kernel
theorem d_X6_learnAlone_95 : decode cX6_learnAlone 95 = .ok (.lastore, 1) := by decide +kernel
theorem d_X6_learnAlone_96 : decode cX6_learnAlone 96 = .ok (.iinc 3 1, 3) := by decide +kernel
theorem d_X6_learnAlone_99 : decode cX6_learnAlone 99 = .ok (.goto (-97), 3) := by decide +kernel
theorem d_X6_learnAlone_102 : decode cX6_learnAlone 102 = .ok (.return_, 1) := by decide +kernel
noncomputable def F_X6_learnAlone_75 (t : Nat) (p0 : Nat) (p1 : Nat) (self2 : Int32 → zMem → Option (zMem)) (self25 : Int32 → Int64 → Int64 → Int32 → zMem → Option (zMem)) (b75_L3 : Int32) (b75_L4 : Int64) (b75_L6 : Int64) (b75_L8 : Int32) (M : zMem) : Option (zMem) :=
  self25 b75_L3 b75_L4 b75_L6 (b75_L8 + 1) M
noncomputable def F_X6_learnAlone_25 (t : Nat) (p0 : Nat) (p1 : Nat) (self2 : Int32 → zMem → Option (zMem)) (self25 : Int32 → Int64 → Int64 → Int32 → zMem → Option (zMem)) (b25_L3 : Int32) (b25_L4 : Int64) (b25_L6 : Int64) (b25_L8 : Int32) (M : zMem) : Option (zMem) :=
  if (64 : Int32) ≤ b25_L8 then
    gin b25_L3 10 <|
    zl (zL M (t + 67) b25_L3.toNatClampNeg (b25_L4 &&& (b25_L6 ^^^ (-1 : Int64)))) fun M2 =>
    self2 (b25_L3 + 1) M2
  else
    gin b25_L8 64 <|
    if (M.1 (p1 + 3) b25_L8.toNatClampNeg) ≤ 0 then
      F_X6_learnAlone_75 t p0 p1 self2 self25 b25_L3 b25_L4 b25_L6 b25_L8 M
    else
      zb (F_X5_shadedBy M p0 b25_L8 (M.1 (p1 + 3) b25_L8.toNatClampNeg) b25_L3) fun v5 M4 =>
      zl (b25_L6 ||| (b25_L4 &&& v5)) fun v6 =>
      zl (b25_L4 ||| v5) fun v7 =>
      F_X6_learnAlone_75 t p0 p1 self2 self25 b25_L3 v7 v6 b25_L8 M4
noncomputable def F_X6_learnAlone_2 (t : Nat) (p0 : Nat) (p1 : Nat) (self2 : Int32 → zMem → Option (zMem)) (b2_L3 : Int32) (M : zMem) : Option (zMem) :=
  if (M.1 p0 2) ≤ b2_L3 then
    some M
  else
    if (10 : Int32) ≤ b2_L3 then
      some M
    else
      itF (fun _ _ _ _ _ => none) (F_X6_learnAlone_25 t p0 p1 self2) zFuel b2_L3 (0 : Int64) (0 : Int64) (0 : Int32) M
noncomputable def F_X6_learnAlone (M : zMem) (t : Nat) (p0 : Nat) (p1 : Nat) : Option (zMem) :=
  itF (fun _ _ => none) (F_X6_learnAlone_2 t p0 p1) zFuel (0 : Int32) M
def rm_X6_learnAlone : Room := { frames := 4, cells := 0, slots := 0, locals := 131 }
set_option maxHeartbeats 4000000 in
set_option maxRecDepth 100000 in
theorem c_X6_learnAlone (l : Launch) {G : zG} {ad : Nat → Nat} {n : Nat} (hA : zInj ad n) (M : zMem) (t : Nat) (p0 : Nat) (p1 : Nat) (hT_t : zT shX n t 7) (hT_p0 : zT shX n p0 6) (hT_p1 : zT shX n p1 5) {M9 : zMem} (hF : F_X6_learnAlone M t p0 p1 = some M9) : zM l yX6_learnAlone cX6_learnAlone 11 none rm_X6_learnAlone G shX ad n M [.ref (ad t), .ref (ad p0), .ref (ad p1)] none M9 := by
  refine zM_of hA (by decide +kernel) (lv := [(0, .ref (ad t)), (1, .ref (ad p0)), (2, .ref (ad p1))]) (Nat.le_of_ble_eq_true rfl) rfl (fun p e s m args below meth c A cx hr => ?_)
  have hb75 : ∀ (self2 : Int32 → zMem → Option (zMem)) (hs2 : ∀ (b2_L3 : Int32) (M : zMem), self2 b2_L3 M = some M9 → zJ p l e rm_X6_learnAlone s m args below meth c G shX ad n A 11 (MQ below (zQ G shX ad n M9 none A) args s 0 0 A) 0 0 M 2 [(0, .ref (ad t)), (1, .ref (ad p0)), (2, .ref (ad p1)), (3, .int b2_L3)] []) (self25 : Int32 → Int64 → Int64 → Int32 → zMem → Option (zMem)) (hs25 : ∀ (b25_L3 : Int32) (b25_L4 : Int64) (b25_L6 : Int64) (b25_L8 : Int32) (M : zMem), self25 b25_L3 b25_L4 b25_L6 b25_L8 M = some M9 → zJ p l e rm_X6_learnAlone s m args below meth c G shX ad n A 11 (MQ below (zQ G shX ad n M9 none A) args s 0 0 A) 0 0 M 25 [(0, .ref (ad t)), (1, .ref (ad p0)), (2, .ref (ad p1)), (3, .int b25_L3), (4, .long b25_L4), (6, .long b25_L6), (8, .int b25_L8)] []), ∀ (b75_L3 : Int32) (b75_L4 : Int64) (b75_L6 : Int64) (b75_L8 : Int32) (M : zMem), F_X6_learnAlone_75 t p0 p1 self2 self25 b75_L3 b75_L4 b75_L6 b75_L8 M = some M9 → zJ p l e rm_X6_learnAlone s m args below meth c G shX ad n A 11 (MQ below (zQ G shX ad n M9 none A) args s 0 0 A) 0 0 M 75 [(0, .ref (ad t)), (1, .ref (ad p0)), (2, .ref (ad p1)), (3, .int b75_L3), (4, .long b75_L4), (6, .long b75_L6), (8, .int b75_L8)] [] := by
    intro self2 hs2 self25 hs25 b75_L3 b75_L4 b75_L6 b75_L8 M hF
    unfold F_X6_learnAlone_75 at hF
    refine z_iinc cx 8 1 [(8, .int (b75_L8 + 1)), (0, .ref (ad t)), (1, .ref (ad p0)), (2, .ref (ad p1)), (3, .int b75_L3), (4, .long b75_L4), (6, .long b75_L6)] d_X6_learnAlone_75 6 rfl ki_1 (by decide) rfl ?_
    refine z_goto cx 25 d_X6_learnAlone_78 (by decide) ?_
    exact z_lv [1, 2, 3, 4, 5, 6, 0] _ rfl (hs25 b75_L3 b75_L4 b75_L6 (b75_L8 + 1) M hF)
  have hL25 : ∀ (self2 : Int32 → zMem → Option (zMem)) (hs2 : ∀ (b2_L3 : Int32) (M : zMem), self2 b2_L3 M = some M9 → zJ p l e rm_X6_learnAlone s m args below meth c G shX ad n A 11 (MQ below (zQ G shX ad n M9 none A) args s 0 0 A) 0 0 M 2 [(0, .ref (ad t)), (1, .ref (ad p0)), (2, .ref (ad p1)), (3, .int b2_L3)] []) (fuel : Nat), ∀ (b25_L3 : Int32) (b25_L4 : Int64) (b25_L6 : Int64) (b25_L8 : Int32) (M : zMem), itF (fun _ _ _ _ _ => none) (F_X6_learnAlone_25 t p0 p1 self2) fuel b25_L3 b25_L4 b25_L6 b25_L8 M = some M9 → zJ p l e rm_X6_learnAlone s m args below meth c G shX ad n A 11 (MQ below (zQ G shX ad n M9 none A) args s 0 0 A) 0 0 M 25 [(0, .ref (ad t)), (1, .ref (ad p0)), (2, .ref (ad p1)), (3, .int b25_L3), (4, .long b25_L4), (6, .long b25_L6), (8, .int b25_L8)] [] := by
    intro self2 hs2 fuel
    induction fuel with
    | zero => intro b25_L3 b25_L4 b25_L6 b25_L8 M hF; cases hF
    | succ fuel hs25 =>
      intro b25_L3 b25_L4 b25_L6 b25_L8 M hF
      have hF : F_X6_learnAlone_25 t p0 p1 self2 (itF (fun _ _ _ _ _ => none) (F_X6_learnAlone_25 t p0 p1 self2) fuel) b25_L3 b25_L4 b25_L6 b25_L8 M = some M9 := hF
      generalize itF (fun _ _ _ _ _ => none) (F_X6_learnAlone_25 t p0 p1 self2) fuel = self25 at hs25 hF
      unfold F_X6_learnAlone_25 at hF
      refine z_iload cx d_X6_learnAlone_25 6 rfl ?_
      refine z_bipush (v := 64) cx d_X6_learnAlone_27 kb_64 ?_
      refine z_icmp_ge cx 81 d_X6_learnAlone_29 (by decide) hF (fun hF => ?_) (fun hF => ?_)
      · refine z_aload_n cx d_X6_learnAlone_81 0 rfl ?_
        refine z_getR cx hT_t fg_Shadows_20 (t + 67) rfl d_X6_learnAlone_82 ?_
        refine z_iload_n cx d_X6_learnAlone_85 3 rfl ?_
        refine z_lload cx d_X6_learnAlone_86 4 rfl ?_
        refine z_lload cx d_X6_learnAlone_88 5 rfl ?_
        refine z_ldc2 cx wd_1163 d_X6_learnAlone_90 ?_
        refine z_lxor cx d_X6_learnAlone_93 ?_
        refine z_land cx d_X6_learnAlone_94 ?_
        obtain ⟨hi1, hF⟩ := gin_inv hF
        refine z_last cx (tfX_7_67 hT_t) za_18 hi1 b25_L3.toNatClampNeg rfl d_X6_learnAlone_95 ?_
        refine z_nmM hF (fun M2 hF => ?_)
        refine z_iinc cx 3 1 [(3, .int (b25_L3 + 1)), (0, .ref (ad t)), (1, .ref (ad p0)), (2, .ref (ad p1)), (4, .long b25_L4), (6, .long b25_L6), (8, .int b25_L8)] d_X6_learnAlone_96 3 rfl ki_1 (by decide) rfl ?_
        refine z_goto cx 2 d_X6_learnAlone_99 (by decide) ?_
        exact z_lv [1, 2, 3, 0] _ rfl (hs2 (b25_L3 + 1) M2 hF)
      refine z_aload_n cx d_X6_learnAlone_32 2 rfl ?_
      refine z_getR cx hT_p1 fg_Shadows_59 (p1 + 3) rfl d_X6_learnAlone_33 ?_
      refine z_iload cx d_X6_learnAlone_36 6 rfl ?_
      obtain ⟨hi3, hF⟩ := gin_inv hF
      refine z_iald cx (tfX_5_3 hT_p1) za_16 hi3 b25_L8.toNatClampNeg rfl d_X6_learnAlone_38 ?_
      refine z_if_le cx 75 d_X6_learnAlone_39 (by decide) hF (fun hF => ?_) (fun hF => ?_)
      · exact hb75 self2 hs2 self25 hs25 b25_L3 b25_L4 b25_L6 b25_L8 M hF
      refine z_aload_n cx d_X6_learnAlone_42 1 rfl ?_
      refine z_iload cx d_X6_learnAlone_43 6 rfl ?_
      refine z_aload_n cx d_X6_learnAlone_45 2 rfl ?_
      refine z_getR cx hT_p1 fg_Shadows_59 (p1 + 3) rfl d_X6_learnAlone_46 ?_
      refine z_iload cx d_X6_learnAlone_49 6 rfl ?_
      refine z_iald cx (tfX_5_3 hT_p1) za_16 hi3 b25_L8.toNatClampNeg rfl d_X6_learnAlone_51 ?_
      refine z_iload_n cx d_X6_learnAlone_52 3 rfl ?_
      obtain ⟨v5, M4, hc, hF⟩ := zb_inv hF
      refine z_callV cx (As := [.int b25_L8, .int (M.1 (p1 + 3) b25_L8.toNatClampNeg), .int b25_L3]) (rest := []) (c_X5_shadedBy l cx.2.2.2.1.1 M p0 b25_L8 (M.1 (p1 + 3) b25_L8.toNatClampNeg) b25_L3 hT_p0 hc) hT_p0 zo_6 cv_Shadows_33 ⟨rfl, rfl, Nat.le_of_ble_eq_true rfl, Nat.le_of_ble_eq_true rfl⟩ rfl rfl ⟨Nat.zero_le _, Nat.zero_le _⟩ (Nat.le_of_ble_eq_true rfl) d_X6_learnAlone_53 ?_
      refine z_lstore cx 9 [(9, .long v5), (0, .ref (ad t)), (1, .ref (ad p0)), (2, .ref (ad p1)), (3, .int b25_L3), (4, .long b25_L4), (6, .long b25_L6), (8, .int b25_L8)] d_X6_learnAlone_56 (by decide) rfl ?_
      refine z_lload cx d_X6_learnAlone_58 6 rfl ?_
      refine z_lload cx d_X6_learnAlone_60 5 rfl ?_
      refine z_lload cx d_X6_learnAlone_62 0 rfl ?_
      refine z_land cx d_X6_learnAlone_64 ?_
      refine z_lor cx d_X6_learnAlone_65 ?_
      refine z_nml hF (fun v6 hF => ?_)
      refine z_lstore cx 6 [(6, .long v6), (9, .long v5), (0, .ref (ad t)), (1, .ref (ad p0)), (2, .ref (ad p1)), (3, .int b25_L3), (4, .long b25_L4), (8, .int b25_L8)] d_X6_learnAlone_66 (by decide) rfl ?_
      refine z_lload cx d_X6_learnAlone_68 6 rfl ?_
      refine z_lload cx d_X6_learnAlone_70 1 rfl ?_
      refine z_lor cx d_X6_learnAlone_72 ?_
      refine z_nml hF (fun v7 hF => ?_)
      refine z_lstore cx 4 [(4, .long v7), (6, .long v6), (9, .long v5), (0, .ref (ad t)), (1, .ref (ad p0)), (2, .ref (ad p1)), (3, .int b25_L3), (8, .int b25_L8)] d_X6_learnAlone_73 (by decide) rfl ?_
      exact z_lv [3, 4, 5, 6, 0, 1, 7] _ rfl (hb75 self2 hs2 self25 hs25 b25_L3 v7 v6 b25_L8 M4 hF)
  have hL2 : ∀ (fuel : Nat), ∀ (b2_L3 : Int32) (M : zMem), itF (fun _ _ => none) (F_X6_learnAlone_2 t p0 p1) fuel b2_L3 M = some M9 → zJ p l e rm_X6_learnAlone s m args below meth c G shX ad n A 11 (MQ below (zQ G shX ad n M9 none A) args s 0 0 A) 0 0 M 2 [(0, .ref (ad t)), (1, .ref (ad p0)), (2, .ref (ad p1)), (3, .int b2_L3)] [] := by
    intro fuel
    induction fuel with
    | zero => intro b2_L3 M hF; cases hF
    | succ fuel hs2 =>
      intro b2_L3 M hF
      have hF : F_X6_learnAlone_2 t p0 p1 (itF (fun _ _ => none) (F_X6_learnAlone_2 t p0 p1) fuel) b2_L3 M = some M9 := hF
      generalize itF (fun _ _ => none) (F_X6_learnAlone_2 t p0 p1) fuel = self2 at hs2 hF
      unfold F_X6_learnAlone_2 at hF
      refine z_iload_n cx d_X6_learnAlone_2 3 rfl ?_
      refine z_aload_n cx d_X6_learnAlone_3 1 rfl ?_
      refine z_getI cx hT_p0 fg_Shadows_23 d_X6_learnAlone_4 ?_
      refine z_icmp_ge cx 102 d_X6_learnAlone_7 (by decide) hF (fun hF => ?_) (fun hF => ?_)
      · exact z_vret cx hr hF d_X6_learnAlone_102
      refine z_iload_n cx d_X6_learnAlone_10 3 rfl ?_
      refine z_bipush (v := 10) cx d_X6_learnAlone_11 kb_10 ?_
      refine z_icmp_ge cx 102 d_X6_learnAlone_13 (by decide) hF (fun hF => ?_) (fun hF => ?_)
      · exact z_vret cx hr hF d_X6_learnAlone_102
      refine z_lconst (v := 0) cx d_X6_learnAlone_16 (by decide +kernel) ?_
      refine z_lstore cx 4 [(4, .long (0 : Int64)), (0, .ref (ad t)), (1, .ref (ad p0)), (2, .ref (ad p1)), (3, .int b2_L3)] d_X6_learnAlone_17 (by decide) rfl ?_
      refine z_lconst (v := 0) cx d_X6_learnAlone_19 (by decide +kernel) ?_
      refine z_lstore cx 6 [(6, .long (0 : Int64)), (4, .long (0 : Int64)), (0, .ref (ad t)), (1, .ref (ad p0)), (2, .ref (ad p1)), (3, .int b2_L3)] d_X6_learnAlone_20 (by decide) rfl ?_
      refine z_iconst (v := 0) cx d_X6_learnAlone_22 ki_0 ?_
      refine z_istore cx 8 [(8, .int (0 : Int32)), (6, .long (0 : Int64)), (4, .long (0 : Int64)), (0, .ref (ad t)), (1, .ref (ad p0)), (2, .ref (ad p1)), (3, .int b2_L3)] d_X6_learnAlone_23 (by decide) rfl ?_
      exact z_lv [3, 4, 5, 6, 2, 1, 0] _ rfl (hL25 self2 hs2 zFuel b2_L3 (0 : Int64) (0 : Int64) (0 : Int32) M hF)
  unfold F_X6_learnAlone at hF
  refine z_iconst (v := 0) cx d_X6_learnAlone_0 ki_0 ?_
  refine z_istore_n cx 3 [(3, .int (0 : Int32)), (0, .ref (ad t)), (1, .ref (ad p0)), (2, .ref (ad p1))] d_X6_learnAlone_1 rfl (by decide) rfl ?_
  exact z_lv [1, 2, 3, 0] _ rfl (hL2 zFuel (0 : Int32) M hF)
/-! SunnyPans$Shadows.aloneBy -/
theorem d_X6_aloneBy_0 : decode cX6_aloneBy 0 = .ok (.iconst 0, 1) := by decide +kernel
theorem d_X6_aloneBy_1 : decode cX6_aloneBy 1 = .ok (.istore 4, 2) := by decide +kernel
theorem d_X6_aloneBy_3 : decode cX6_aloneBy 3 = .ok (.iconst 0, 1) := by decide +kernel
theorem d_X6_aloneBy_4 : decode cX6_aloneBy 4 = .ok (.istore 5, 2) := by decide +kernel
theorem d_X6_aloneBy_6 : decode cX6_aloneBy 6 = .ok (.iload 5, 2) := by decide +kernel
theorem d_X6_aloneBy_8 : decode cX6_aloneBy 8 = .ok (.aload_n 1, 1) := by decide +kernel
theorem d_X6_aloneBy_9 : decode cX6_aloneBy 9 = .ok (.getfield 23, 3) := by decide +kernel
theorem d_X6_aloneBy_12 : decode cX6_aloneBy 12 = .ok (.if_icmp .ge 40, 3) := by decide +kernel
theorem d_X6_aloneBy_15 : decode cX6_aloneBy 15 = .ok (.iload 5, 2) := by decide +kernel
theorem d_X6_aloneBy_17 : decode cX6_aloneBy 17 = .ok (.bipush 10, 2) := by decide +kernel
theorem d_X6_aloneBy_19 : decode cX6_aloneBy 19 = .ok (.if_icmp .ge 33, 3) := by decide +kernel
theorem d_X6_aloneBy_22 : decode cX6_aloneBy 22 = .ok (.iload 4, 2) := by decide +kernel
theorem d_X6_aloneBy_24 : decode cX6_aloneBy 24 = .ok (.aload_n 1, 1) := by decide +kernel
theorem d_X6_aloneBy_25 : decode cX6_aloneBy 25 = .ok (.iload_n 2, 1) := by decide +kernel
theorem d_X6_aloneBy_26 : decode cX6_aloneBy 26 = .ok (.iload_n 3, 1) := by decide +kernel
theorem d_X6_aloneBy_27 : decode cX6_aloneBy 27 = .ok (.iload 5, 2) := by decide +kernel
theorem d_X6_aloneBy_29 : decode cX6_aloneBy 29 = .ok (.invokevirtual 33, 3) := by decide +kernel
theorem d_X6_aloneBy_32 : decode cX6_aloneBy 32 = .ok (.aload_n 0, 1) := by decide +kernel
theorem d_X6_aloneBy_33 : decode cX6_aloneBy 33 = .ok (.getfield 20, 3) := by decide +kernel
theorem d_X6_aloneBy_36 : decode cX6_aloneBy 36 = .ok (.iload 5, 2) := by decide +kernel
theorem d_X6_aloneBy_38 : decode cX6_aloneBy 38 = .ok (.laload, 1) := by decide +kernel
theorem d_X6_aloneBy_39 : decode cX6_aloneBy 39 = .ok (.land, 1) := by decide +kernel
theorem d_X6_aloneBy_40 : decode cX6_aloneBy 40 = .ok (.invokestatic 53, 3) := by decide +kernel
theorem d_X6_aloneBy_43 : decode cX6_aloneBy 43 = .ok (.iadd, 1) := by decide +kernel
theorem d_X6_aloneBy_44 : decode cX6_aloneBy 44 = .ok (.istore 4, 2) := by decide +kernel
theorem d_X6_aloneBy_46 : decode cX6_aloneBy 46 = .ok (.iinc 5 1, 3) := by decide +kernel
theorem d_X6_aloneBy_49 : decode cX6_aloneBy 49 = .ok (.goto (-43), 3) := by decide +kernel
theorem d_X6_aloneBy_52 : decode cX6_aloneBy 52 = .ok (.iload 4, 2) := by decide +kernel
theorem d_X6_aloneBy_54 : decode cX6_aloneBy 54 = .ok (.ireturn, 1) := by decide +kernel
noncomputable def F_X6_aloneBy_6 (t : Nat) (p0 : Nat) (p1 : Int32) (p2 : Int32) (self6 : Int32 → Int32 → Int32 → Int32 → zMem → Option (Int32 × zMem)) (b6_L2 : Int32) (b6_L3 : Int32) (b6_L4 : Int32) (b6_L5 : Int32) (M : zMem) : Option (Int32 × zMem) :=
  if (M.1 p0 2) ≤ b6_L5 then
    some (b6_L4, M)
  else
    if (10 : Int32) ≤ b6_L5 then
      some (b6_L4, M)
    else
      zb (F_X5_shadedBy M p0 b6_L2 b6_L3 b6_L5) fun v2 M1 =>
      gin b6_L5 10 <|
      zb (F_J13_bitCount_95d88 M1 (v2 &&& (M1.2.1 (t + 67) b6_L5.toNatClampNeg))) fun v5 M4 =>
      zl (b6_L4 + v5) fun v6 =>
      self6 b6_L2 b6_L3 v6 (b6_L5 + 1) M4
noncomputable def F_X6_aloneBy (M : zMem) (t : Nat) (p0 : Nat) (p1 : Int32) (p2 : Int32) : Option (Int32 × zMem) :=
  itF (fun _ _ _ _ _ => none) (F_X6_aloneBy_6 t p0 p1 p2) zFuel p1 p2 (0 : Int32) (0 : Int32) M
def rm_X6_aloneBy : Room := { frames := 4, cells := 0, slots := 0, locals := 131 }
set_option maxHeartbeats 4000000 in
set_option maxRecDepth 100000 in
theorem c_X6_aloneBy (l : Launch) {G : zG} {ad : Nat → Nat} {n : Nat} (hA : zInj ad n) (M : zMem) (t : Nat) (p0 : Nat) (p1 : Int32) (p2 : Int32) (hT_t : zT shX n t 7) (hT_p0 : zT shX n p0 6) {r9 : Int32} {M9 : zMem} (hF : F_X6_aloneBy M t p0 p1 p2 = some (r9, M9)) : zM l yX6_aloneBy cX6_aloneBy 6 (some .int) rm_X6_aloneBy G shX ad n M [.ref (ad t), .ref (ad p0), .int p1, .int p2] (some (.int r9)) M9 := by
  refine zM_of hA (by decide +kernel) (lv := [(0, .ref (ad t)), (1, .ref (ad p0)), (2, .int p1), (3, .int p2)]) (Nat.le_of_ble_eq_true rfl) rfl (fun p e s m args below meth c A cx hr => ?_)
  have hL6 : ∀ (fuel : Nat), ∀ (b6_L2 : Int32) (b6_L3 : Int32) (b6_L4 : Int32) (b6_L5 : Int32) (M : zMem), itF (fun _ _ _ _ _ => none) (F_X6_aloneBy_6 t p0 p1 p2) fuel b6_L2 b6_L3 b6_L4 b6_L5 M = some (r9, M9) → zJ p l e rm_X6_aloneBy s m args below meth c G shX ad n A 6 (MQ below (zQ G shX ad n M9 (some (.int r9)) A) args s 0 0 A) 0 0 M 6 [(0, .ref (ad t)), (1, .ref (ad p0)), (2, .int b6_L2), (3, .int b6_L3), (4, .int b6_L4), (5, .int b6_L5)] [] := by
    intro fuel
    induction fuel with
    | zero => intro b6_L2 b6_L3 b6_L4 b6_L5 M hF; cases hF
    | succ fuel hs6 =>
      intro b6_L2 b6_L3 b6_L4 b6_L5 M hF
      have hF : F_X6_aloneBy_6 t p0 p1 p2 (itF (fun _ _ _ _ _ => none) (F_X6_aloneBy_6 t p0 p1 p2) fuel) b6_L2 b6_L3 b6_L4 b6_L5 M = some (r9, M9) := hF
      generalize itF (fun _ _ _ _ _ => none) (F_X6_aloneBy_6 t p0 p1 p2) fuel = self6 at hs6 hF
      unfold F_X6_aloneBy_6 at hF
      refine z_iload cx d_X6_aloneBy_6 5 rfl ?_
      refine z_aload_n cx d_X6_aloneBy_8 1 rfl ?_
      refine z_getI cx hT_p0 fg_Shadows_23 d_X6_aloneBy_9 ?_
      refine z_icmp_ge cx 52 d_X6_aloneBy_12 (by decide) hF (fun hF => ?_) (fun hF => ?_)
      · refine z_iload cx d_X6_aloneBy_52 4 rfl ?_
        exact z_iret cx hr rfl hF d_X6_aloneBy_54
      refine z_iload cx d_X6_aloneBy_15 5 rfl ?_
      refine z_bipush (v := 10) cx d_X6_aloneBy_17 kb_10 ?_
      refine z_icmp_ge cx 52 d_X6_aloneBy_19 (by decide) hF (fun hF => ?_) (fun hF => ?_)
      · refine z_iload cx d_X6_aloneBy_52 4 rfl ?_
        exact z_iret cx hr rfl hF d_X6_aloneBy_54
      refine z_iload cx d_X6_aloneBy_22 4 rfl ?_
      refine z_aload_n cx d_X6_aloneBy_24 1 rfl ?_
      refine z_iload_n cx d_X6_aloneBy_25 2 rfl ?_
      refine z_iload_n cx d_X6_aloneBy_26 3 rfl ?_
      refine z_iload cx d_X6_aloneBy_27 5 rfl ?_
      obtain ⟨v2, M1, hc, hF⟩ := zb_inv hF
      refine z_callV cx (As := [.int b6_L2, .int b6_L3, .int b6_L5]) (rest := [.int b6_L4]) (c_X5_shadedBy l cx.2.2.2.1.1 M p0 b6_L2 b6_L3 b6_L5 hT_p0 hc) hT_p0 zo_6 cv_Shadows_33 ⟨rfl, rfl, Nat.le_of_ble_eq_true rfl, Nat.le_of_ble_eq_true rfl⟩ rfl rfl ⟨Nat.zero_le _, Nat.zero_le _⟩ (Nat.le_of_ble_eq_true rfl) d_X6_aloneBy_29 ?_
      refine z_aload_n cx d_X6_aloneBy_32 0 rfl ?_
      refine z_getR cx hT_t fg_Shadows_20 (t + 67) rfl d_X6_aloneBy_33 ?_
      refine z_iload cx d_X6_aloneBy_36 5 rfl ?_
      obtain ⟨hi3, hF⟩ := gin_inv hF
      refine z_lald cx (tfX_7_67 hT_t) za_18 hi3 b6_L5.toNatClampNeg rfl d_X6_aloneBy_38 ?_
      refine z_land cx d_X6_aloneBy_39 ?_
      obtain ⟨v5, M4, hc, hF⟩ := zb_inv hF
      refine z_callS cx (As := [.long (v2 &&& (M1.2.1 (t + 67) b6_L5.toNatClampNeg))]) (rest := [.int b6_L4]) (c_J13_bitCount_95d88 l cx.2.2.2.1.1 M1 (v2 &&& (M1.2.1 (t + 67) b6_L5.toNatClampNeg))  hc) cs_Shadows_53 ⟨rfl, rfl, Nat.le_of_ble_eq_true rfl, Nat.le_of_ble_eq_true rfl⟩ rfl rfl ⟨Nat.zero_le _, Nat.zero_le _⟩ (Nat.le_of_ble_eq_true rfl) d_X6_aloneBy_40 ?_
      refine z_iadd cx d_X6_aloneBy_43 ?_
      refine z_nm hF (fun v6 hF => ?_)
      refine z_istore cx 4 [(4, .int v6), (0, .ref (ad t)), (1, .ref (ad p0)), (2, .int b6_L2), (3, .int b6_L3), (5, .int b6_L5)] d_X6_aloneBy_44 (by decide) rfl ?_
      refine z_iinc cx 5 1 [(5, .int (b6_L5 + 1)), (4, .int v6), (0, .ref (ad t)), (1, .ref (ad p0)), (2, .int b6_L2), (3, .int b6_L3)] d_X6_aloneBy_46 5 rfl ki_1 (by decide) rfl ?_
      refine z_goto cx 6 d_X6_aloneBy_49 (by decide) ?_
      exact z_lv [2, 3, 4, 5, 1, 0] _ rfl (hs6 b6_L2 b6_L3 v6 (b6_L5 + 1) M4 hF)
  unfold F_X6_aloneBy at hF
  refine z_iconst (v := 0) cx d_X6_aloneBy_0 ki_0 ?_
  refine z_istore cx 4 [(4, .int (0 : Int32)), (0, .ref (ad t)), (1, .ref (ad p0)), (2, .int p1), (3, .int p2)] d_X6_aloneBy_1 (by decide) rfl ?_
  refine z_iconst (v := 0) cx d_X6_aloneBy_3 ki_0 ?_
  refine z_istore cx 5 [(5, .int (0 : Int32)), (4, .int (0 : Int32)), (0, .ref (ad t)), (1, .ref (ad p0)), (2, .int p1), (3, .int p2)] d_X6_aloneBy_4 (by decide) rfl ?_
  exact z_lv [2, 3, 4, 5, 1, 0] _ rfl (hL6 zFuel p1 p2 (0 : Int32) (0 : Int32) M hF)
/-! SunnyPans$Stand.start -/
theorem tfX_8_1 {n k : Nat} (h : zT shX n k 8) : zT shX n (k + 1) 5 := zT_off h (shX_f (by decide) (by decide +kernel)) (by decide) (by decide)
set_option maxRecDepth 100000 in
theorem wd_214 : Cond.fieldLink "SunnyPans$Stand" 12 "SunnyPans$Stand" "now" "LSunnyPans$Pans;" ∈ tbG := tw1 114 rfl rfl
theorem uw_7 : ∀ w ∈ u_ws RX7 TX7 3, w ∈ tbG := zUW _ [219, 221, 223] (by decide +kernel) (by decide +kernel)
theorem fg_Stand_12 : zGetR "SunnyPans$Stand" 12 7 8 0 1 := ⟨RX7, TX7, 3, rfl, by decide, uw_7, wd_214, fun _ _ _ _ _ _ => ⟨_, rfl, rfl⟩⟩
set_option maxRecDepth 100000 in
theorem wd_750 : Cond.code yX4_start cX4_start 2 none ∈ tbG := tw3 170 rfl rfl
set_option maxRecDepth 100000 in
theorem wd_747 : Cond.methodLink "SunnyPans$Stand" 22 yX4_start ∈ tbG := tw3 167 rfl rfl
set_option maxRecDepth 100000 in
theorem wd_748 : Cond.instanceMethod yX4_start ∈ tbG := tw3 168 rfl rfl
set_option maxRecDepth 100000 in
theorem wd_749 : Cond.selects "SunnyPans$Pans" yX4_start yX4_start ∈ tbG := tw3 169 rfl rfl
theorem cv_Stand_22 : zCV "SunnyPans$Stand" 22 "SunnyPans$Pans" yX4_start cX4_start 2 none 1 := zCV_of wd_747 wd_748 wd_749 wd_104 wd_750 (by decide +kernel)
set_option maxRecDepth 100000 in
theorem wd_216 : Cond.fieldLink "SunnyPans$Stand" 26 "SunnyPans$Stand" "kept" "I" ∈ tbG := tw1 116 rfl rfl
theorem fg_Stand_26 : zGetI "SunnyPans$Stand" 26 7 8 1 := ⟨RX7, TX7, 3, rfl, by decide, uw_7, wd_216, fun _ _ _ _ _ _ => ⟨_, rfl, rfl⟩⟩
theorem zc_7 : zCls 7 := ⟨RX7, TX7, 3, tyX7, rfl, tyX7_ok, nmX7⟩
theorem fp_Stand_26 : zPutI "SunnyPans$Stand" 26 7 8 1 := ⟨zc_7, fg_Stand_26, ⟨RX7, TX7, 3, rfl, rfl, by decide +kernel⟩, fun _ _ _ _ _ _ _ => ⟨_, rfl, Nat.le_of_ble_eq_true rfl, rfl⟩⟩
theorem d_X7_start_0 : decode cX7_start 0 = .ok (.aload_n 0, 1) := by decide +kernel
theorem d_X7_start_1 : decode cX7_start 1 = .ok (.getfield 12, 3) := by decide +kernel
theorem d_X7_start_4 : decode cX7_start 4 = .ok (.aload_n 1, 1) := by decide +kernel
theorem d_X7_start_5 : decode cX7_start 5 = .ok (.invokevirtual 22, 3) := by decide +kernel
theorem d_X7_start_8 : decode cX7_start 8 = .ok (.aload_n 0, 1) := by decide +kernel
theorem d_X7_start_9 : decode cX7_start 9 = .ok (.iconst 0, 1) := by decide +kernel
theorem d_X7_start_10 : decode cX7_start 10 = .ok (.putfield 26, 3) := by decide +kernel
theorem d_X7_start_13 : decode cX7_start 13 = .ok (.return_, 1) := by decide +kernel
noncomputable def F_X7_start (M : zMem) (t : Nat) (p0 : Nat) : Option (zMem) :=
  zbv (F_X4_start M (t + 1) p0) fun M1 =>
  zl (zI M1 t 1 (0 : Int32)) fun M2 =>
  some M2
def rm_X7_start : Room := { frames := 6, cells := 0, slots := 0, locals := 175 }
set_option maxHeartbeats 4000000 in
set_option maxRecDepth 100000 in
theorem c_X7_start (l : Launch) {G : zG} {ad : Nat → Nat} {n : Nat} (hA : zInj ad n) (M : zMem) (t : Nat) (p0 : Nat) (hT_t : zT shX n t 8) (hT_p0 : zT shX n p0 6) {M9 : zMem} (hF : F_X7_start M t p0 = some M9) : zM l yX7_start cX7_start 2 none rm_X7_start G shX ad n M [.ref (ad t), .ref (ad p0)] none M9 := by
  refine zM_of hA (by decide +kernel) (lv := [(0, .ref (ad t)), (1, .ref (ad p0))]) (Nat.le_of_ble_eq_true rfl) rfl (fun p e s m args below meth c A cx hr => ?_)
  unfold F_X7_start at hF
  refine z_aload_n cx d_X7_start_0 0 rfl ?_
  refine z_getR cx hT_t fg_Stand_12 (t + 1) rfl d_X7_start_1 ?_
  refine z_aload_n cx d_X7_start_4 1 rfl ?_
  obtain ⟨M1, hc, hF⟩ := zbv_inv hF
  refine z_callV cx (As := [.ref (ad p0)]) (rest := []) (c_X4_start l cx.2.2.2.1.1 M (t + 1) p0 (tfX_8_1 hT_t) hT_p0 hc) (tfX_8_1 hT_t) zo_5 cv_Stand_22 ⟨rfl, rfl, Nat.le_of_ble_eq_true rfl, Nat.le_of_ble_eq_true rfl⟩ rfl rfl ⟨Nat.zero_le _, Nat.zero_le _⟩ (Nat.le_of_ble_eq_true rfl) d_X7_start_5 ?_
  refine z_aload_n cx d_X7_start_8 0 rfl ?_
  refine z_iconst (v := 0) cx d_X7_start_9 ki_0 ?_
  refine z_putI cx hT_t fp_Stand_26 d_X7_start_10 ?_
  refine z_nmM hF (fun M2 hF => ?_)
  exact z_vret cx hr hF d_X7_start_13
/-! SunnyPans$Stand.keep -/
theorem tfX_8_6 {n k : Nat} (h : zT shX n k 8) : zT shX n (k + 6) 19 := zT_off h (shX_f (by decide) (by decide +kernel)) (by decide) (by decide)
set_option maxRecDepth 100000 in
theorem wd_218 : Cond.fieldLink "SunnyPans$Stand" 18 "SunnyPans$Stand" "before" "[LSunnyPans$Pans;" ∈ tbG := tw1 118 rfl rfl
theorem fg_Stand_18 : zGetR "SunnyPans$Stand" 18 7 8 2 6 := ⟨RX7, TX7, 3, rfl, by decide, uw_7, wd_218, fun _ _ _ _ _ _ => ⟨_, rfl, rfl⟩⟩
theorem za_19 : zArrR 19 16 2 1 5 := ⟨by decide, fun _ _ _ _ _ _ => rfl⟩
theorem teX_19 {n k : Nat} {i : Int32} (h : zT shX n k 19) (hi : vp_in i 16) : zT shX n (k + (1 + 5 * i.toNatClampNeg)) 5 := by
  have hlt : i.toNatClampNeg < 16 := Nat.not_le.mp fun q => hi (Or.inr q)
  have h2 : k + 81 ≤ n := h.2.2
  exact ⟨shX_e (by decide) (by decide +kernel) k h.1 _ hlt, by omega, by show _ + 5 ≤ n; omega⟩
set_option maxRecDepth 100000 in
theorem wd_490 : Cond.code yX4_copyFrom cX4_copyFrom 2 none ∈ tbG := tw2 150 rfl rfl
set_option maxRecDepth 100000 in
theorem wd_487 : Cond.methodLink "SunnyPans$Stand" 30 yX4_copyFrom ∈ tbG := tw2 147 rfl rfl
set_option maxRecDepth 100000 in
theorem wd_488 : Cond.instanceMethod yX4_copyFrom ∈ tbG := tw2 148 rfl rfl
set_option maxRecDepth 100000 in
theorem wd_489 : Cond.selects "SunnyPans$Pans" yX4_copyFrom yX4_copyFrom ∈ tbG := tw2 149 rfl rfl
theorem cv_Stand_30 : zCV "SunnyPans$Stand" 30 "SunnyPans$Pans" yX4_copyFrom cX4_copyFrom 2 none 1 := zCV_of wd_487 wd_488 wd_489 wd_104 wd_490 (by decide +kernel)
theorem d_X7_keep_0 : decode cX7_keep 0 = .ok (.aload_n 0, 1) := by decide +kernel
theorem d_X7_keep_1 : decode cX7_keep 1 = .ok (.getfield 26, 3) := by decide +kernel
theorem d_X7_keep_4 : decode cX7_keep 4 = .ok (.ifCond .lt 24, 3) := by decide +kernel
theorem d_X7_keep_7 : decode cX7_keep 7 = .ok (.aload_n 0, 1) := by decide +kernel
theorem d_X7_keep_8 : decode cX7_keep 8 = .ok (.getfield 26, 3) := by decide +kernel
theorem d_X7_keep_11 : decode cX7_keep 11 = .ok (.bipush 16, 2) := by decide +kernel
theorem d_X7_keep_13 : decode cX7_keep 13 = .ok (.if_icmp .ge 15, 3) := by decide +kernel
theorem d_X7_keep_16 : decode cX7_keep 16 = .ok (.aload_n 0, 1) := by decide +kernel
theorem d_X7_keep_17 : decode cX7_keep 17 = .ok (.getfield 18, 3) := by decide +kernel
theorem d_X7_keep_20 : decode cX7_keep 20 = .ok (.aload_n 0, 1) := by decide +kernel
theorem d_X7_keep_21 : decode cX7_keep 21 = .ok (.getfield 26, 3) := by decide +kernel
theorem d_X7_keep_24 : decode cX7_keep 24 = .ok (.aaload, 1) := by decide +kernel
theorem d_X7_keep_25 : decode cX7_keep 25 = .ok (.goto 4, 3) := by decide +kernel
theorem d_X7_keep_28 : decode cX7_keep 28 = .ok (.aconst_null, 1) := by decide +kernel
theorem d_X7_keep_29 : decode cX7_keep 29 = .ok (.astore_n 1, 1) := by decide +kernel
theorem d_X7_keep_30 : decode cX7_keep 30 = .ok (.aload_n 1, 1) := by decide +kernel
theorem d_X7_keep_31 : decode cX7_keep 31 = .ok (.ifnull 21, 3) := by decide +kernel
theorem d_X7_keep_34 : decode cX7_keep 34 = .ok (.aload_n 1, 1) := by decide +kernel
theorem d_X7_keep_35 : decode cX7_keep 35 = .ok (.aload_n 0, 1) := by decide +kernel
theorem d_X7_keep_36 : decode cX7_keep 36 = .ok (.getfield 12, 3) := by decide +kernel
theorem d_X7_keep_39 : decode cX7_keep 39 = .ok (.invokevirtual 30, 3) := by decide +kernel
theorem d_X7_keep_42 : decode cX7_keep 42 = .ok (.aload_n 0, 1) := by decide +kernel
theorem d_X7_keep_43 : decode cX7_keep 43 = .ok (.dup, 1) := by decide +kernel
theorem d_X7_keep_44 : decode cX7_keep 44 = .ok (.getfield 26, 3) := by decide +kernel
theorem d_X7_keep_47 : decode cX7_keep 47 = .ok (.iconst 1, 1) := by decide +kernel
theorem d_X7_keep_48 : decode cX7_keep 48 = .ok (.iadd, 1) := by decide +kernel
theorem d_X7_keep_49 : decode cX7_keep 49 = .ok (.putfield 26, 3) := by decide +kernel
theorem d_X7_keep_52 : decode cX7_keep 52 = .ok (.return_, 1) := by decide +kernel
noncomputable def F_X7_keep_28 (t : Nat) (M : zMem) : Option (zMem) :=
  some M
noncomputable def F_X7_keep (M : zMem) (t : Nat) : Option (zMem) :=
  if (M.1 t 1) < 0 then
    F_X7_keep_28 t M
  else
    if (16 : Int32) ≤ (M.1 t 1) then
      F_X7_keep_28 t M
    else
      gin (M.1 t 1) 16 <|
      zbv (F_X4_copyFrom M ((t + 6) + (1 + 5 * (M.1 t 1).toNatClampNeg)) (t + 1)) fun M2 =>
      zl (zI M2 t 1 ((M2.1 t 1) + (1 : Int32))) fun M3 =>
      some M3
def rm_X7_keep : Room := { frames := 3, cells := 0, slots := 0, locals := 101 }
set_option maxHeartbeats 4000000 in
set_option maxRecDepth 100000 in
theorem c_X7_keep (l : Launch) {G : zG} {ad : Nat → Nat} {n : Nat} (hA : zInj ad n) (M : zMem) (t : Nat) (hT_t : zT shX n t 8) {M9 : zMem} (hF : F_X7_keep M t = some M9) : zM l yX7_keep cX7_keep 2 none rm_X7_keep G shX ad n M [.ref (ad t)] none M9 := by
  refine zM_of hA (by decide +kernel) (lv := [(0, .ref (ad t))]) (Nat.le_of_ble_eq_true rfl) rfl (fun p e s m args below meth c A cx hr => ?_)
  have hb28 : ∀ (M : zMem), F_X7_keep_28 t M = some M9 → zJ p l e rm_X7_keep s m args below meth c G shX ad n A 2 (MQ below (zQ G shX ad n M9 none A) args s 0 0 A) 0 0 M 28 [(0, .ref (ad t))] [] := by
    intro M hF
    unfold F_X7_keep_28 at hF
    refine z_null cx d_X7_keep_28 ?_
    refine z_astore_nN cx 1 [(1, .null), (0, .ref (ad t))] d_X7_keep_29 rfl (by decide) rfl ?_
    refine z_aload_nN cx d_X7_keep_30 0 rfl ?_
    refine z_ifnullN cx 52 d_X7_keep_31 (by decide) ?_
    exact z_vret cx hr hF d_X7_keep_52
  unfold F_X7_keep at hF
  refine z_aload_n cx d_X7_keep_0 0 rfl ?_
  refine z_getI cx hT_t fg_Stand_26 d_X7_keep_1 ?_
  refine z_if_lt cx 28 d_X7_keep_4 (by decide) hF (fun hF => ?_) (fun hF => ?_)
  · exact hb28 M hF
  refine z_aload_n cx d_X7_keep_7 0 rfl ?_
  refine z_getI cx hT_t fg_Stand_26 d_X7_keep_8 ?_
  refine z_bipush (v := 16) cx d_X7_keep_11 kb_16 ?_
  refine z_icmp_ge cx 28 d_X7_keep_13 (by decide) hF (fun hF => ?_) (fun hF => ?_)
  · exact hb28 M hF
  refine z_aload_n cx d_X7_keep_16 0 rfl ?_
  refine z_getR cx hT_t fg_Stand_18 (t + 6) rfl d_X7_keep_17 ?_
  refine z_aload_n cx d_X7_keep_20 0 rfl ?_
  refine z_getI cx hT_t fg_Stand_26 d_X7_keep_21 ?_
  obtain ⟨hi1, hF⟩ := gin_inv hF
  refine z_aald cx (tfX_8_6 hT_t) za_19 hi1 ((t + 6) + (1 + 5 * (M.1 t 1).toNatClampNeg)) rfl d_X7_keep_24 ?_
  refine z_goto cx 29 d_X7_keep_25 (by decide) ?_
  refine z_astore_n cx 1 [(1, .ref (ad ((t + 6) + (1 + 5 * (M.1 t 1).toNatClampNeg)))), (0, .ref (ad t))] d_X7_keep_29 rfl (by decide) rfl ?_
  refine z_aload_n cx d_X7_keep_30 0 rfl ?_
  refine z_ifnull cx d_X7_keep_31 ?_
  refine z_aload_n cx d_X7_keep_34 0 rfl ?_
  refine z_aload_n cx d_X7_keep_35 1 rfl ?_
  refine z_getR cx hT_t fg_Stand_12 (t + 1) rfl d_X7_keep_36 ?_
  obtain ⟨M2, hc, hF⟩ := zbv_inv hF
  refine z_callV cx (As := [.ref (ad (t + 1))]) (rest := []) (c_X4_copyFrom l cx.2.2.2.1.1 M ((t + 6) + (1 + 5 * (M.1 t 1).toNatClampNeg)) (t + 1) (teX_19 (tfX_8_6 hT_t) hi1) (tfX_8_1 hT_t) hc) (teX_19 (tfX_8_6 hT_t) hi1) zo_5 cv_Stand_30 ⟨rfl, rfl, Nat.le_of_ble_eq_true rfl, Nat.le_of_ble_eq_true rfl⟩ rfl rfl ⟨Nat.zero_le _, Nat.zero_le _⟩ (Nat.le_of_ble_eq_true rfl) d_X7_keep_39 ?_
  refine z_aload_n cx d_X7_keep_42 1 rfl ?_
  refine z_dup cx d_X7_keep_43 rfl ?_
  refine z_getI cx hT_t fg_Stand_26 d_X7_keep_44 ?_
  refine z_iconst (v := 1) cx d_X7_keep_47 ki_1 ?_
  refine z_iadd cx d_X7_keep_48 ?_
  refine z_putI cx hT_t fp_Stand_26 d_X7_keep_49 ?_
  refine z_nmM hF (fun M3 hF => ?_)
  exact z_vret cx hr hF d_X7_keep_52
/-! SunnyPans$Stand.takeBack -/
theorem d_X7_takeBack_0 : decode cX7_takeBack 0 = .ok (.aload_n 0, 1) := by decide +kernel
theorem d_X7_takeBack_1 : decode cX7_takeBack 1 = .ok (.getfield 26, 3) := by decide +kernel
theorem d_X7_takeBack_4 : decode cX7_takeBack 4 = .ok (.ifCond .le 26, 3) := by decide +kernel
theorem d_X7_takeBack_7 : decode cX7_takeBack 7 = .ok (.aload_n 0, 1) := by decide +kernel
theorem d_X7_takeBack_8 : decode cX7_takeBack 8 = .ok (.getfield 26, 3) := by decide +kernel
theorem d_X7_takeBack_11 : decode cX7_takeBack 11 = .ok (.bipush 16, 2) := by decide +kernel
theorem d_X7_takeBack_13 : decode cX7_takeBack 13 = .ok (.if_icmp .gt 17, 3) := by decide +kernel
theorem d_X7_takeBack_16 : decode cX7_takeBack 16 = .ok (.aload_n 0, 1) := by decide +kernel
theorem d_X7_takeBack_17 : decode cX7_takeBack 17 = .ok (.getfield 18, 3) := by decide +kernel
theorem d_X7_takeBack_20 : decode cX7_takeBack 20 = .ok (.aload_n 0, 1) := by decide +kernel
theorem d_X7_takeBack_21 : decode cX7_takeBack 21 = .ok (.getfield 26, 3) := by decide +kernel
theorem d_X7_takeBack_24 : decode cX7_takeBack 24 = .ok (.iconst 1, 1) := by decide +kernel
theorem d_X7_takeBack_25 : decode cX7_takeBack 25 = .ok (.isub, 1) := by decide +kernel
theorem d_X7_takeBack_26 : decode cX7_takeBack 26 = .ok (.aaload, 1) := by decide +kernel
theorem d_X7_takeBack_27 : decode cX7_takeBack 27 = .ok (.goto 4, 3) := by decide +kernel
theorem d_X7_takeBack_30 : decode cX7_takeBack 30 = .ok (.aconst_null, 1) := by decide +kernel
theorem d_X7_takeBack_31 : decode cX7_takeBack 31 = .ok (.astore_n 1, 1) := by decide +kernel
theorem d_X7_takeBack_32 : decode cX7_takeBack 32 = .ok (.aload_n 1, 1) := by decide +kernel
theorem d_X7_takeBack_33 : decode cX7_takeBack 33 = .ok (.ifnonnull 5, 3) := by decide +kernel
theorem d_X7_takeBack_36 : decode cX7_takeBack 36 = .ok (.iconst 0, 1) := by decide +kernel
theorem d_X7_takeBack_37 : decode cX7_takeBack 37 = .ok (.ireturn, 1) := by decide +kernel
theorem d_X7_takeBack_38 : decode cX7_takeBack 38 = .ok (.aload_n 0, 1) := by decide +kernel
theorem d_X7_takeBack_39 : decode cX7_takeBack 39 = .ok (.getfield 12, 3) := by decide +kernel
theorem d_X7_takeBack_42 : decode cX7_takeBack 42 = .ok (.aload_n 1, 1) := by decide +kernel
theorem d_X7_takeBack_43 : decode cX7_takeBack 43 = .ok (.invokevirtual 30, 3) := by decide +kernel
theorem d_X7_takeBack_46 : decode cX7_takeBack 46 = .ok (.aload_n 0, 1) := by decide +kernel
theorem d_X7_takeBack_47 : decode cX7_takeBack 47 = .ok (.dup, 1) := by decide +kernel
theorem d_X7_takeBack_48 : decode cX7_takeBack 48 = .ok (.getfield 26, 3) := by decide +kernel
theorem d_X7_takeBack_51 : decode cX7_takeBack 51 = .ok (.iconst 1, 1) := by decide +kernel
theorem d_X7_takeBack_52 : decode cX7_takeBack 52 = .ok (.isub, 1) := by decide +kernel
theorem d_X7_takeBack_53 : decode cX7_takeBack 53 = .ok (.putfield 26, 3) := by decide +kernel
theorem d_X7_takeBack_56 : decode cX7_takeBack 56 = .ok (.iconst 1, 1) := by decide +kernel
theorem d_X7_takeBack_57 : decode cX7_takeBack 57 = .ok (.ireturn, 1) := by decide +kernel
noncomputable def F_X7_takeBack_30 (t : Nat) (M : zMem) : Option (Int32 × zMem) :=
  some ((0 : Int32), M)
noncomputable def F_X7_takeBack (M : zMem) (t : Nat) : Option (Int32 × zMem) :=
  if (M.1 t 1) ≤ 0 then
    F_X7_takeBack_30 t M
  else
    if (16 : Int32) < (M.1 t 1) then
      F_X7_takeBack_30 t M
    else
      gin ((M.1 t 1) - (1 : Int32)) 16 <|
      zbv (F_X4_copyFrom M (t + 1) ((t + 6) + (1 + 5 * ((M.1 t 1) - (1 : Int32)).toNatClampNeg))) fun M2 =>
      zl (zI M2 t 1 ((M2.1 t 1) - (1 : Int32))) fun M3 =>
      some ((1 : Int32), M3)
def rm_X7_takeBack : Room := { frames := 3, cells := 0, slots := 0, locals := 101 }
set_option maxHeartbeats 4000000 in
set_option maxRecDepth 100000 in
theorem c_X7_takeBack (l : Launch) {G : zG} {ad : Nat → Nat} {n : Nat} (hA : zInj ad n) (M : zMem) (t : Nat) (hT_t : zT shX n t 8) {r9 : Int32} {M9 : zMem} (hF : F_X7_takeBack M t = some (r9, M9)) : zM l yX7_takeBack cX7_takeBack 2 (some .boolean) rm_X7_takeBack G shX ad n M [.ref (ad t)] (some (.int r9)) M9 := by
  refine zM_of hA (by decide +kernel) (lv := [(0, .ref (ad t))]) (Nat.le_of_ble_eq_true rfl) rfl (fun p e s m args below meth c A cx hr => ?_)
  have hb30 : ∀ (M : zMem), F_X7_takeBack_30 t M = some (r9, M9) → zJ p l e rm_X7_takeBack s m args below meth c G shX ad n A 2 (MQ below (zQ G shX ad n M9 (some (.int r9)) A) args s 0 0 A) 0 0 M 30 [(0, .ref (ad t))] [] := by
    intro M hF
    unfold F_X7_takeBack_30 at hF
    refine z_null cx d_X7_takeBack_30 ?_
    refine z_astore_nN cx 1 [(1, .null), (0, .ref (ad t))] d_X7_takeBack_31 rfl (by decide) rfl ?_
    refine z_aload_nN cx d_X7_takeBack_32 0 rfl ?_
    refine z_ifnonnullN cx d_X7_takeBack_33 ?_
    refine z_iconst (v := 0) cx d_X7_takeBack_36 ki_0 ?_
    exact z_iret cx hr nb0 hF d_X7_takeBack_37
  unfold F_X7_takeBack at hF
  refine z_aload_n cx d_X7_takeBack_0 0 rfl ?_
  refine z_getI cx hT_t fg_Stand_26 d_X7_takeBack_1 ?_
  refine z_if_le cx 30 d_X7_takeBack_4 (by decide) hF (fun hF => ?_) (fun hF => ?_)
  · exact hb30 M hF
  refine z_aload_n cx d_X7_takeBack_7 0 rfl ?_
  refine z_getI cx hT_t fg_Stand_26 d_X7_takeBack_8 ?_
  refine z_bipush (v := 16) cx d_X7_takeBack_11 kb_16 ?_
  refine z_icmp_gt cx 30 d_X7_takeBack_13 (by decide) hF (fun hF => ?_) (fun hF => ?_)
  · exact hb30 M hF
  refine z_aload_n cx d_X7_takeBack_16 0 rfl ?_
  refine z_getR cx hT_t fg_Stand_18 (t + 6) rfl d_X7_takeBack_17 ?_
  refine z_aload_n cx d_X7_takeBack_20 0 rfl ?_
  refine z_getI cx hT_t fg_Stand_26 d_X7_takeBack_21 ?_
  refine z_iconst (v := 1) cx d_X7_takeBack_24 ki_1 ?_
  refine z_isub cx d_X7_takeBack_25 ?_
  obtain ⟨hi1, hF⟩ := gin_inv hF
  refine z_aald cx (tfX_8_6 hT_t) za_19 hi1 ((t + 6) + (1 + 5 * ((M.1 t 1) - (1 : Int32)).toNatClampNeg)) rfl d_X7_takeBack_26 ?_
  refine z_goto cx 31 d_X7_takeBack_27 (by decide) ?_
  refine z_astore_n cx 1 [(1, .ref (ad ((t + 6) + (1 + 5 * ((M.1 t 1) - (1 : Int32)).toNatClampNeg)))), (0, .ref (ad t))] d_X7_takeBack_31 rfl (by decide) rfl ?_
  refine z_aload_n cx d_X7_takeBack_32 0 rfl ?_
  refine z_ifnonnull cx 38 d_X7_takeBack_33 (by decide) ?_
  refine z_aload_n cx d_X7_takeBack_38 1 rfl ?_
  refine z_getR cx hT_t fg_Stand_12 (t + 1) rfl d_X7_takeBack_39 ?_
  refine z_aload_n cx d_X7_takeBack_42 0 rfl ?_
  obtain ⟨M2, hc, hF⟩ := zbv_inv hF
  refine z_callV cx (As := [.ref (ad ((t + 6) + (1 + 5 * ((M.1 t 1) - (1 : Int32)).toNatClampNeg)))]) (rest := []) (c_X4_copyFrom l cx.2.2.2.1.1 M (t + 1) ((t + 6) + (1 + 5 * ((M.1 t 1) - (1 : Int32)).toNatClampNeg)) (tfX_8_1 hT_t) (teX_19 (tfX_8_6 hT_t) hi1) hc) (tfX_8_1 hT_t) zo_5 cv_Stand_30 ⟨rfl, rfl, Nat.le_of_ble_eq_true rfl, Nat.le_of_ble_eq_true rfl⟩ rfl rfl ⟨Nat.zero_le _, Nat.zero_le _⟩ (Nat.le_of_ble_eq_true rfl) d_X7_takeBack_43 ?_
  refine z_aload_n cx d_X7_takeBack_46 1 rfl ?_
  refine z_dup cx d_X7_takeBack_47 rfl ?_
  refine z_getI cx hT_t fg_Stand_26 d_X7_takeBack_48 ?_
  refine z_iconst (v := 1) cx d_X7_takeBack_51 ki_1 ?_
  refine z_isub cx d_X7_takeBack_52 ?_
  refine z_putI cx hT_t fp_Stand_26 d_X7_takeBack_53 ?_
  refine z_nmM hF (fun M3 hF => ?_)
  refine z_iconst (v := 1) cx d_X7_takeBack_56 ki_1 ?_
  exact z_iret cx hr nb1 hF d_X7_takeBack_57
/-! SunnyPans$Stand.copyFrom -/
theorem d_X7_copyFrom_0 : decode cX7_copyFrom 0 = .ok (.aload_n 0, 1) := by decide +kernel
theorem d_X7_copyFrom_1 : decode cX7_copyFrom 1 = .ok (.getfield 12, 3) := by decide +kernel
theorem d_X7_copyFrom_4 : decode cX7_copyFrom 4 = .ok (.aload_n 1, 1) := by decide +kernel
theorem d_X7_copyFrom_5 : decode cX7_copyFrom 5 = .ok (.getfield 12, 3) := by decide +kernel
theorem d_X7_copyFrom_8 : decode cX7_copyFrom 8 = .ok (.invokevirtual 30, 3) := by decide +kernel
theorem d_X7_copyFrom_11 : decode cX7_copyFrom 11 = .ok (.aload_n 0, 1) := by decide +kernel
theorem d_X7_copyFrom_12 : decode cX7_copyFrom 12 = .ok (.aload_n 1, 1) := by decide +kernel
theorem d_X7_copyFrom_13 : decode cX7_copyFrom 13 = .ok (.getfield 26, 3) := by decide +kernel
theorem d_X7_copyFrom_16 : decode cX7_copyFrom 16 = .ok (.putfield 26, 3) := by decide +kernel
theorem d_X7_copyFrom_19 : decode cX7_copyFrom 19 = .ok (.iconst 0, 1) := by decide +kernel
theorem d_X7_copyFrom_20 : decode cX7_copyFrom 20 = .ok (.istore_n 2, 1) := by decide +kernel
theorem d_X7_copyFrom_21 : decode cX7_copyFrom 21 = .ok (.iload_n 2, 1) := by decide +kernel
theorem d_X7_copyFrom_22 : decode cX7_copyFrom 22 = .ok (.aload_n 0, 1) := by decide +kernel
theorem d_X7_copyFrom_23 : decode cX7_copyFrom 23 = .ok (.getfield 26, 3) := by decide +kernel
theorem d_X7_copyFrom_26 : decode cX7_copyFrom 26 = .ok (.if_icmp .ge 45, 3) := by decide +kernel
theorem d_X7_copyFrom_29 : decode cX7_copyFrom 29 = .ok (.iload_n 2, 1) := by decide +kernel
theorem d_X7_copyFrom_30 : decode cX7_copyFrom 30 = .ok (.bipush 16, 2) := by decide +kernel
theorem d_X7_copyFrom_32 : decode cX7_copyFrom 32 = .ok (.if_icmp .ge 39, 3) := by decide +kernel
theorem d_X7_copyFrom_35 : decode cX7_copyFrom 35 = .ok (.aload_n 0, 1) := by decide +kernel
theorem d_X7_copyFrom_36 : decode cX7_copyFrom 36 = .ok (.getfield 18, 3) := by decide +kernel
theorem d_X7_copyFrom_39 : decode cX7_copyFrom 39 = .ok (.iload_n 2, 1) := by decide +kernel
theorem d_X7_copyFrom_40 : decode cX7_copyFrom 40 = .ok (.aaload, 1) := by decide +kernel
theorem d_X7_copyFrom_41 : decode cX7_copyFrom 41 = .ok (.astore_n 3, 1) := by decide +kernel
theorem d_X7_copyFrom_42 : decode cX7_copyFrom 42 = .ok (.aload_n 1, 1) := by decide +kernel
theorem d_X7_copyFrom_43 : decode cX7_copyFrom 43 = .ok (.getfield 18, 3) := by decide +kernel
theorem d_X7_copyFrom_46 : decode cX7_copyFrom 46 = .ok (.iload_n 2, 1) := by decide +kernel
theorem d_X7_copyFrom_47 : decode cX7_copyFrom 47 = .ok (.aaload, 1) := by decide +kernel
theorem d_X7_copyFrom_48 : decode cX7_copyFrom 48 = .ok (.astore 4, 2) := by decide +kernel
theorem d_X7_copyFrom_50 : decode cX7_copyFrom 50 = .ok (.aload_n 3, 1) := by decide +kernel
theorem d_X7_copyFrom_51 : decode cX7_copyFrom 51 = .ok (.ifnull 14, 3) := by decide +kernel
theorem d_X7_copyFrom_54 : decode cX7_copyFrom 54 = .ok (.aload 4, 2) := by decide +kernel
theorem d_X7_copyFrom_56 : decode cX7_copyFrom 56 = .ok (.ifnull 9, 3) := by decide +kernel
theorem d_X7_copyFrom_59 : decode cX7_copyFrom 59 = .ok (.aload_n 3, 1) := by decide +kernel
theorem d_X7_copyFrom_60 : decode cX7_copyFrom 60 = .ok (.aload 4, 2) := by decide +kernel
theorem d_X7_copyFrom_62 : decode cX7_copyFrom 62 = .ok (.invokevirtual 30, 3) := by decide +kernel
theorem d_X7_copyFrom_65 : decode cX7_copyFrom 65 = .ok (.iinc 2 1, 3) := by decide +kernel
theorem d_X7_copyFrom_68 : decode cX7_copyFrom 68 = .ok (.goto (-47), 3) := by decide +kernel
theorem d_X7_copyFrom_71 : decode cX7_copyFrom 71 = .ok (.return_, 1) := by decide +kernel
noncomputable def F_X7_copyFrom_65 (t : Nat) (p0 : Nat) (self21 : Int32 → zMem → Option (zMem)) (b65_L2 : Int32) (M : zMem) : Option (zMem) :=
  self21 (b65_L2 + 1) M
noncomputable def F_X7_copyFrom_21 (t : Nat) (p0 : Nat) (self21 : Int32 → zMem → Option (zMem)) (b21_L2 : Int32) (M : zMem) : Option (zMem) :=
  if (M.1 t 1) ≤ b21_L2 then
    some M
  else
    if (16 : Int32) ≤ b21_L2 then
      some M
    else
      gin b21_L2 16 <|
      zbv (F_X4_copyFrom M ((t + 6) + (1 + 5 * b21_L2.toNatClampNeg)) ((p0 + 6) + (1 + 5 * b21_L2.toNatClampNeg))) fun M2 =>
      F_X7_copyFrom_65 t p0 self21 b21_L2 M2
noncomputable def F_X7_copyFrom (M : zMem) (t : Nat) (p0 : Nat) : Option (zMem) :=
  zbv (F_X4_copyFrom M (t + 1) (p0 + 1)) fun M3 =>
  zl (zI M3 t 1 (M3.1 p0 1)) fun M4 =>
  itF (fun _ _ => none) (F_X7_copyFrom_21 t p0) zFuel (0 : Int32) M4
def rm_X7_copyFrom : Room := { frames := 3, cells := 0, slots := 0, locals := 101 }
set_option maxHeartbeats 4000000 in
set_option maxRecDepth 100000 in
theorem c_X7_copyFrom (l : Launch) {G : zG} {ad : Nat → Nat} {n : Nat} (hA : zInj ad n) (M : zMem) (t : Nat) (p0 : Nat) (hT_t : zT shX n t 8) (hT_p0 : zT shX n p0 8) {M9 : zMem} (hF : F_X7_copyFrom M t p0 = some M9) : zM l yX7_copyFrom cX7_copyFrom 5 none rm_X7_copyFrom G shX ad n M [.ref (ad t), .ref (ad p0)] none M9 := by
  refine zM_of hA (by decide +kernel) (lv := [(0, .ref (ad t)), (1, .ref (ad p0))]) (Nat.le_of_ble_eq_true rfl) rfl (fun p e s m args below meth c A cx hr => ?_)
  have hb65 : ∀ (self21 : Int32 → zMem → Option (zMem)) (hs21 : ∀ (b21_L2 : Int32) (M : zMem), self21 b21_L2 M = some M9 → zJ p l e rm_X7_copyFrom s m args below meth c G shX ad n A 5 (MQ below (zQ G shX ad n M9 none A) args s 0 0 A) 0 0 M 21 [(0, .ref (ad t)), (1, .ref (ad p0)), (2, .int b21_L2)] []), ∀ (b65_L2 : Int32) (M : zMem), F_X7_copyFrom_65 t p0 self21 b65_L2 M = some M9 → zJ p l e rm_X7_copyFrom s m args below meth c G shX ad n A 5 (MQ below (zQ G shX ad n M9 none A) args s 0 0 A) 0 0 M 65 [(0, .ref (ad t)), (1, .ref (ad p0)), (2, .int b65_L2)] [] := by
    intro self21 hs21 b65_L2 M hF
    unfold F_X7_copyFrom_65 at hF
    refine z_iinc cx 2 1 [(2, .int (b65_L2 + 1)), (0, .ref (ad t)), (1, .ref (ad p0))] d_X7_copyFrom_65 2 rfl ki_1 (by decide) rfl ?_
    refine z_goto cx 21 d_X7_copyFrom_68 (by decide) ?_
    exact z_lv [1, 2, 0] _ rfl (hs21 (b65_L2 + 1) M hF)
  have hL21 : ∀ (fuel : Nat), ∀ (b21_L2 : Int32) (M : zMem), itF (fun _ _ => none) (F_X7_copyFrom_21 t p0) fuel b21_L2 M = some M9 → zJ p l e rm_X7_copyFrom s m args below meth c G shX ad n A 5 (MQ below (zQ G shX ad n M9 none A) args s 0 0 A) 0 0 M 21 [(0, .ref (ad t)), (1, .ref (ad p0)), (2, .int b21_L2)] [] := by
    intro fuel
    induction fuel with
    | zero => intro b21_L2 M hF; cases hF
    | succ fuel hs21 =>
      intro b21_L2 M hF
      have hF : F_X7_copyFrom_21 t p0 (itF (fun _ _ => none) (F_X7_copyFrom_21 t p0) fuel) b21_L2 M = some M9 := hF
      generalize itF (fun _ _ => none) (F_X7_copyFrom_21 t p0) fuel = self21 at hs21 hF
      unfold F_X7_copyFrom_21 at hF
      refine z_iload_n cx d_X7_copyFrom_21 2 rfl ?_
      refine z_aload_n cx d_X7_copyFrom_22 0 rfl ?_
      refine z_getI cx hT_t fg_Stand_26 d_X7_copyFrom_23 ?_
      refine z_icmp_ge cx 71 d_X7_copyFrom_26 (by decide) hF (fun hF => ?_) (fun hF => ?_)
      · exact z_vret cx hr hF d_X7_copyFrom_71
      refine z_iload_n cx d_X7_copyFrom_29 2 rfl ?_
      refine z_bipush (v := 16) cx d_X7_copyFrom_30 kb_16 ?_
      refine z_icmp_ge cx 71 d_X7_copyFrom_32 (by decide) hF (fun hF => ?_) (fun hF => ?_)
      · exact z_vret cx hr hF d_X7_copyFrom_71
      refine z_aload_n cx d_X7_copyFrom_35 0 rfl ?_
      refine z_getR cx hT_t fg_Stand_18 (t + 6) rfl d_X7_copyFrom_36 ?_
      refine z_iload_n cx d_X7_copyFrom_39 2 rfl ?_
      obtain ⟨hi1, hF⟩ := gin_inv hF
      refine z_aald cx (tfX_8_6 hT_t) za_19 hi1 ((t + 6) + (1 + 5 * b21_L2.toNatClampNeg)) rfl d_X7_copyFrom_40 ?_
      refine z_astore_n cx 3 [(3, .ref (ad ((t + 6) + (1 + 5 * b21_L2.toNatClampNeg)))), (0, .ref (ad t)), (1, .ref (ad p0)), (2, .int b21_L2)] d_X7_copyFrom_41 rfl (by decide) rfl ?_
      refine z_aload_n cx d_X7_copyFrom_42 2 rfl ?_
      refine z_getR cx hT_p0 fg_Stand_18 (p0 + 6) rfl d_X7_copyFrom_43 ?_
      refine z_iload_n cx d_X7_copyFrom_46 3 rfl ?_
      refine z_aald cx (tfX_8_6 hT_p0) za_19 hi1 ((p0 + 6) + (1 + 5 * b21_L2.toNatClampNeg)) rfl d_X7_copyFrom_47 ?_
      refine z_astore cx 4 [(4, .ref (ad ((p0 + 6) + (1 + 5 * b21_L2.toNatClampNeg)))), (3, .ref (ad ((t + 6) + (1 + 5 * b21_L2.toNatClampNeg)))), (0, .ref (ad t)), (1, .ref (ad p0)), (2, .int b21_L2)] d_X7_copyFrom_48 (by decide) rfl ?_
      refine z_aload_n cx d_X7_copyFrom_50 1 rfl ?_
      refine z_ifnull cx d_X7_copyFrom_51 ?_
      refine z_aload cx d_X7_copyFrom_54 0 rfl ?_
      refine z_ifnull cx d_X7_copyFrom_56 ?_
      refine z_aload_n cx d_X7_copyFrom_59 1 rfl ?_
      refine z_aload cx d_X7_copyFrom_60 0 rfl ?_
      obtain ⟨M2, hc, hF⟩ := zbv_inv hF
      refine z_callV cx (As := [.ref (ad ((p0 + 6) + (1 + 5 * b21_L2.toNatClampNeg)))]) (rest := []) (c_X4_copyFrom l cx.2.2.2.1.1 M ((t + 6) + (1 + 5 * b21_L2.toNatClampNeg)) ((p0 + 6) + (1 + 5 * b21_L2.toNatClampNeg)) (teX_19 (tfX_8_6 hT_t) hi1) (teX_19 (tfX_8_6 hT_p0) hi1) hc) (teX_19 (tfX_8_6 hT_t) hi1) zo_5 cv_Stand_30 ⟨rfl, rfl, Nat.le_of_ble_eq_true rfl, Nat.le_of_ble_eq_true rfl⟩ rfl rfl ⟨Nat.zero_le _, Nat.zero_le _⟩ (Nat.le_of_ble_eq_true rfl) d_X7_copyFrom_62 ?_
      exact z_lv [2, 3, 4] _ rfl (hb65 self21 hs21 b21_L2 M2 hF)
  unfold F_X7_copyFrom at hF
  refine z_aload_n cx d_X7_copyFrom_0 0 rfl ?_
  refine z_getR cx hT_t fg_Stand_12 (t + 1) rfl d_X7_copyFrom_1 ?_
  refine z_aload_n cx d_X7_copyFrom_4 1 rfl ?_
  refine z_getR cx hT_p0 fg_Stand_12 (p0 + 1) rfl d_X7_copyFrom_5 ?_
  obtain ⟨M3, hc, hF⟩ := zbv_inv hF
  refine z_callV cx (As := [.ref (ad (p0 + 1))]) (rest := []) (c_X4_copyFrom l cx.2.2.2.1.1 M (t + 1) (p0 + 1) (tfX_8_1 hT_t) (tfX_8_1 hT_p0) hc) (tfX_8_1 hT_t) zo_5 cv_Stand_30 ⟨rfl, rfl, Nat.le_of_ble_eq_true rfl, Nat.le_of_ble_eq_true rfl⟩ rfl rfl ⟨Nat.zero_le _, Nat.zero_le _⟩ (Nat.le_of_ble_eq_true rfl) d_X7_copyFrom_8 ?_
  refine z_aload_n cx d_X7_copyFrom_11 0 rfl ?_
  refine z_aload_n cx d_X7_copyFrom_12 1 rfl ?_
  refine z_getI cx hT_p0 fg_Stand_26 d_X7_copyFrom_13 ?_
  refine z_putI cx hT_t fp_Stand_26 d_X7_copyFrom_16 ?_
  refine z_nmM hF (fun M4 hF => ?_)
  refine z_iconst (v := 0) cx d_X7_copyFrom_19 ki_0 ?_
  refine z_istore_n cx 2 [(2, .int (0 : Int32)), (0, .ref (ad t)), (1, .ref (ad p0))] d_X7_copyFrom_20 rfl (by decide) rfl ?_
  exact z_lv [1, 2, 0] _ rfl (hL21 zFuel (0 : Int32) M4 hF)
/-! SunnyPans$Text.add -/
theorem ki_m8 : Int32.ofInt (-8) = (-8 : Int32) := by decide +kernel
set_option maxRecDepth 100000 in
theorem wd_140 : Cond.fieldLink "SunnyPans$Text" 19 "SunnyPans$Text" "size" "I" ∈ tbG := tw1 40 rfl rfl
theorem fg_Text_19 : zGetI "SunnyPans$Text" 19 8 9 1 := ⟨RX8, TX8, 8, rfl, by decide, uw_8, wd_140, fun _ _ _ _ _ _ => ⟨_, rfl, rfl⟩⟩
theorem fp_Text_19 : zPutI "SunnyPans$Text" 19 8 9 1 := ⟨zc_8, fg_Text_19, ⟨RX8, TX8, 8, rfl, rfl, by decide +kernel⟩, fun _ _ _ _ _ _ _ => ⟨_, rfl, Nat.le_of_ble_eq_true rfl, rfl⟩⟩
theorem kb_24 : (Int8.ofInt (24)).toInt32 = (24 : Int32) := by decide +kernel
theorem d_X8_add_0 : decode cX8_add 0 = .ok (.bipush 24, 2) := by decide +kernel
theorem d_X8_add_2 : decode cX8_add 2 = .ok (.istore_n 2, 1) := by decide +kernel
theorem d_X8_add_3 : decode cX8_add 3 = .ok (.iload_n 2, 1) := by decide +kernel
theorem d_X8_add_4 : decode cX8_add 4 = .ok (.ifCond .lt 47, 3) := by decide +kernel
theorem d_X8_add_7 : decode cX8_add 7 = .ok (.aload_n 0, 1) := by decide +kernel
theorem d_X8_add_8 : decode cX8_add 8 = .ok (.getfield 19, 3) := by decide +kernel
theorem d_X8_add_11 : decode cX8_add 11 = .ok (.aload_n 0, 1) := by decide +kernel
theorem d_X8_add_12 : decode cX8_add 12 = .ok (.getfield 9, 3) := by decide +kernel
theorem d_X8_add_15 : decode cX8_add 15 = .ok (.arraylength, 1) := by decide +kernel
theorem d_X8_add_16 : decode cX8_add 16 = .ok (.if_icmp .ge 29, 3) := by decide +kernel
theorem d_X8_add_19 : decode cX8_add 19 = .ok (.aload_n 0, 1) := by decide +kernel
theorem d_X8_add_20 : decode cX8_add 20 = .ok (.getfield 9, 3) := by decide +kernel
theorem d_X8_add_23 : decode cX8_add 23 = .ok (.aload_n 0, 1) := by decide +kernel
theorem d_X8_add_24 : decode cX8_add 24 = .ok (.getfield 19, 3) := by decide +kernel
theorem d_X8_add_27 : decode cX8_add 27 = .ok (.iload_n 1, 1) := by decide +kernel
theorem d_X8_add_28 : decode cX8_add 28 = .ok (.iload_n 2, 1) := by decide +kernel
theorem d_X8_add_29 : decode cX8_add 29 = .ok (.iushr, 1) := by decide +kernel
theorem d_X8_add_30 : decode cX8_add 30 = .ok (.sipush 255, 3) := by decide +kernel
theorem d_X8_add_33 : decode cX8_add 33 = .ok (.iand, 1) := by decide +kernel
theorem d_X8_add_34 : decode cX8_add 34 = .ok (.iastore, 1) := by decide +kernel
theorem d_X8_add_35 : decode cX8_add 35 = .ok (.aload_n 0, 1) := by decide +kernel
theorem d_X8_add_36 : decode cX8_add 36 = .ok (.dup, 1) := by decide +kernel
theorem d_X8_add_37 : decode cX8_add 37 = .ok (.getfield 19, 3) := by decide +kernel
theorem d_X8_add_40 : decode cX8_add 40 = .ok (.iconst 1, 1) := by decide +kernel
theorem d_X8_add_41 : decode cX8_add 41 = .ok (.iadd, 1) := by decide +kernel
theorem d_X8_add_42 : decode cX8_add 42 = .ok (.putfield 19, 3) := by decide +kernel
theorem d_X8_add_45 : decode cX8_add 45 = .ok (.iinc 2 (-8), 3) := by decide +kernel
theorem d_X8_add_48 : decode cX8_add 48 = .ok (.goto (-45), 3) := by decide +kernel
theorem d_X8_add_51 : decode cX8_add 51 = .ok (.return_, 1) := by decide +kernel
noncomputable def F_X8_add_45 (t : Nat) (p0 : Int32) (self3 : Int32 → Int32 → zMem → Option (zMem)) (b45_L1 : Int32) (b45_L2 : Int32) (M : zMem) : Option (zMem) :=
  self3 b45_L1 (b45_L2 + (-8)) M
noncomputable def F_X8_add_3 (t : Nat) (p0 : Int32) (self3 : Int32 → Int32 → zMem → Option (zMem)) (b3_L1 : Int32) (b3_L2 : Int32) (M : zMem) : Option (zMem) :=
  if b3_L2 < 0 then
    some M
  else
    if (nI 600) ≤ (M.1 t 1) then
      F_X8_add_45 t p0 self3 b3_L1 b3_L2 M
    else
      gin (M.1 t 1) 600 <|
      zl (zI M (t + 1) ((M.1 t 1).toNatClampNeg) ((b3_L1.toUInt32 >>> (b3_L2.toUInt32 &&& Int32.toUInt32 31)).toInt32 &&& (255 : Int32))) fun M2 =>
      zl (zI M2 t 1 ((M2.1 t 1) + (1 : Int32))) fun M3 =>
      F_X8_add_45 t p0 self3 b3_L1 b3_L2 M3
noncomputable def F_X8_add (M : zMem) (t : Nat) (p0 : Int32) : Option (zMem) :=
  itF (fun _ _ _ => none) (F_X8_add_3 t p0) zFuel p0 (24 : Int32) M
def rm_X8_add : Room := { frames := 2, cells := 0, slots := 0, locals := 80 }
set_option maxHeartbeats 4000000 in
set_option maxRecDepth 100000 in
theorem c_X8_add (l : Launch) {G : zG} {ad : Nat → Nat} {n : Nat} (hA : zInj ad n) (M : zMem) (t : Nat) (p0 : Int32) (hT_t : zT shX n t 9) {M9 : zMem} (hF : F_X8_add M t p0 = some M9) : zM l yX8_add cX8_add 3 none rm_X8_add G shX ad n M [.ref (ad t), .int p0] none M9 := by
  refine zM_of hA (by decide +kernel) (lv := [(0, .ref (ad t)), (1, .int p0)]) (Nat.le_of_ble_eq_true rfl) rfl (fun p e s m args below meth c A cx hr => ?_)
  have hb45 : ∀ (self3 : Int32 → Int32 → zMem → Option (zMem)) (hs3 : ∀ (b3_L1 : Int32) (b3_L2 : Int32) (M : zMem), self3 b3_L1 b3_L2 M = some M9 → zJ p l e rm_X8_add s m args below meth c G shX ad n A 3 (MQ below (zQ G shX ad n M9 none A) args s 0 0 A) 0 0 M 3 [(0, .ref (ad t)), (1, .int b3_L1), (2, .int b3_L2)] []), ∀ (b45_L1 : Int32) (b45_L2 : Int32) (M : zMem), F_X8_add_45 t p0 self3 b45_L1 b45_L2 M = some M9 → zJ p l e rm_X8_add s m args below meth c G shX ad n A 3 (MQ below (zQ G shX ad n M9 none A) args s 0 0 A) 0 0 M 45 [(0, .ref (ad t)), (1, .int b45_L1), (2, .int b45_L2)] [] := by
    intro self3 hs3 b45_L1 b45_L2 M hF
    unfold F_X8_add_45 at hF
    refine z_iinc cx 2 (-8) [(2, .int (b45_L2 + (-8))), (0, .ref (ad t)), (1, .int b45_L1)] d_X8_add_45 2 rfl ki_m8 (by decide) rfl ?_
    refine z_goto cx 3 d_X8_add_48 (by decide) ?_
    exact z_lv [1, 2, 0] _ rfl (hs3 b45_L1 (b45_L2 + (-8)) M hF)
  have hL3 : ∀ (fuel : Nat), ∀ (b3_L1 : Int32) (b3_L2 : Int32) (M : zMem), itF (fun _ _ _ => none) (F_X8_add_3 t p0) fuel b3_L1 b3_L2 M = some M9 → zJ p l e rm_X8_add s m args below meth c G shX ad n A 3 (MQ below (zQ G shX ad n M9 none A) args s 0 0 A) 0 0 M 3 [(0, .ref (ad t)), (1, .int b3_L1), (2, .int b3_L2)] [] := by
    intro fuel
    induction fuel with
    | zero => intro b3_L1 b3_L2 M hF; cases hF
    | succ fuel hs3 =>
      intro b3_L1 b3_L2 M hF
      have hF : F_X8_add_3 t p0 (itF (fun _ _ _ => none) (F_X8_add_3 t p0) fuel) b3_L1 b3_L2 M = some M9 := hF
      generalize itF (fun _ _ _ => none) (F_X8_add_3 t p0) fuel = self3 at hs3 hF
      unfold F_X8_add_3 at hF
      refine z_iload_n cx d_X8_add_3 2 rfl ?_
      refine z_if_lt cx 51 d_X8_add_4 (by decide) hF (fun hF => ?_) (fun hF => ?_)
      · exact z_vret cx hr hF d_X8_add_51
      refine z_aload_n cx d_X8_add_7 0 rfl ?_
      refine z_getI cx hT_t fg_Text_19 d_X8_add_8 ?_
      refine z_aload_n cx d_X8_add_11 0 rfl ?_
      refine z_getR cx hT_t fg_Text_9 (t + 1) rfl d_X8_add_12 ?_
      refine z_alenI cx (tfX_9_1 hT_t) za_17 d_X8_add_15 ?_
      refine z_icmp_ge cx 45 d_X8_add_16 (by decide) hF (fun hF => ?_) (fun hF => ?_)
      · exact hb45 self3 hs3 b3_L1 b3_L2 M hF
      refine z_aload_n cx d_X8_add_19 0 rfl ?_
      refine z_getR cx hT_t fg_Text_9 (t + 1) rfl d_X8_add_20 ?_
      refine z_aload_n cx d_X8_add_23 0 rfl ?_
      refine z_getI cx hT_t fg_Text_19 d_X8_add_24 ?_
      refine z_iload_n cx d_X8_add_27 1 rfl ?_
      refine z_iload_n cx d_X8_add_28 2 rfl ?_
      refine z_iushr cx d_X8_add_29 ?_
      refine z_sipush (v := 255) cx d_X8_add_30 ks_255 ?_
      refine z_iand cx d_X8_add_33 ?_
      obtain ⟨hi1, hF⟩ := gin_inv hF
      refine z_iast cx (tfX_9_1 hT_t) za_17 hi1 ((M.1 t 1).toNatClampNeg) rfl d_X8_add_34 ?_
      refine z_nmM hF (fun M2 hF => ?_)
      refine z_aload_n cx d_X8_add_35 0 rfl ?_
      refine z_dup cx d_X8_add_36 rfl ?_
      refine z_getI cx hT_t fg_Text_19 d_X8_add_37 ?_
      refine z_iconst (v := 1) cx d_X8_add_40 ki_1 ?_
      refine z_iadd cx d_X8_add_41 ?_
      refine z_putI cx hT_t fp_Text_19 d_X8_add_42 ?_
      refine z_nmM hF (fun M3 hF => ?_)
      exact hb45 self3 hs3 b3_L1 b3_L2 M3 hF
  unfold F_X8_add at hF
  refine z_bipush (v := 24) cx d_X8_add_0 kb_24 ?_
  refine z_istore_n cx 2 [(2, .int (24 : Int32)), (0, .ref (ad t)), (1, .int p0)] d_X8_add_2 rfl (by decide) rfl ?_
  exact z_lv [1, 2, 0] _ rfl (hL3 zFuel p0 (24 : Int32) M hF)
/-! SunnyPans$Text.open -/
set_option maxRecDepth 100000 in
theorem wd_604 : Cond.methodLink "SunnyPans$Text" 28 Lib.Math.max.name ∈ tbG := tw3 24 rfl rfl
theorem fp_Text_31 : zPutI "SunnyPans$Text" 31 8 9 6 := ⟨zc_8, fg_Text_31, ⟨RX8, TX8, 8, rfl, rfl, by decide +kernel⟩, fun _ _ _ _ _ _ _ => ⟨_, rfl, Nat.le_of_ble_eq_true rfl, rfl⟩⟩
theorem d_X8_open_0 : decode cX8_open 0 = .ok (.aload_n 0, 1) := by decide +kernel
theorem d_X8_open_1 : decode cX8_open 1 = .ok (.iconst 0, 1) := by decide +kernel
theorem d_X8_open_2 : decode cX8_open 2 = .ok (.iload_n 1, 1) := by decide +kernel
theorem d_X8_open_3 : decode cX8_open 3 = .ok (.aload_n 0, 1) := by decide +kernel
theorem d_X8_open_4 : decode cX8_open 4 = .ok (.getfield 9, 3) := by decide +kernel
theorem d_X8_open_7 : decode cX8_open 7 = .ok (.arraylength, 1) := by decide +kernel
theorem d_X8_open_8 : decode cX8_open 8 = .ok (.invokestatic 22, 3) := by decide +kernel
theorem d_X8_open_11 : decode cX8_open 11 = .ok (.invokestatic 28, 3) := by decide +kernel
theorem d_X8_open_14 : decode cX8_open 14 = .ok (.putfield 31, 3) := by decide +kernel
theorem d_X8_open_17 : decode cX8_open 17 = .ok (.aload_n 0, 1) := by decide +kernel
theorem d_X8_open_18 : decode cX8_open 18 = .ok (.iconst 0, 1) := by decide +kernel
theorem d_X8_open_19 : decode cX8_open 19 = .ok (.putfield 34, 3) := by decide +kernel
theorem d_X8_open_22 : decode cX8_open 22 = .ok (.aload_n 0, 1) := by decide +kernel
theorem d_X8_open_23 : decode cX8_open 23 = .ok (.iconst 0, 1) := by decide +kernel
theorem d_X8_open_24 : decode cX8_open 24 = .ok (.putfield 19, 3) := by decide +kernel
theorem d_X8_open_27 : decode cX8_open 27 = .ok (.aload_n 0, 1) := by decide +kernel
theorem d_X8_open_28 : decode cX8_open 28 = .ok (.iconst 0, 1) := by decide +kernel
theorem d_X8_open_29 : decode cX8_open 29 = .ok (.putfield 37, 3) := by decide +kernel
theorem d_X8_open_32 : decode cX8_open 32 = .ok (.aload_n 0, 1) := by decide +kernel
theorem d_X8_open_33 : decode cX8_open 33 = .ok (.iconst (-1), 1) := by decide +kernel
theorem d_X8_open_34 : decode cX8_open 34 = .ok (.putfield 15, 3) := by decide +kernel
theorem d_X8_open_37 : decode cX8_open 37 = .ok (.return_, 1) := by decide +kernel
noncomputable def F_X8_open (M : zMem) (t : Nat) (p0 : Int32) : Option (zMem) :=
  zl (zI M t 6 (zmax (0 : Int32) (zmin p0 (nI 600)))) fun M1 =>
  zl (zI M1 t 7 (0 : Int32)) fun M2 =>
  zl (zI M2 t 1 (0 : Int32)) fun M3 =>
  zl (zI M3 t 2 (0 : Int32)) fun M4 =>
  zl (zI M4 t 3 (-1 : Int32)) fun M5 =>
  some M5
def rm_X8_open : Room := { frames := 3, cells := 0, slots := 0, locals := 80 }
set_option maxHeartbeats 4000000 in
set_option maxRecDepth 100000 in
theorem c_X8_open (l : Launch) {G : zG} {ad : Nat → Nat} {n : Nat} (hA : zInj ad n) (M : zMem) (t : Nat) (p0 : Int32) (hT_t : zT shX n t 9) {M9 : zMem} (hF : F_X8_open M t p0 = some M9) : zM l yX8_open cX8_open 2 none rm_X8_open G shX ad n M [.ref (ad t), .int p0] none M9 := by
  refine zM_of hA (by decide +kernel) (lv := [(0, .ref (ad t)), (1, .int p0)]) (Nat.le_of_ble_eq_true rfl) rfl (fun p e s m args below meth c A cx hr => ?_)
  unfold F_X8_open at hF
  refine z_aload_n cx d_X8_open_0 0 rfl ?_
  refine z_iconst (v := 0) cx d_X8_open_1 ki_0 ?_
  refine z_iload_n cx d_X8_open_2 1 rfl ?_
  refine z_aload_n cx d_X8_open_3 0 rfl ?_
  refine z_getR cx hT_t fg_Text_9 (t + 1) rfl d_X8_open_4 ?_
  refine z_alenI cx (tfX_9_1 hT_t) za_17 d_X8_open_7 ?_
  refine z_mmin cx ⟨wd_601, wd_602, wd_116, wd_603⟩ ⟨Nat.le_of_ble_eq_true rfl, Nat.le_of_ble_eq_true rfl, Nat.le_of_ble_eq_true rfl, Nat.le_of_ble_eq_true rfl⟩ d_X8_open_8 ?_
  refine z_mmax cx ⟨wd_604, wd_605, wd_116, wd_606⟩ ⟨Nat.le_of_ble_eq_true rfl, Nat.le_of_ble_eq_true rfl, Nat.le_of_ble_eq_true rfl, Nat.le_of_ble_eq_true rfl⟩ d_X8_open_11 ?_
  refine z_putI cx hT_t fp_Text_31 d_X8_open_14 ?_
  refine z_nmM hF (fun M1 hF => ?_)
  refine z_aload_n cx d_X8_open_17 0 rfl ?_
  refine z_iconst (v := 0) cx d_X8_open_18 ki_0 ?_
  refine z_putI cx hT_t fp_Text_34 d_X8_open_19 ?_
  refine z_nmM hF (fun M2 hF => ?_)
  refine z_aload_n cx d_X8_open_22 0 rfl ?_
  refine z_iconst (v := 0) cx d_X8_open_23 ki_0 ?_
  refine z_putI cx hT_t fp_Text_19 d_X8_open_24 ?_
  refine z_nmM hF (fun M3 hF => ?_)
  refine z_aload_n cx d_X8_open_27 0 rfl ?_
  refine z_iconst (v := 0) cx d_X8_open_28 ki_0 ?_
  refine z_putI cx hT_t fp_Text_37 d_X8_open_29 ?_
  refine z_nmM hF (fun M4 hF => ?_)
  refine z_aload_n cx d_X8_open_32 0 rfl ?_
  refine z_iconst (v := -1) cx d_X8_open_33 ki_m1 ?_
  refine z_putI cx hT_t fp_Text_15 d_X8_open_34 ?_
  refine z_nmM hF (fun M5 hF => ?_)
  exact z_vret cx hr hF d_X8_open_37
/-! SunnyPans.feed -/
theorem tfX_10_1 {n k : Nat} (h : zT shX n k 10) : zT shX n (k + 1) 9 := zT_off h (shX_f (by decide) (by decide +kernel)) (by decide) (by decide)
set_option maxRecDepth 100000 in
theorem wd_409 : Cond.fieldLink "SunnyPans" 10 "SunnyPans" "tape" "LSunnyPans$Text;" ∈ tbG := tw2 69 rfl rfl
theorem uw_9 : ∀ w ∈ u_ws RX9 TX9 19, w ∈ tbG := zUW _ [428, 430, 432, 434, 436, 438, 440, 442, 444, 446, 448, 450, 452, 454, 456, 458, 460, 462, 464] (by decide +kernel) (by decide +kernel)
theorem fg_SunnyPans_10 : zGetR "SunnyPans" 10 9 10 0 1 := ⟨RX9, TX9, 19, rfl, by decide, uw_9, wd_409, fun _ _ _ _ _ _ => ⟨_, rfl, rfl⟩⟩
set_option maxRecDepth 100000 in
theorem wd_139 : Cond.fieldLink "SunnyPans" 89 "SunnyPans$Text" "size" "I" ∈ tbG := tw1 39 rfl rfl
theorem fg_SunnyPans_89 : zGetI "SunnyPans" 89 8 9 1 := ⟨RX8, TX8, 8, rfl, by decide, uw_8, wd_139, fun _ _ _ _ _ _ => ⟨_, rfl, rfl⟩⟩
theorem kb_20 : (Int8.ofInt (20)).toInt32 = (20 : Int32) := by decide +kernel
theorem ks_600 : (Int16.ofInt (600)).toInt32 = (600 : Int32) := by decide +kernel
set_option maxRecDepth 100000 in
theorem wd_474 : Cond.code yX8_add cX8_add 3 none ∈ tbG := tw2 134 rfl rfl
set_option maxRecDepth 100000 in
theorem wd_471 : Cond.methodLink "SunnyPans" 93 yX8_add ∈ tbG := tw2 131 rfl rfl
set_option maxRecDepth 100000 in
theorem wd_472 : Cond.instanceMethod yX8_add ∈ tbG := tw2 132 rfl rfl
set_option maxRecDepth 100000 in
theorem wd_473 : Cond.selects "SunnyPans$Text" yX8_add yX8_add ∈ tbG := tw2 133 rfl rfl
theorem cv_SunnyPans_93 : zCV "SunnyPans" 93 "SunnyPans$Text" yX8_add cX8_add 3 none 1 := zCV_of wd_471 wd_472 wd_473 wd_102 wd_474 (by decide +kernel)
theorem d_X9_feed_0 : decode cX9_feed 0 = .ok (.aload_n 0, 1) := by decide +kernel
theorem d_X9_feed_1 : decode cX9_feed 1 = .ok (.getfield 10, 3) := by decide +kernel
theorem d_X9_feed_4 : decode cX9_feed 4 = .ok (.getfield 89, 3) := by decide +kernel
theorem d_X9_feed_7 : decode cX9_feed 7 = .ok (.bipush 20, 2) := by decide +kernel
theorem d_X9_feed_9 : decode cX9_feed 9 = .ok (.iadd, 1) := by decide +kernel
theorem d_X9_feed_10 : decode cX9_feed 10 = .ok (.sipush 600, 3) := by decide +kernel
theorem d_X9_feed_13 : decode cX9_feed 13 = .ok (.if_icmp .le 5, 3) := by decide +kernel
theorem d_X9_feed_16 : decode cX9_feed 16 = .ok (.iconst (-1), 1) := by decide +kernel
theorem d_X9_feed_17 : decode cX9_feed 17 = .ok (.ireturn, 1) := by decide +kernel
theorem d_X9_feed_18 : decode cX9_feed 18 = .ok (.aload_n 0, 1) := by decide +kernel
theorem d_X9_feed_19 : decode cX9_feed 19 = .ok (.getfield 10, 3) := by decide +kernel
theorem d_X9_feed_22 : decode cX9_feed 22 = .ok (.iload_n 1, 1) := by decide +kernel
theorem d_X9_feed_23 : decode cX9_feed 23 = .ok (.invokevirtual 93, 3) := by decide +kernel
theorem d_X9_feed_26 : decode cX9_feed 26 = .ok (.aload_n 0, 1) := by decide +kernel
theorem d_X9_feed_27 : decode cX9_feed 27 = .ok (.getfield 10, 3) := by decide +kernel
theorem d_X9_feed_30 : decode cX9_feed 30 = .ok (.iload_n 2, 1) := by decide +kernel
theorem d_X9_feed_31 : decode cX9_feed 31 = .ok (.invokevirtual 93, 3) := by decide +kernel
theorem d_X9_feed_34 : decode cX9_feed 34 = .ok (.aload_n 0, 1) := by decide +kernel
theorem d_X9_feed_35 : decode cX9_feed 35 = .ok (.getfield 10, 3) := by decide +kernel
theorem d_X9_feed_38 : decode cX9_feed 38 = .ok (.iload_n 3, 1) := by decide +kernel
theorem d_X9_feed_39 : decode cX9_feed 39 = .ok (.invokevirtual 93, 3) := by decide +kernel
theorem d_X9_feed_42 : decode cX9_feed 42 = .ok (.aload_n 0, 1) := by decide +kernel
theorem d_X9_feed_43 : decode cX9_feed 43 = .ok (.getfield 10, 3) := by decide +kernel
theorem d_X9_feed_46 : decode cX9_feed 46 = .ok (.iload 4, 2) := by decide +kernel
theorem d_X9_feed_48 : decode cX9_feed 48 = .ok (.invokevirtual 93, 3) := by decide +kernel
theorem d_X9_feed_51 : decode cX9_feed 51 = .ok (.aload_n 0, 1) := by decide +kernel
theorem d_X9_feed_52 : decode cX9_feed 52 = .ok (.getfield 10, 3) := by decide +kernel
theorem d_X9_feed_55 : decode cX9_feed 55 = .ok (.iload 5, 2) := by decide +kernel
theorem d_X9_feed_57 : decode cX9_feed 57 = .ok (.invokevirtual 93, 3) := by decide +kernel
theorem d_X9_feed_60 : decode cX9_feed 60 = .ok (.aload_n 0, 1) := by decide +kernel
theorem d_X9_feed_61 : decode cX9_feed 61 = .ok (.getfield 10, 3) := by decide +kernel
theorem d_X9_feed_64 : decode cX9_feed 64 = .ok (.getfield 89, 3) := by decide +kernel
theorem d_X9_feed_67 : decode cX9_feed 67 = .ok (.ireturn, 1) := by decide +kernel
noncomputable def F_X9_feed (M : zMem) (p0 : Int32) (p1 : Int32) (p2 : Int32) (p3 : Int32) (p4 : Int32) : Option (Int32 × zMem) :=
  if ((M.1 1 1) + (20 : Int32)) ≤ (600 : Int32) then
    zbv (F_X8_add M 1 p0) fun M1 =>
    zbv (F_X8_add M1 1 p1) fun M2 =>
    zbv (F_X8_add M2 1 p2) fun M3 =>
    zbv (F_X8_add M3 1 p3) fun M4 =>
    zbv (F_X8_add M4 1 p4) fun M5 =>
    some ((M5.1 1 1), M5)
  else
    some ((-1 : Int32), M)
def rm_X9_feed : Room := { frames := 3, cells := 0, slots := 0, locals := 102 }
set_option maxHeartbeats 4000000 in
set_option maxRecDepth 100000 in
theorem c_X9_feed (l : Launch) {G : zG} {ad : Nat → Nat} {n : Nat} (hA : zInj ad n) (M : zMem) (p0 : Int32) (p1 : Int32) (p2 : Int32) (p3 : Int32) (p4 : Int32) (hT : zT shX n 0 10) {r9 : Int32} {M9 : zMem} (hF : F_X9_feed M p0 p1 p2 p3 p4 = some (r9, M9)) : zM l yX9_feed cX9_feed 6 (some .int) rm_X9_feed G shX ad n M [.ref (ad 0), .int p0, .int p1, .int p2, .int p3, .int p4] (some (.int r9)) M9 := by
  refine zM_of hA (by decide +kernel) (lv := [(0, .ref (ad 0)), (1, .int p0), (2, .int p1), (3, .int p2), (4, .int p3), (5, .int p4)]) (Nat.le_of_ble_eq_true rfl) rfl (fun p e s m args below meth c A cx hr => ?_)
  unfold F_X9_feed at hF
  refine z_aload_n cx d_X9_feed_0 0 rfl ?_
  refine z_getR cx hT fg_SunnyPans_10 1 rfl d_X9_feed_1 ?_
  refine z_getI cx (tfX_10_1 hT) fg_SunnyPans_89 d_X9_feed_4 ?_
  refine z_bipush (v := 20) cx d_X9_feed_7 kb_20 ?_
  refine z_iadd cx d_X9_feed_9 ?_
  refine z_sipush (v := 600) cx d_X9_feed_10 ks_600 ?_
  refine z_icmp_le cx 18 d_X9_feed_13 (by decide) hF (fun hF => ?_) (fun hF => ?_)
  · refine z_aload_n cx d_X9_feed_18 0 rfl ?_
    refine z_getR cx hT fg_SunnyPans_10 1 rfl d_X9_feed_19 ?_
    refine z_iload_n cx d_X9_feed_22 1 rfl ?_
    obtain ⟨M1, hc, hF⟩ := zbv_inv hF
    refine z_callV cx (As := [.int p0]) (rest := []) (c_X8_add l cx.2.2.2.1.1 M 1 p0 (tfX_10_1 hT) hc) (tfX_10_1 hT) zo_9 cv_SunnyPans_93 ⟨rfl, rfl, Nat.le_of_ble_eq_true rfl, Nat.le_of_ble_eq_true rfl⟩ rfl rfl ⟨Nat.zero_le _, Nat.zero_le _⟩ (Nat.le_of_ble_eq_true rfl) d_X9_feed_23 ?_
    refine z_aload_n cx d_X9_feed_26 0 rfl ?_
    refine z_getR cx hT fg_SunnyPans_10 1 rfl d_X9_feed_27 ?_
    refine z_iload_n cx d_X9_feed_30 2 rfl ?_
    obtain ⟨M2, hc, hF⟩ := zbv_inv hF
    refine z_callV cx (As := [.int p1]) (rest := []) (c_X8_add l cx.2.2.2.1.1 M1 1 p1 (tfX_10_1 hT) hc) (tfX_10_1 hT) zo_9 cv_SunnyPans_93 ⟨rfl, rfl, Nat.le_of_ble_eq_true rfl, Nat.le_of_ble_eq_true rfl⟩ rfl rfl ⟨Nat.zero_le _, Nat.zero_le _⟩ (Nat.le_of_ble_eq_true rfl) d_X9_feed_31 ?_
    refine z_aload_n cx d_X9_feed_34 0 rfl ?_
    refine z_getR cx hT fg_SunnyPans_10 1 rfl d_X9_feed_35 ?_
    refine z_iload_n cx d_X9_feed_38 3 rfl ?_
    obtain ⟨M3, hc, hF⟩ := zbv_inv hF
    refine z_callV cx (As := [.int p2]) (rest := []) (c_X8_add l cx.2.2.2.1.1 M2 1 p2 (tfX_10_1 hT) hc) (tfX_10_1 hT) zo_9 cv_SunnyPans_93 ⟨rfl, rfl, Nat.le_of_ble_eq_true rfl, Nat.le_of_ble_eq_true rfl⟩ rfl rfl ⟨Nat.zero_le _, Nat.zero_le _⟩ (Nat.le_of_ble_eq_true rfl) d_X9_feed_39 ?_
    refine z_aload_n cx d_X9_feed_42 0 rfl ?_
    refine z_getR cx hT fg_SunnyPans_10 1 rfl d_X9_feed_43 ?_
    refine z_iload cx d_X9_feed_46 4 rfl ?_
    obtain ⟨M4, hc, hF⟩ := zbv_inv hF
    refine z_callV cx (As := [.int p3]) (rest := []) (c_X8_add l cx.2.2.2.1.1 M3 1 p3 (tfX_10_1 hT) hc) (tfX_10_1 hT) zo_9 cv_SunnyPans_93 ⟨rfl, rfl, Nat.le_of_ble_eq_true rfl, Nat.le_of_ble_eq_true rfl⟩ rfl rfl ⟨Nat.zero_le _, Nat.zero_le _⟩ (Nat.le_of_ble_eq_true rfl) d_X9_feed_48 ?_
    refine z_aload_n cx d_X9_feed_51 0 rfl ?_
    refine z_getR cx hT fg_SunnyPans_10 1 rfl d_X9_feed_52 ?_
    refine z_iload cx d_X9_feed_55 5 rfl ?_
    obtain ⟨M5, hc, hF⟩ := zbv_inv hF
    refine z_callV cx (As := [.int p4]) (rest := []) (c_X8_add l cx.2.2.2.1.1 M4 1 p4 (tfX_10_1 hT) hc) (tfX_10_1 hT) zo_9 cv_SunnyPans_93 ⟨rfl, rfl, Nat.le_of_ble_eq_true rfl, Nat.le_of_ble_eq_true rfl⟩ rfl rfl ⟨Nat.zero_le _, Nat.zero_le _⟩ (Nat.le_of_ble_eq_true rfl) d_X9_feed_57 ?_
    refine z_aload_n cx d_X9_feed_60 0 rfl ?_
    refine z_getR cx hT fg_SunnyPans_10 1 rfl d_X9_feed_61 ?_
    refine z_getI cx (tfX_10_1 hT) fg_SunnyPans_89 d_X9_feed_64 ?_
    exact z_iret cx hr rfl hF d_X9_feed_67
  refine z_iconst (v := -1) cx d_X9_feed_16 ki_m1 ?_
  exact z_iret cx hr rfl hF d_X9_feed_17
/-! SunnyPans.need -/
set_option maxRecDepth 100000 in
theorem wd_426 : Cond.fieldLink "SunnyPans" 413 "SunnyPans" "refusedArguments" "I" ∈ tbG := tw2 86 rfl rfl
theorem fg_SunnyPans_413 : zGetI "SunnyPans" 413 9 10 17 := ⟨RX9, TX9, 19, rfl, by decide, uw_9, wd_426, fun _ _ _ _ _ _ => ⟨_, rfl, rfl⟩⟩
theorem zc_9 : zCls 9 := ⟨RX9, TX9, 19, tyX9, rfl, tyX9_ok, nmX9⟩
theorem fp_SunnyPans_413 : zPutI "SunnyPans" 413 9 10 17 := ⟨zc_9, fg_SunnyPans_413, ⟨RX9, TX9, 19, rfl, rfl, by decide +kernel⟩, fun _ _ _ _ _ _ _ => ⟨_, rfl, Nat.le_of_ble_eq_true rfl, rfl⟩⟩
theorem d_X9_need_0 : decode cX9_need 0 = .ok (.iload_n 1, 1) := by decide +kernel
theorem d_X9_need_1 : decode cX9_need 1 = .ok (.ifCond .ne 24, 3) := by decide +kernel
theorem d_X9_need_4 : decode cX9_need 4 = .ok (.aload_n 0, 1) := by decide +kernel
theorem d_X9_need_5 : decode cX9_need 5 = .ok (.dup, 1) := by decide +kernel
theorem d_X9_need_6 : decode cX9_need 6 = .ok (.getfield 413, 3) := by decide +kernel
theorem d_X9_need_9 : decode cX9_need 9 = .ok (.iconst 1, 1) := by decide +kernel
theorem d_X9_need_10 : decode cX9_need 10 = .ok (.iadd, 1) := by decide +kernel
theorem d_X9_need_11 : decode cX9_need 11 = .ok (.putfield 413, 3) := by decide +kernel
theorem d_X9_need_14 : decode cX9_need 14 = .ok (.new 416, 3) := by decide +kernel
theorem d_X9_need_17 : decode cX9_need 17 = .ok (.dup, 1) := by decide +kernel
theorem d_X9_need_18 : decode cX9_need 18 = .ok (.ldc_w 418, 3) := by decide +kernel
theorem d_X9_need_21 : decode cX9_need 21 = .ok (.invokespecial 420, 3) := by decide +kernel
theorem d_X9_need_24 : decode cX9_need 24 = .ok (.athrow, 1) := by decide +kernel
theorem d_X9_need_25 : decode cX9_need 25 = .ok (.return_, 1) := by decide +kernel
noncomputable def F_X9_need (M : zMem) (p0 : Int32) : Option (Nat × Int32 × zMem) :=
  if p0 = 0 then
    zl (zI M 0 17 ((M.1 0 17) + (1 : Int32))) fun M1 =>
    some (1, 0, M1)
  else
    some (0, 0, M)
def rm_X9_need : Room := { frames := 9, cells := 1, slots := 6, locals := 140 }
set_option maxHeartbeats 4000000 in
set_option maxRecDepth 100000 in
theorem c_X9_need (l : Launch) {G : zG} {ad : Nat → Nat} {n : Nat} (hA : zInj ad n) (M : zMem) (p0 : Int32) (hl : l.stackTraces = false) (hT : zT shX n 0 10) {k9 : Nat} {r9 : Int32} {M9 : zMem} (hF : F_X9_need M p0 = some (k9, r9, M9)) : zMX l yX9_need cX9_need 2 none rm_X9_need 1 6 G shX ad n M [.ref (ad 0), .int p0] k9 none M9 := by
  refine zM_ofX hA (by decide +kernel) (lv := [(0, .ref (ad 0)), (1, .int p0)]) (Nat.le_of_ble_eq_true rfl) rfl (fun p e s m args below meth c A cx hr ht => ?_)
  unfold F_X9_need at hF
  refine z_iload_n cx d_X9_need_0 1 rfl ?_
  refine z_if_ne cx 25 d_X9_need_1 (by decide) hF (fun hF => ?_) (fun hF => ?_)
  · exact z_vretX cx hr hF ⟨Nat.le_of_ble_eq_true rfl, Nat.le_of_ble_eq_true rfl⟩ d_X9_need_25
  refine z_aload_n cx d_X9_need_4 0 rfl ?_
  refine z_dup cx d_X9_need_5 rfl ?_
  refine z_getI cx hT fg_SunnyPans_413 d_X9_need_6 ?_
  refine z_iconst (v := 1) cx d_X9_need_9 ki_1 ?_
  refine z_iadd cx d_X9_need_10 ?_
  refine z_putI cx hT fp_SunnyPans_413 d_X9_need_11 ?_
  refine z_nmM hF (fun M1 hF => ?_)
  exact z_throwSW cx ht hl (i := 0) (names := ["java/lang/RuntimeException", "java/lang/Exception"]) 1 (by decide) hF (by decide +kernel) (by decide +kernel) (by decide) zThI zThI2 d_X9_need_14 d_X9_need_17 d_X9_need_18 d_X9_need_21 d_X9_need_24 (Nat.le_of_ble_eq_true rfl) (Nat.le_of_ble_eq_true rfl) ⟨Nat.le_of_ble_eq_true rfl, Nat.le_of_ble_eq_true rfl⟩ ⟨Nat.le_of_ble_eq_true rfl, Nat.le_of_ble_eq_true rfl⟩
/-! SunnyPans.needText -/
set_option maxRecDepth 100000 in
theorem wd_529 : Cond.code yX9_need cX9_need 2 none ∈ tbG := tw2 189 rfl rfl
set_option maxRecDepth 100000 in
theorem wd_526 : Cond.methodLink "SunnyPans" 155 yX9_need ∈ tbG := tw2 186 rfl rfl
set_option maxRecDepth 100000 in
theorem wd_528 : Cond.instanceMethod yX9_need ∈ tbG := tw2 188 rfl rfl
theorem wd_2 : Cond.selects "SunnyPans" yX9_need yX9_need ∈ tbG := tw 2 (by decide +kernel) rfl
theorem cv_SunnyPans_155 : zCV "SunnyPans" 155 "SunnyPans" yX9_need cX9_need 2 none 1 := zCV_of wd_526 wd_528 wd_2 wd_101 wd_529 (by decide +kernel)
theorem zo_10 : zObj "SunnyPans" 10 := ⟨9, (RX9, TX9, 19), rfl, rfl, fun _ _ _ _ _ _ => ⟨_, rfl⟩⟩
theorem d_X9_needText_0 : decode cX9_needText 0 = .ok (.aload_n 0, 1) := by decide +kernel
theorem d_X9_needText_1 : decode cX9_needText 1 = .ok (.iload_n 1, 1) := by decide +kernel
theorem d_X9_needText_2 : decode cX9_needText 2 = .ok (.ifCond .lt 23, 3) := by decide +kernel
theorem d_X9_needText_5 : decode cX9_needText 5 = .ok (.iload_n 1, 1) := by decide +kernel
theorem d_X9_needText_6 : decode cX9_needText 6 = .ok (.iload_n 2, 1) := by decide +kernel
theorem d_X9_needText_7 : decode cX9_needText 7 = .ok (.if_icmp .gt 18, 3) := by decide +kernel
theorem d_X9_needText_10 : decode cX9_needText 10 = .ok (.iload_n 1, 1) := by decide +kernel
theorem d_X9_needText_11 : decode cX9_needText 11 = .ok (.aload_n 0, 1) := by decide +kernel
theorem d_X9_needText_12 : decode cX9_needText 12 = .ok (.getfield 10, 3) := by decide +kernel
theorem d_X9_needText_15 : decode cX9_needText 15 = .ok (.getfield 89, 3) := by decide +kernel
theorem d_X9_needText_18 : decode cX9_needText 18 = .ok (.if_icmp .gt 7, 3) := by decide +kernel
theorem d_X9_needText_21 : decode cX9_needText 21 = .ok (.iconst 1, 1) := by decide +kernel
theorem d_X9_needText_22 : decode cX9_needText 22 = .ok (.goto 4, 3) := by decide +kernel
theorem d_X9_needText_25 : decode cX9_needText 25 = .ok (.iconst 0, 1) := by decide +kernel
theorem d_X9_needText_26 : decode cX9_needText 26 = .ok (.invokevirtual 155, 3) := by decide +kernel
theorem d_X9_needText_29 : decode cX9_needText 29 = .ok (.return_, 1) := by decide +kernel
noncomputable def F_X9_needText_26 (p0 : Int32) (p1 : Int32) (b26_S1 : Int32) (M : zMem) : Option (Nat × Int32 × zMem) :=
  zbx (F_X9_need M b26_S1) (g := zxp) fun _ M1 =>
  some (0, 0, M1)
noncomputable def F_X9_needText_25 (p0 : Int32) (p1 : Int32) (M : zMem) : Option (Nat × Int32 × zMem) :=
  F_X9_needText_26 p0 p1 (0 : Int32) M
noncomputable def F_X9_needText (M : zMem) (p0 : Int32) (p1 : Int32) : Option (Nat × Int32 × zMem) :=
  if p0 < 0 then
    F_X9_needText_25 p0 p1 M
  else
    if p1 < p0 then
      F_X9_needText_25 p0 p1 M
    else
      if (M.1 1 1) < p0 then
        F_X9_needText_25 p0 p1 M
      else
        F_X9_needText_26 p0 p1 (1 : Int32) M
def rm_X9_needText : Room := { frames := 10, cells := 1, slots := 6, locals := 161 }
set_option maxHeartbeats 4000000 in
set_option maxRecDepth 100000 in
theorem c_X9_needText (l : Launch) {G : zG} {ad : Nat → Nat} {n : Nat} (hA : zInj ad n) (M : zMem) (p0 : Int32) (p1 : Int32) (hl : l.stackTraces = false) (hT : zT shX n 0 10) {k9 : Nat} {r9 : Int32} {M9 : zMem} (hF : F_X9_needText M p0 p1 = some (k9, r9, M9)) : zMX l yX9_needText cX9_needText 3 none rm_X9_needText 1 6 G shX ad n M [.ref (ad 0), .int p0, .int p1] k9 none M9 := by
  refine zM_ofX hA (by decide +kernel) (lv := [(0, .ref (ad 0)), (1, .int p0), (2, .int p1)]) (Nat.le_of_ble_eq_true rfl) rfl (fun p e s m args below meth c A cx hr ht => ?_)
  have hb26 : ∀ (b26_S1 : Int32) (M : zMem), F_X9_needText_26 p0 p1 b26_S1 M = some (k9, r9, M9) → zJ p l e rm_X9_needText s m args below meth c G shX ad n A 3 (vx_MQ below (zQX G shX ad n M9 k9 none A) (zXC G shX ad n M9 k9 A) args s 1 6 A) 0 0 M 26 [] [.int b26_S1, .ref (ad 0)] := by
    intro b26_S1 M hF
    unfold F_X9_needText_26 at hF
    obtain ⟨k2, v3, M1, hc, hF, hX4⟩ := zbx_inv hF
    refine z_callVX cx ht (As := [.int b26_S1]) (rest := []) (c_X9_need l cx.2.2.2.1.1 M b26_S1 hl hT hc) (fun q => zxp_inv (hX4 q)) hT zo_10 cv_SunnyPans_155 ⟨rfl, rfl, Nat.le_of_ble_eq_true rfl, Nat.le_of_ble_eq_true rfl⟩ rfl rfl ⟨Nat.le_of_ble_eq_true rfl, Nat.le_of_ble_eq_true rfl⟩ ⟨Nat.le_of_ble_eq_true rfl, Nat.le_of_ble_eq_true rfl⟩ (Nat.le_of_ble_eq_true rfl) d_X9_needText_26 (fun kq5 => ?_)
    have hF := hF kq5
    exact z_vretX cx hr hF ⟨Nat.le_of_ble_eq_true rfl, Nat.le_of_ble_eq_true rfl⟩ d_X9_needText_29
  have hb25 : ∀ (M : zMem), F_X9_needText_25 p0 p1 M = some (k9, r9, M9) → zJ p l e rm_X9_needText s m args below meth c G shX ad n A 3 (vx_MQ below (zQX G shX ad n M9 k9 none A) (zXC G shX ad n M9 k9 A) args s 1 6 A) 0 0 M 25 [] [.ref (ad 0)] := by
    intro M hF
    unfold F_X9_needText_25 at hF
    refine z_iconst (v := 0) cx d_X9_needText_25 ki_0 ?_
    exact hb26 (0 : Int32) M hF
  unfold F_X9_needText at hF
  refine z_aload_n cx d_X9_needText_0 0 rfl ?_
  refine z_iload_n cx d_X9_needText_1 1 rfl ?_
  refine z_if_lt cx 25 d_X9_needText_2 (by decide) hF (fun hF => ?_) (fun hF => ?_)
  · exact z_lv [] _ rfl (hb25 M hF)
  refine z_iload_n cx d_X9_needText_5 1 rfl ?_
  refine z_iload_n cx d_X9_needText_6 2 rfl ?_
  refine z_icmp_gt cx 25 d_X9_needText_7 (by decide) hF (fun hF => ?_) (fun hF => ?_)
  · exact z_lv [] _ rfl (hb25 M hF)
  refine z_iload_n cx d_X9_needText_10 1 rfl ?_
  refine z_aload_n cx d_X9_needText_11 0 rfl ?_
  refine z_getR cx hT fg_SunnyPans_10 1 rfl d_X9_needText_12 ?_
  refine z_getI cx (tfX_10_1 hT) fg_SunnyPans_89 d_X9_needText_15 ?_
  refine z_icmp_gt cx 25 d_X9_needText_18 (by decide) hF (fun hF => ?_) (fun hF => ?_)
  · exact z_lv [] _ rfl (hb25 M hF)
  refine z_iconst (v := 1) cx d_X9_needText_21 ki_1 ?_
  refine z_goto cx 26 d_X9_needText_22 (by decide) ?_
  exact z_lv [] _ rfl (hb26 (1 : Int32) M hF)
/-! SunnyPans.works -/
theorem tfX_10_3 {n k : Nat} (h : zT shX n k 10) : zT shX n (k + 3) 8 := zT_off h (shX_f (by decide) (by decide +kernel)) (by decide) (by decide)
set_option maxRecDepth 100000 in
theorem wd_525 : Cond.code yX9_needText cX9_needText 3 none ∈ tbG := tw2 185 rfl rfl
set_option maxRecDepth 100000 in
theorem wd_522 : Cond.methodLink "SunnyPans" 97 yX9_needText ∈ tbG := tw2 182 rfl rfl
set_option maxRecDepth 100000 in
theorem wd_524 : Cond.instanceMethod yX9_needText ∈ tbG := tw2 184 rfl rfl
theorem wd_1 : Cond.selects "SunnyPans" yX9_needText yX9_needText ∈ tbG := tw 1 (by decide +kernel) rfl
theorem cv_SunnyPans_97 : zCV "SunnyPans" 97 "SunnyPans" yX9_needText cX9_needText 3 none 2 := zCV_of wd_522 wd_524 wd_1 wd_101 wd_525 (by decide +kernel)
set_option maxRecDepth 100000 in
theorem wd_600 : Cond.code yX8_open cX8_open 2 none ∈ tbG := tw3 20 rfl rfl
set_option maxRecDepth 100000 in
theorem wd_597 : Cond.methodLink "SunnyPans" 101 yX8_open ∈ tbG := tw3 17 rfl rfl
set_option maxRecDepth 100000 in
theorem wd_598 : Cond.instanceMethod yX8_open ∈ tbG := tw3 18 rfl rfl
set_option maxRecDepth 100000 in
theorem wd_599 : Cond.selects "SunnyPans$Text" yX8_open yX8_open ∈ tbG := tw3 19 rfl rfl
theorem cv_SunnyPans_101 : zCV "SunnyPans" 101 "SunnyPans$Text" yX8_open cX8_open 2 none 1 := zCV_of wd_597 wd_598 wd_599 wd_102 wd_600 (by decide +kernel)
set_option maxRecDepth 100000 in
theorem wd_418 : Cond.fieldLink "SunnyPans" 66 "SunnyPans" "sparePlan" "LSunnyPans$Plan;" ∈ tbG := tw2 78 rfl rfl
theorem fg_SunnyPans_66 : zGetD "SunnyPans" 66 9 10 9 := ⟨RX9, TX9, 19, rfl, by decide, uw_9, wd_418, fun _ _ _ _ _ _ => ⟨_, rfl, rfl⟩⟩
theorem td_6 {n k : Nat} (h0 : zT shX n 0 10) (h : (shX k == 6) = true) : zT shX n k 6 := zT_g h (shX_b (by decide) (by decide +kernel) (by decide) h0.2.2) (by decide)
set_option maxRecDepth 100000 in
theorem wd_610 : Cond.code yX5_read cX5_read 3 none ∈ tbG := tw3 30 rfl rfl
set_option maxRecDepth 100000 in
theorem wd_607 : Cond.methodLink "SunnyPans" 104 yX5_read ∈ tbG := tw3 27 rfl rfl
set_option maxRecDepth 100000 in
theorem wd_608 : Cond.instanceMethod yX5_read ∈ tbG := tw3 28 rfl rfl
set_option maxRecDepth 100000 in
theorem wd_609 : Cond.selects "SunnyPans$Plan" yX5_read yX5_read ∈ tbG := tw3 29 rfl rfl
theorem cv_SunnyPans_104 : zCV "SunnyPans" 104 "SunnyPans$Plan" yX5_read cX5_read 3 none 1 := zCV_of wd_607 wd_608 wd_609 wd_108 wd_610 (by decide +kernel)
set_option maxRecDepth 100000 in
theorem wd_142 : Cond.fieldLink "SunnyPans" 108 "SunnyPans$Text" "fault" "I" ∈ tbG := tw1 42 rfl rfl
theorem fg_SunnyPans_108 : zGetI "SunnyPans" 108 8 9 2 := ⟨RX8, TX8, 8, rfl, by decide, uw_8, wd_142, fun _ _ _ _ _ _ => ⟨_, rfl, rfl⟩⟩
set_option maxRecDepth 100000 in
theorem wd_417 : Cond.fieldLink "SunnyPans" 62 "SunnyPans" "plan" "LSunnyPans$Plan;" ∈ tbG := tw2 77 rfl rfl
theorem fg_SunnyPans_62 : zGetD "SunnyPans" 62 9 10 8 := ⟨RX9, TX9, 19, rfl, by decide, uw_9, wd_417, fun _ _ _ _ _ _ => ⟨_, rfl, rfl⟩⟩
theorem fp_SunnyPans_66 : zPutD "SunnyPans" 66 9 10 9 := ⟨zc_9, fg_SunnyPans_66, ⟨RX9, TX9, 19, "SunnyPans$Plan", rfl, rfl, by decide +kernel⟩, fun _ _ _ _ _ _ _ => ⟨_, rfl, Nat.le_of_ble_eq_true rfl, rfl⟩⟩
theorem fp_SunnyPans_62 : zPutD "SunnyPans" 62 9 10 8 := ⟨zc_9, fg_SunnyPans_62, ⟨RX9, TX9, 19, "SunnyPans$Plan", rfl, rfl, by decide +kernel⟩, fun _ _ _ _ _ _ _ => ⟨_, rfl, Nat.le_of_ble_eq_true rfl, rfl⟩⟩
set_option maxRecDepth 100000 in
theorem wd_419 : Cond.fieldLink "SunnyPans" 72 "SunnyPans" "rule" "LSunnyPans$Law;" ∈ tbG := tw2 79 rfl rfl
theorem fg_SunnyPans_72 : zGetD "SunnyPans" 72 9 10 10 := ⟨RX9, TX9, 19, rfl, by decide, uw_9, wd_419, fun _ _ _ _ _ _ => ⟨_, rfl, rfl⟩⟩
theorem td_4 {n k : Nat} (h0 : zT shX n 0 10) (h : (shX k == 4) = true) : zT shX n k 4 := zT_g h (shX_b (by decide) (by decide +kernel) (by decide) h0.2.2) (by decide)
set_option maxRecDepth 100000 in
theorem wd_368 : Cond.code yX3_reset cX3_reset 1 none ∈ tbG := tw2 28 rfl rfl
set_option maxRecDepth 100000 in
theorem wd_738 : Cond.methodLink "SunnyPans" 111 yX3_reset ∈ tbG := tw3 158 rfl rfl
set_option maxRecDepth 100000 in
theorem wd_366 : Cond.instanceMethod yX3_reset ∈ tbG := tw2 26 rfl rfl
set_option maxRecDepth 100000 in
theorem wd_367 : Cond.selects "SunnyPans$Law" yX3_reset yX3_reset ∈ tbG := tw2 27 rfl rfl
theorem cv_SunnyPans_111 : zCV "SunnyPans" 111 "SunnyPans$Law" yX3_reset cX3_reset 1 none 0 := zCV_of wd_738 wd_366 wd_367 wd_109 wd_368 (by decide +kernel)
set_option maxRecDepth 100000 in
theorem wd_421 : Cond.fieldLink "SunnyPans" 82 "SunnyPans" "notes" "LSunnyPans$Book;" ∈ tbG := tw2 81 rfl rfl
theorem fg_SunnyPans_82 : zGetD "SunnyPans" 82 9 10 12 := ⟨RX9, TX9, 19, rfl, by decide, uw_9, wd_421, fun _ _ _ _ _ _ => ⟨_, rfl, rfl⟩⟩
theorem td_2 {n k : Nat} (h0 : zT shX n 0 10) (h : (shX k == 2) = true) : zT shX n k 2 := zT_g h (shX_b (by decide) (by decide +kernel) (by decide) h0.2.2) (by decide)
set_option maxRecDepth 100000 in
theorem wd_739 : Cond.methodLink "SunnyPans" 114 yX1_clear ∈ tbG := tw3 159 rfl rfl
theorem cv_SunnyPans_114 : zCV "SunnyPans" 114 "SunnyPans$Book" yX1_clear cX1_clear 1 none 0 := zCV_of wd_739 wd_740 wd_741 wd_110 wd_742 (by decide +kernel)
set_option maxRecDepth 100000 in
theorem wd_410 : Cond.fieldLink "SunnyPans" 19 "SunnyPans" "stand" "LSunnyPans$Stand;" ∈ tbG := tw2 70 rfl rfl
theorem fg_SunnyPans_19 : zGetR "SunnyPans" 19 9 10 1 3 := ⟨RX9, TX9, 19, rfl, by decide, uw_9, wd_410, fun _ _ _ _ _ _ => ⟨_, rfl, rfl⟩⟩
set_option maxRecDepth 100000 in
theorem wd_746 : Cond.code yX7_start cX7_start 2 none ∈ tbG := tw3 166 rfl rfl
set_option maxRecDepth 100000 in
theorem wd_743 : Cond.methodLink "SunnyPans" 117 yX7_start ∈ tbG := tw3 163 rfl rfl
set_option maxRecDepth 100000 in
theorem wd_744 : Cond.instanceMethod yX7_start ∈ tbG := tw3 164 rfl rfl
set_option maxRecDepth 100000 in
theorem wd_745 : Cond.selects "SunnyPans$Stand" yX7_start yX7_start ∈ tbG := tw3 165 rfl rfl
set_option maxRecDepth 100000 in
theorem wd_103 : Cond.initialized "SunnyPans$Stand" ∈ tbG := tw1 3 rfl rfl
theorem cv_SunnyPans_117 : zCV "SunnyPans" 117 "SunnyPans$Stand" yX7_start cX7_start 2 none 1 := zCV_of wd_743 wd_744 wd_745 wd_103 wd_746 (by decide +kernel)
theorem zo_8 : zObj "SunnyPans$Stand" 8 := ⟨7, (RX7, TX7, 3), rfl, rfl, fun _ _ _ _ _ _ => ⟨_, rfl⟩⟩
set_option maxRecDepth 100000 in
theorem wd_423 : Cond.fieldLink "SunnyPans" 121 "SunnyPans" "imageCount" "I" ∈ tbG := tw2 83 rfl rfl
theorem fg_SunnyPans_121 : zGetI "SunnyPans" 121 9 10 14 := ⟨RX9, TX9, 19, rfl, by decide, uw_9, wd_423, fun _ _ _ _ _ _ => ⟨_, rfl, rfl⟩⟩
theorem fp_SunnyPans_121 : zPutI "SunnyPans" 121 9 10 14 := ⟨zc_9, fg_SunnyPans_121, ⟨RX9, TX9, 19, rfl, rfl, by decide +kernel⟩, fun _ _ _ _ _ _ _ => ⟨_, rfl, Nat.le_of_ble_eq_true rfl, rfl⟩⟩
set_option maxRecDepth 100000 in
theorem wd_424 : Cond.fieldLink "SunnyPans" 124 "SunnyPans" "refusedSteps" "I" ∈ tbG := tw2 84 rfl rfl
theorem fg_SunnyPans_124 : zGetI "SunnyPans" 124 9 10 15 := ⟨RX9, TX9, 19, rfl, by decide, uw_9, wd_424, fun _ _ _ _ _ _ => ⟨_, rfl, rfl⟩⟩
theorem fp_SunnyPans_124 : zPutI "SunnyPans" 124 9 10 15 := ⟨zc_9, fg_SunnyPans_124, ⟨RX9, TX9, 19, rfl, rfl, by decide +kernel⟩, fun _ _ _ _ _ _ _ => ⟨_, rfl, Nat.le_of_ble_eq_true rfl, rfl⟩⟩
set_option maxRecDepth 100000 in
theorem wd_325 : Cond.fieldLink "SunnyPans" 127 "SunnyPans$Plan" "hours" "I" ∈ tbG := tw1 225 rfl rfl
theorem fg_SunnyPans_127 : zGetI "SunnyPans" 127 5 6 2 := ⟨RX5, TX5, 9, rfl, by decide, uw_5, wd_325, fun _ _ _ _ _ _ => ⟨_, rfl, rfl⟩⟩
theorem d_X9_works_0 : decode cX9_works 0 = .ok (.aload_n 0, 1) := by decide +kernel
theorem d_X9_works_1 : decode cX9_works 1 = .ok (.iload_n 1, 1) := by decide +kernel
theorem d_X9_works_2 : decode cX9_works 2 = .ok (.sipush 600, 3) := by decide +kernel
theorem d_X9_works_5 : decode cX9_works 5 = .ok (.invokevirtual 97, 3) := by decide +kernel
theorem d_X9_works_8 : decode cX9_works 8 = .ok (.aload_n 0, 1) := by decide +kernel
theorem d_X9_works_9 : decode cX9_works 9 = .ok (.getfield 10, 3) := by decide +kernel
theorem d_X9_works_12 : decode cX9_works 12 = .ok (.iload_n 1, 1) := by decide +kernel
theorem d_X9_works_13 : decode cX9_works 13 = .ok (.invokevirtual 101, 3) := by decide +kernel
theorem d_X9_works_16 : decode cX9_works 16 = .ok (.aload_n 0, 1) := by decide +kernel
theorem d_X9_works_17 : decode cX9_works 17 = .ok (.getfield 66, 3) := by decide +kernel
theorem d_X9_works_20 : decode cX9_works 20 = .ok (.aload_n 0, 1) := by decide +kernel
theorem d_X9_works_21 : decode cX9_works 21 = .ok (.getfield 10, 3) := by decide +kernel
theorem d_X9_works_24 : decode cX9_works 24 = .ok (.invokevirtual 104, 3) := by decide +kernel
theorem d_X9_works_27 : decode cX9_works 27 = .ok (.aload_n 0, 1) := by decide +kernel
theorem d_X9_works_28 : decode cX9_works 28 = .ok (.getfield 10, 3) := by decide +kernel
theorem d_X9_works_31 : decode cX9_works 31 = .ok (.getfield 108, 3) := by decide +kernel
theorem d_X9_works_34 : decode cX9_works 34 = .ok (.ifCond .eq 14, 3) := by decide +kernel
theorem d_X9_works_37 : decode cX9_works 37 = .ok (.aload_n 0, 1) := by decide +kernel
theorem d_X9_works_38 : decode cX9_works 38 = .ok (.getfield 10, 3) := by decide +kernel
theorem d_X9_works_41 : decode cX9_works 41 = .ok (.getfield 108, 3) := by decide +kernel
theorem d_X9_works_44 : decode cX9_works 44 = .ok (.bipush 10, 2) := by decide +kernel
theorem d_X9_works_46 : decode cX9_works 46 = .ok (.isub, 1) := by decide +kernel
theorem d_X9_works_47 : decode cX9_works 47 = .ok (.ireturn, 1) := by decide +kernel
theorem d_X9_works_48 : decode cX9_works 48 = .ok (.aload_n 0, 1) := by decide +kernel
theorem d_X9_works_49 : decode cX9_works 49 = .ok (.getfield 66, 3) := by decide +kernel
theorem d_X9_works_52 : decode cX9_works 52 = .ok (.astore_n 2, 1) := by decide +kernel
theorem d_X9_works_53 : decode cX9_works 53 = .ok (.aload_n 0, 1) := by decide +kernel
theorem d_X9_works_54 : decode cX9_works 54 = .ok (.aload_n 0, 1) := by decide +kernel
theorem d_X9_works_55 : decode cX9_works 55 = .ok (.getfield 62, 3) := by decide +kernel
theorem d_X9_works_58 : decode cX9_works 58 = .ok (.putfield 66, 3) := by decide +kernel
theorem d_X9_works_61 : decode cX9_works 61 = .ok (.aload_n 0, 1) := by decide +kernel
theorem d_X9_works_62 : decode cX9_works 62 = .ok (.aload_n 2, 1) := by decide +kernel
theorem d_X9_works_63 : decode cX9_works 63 = .ok (.putfield 62, 3) := by decide +kernel
theorem d_X9_works_66 : decode cX9_works 66 = .ok (.aload_n 0, 1) := by decide +kernel
theorem d_X9_works_67 : decode cX9_works 67 = .ok (.getfield 72, 3) := by decide +kernel
theorem d_X9_works_70 : decode cX9_works 70 = .ok (.invokevirtual 111, 3) := by decide +kernel
theorem d_X9_works_73 : decode cX9_works 73 = .ok (.aload_n 0, 1) := by decide +kernel
theorem d_X9_works_74 : decode cX9_works 74 = .ok (.getfield 82, 3) := by decide +kernel
theorem d_X9_works_77 : decode cX9_works 77 = .ok (.invokevirtual 114, 3) := by decide +kernel
theorem d_X9_works_80 : decode cX9_works 80 = .ok (.aload_n 0, 1) := by decide +kernel
theorem d_X9_works_81 : decode cX9_works 81 = .ok (.getfield 19, 3) := by decide +kernel
theorem d_X9_works_84 : decode cX9_works 84 = .ok (.aload_n 0, 1) := by decide +kernel
theorem d_X9_works_85 : decode cX9_works 85 = .ok (.getfield 62, 3) := by decide +kernel
theorem d_X9_works_88 : decode cX9_works 88 = .ok (.invokevirtual 117, 3) := by decide +kernel
theorem d_X9_works_91 : decode cX9_works 91 = .ok (.aload_n 0, 1) := by decide +kernel
theorem d_X9_works_92 : decode cX9_works 92 = .ok (.iconst 0, 1) := by decide +kernel
theorem d_X9_works_93 : decode cX9_works 93 = .ok (.putfield 121, 3) := by decide +kernel
theorem d_X9_works_96 : decode cX9_works 96 = .ok (.aload_n 0, 1) := by decide +kernel
theorem d_X9_works_97 : decode cX9_works 97 = .ok (.iconst 0, 1) := by decide +kernel
theorem d_X9_works_98 : decode cX9_works 98 = .ok (.putfield 124, 3) := by decide +kernel
theorem d_X9_works_101 : decode cX9_works 101 = .ok (.aload_n 0, 1) := by decide +kernel
theorem d_X9_works_102 : decode cX9_works 102 = .ok (.getfield 62, 3) := by decide +kernel
theorem d_X9_works_105 : decode cX9_works 105 = .ok (.getfield 127, 3) := by decide +kernel
theorem d_X9_works_108 : decode cX9_works 108 = .ok (.ireturn, 1) := by decide +kernel
noncomputable def F_X9_works (M : zMem) (p0 : Int32) : Option (Nat × Int32 × zMem) :=
  zbx (F_X9_needText M p0 (600 : Int32)) (g := zxp) fun _ M1 =>
  zbv (F_X8_open M1 1 p0) fun M6 =>
  gd (shX (M6.2.2 0 9) == 6) <|
  zbv (F_X5_read M6 (M6.2.2 0 9) 1) fun M8 =>
  if (M8.1 1 2) = 0 then
    gd (shX (M8.2.2 0 9) == 6) <|
    gd (shX (M8.2.2 0 8) == 6) <|
    zl (zR M8 0 9 (M8.2.2 0 8)) fun M11 =>
    zl (zR M11 0 8 (M8.2.2 0 9)) fun M12 =>
    gd (shX (M12.2.2 0 10) == 4) <|
    zbv (F_X3_reset M12 (M12.2.2 0 10)) fun M14 =>
    gd (shX (M14.2.2 0 12) == 2) <|
    zbv (F_X1_clear M14 (M14.2.2 0 12)) fun M16 =>
    gd (shX (M16.2.2 0 8) == 6) <|
    zbv (F_X7_start M16 3 (M16.2.2 0 8)) fun M18 =>
    zl (zI M18 0 14 (0 : Int32)) fun M19 =>
    zl (zI M19 0 15 (0 : Int32)) fun M20 =>
    gd (shX (M20.2.2 0 8) == 6) <|
    some (0, (M20.1 (M20.2.2 0 8) 2), M20)
  else
    some (0, ((M8.1 1 2) - (10 : Int32)), M8)
def rm_X9_works : Room := { frames := 11, cells := 1, slots := 6, locals := 328 }
set_option maxHeartbeats 4000000 in
set_option maxRecDepth 100000 in
theorem c_X9_works (l : Launch) {G : zG} {ad : Nat → Nat} {n : Nat} (hA : zInj ad n) (M : zMem) (p0 : Int32) (hl : l.stackTraces = false) (hT : zT shX n 0 10) {k9 : Nat} {r9 : Int32} {M9 : zMem} (hF : F_X9_works M p0 = some (k9, r9, M9)) : zMX l yX9_works cX9_works 3 (some .int) rm_X9_works 1 6 G shX ad n M [.ref (ad 0), .int p0] k9 (some (.int r9)) M9 := by
  refine zM_ofX hA (by decide +kernel) (lv := [(0, .ref (ad 0)), (1, .int p0)]) (Nat.le_of_ble_eq_true rfl) rfl (fun p e s m args below meth c A cx hr ht => ?_)
  unfold F_X9_works at hF
  refine z_aload_n cx d_X9_works_0 0 rfl ?_
  refine z_iload_n cx d_X9_works_1 1 rfl ?_
  refine z_sipush (v := 600) cx d_X9_works_2 ks_600 ?_
  obtain ⟨k2, v3, M1, hc, hF, hX4⟩ := zbx_inv hF
  refine z_callVX cx ht (As := [.int p0, .int (600 : Int32)]) (rest := []) (c_X9_needText l cx.2.2.2.1.1 M p0 (600 : Int32) hl hT hc) (fun q => zxp_inv (hX4 q)) hT zo_10 cv_SunnyPans_97 ⟨rfl, rfl, Nat.le_of_ble_eq_true rfl, Nat.le_of_ble_eq_true rfl⟩ rfl rfl ⟨Nat.le_of_ble_eq_true rfl, Nat.le_of_ble_eq_true rfl⟩ ⟨Nat.le_of_ble_eq_true rfl, Nat.le_of_ble_eq_true rfl⟩ (Nat.le_of_ble_eq_true rfl) d_X9_works_5 (fun kq5 => ?_)
  have hF := hF kq5
  refine z_aload_n cx d_X9_works_8 0 rfl ?_
  refine z_getR cx hT fg_SunnyPans_10 1 rfl d_X9_works_9 ?_
  refine z_iload_n cx d_X9_works_12 1 rfl ?_
  obtain ⟨M6, hc, hF⟩ := zbv_inv hF
  refine z_callV cx (As := [.int p0]) (rest := []) (c_X8_open l cx.2.2.2.1.1 M1 1 p0 (tfX_10_1 hT) hc) (tfX_10_1 hT) zo_9 cv_SunnyPans_101 ⟨rfl, rfl, Nat.le_of_ble_eq_true rfl, Nat.le_of_ble_eq_true rfl⟩ rfl rfl ⟨Nat.le_of_ble_eq_true rfl, Nat.le_of_ble_eq_true rfl⟩ (Nat.le_of_ble_eq_true rfl) d_X9_works_13 ?_
  refine z_aload_n cx d_X9_works_16 0 rfl ?_
  obtain ⟨hg7, hF⟩ := gd_inv hF
  refine z_getD cx hT fg_SunnyPans_66 d_X9_works_17 ?_
  refine z_aload_n cx d_X9_works_20 0 rfl ?_
  refine z_getR cx hT fg_SunnyPans_10 1 rfl d_X9_works_21 ?_
  obtain ⟨M8, hc, hF⟩ := zbv_inv hF
  refine z_callV cx (As := [.ref (ad 1)]) (rest := []) (c_X5_read l cx.2.2.2.1.1 M6 (M6.2.2 0 9) 1 (td_6 hT hg7) (tfX_10_1 hT) hc) (td_6 hT hg7) zo_6 cv_SunnyPans_104 ⟨rfl, rfl, Nat.le_of_ble_eq_true rfl, Nat.le_of_ble_eq_true rfl⟩ rfl rfl ⟨Nat.le_of_ble_eq_true rfl, Nat.le_of_ble_eq_true rfl⟩ (Nat.le_of_ble_eq_true rfl) d_X9_works_24 ?_
  refine z_aload_n cx d_X9_works_27 0 rfl ?_
  refine z_getR cx hT fg_SunnyPans_10 1 rfl d_X9_works_28 ?_
  refine z_getI cx (tfX_10_1 hT) fg_SunnyPans_108 d_X9_works_31 ?_
  refine z_if_eq cx 48 d_X9_works_34 (by decide) hF (fun hF => ?_) (fun hF => ?_)
  · refine z_aload_n cx d_X9_works_48 0 rfl ?_
    obtain ⟨hg9, hF⟩ := gd_inv hF
    refine z_getD cx hT fg_SunnyPans_66 d_X9_works_49 ?_
    refine z_astore_n cx 2 [(2, .ref (ad (M8.2.2 0 9))), (0, .ref (ad 0)), (1, .int p0)] d_X9_works_52 rfl (by decide) rfl ?_
    refine z_aload_n cx d_X9_works_53 1 rfl ?_
    refine z_aload_n cx d_X9_works_54 1 rfl ?_
    obtain ⟨hg10, hF⟩ := gd_inv hF
    refine z_getD cx hT fg_SunnyPans_62 d_X9_works_55 ?_
    refine z_putD cx hT fp_SunnyPans_66 d_X9_works_58 ?_
    refine z_nmM hF (fun M11 hF => ?_)
    refine z_aload_n cx d_X9_works_61 1 rfl ?_
    refine z_aload_n cx d_X9_works_62 0 rfl ?_
    refine z_putD cx hT fp_SunnyPans_62 d_X9_works_63 ?_
    refine z_nmM hF (fun M12 hF => ?_)
    refine z_aload_n cx d_X9_works_66 1 rfl ?_
    obtain ⟨hg13, hF⟩ := gd_inv hF
    refine z_getD cx hT fg_SunnyPans_72 d_X9_works_67 ?_
    obtain ⟨M14, hc, hF⟩ := zbv_inv hF
    refine z_callV cx (As := []) (rest := []) (c_X3_reset l cx.2.2.2.1.1 M12 (M12.2.2 0 10) (td_4 hT hg13) hc) (td_4 hT hg13) zo_4 cv_SunnyPans_111 ⟨rfl, rfl, Nat.le_of_ble_eq_true rfl, Nat.le_of_ble_eq_true rfl⟩ rfl rfl ⟨Nat.le_of_ble_eq_true rfl, Nat.le_of_ble_eq_true rfl⟩ (Nat.le_of_ble_eq_true rfl) d_X9_works_70 ?_
    refine z_aload_n cx d_X9_works_73 1 rfl ?_
    obtain ⟨hg15, hF⟩ := gd_inv hF
    refine z_getD cx hT fg_SunnyPans_82 d_X9_works_74 ?_
    obtain ⟨M16, hc, hF⟩ := zbv_inv hF
    refine z_callV cx (As := []) (rest := []) (c_X1_clear l cx.2.2.2.1.1 M14 (M14.2.2 0 12) (td_2 hT hg15) hc) (td_2 hT hg15) zo_2 cv_SunnyPans_114 ⟨rfl, rfl, Nat.le_of_ble_eq_true rfl, Nat.le_of_ble_eq_true rfl⟩ rfl rfl ⟨Nat.le_of_ble_eq_true rfl, Nat.le_of_ble_eq_true rfl⟩ (Nat.le_of_ble_eq_true rfl) d_X9_works_77 ?_
    refine z_aload_n cx d_X9_works_80 1 rfl ?_
    refine z_getR cx hT fg_SunnyPans_19 3 rfl d_X9_works_81 ?_
    refine z_aload_n cx d_X9_works_84 1 rfl ?_
    obtain ⟨hg17, hF⟩ := gd_inv hF
    refine z_getD cx hT fg_SunnyPans_62 d_X9_works_85 ?_
    obtain ⟨M18, hc, hF⟩ := zbv_inv hF
    refine z_callV cx (As := [.ref (ad (M16.2.2 0 8))]) (rest := []) (c_X7_start l cx.2.2.2.1.1 M16 3 (M16.2.2 0 8) (tfX_10_3 hT) (td_6 hT hg17) hc) (tfX_10_3 hT) zo_8 cv_SunnyPans_117 ⟨rfl, rfl, Nat.le_of_ble_eq_true rfl, Nat.le_of_ble_eq_true rfl⟩ rfl rfl ⟨Nat.le_of_ble_eq_true rfl, Nat.le_of_ble_eq_true rfl⟩ (Nat.le_of_ble_eq_true rfl) d_X9_works_88 ?_
    refine z_aload_n cx d_X9_works_91 1 rfl ?_
    refine z_iconst (v := 0) cx d_X9_works_92 ki_0 ?_
    refine z_putI cx hT fp_SunnyPans_121 d_X9_works_93 ?_
    refine z_nmM hF (fun M19 hF => ?_)
    refine z_aload_n cx d_X9_works_96 1 rfl ?_
    refine z_iconst (v := 0) cx d_X9_works_97 ki_0 ?_
    refine z_putI cx hT fp_SunnyPans_124 d_X9_works_98 ?_
    refine z_nmM hF (fun M20 hF => ?_)
    refine z_aload_n cx d_X9_works_101 1 rfl ?_
    obtain ⟨hg21, hF⟩ := gd_inv hF
    refine z_getD cx hT fg_SunnyPans_62 d_X9_works_102 ?_
    refine z_getI cx (td_6 hT hg21) fg_SunnyPans_127 d_X9_works_105 ?_
    exact z_iretX cx hr rfl hF ⟨Nat.le_of_ble_eq_true rfl, Nat.le_of_ble_eq_true rfl⟩ d_X9_works_108
  refine z_aload_n cx d_X9_works_37 0 rfl ?_
  refine z_getR cx hT fg_SunnyPans_10 1 rfl d_X9_works_38 ?_
  refine z_getI cx (tfX_10_1 hT) fg_SunnyPans_108 d_X9_works_41 ?_
  refine z_bipush (v := 10) cx d_X9_works_44 kb_10 ?_
  refine z_isub cx d_X9_works_46 ?_
  exact z_iretX cx hr rfl hF ⟨Nat.le_of_ble_eq_true rfl, Nat.le_of_ble_eq_true rfl⟩ d_X9_works_47
/-! SunnyPans.law -/
set_option maxRecDepth 100000 in
theorem wd_420 : Cond.fieldLink "SunnyPans" 76 "SunnyPans" "spareRule" "LSunnyPans$Law;" ∈ tbG := tw2 80 rfl rfl
theorem fg_SunnyPans_76 : zGetD "SunnyPans" 76 9 10 11 := ⟨RX9, TX9, 19, rfl, by decide, uw_9, wd_420, fun _ _ _ _ _ _ => ⟨_, rfl, rfl⟩⟩
set_option maxRecDepth 100000 in
theorem wd_780 : Cond.code yX3_read cX3_read 2 none ∈ tbG := tw3 200 rfl rfl
set_option maxRecDepth 100000 in
theorem wd_777 : Cond.methodLink "SunnyPans" 130 yX3_read ∈ tbG := tw3 197 rfl rfl
set_option maxRecDepth 100000 in
theorem wd_778 : Cond.instanceMethod yX3_read ∈ tbG := tw3 198 rfl rfl
set_option maxRecDepth 100000 in
theorem wd_779 : Cond.selects "SunnyPans$Law" yX3_read yX3_read ∈ tbG := tw3 199 rfl rfl
theorem cv_SunnyPans_130 : zCV "SunnyPans" 130 "SunnyPans$Law" yX3_read cX3_read 2 none 1 := zCV_of wd_777 wd_778 wd_779 wd_109 wd_780 (by decide +kernel)
theorem fp_SunnyPans_76 : zPutD "SunnyPans" 76 9 10 11 := ⟨zc_9, fg_SunnyPans_76, ⟨RX9, TX9, 19, "SunnyPans$Law", rfl, rfl, by decide +kernel⟩, fun _ _ _ _ _ _ _ => ⟨_, rfl, Nat.le_of_ble_eq_true rfl, rfl⟩⟩
theorem fp_SunnyPans_72 : zPutD "SunnyPans" 72 9 10 10 := ⟨zc_9, fg_SunnyPans_72, ⟨RX9, TX9, 19, "SunnyPans$Law", rfl, rfl, by decide +kernel⟩, fun _ _ _ _ _ _ _ => ⟨_, rfl, Nat.le_of_ble_eq_true rfl, rfl⟩⟩
theorem d_X9_law_0 : decode cX9_law 0 = .ok (.aload_n 0, 1) := by decide +kernel
theorem d_X9_law_1 : decode cX9_law 1 = .ok (.iload_n 1, 1) := by decide +kernel
theorem d_X9_law_2 : decode cX9_law 2 = .ok (.sipush 150, 3) := by decide +kernel
theorem d_X9_law_5 : decode cX9_law 5 = .ok (.invokevirtual 97, 3) := by decide +kernel
theorem d_X9_law_8 : decode cX9_law 8 = .ok (.aload_n 0, 1) := by decide +kernel
theorem d_X9_law_9 : decode cX9_law 9 = .ok (.getfield 10, 3) := by decide +kernel
theorem d_X9_law_12 : decode cX9_law 12 = .ok (.iload_n 1, 1) := by decide +kernel
theorem d_X9_law_13 : decode cX9_law 13 = .ok (.invokevirtual 101, 3) := by decide +kernel
theorem d_X9_law_16 : decode cX9_law 16 = .ok (.aload_n 0, 1) := by decide +kernel
theorem d_X9_law_17 : decode cX9_law 17 = .ok (.getfield 76, 3) := by decide +kernel
theorem d_X9_law_20 : decode cX9_law 20 = .ok (.aload_n 0, 1) := by decide +kernel
theorem d_X9_law_21 : decode cX9_law 21 = .ok (.getfield 10, 3) := by decide +kernel
theorem d_X9_law_24 : decode cX9_law 24 = .ok (.invokevirtual 130, 3) := by decide +kernel
theorem d_X9_law_27 : decode cX9_law 27 = .ok (.aload_n 0, 1) := by decide +kernel
theorem d_X9_law_28 : decode cX9_law 28 = .ok (.getfield 10, 3) := by decide +kernel
theorem d_X9_law_31 : decode cX9_law 31 = .ok (.getfield 108, 3) := by decide +kernel
theorem d_X9_law_34 : decode cX9_law 34 = .ok (.ifCond .eq 14, 3) := by decide +kernel
theorem d_X9_law_37 : decode cX9_law 37 = .ok (.aload_n 0, 1) := by decide +kernel
theorem d_X9_law_38 : decode cX9_law 38 = .ok (.getfield 10, 3) := by decide +kernel
theorem d_X9_law_41 : decode cX9_law 41 = .ok (.getfield 108, 3) := by decide +kernel
theorem d_X9_law_44 : decode cX9_law 44 = .ok (.bipush 10, 2) := by decide +kernel
theorem d_X9_law_46 : decode cX9_law 46 = .ok (.isub, 1) := by decide +kernel
theorem d_X9_law_47 : decode cX9_law 47 = .ok (.ireturn, 1) := by decide +kernel
theorem d_X9_law_48 : decode cX9_law 48 = .ok (.aload_n 0, 1) := by decide +kernel
theorem d_X9_law_49 : decode cX9_law 49 = .ok (.getfield 76, 3) := by decide +kernel
theorem d_X9_law_52 : decode cX9_law 52 = .ok (.astore_n 2, 1) := by decide +kernel
theorem d_X9_law_53 : decode cX9_law 53 = .ok (.aload_n 0, 1) := by decide +kernel
theorem d_X9_law_54 : decode cX9_law 54 = .ok (.aload_n 0, 1) := by decide +kernel
theorem d_X9_law_55 : decode cX9_law 55 = .ok (.getfield 72, 3) := by decide +kernel
theorem d_X9_law_58 : decode cX9_law 58 = .ok (.putfield 76, 3) := by decide +kernel
theorem d_X9_law_61 : decode cX9_law 61 = .ok (.aload_n 0, 1) := by decide +kernel
theorem d_X9_law_62 : decode cX9_law 62 = .ok (.aload_n 2, 1) := by decide +kernel
theorem d_X9_law_63 : decode cX9_law 63 = .ok (.putfield 72, 3) := by decide +kernel
theorem d_X9_law_66 : decode cX9_law 66 = .ok (.iconst 1, 1) := by decide +kernel
theorem d_X9_law_67 : decode cX9_law 67 = .ok (.ireturn, 1) := by decide +kernel
noncomputable def F_X9_law (M : zMem) (p0 : Int32) : Option (Nat × Int32 × zMem) :=
  zbx (F_X9_needText M p0 (150 : Int32)) (g := zxp) fun _ M1 =>
  zbv (F_X8_open M1 1 p0) fun M6 =>
  gd (shX (M6.2.2 0 11) == 4) <|
  zbv (F_X3_read M6 (M6.2.2 0 11) 1) fun M8 =>
  if (M8.1 1 2) = 0 then
    gd (shX (M8.2.2 0 11) == 4) <|
    gd (shX (M8.2.2 0 10) == 4) <|
    zl (zR M8 0 11 (M8.2.2 0 10)) fun M11 =>
    zl (zR M11 0 10 (M8.2.2 0 11)) fun M12 =>
    some (0, (1 : Int32), M12)
  else
    some (0, ((M8.1 1 2) - (10 : Int32)), M8)
def rm_X9_law : Room := { frames := 962, cells := 1, slots := 6, locals := 24045 }
set_option maxHeartbeats 4000000 in
set_option maxRecDepth 100000 in
theorem c_X9_law (l : Launch) {G : zG} {ad : Nat → Nat} {n : Nat} (hA : zInj ad n) (M : zMem) (p0 : Int32) (hl : l.stackTraces = false) (hT : zT shX n 0 10) {k9 : Nat} {r9 : Int32} {M9 : zMem} (hF : F_X9_law M p0 = some (k9, r9, M9)) : zMX l yX9_law cX9_law 3 (some .int) rm_X9_law 1 6 G shX ad n M [.ref (ad 0), .int p0] k9 (some (.int r9)) M9 := by
  refine zM_ofX hA (by decide +kernel) (lv := [(0, .ref (ad 0)), (1, .int p0)]) (Nat.le_of_ble_eq_true rfl) rfl (fun p e s m args below meth c A cx hr ht => ?_)
  unfold F_X9_law at hF
  refine z_aload_n cx d_X9_law_0 0 rfl ?_
  refine z_iload_n cx d_X9_law_1 1 rfl ?_
  refine z_sipush (v := 150) cx d_X9_law_2 ks_150 ?_
  obtain ⟨k2, v3, M1, hc, hF, hX4⟩ := zbx_inv hF
  refine z_callVX cx ht (As := [.int p0, .int (150 : Int32)]) (rest := []) (c_X9_needText l cx.2.2.2.1.1 M p0 (150 : Int32) hl hT hc) (fun q => zxp_inv (hX4 q)) hT zo_10 cv_SunnyPans_97 ⟨rfl, rfl, Nat.le_of_ble_eq_true rfl, Nat.le_of_ble_eq_true rfl⟩ rfl rfl ⟨Nat.le_of_ble_eq_true rfl, Nat.le_of_ble_eq_true rfl⟩ ⟨Nat.le_of_ble_eq_true rfl, Nat.le_of_ble_eq_true rfl⟩ (Nat.le_of_ble_eq_true rfl) d_X9_law_5 (fun kq5 => ?_)
  have hF := hF kq5
  refine z_aload_n cx d_X9_law_8 0 rfl ?_
  refine z_getR cx hT fg_SunnyPans_10 1 rfl d_X9_law_9 ?_
  refine z_iload_n cx d_X9_law_12 1 rfl ?_
  obtain ⟨M6, hc, hF⟩ := zbv_inv hF
  refine z_callV cx (As := [.int p0]) (rest := []) (c_X8_open l cx.2.2.2.1.1 M1 1 p0 (tfX_10_1 hT) hc) (tfX_10_1 hT) zo_9 cv_SunnyPans_101 ⟨rfl, rfl, Nat.le_of_ble_eq_true rfl, Nat.le_of_ble_eq_true rfl⟩ rfl rfl ⟨Nat.le_of_ble_eq_true rfl, Nat.le_of_ble_eq_true rfl⟩ (Nat.le_of_ble_eq_true rfl) d_X9_law_13 ?_
  refine z_aload_n cx d_X9_law_16 0 rfl ?_
  obtain ⟨hg7, hF⟩ := gd_inv hF
  refine z_getD cx hT fg_SunnyPans_76 d_X9_law_17 ?_
  refine z_aload_n cx d_X9_law_20 0 rfl ?_
  refine z_getR cx hT fg_SunnyPans_10 1 rfl d_X9_law_21 ?_
  obtain ⟨M8, hc, hF⟩ := zbv_inv hF
  refine z_callV cx (As := [.ref (ad 1)]) (rest := []) (c_X3_read l cx.2.2.2.1.1 M6 (M6.2.2 0 11) 1 (td_4 hT hg7) (tfX_10_1 hT) hc) (td_4 hT hg7) zo_4 cv_SunnyPans_130 ⟨rfl, rfl, Nat.le_of_ble_eq_true rfl, Nat.le_of_ble_eq_true rfl⟩ rfl rfl ⟨Nat.le_of_ble_eq_true rfl, Nat.le_of_ble_eq_true rfl⟩ (Nat.le_of_ble_eq_true rfl) d_X9_law_24 ?_
  refine z_aload_n cx d_X9_law_27 0 rfl ?_
  refine z_getR cx hT fg_SunnyPans_10 1 rfl d_X9_law_28 ?_
  refine z_getI cx (tfX_10_1 hT) fg_SunnyPans_108 d_X9_law_31 ?_
  refine z_if_eq cx 48 d_X9_law_34 (by decide) hF (fun hF => ?_) (fun hF => ?_)
  · refine z_aload_n cx d_X9_law_48 0 rfl ?_
    obtain ⟨hg9, hF⟩ := gd_inv hF
    refine z_getD cx hT fg_SunnyPans_76 d_X9_law_49 ?_
    refine z_astore_n cx 2 [(2, .ref (ad (M8.2.2 0 11))), (0, .ref (ad 0)), (1, .int p0)] d_X9_law_52 rfl (by decide) rfl ?_
    refine z_aload_n cx d_X9_law_53 1 rfl ?_
    refine z_aload_n cx d_X9_law_54 1 rfl ?_
    obtain ⟨hg10, hF⟩ := gd_inv hF
    refine z_getD cx hT fg_SunnyPans_72 d_X9_law_55 ?_
    refine z_putD cx hT fp_SunnyPans_76 d_X9_law_58 ?_
    refine z_nmM hF (fun M11 hF => ?_)
    refine z_aload_n cx d_X9_law_61 1 rfl ?_
    refine z_aload_n cx d_X9_law_62 0 rfl ?_
    refine z_putD cx hT fp_SunnyPans_72 d_X9_law_63 ?_
    refine z_nmM hF (fun M12 hF => ?_)
    refine z_iconst (v := 1) cx d_X9_law_66 ki_1 ?_
    exact z_iretX cx hr rfl hF ⟨Nat.le_of_ble_eq_true rfl, Nat.le_of_ble_eq_true rfl⟩ d_X9_law_67
  refine z_aload_n cx d_X9_law_37 0 rfl ?_
  refine z_getR cx hT fg_SunnyPans_10 1 rfl d_X9_law_38 ?_
  refine z_getI cx (tfX_10_1 hT) fg_SunnyPans_108 d_X9_law_41 ?_
  refine z_bipush (v := 10) cx d_X9_law_44 kb_10 ?_
  refine z_isub cx d_X9_law_46 ?_
  exact z_iretX cx hr rfl hF ⟨Nat.le_of_ble_eq_true rfl, Nat.le_of_ble_eq_true rfl⟩ d_X9_law_47
/-! SunnyPans.lossOf -/
set_option maxRecDepth 100000 in
theorem wd_936 : Cond.methodLink "SunnyPans" 330 yX4_shadeAt ∈ tbG := tw4 116 rfl rfl
theorem cv_SunnyPans_330 : zCV "SunnyPans" 330 "SunnyPans$Pans" yX4_shadeAt cX4_shadeAt 2 (some .long) 1 := zCV_of wd_936 wd_937 wd_938 wd_104 wd_939 (by decide +kernel)
set_option maxRecDepth 100000 in
theorem wd_940 : Cond.methodLink "SunnyPans" 231 yX9_has ∈ tbG := tw4 120 rfl rfl
theorem cs_SunnyPans_231 : zCS "SunnyPans" 231 yX9_has cX9_has 3 (some .boolean) 2 := zCS_of wd_940 wd_736 wd_101 wd_737 (by decide +kernel)
set_option maxRecDepth 100000 in
theorem wd_333 : Cond.fieldLink "SunnyPans" 241 "SunnyPans$Plan" "reach" "[I" ∈ tbG := tw1 233 rfl rfl
theorem fg_SunnyPans_241 : zGetR "SunnyPans" 241 5 6 5 2 := ⟨RX5, TX5, 9, rfl, by decide, uw_5, wd_333, fun _ _ _ _ _ _ => ⟨_, rfl, rfl⟩⟩
set_option maxRecDepth 100000 in
theorem wd_186 : Cond.fieldLink "SunnyPans" 181 "SunnyPans$Pans" "salt" "[I" ∈ tbG := tw1 86 rfl rfl
theorem fg_SunnyPans_181 : zGetR "SunnyPans" 181 4 5 1 2 := ⟨RX4, TX4, 7, rfl, by decide, uw_4, wd_186, fun _ _ _ _ _ _ => ⟨_, rfl, rfl⟩⟩
set_option maxRecDepth 100000 in
theorem wd_331 : Cond.fieldLink "SunnyPans" 238 "SunnyPans$Plan" "side" "[I" ∈ tbG := tw1 231 rfl rfl
theorem fg_SunnyPans_238 : zGetR "SunnyPans" 238 5 6 4 1 := ⟨RX5, TX5, 9, rfl, by decide, uw_5, wd_331, fun _ _ _ _ _ _ => ⟨_, rfl, rfl⟩⟩
set_option maxRecDepth 100000 in
theorem wd_944 : Cond.code yX3_rate cX3_rate 11 (some .int) ∈ tbG := tw4 124 rfl rfl
set_option maxRecDepth 100000 in
theorem wd_941 : Cond.methodLink "SunnyPans" 251 yX3_rate ∈ tbG := tw4 121 rfl rfl
set_option maxRecDepth 100000 in
theorem wd_942 : Cond.instanceMethod yX3_rate ∈ tbG := tw4 122 rfl rfl
set_option maxRecDepth 100000 in
theorem wd_943 : Cond.selects "SunnyPans$Law" yX3_rate yX3_rate ∈ tbG := tw4 123 rfl rfl
theorem cv_SunnyPans_251 : zCV "SunnyPans" 251 "SunnyPans$Law" yX3_rate cX3_rate 11 (some .int) 7 := zCV_of wd_941 wd_942 wd_943 wd_109 wd_944 (by decide +kernel)
set_option maxRecDepth 100000 in
theorem wd_950 : Cond.methodLink "SunnyPans" 290 Lib.Math.min.name ∈ tbG := tw4 130 rfl rfl
theorem d_X9_lossOf_0 : decode cX9_lossOf 0 = .ok (.iload_n 3, 1) := by decide +kernel
theorem d_X9_lossOf_1 : decode cX9_lossOf 1 = .ok (.ifCond .eq 33, 3) := by decide +kernel
theorem d_X9_lossOf_4 : decode cX9_lossOf 4 = .ok (.iload 4, 2) := by decide +kernel
theorem d_X9_lossOf_6 : decode cX9_lossOf 6 = .ok (.ifCond .lt 28, 3) := by decide +kernel
theorem d_X9_lossOf_9 : decode cX9_lossOf 9 = .ok (.iload 4, 2) := by decide +kernel
theorem d_X9_lossOf_11 : decode cX9_lossOf 11 = .ok (.aload_n 0, 1) := by decide +kernel
theorem d_X9_lossOf_12 : decode cX9_lossOf 12 = .ok (.getfield 62, 3) := by decide +kernel
theorem d_X9_lossOf_15 : decode cX9_lossOf 15 = .ok (.getfield 127, 3) := by decide +kernel
theorem d_X9_lossOf_18 : decode cX9_lossOf 18 = .ok (.if_icmp .ge 16, 3) := by decide +kernel
theorem d_X9_lossOf_21 : decode cX9_lossOf 21 = .ok (.aload_n 1, 1) := by decide +kernel
theorem d_X9_lossOf_22 : decode cX9_lossOf 22 = .ok (.iload 4, 2) := by decide +kernel
theorem d_X9_lossOf_24 : decode cX9_lossOf 24 = .ok (.invokevirtual 330, 3) := by decide +kernel
theorem d_X9_lossOf_27 : decode cX9_lossOf 27 = .ok (.iload_n 2, 1) := by decide +kernel
theorem d_X9_lossOf_28 : decode cX9_lossOf 28 = .ok (.invokestatic 231, 3) := by decide +kernel
theorem d_X9_lossOf_31 : decode cX9_lossOf 31 = .ok (.ifCond .eq 5, 3) := by decide +kernel
theorem d_X9_lossOf_34 : decode cX9_lossOf 34 = .ok (.iconst 0, 1) := by decide +kernel
theorem d_X9_lossOf_35 : decode cX9_lossOf 35 = .ok (.ireturn, 1) := by decide +kernel
theorem d_X9_lossOf_36 : decode cX9_lossOf 36 = .ok (.aload_n 0, 1) := by decide +kernel
theorem d_X9_lossOf_37 : decode cX9_lossOf 37 = .ok (.getfield 62, 3) := by decide +kernel
theorem d_X9_lossOf_40 : decode cX9_lossOf 40 = .ok (.getfield 241, 3) := by decide +kernel
theorem d_X9_lossOf_43 : decode cX9_lossOf 43 = .ok (.iload 4, 2) := by decide +kernel
theorem d_X9_lossOf_45 : decode cX9_lossOf 45 = .ok (.iaload, 1) := by decide +kernel
theorem d_X9_lossOf_46 : decode cX9_lossOf 46 = .ok (.istore 6, 2) := by decide +kernel
theorem d_X9_lossOf_48 : decode cX9_lossOf 48 = .ok (.iload_n 3, 1) := by decide +kernel
theorem d_X9_lossOf_49 : decode cX9_lossOf 49 = .ok (.aload_n 0, 1) := by decide +kernel
theorem d_X9_lossOf_50 : decode cX9_lossOf 50 = .ok (.getfield 72, 3) := by decide +kernel
theorem d_X9_lossOf_53 : decode cX9_lossOf 53 = .ok (.iload_n 3, 1) := by decide +kernel
theorem d_X9_lossOf_54 : decode cX9_lossOf 54 = .ok (.aload_n 1, 1) := by decide +kernel
theorem d_X9_lossOf_55 : decode cX9_lossOf 55 = .ok (.getfield 181, 3) := by decide +kernel
theorem d_X9_lossOf_58 : decode cX9_lossOf 58 = .ok (.iload_n 2, 1) := by decide +kernel
theorem d_X9_lossOf_59 : decode cX9_lossOf 59 = .ok (.iaload, 1) := by decide +kernel
theorem d_X9_lossOf_60 : decode cX9_lossOf 60 = .ok (.iload 6, 2) := by decide +kernel
theorem d_X9_lossOf_62 : decode cX9_lossOf 62 = .ok (.aload_n 0, 1) := by decide +kernel
theorem d_X9_lossOf_63 : decode cX9_lossOf 63 = .ok (.getfield 62, 3) := by decide +kernel
theorem d_X9_lossOf_66 : decode cX9_lossOf 66 = .ok (.getfield 238, 3) := by decide +kernel
theorem d_X9_lossOf_69 : decode cX9_lossOf 69 = .ok (.iload 4, 2) := by decide +kernel
theorem d_X9_lossOf_71 : decode cX9_lossOf 71 = .ok (.iaload, 1) := by decide +kernel
theorem d_X9_lossOf_72 : decode cX9_lossOf 72 = .ok (.iload 4, 2) := by decide +kernel
theorem d_X9_lossOf_74 : decode cX9_lossOf 74 = .ok (.iload 5, 2) := by decide +kernel
theorem d_X9_lossOf_76 : decode cX9_lossOf 76 = .ok (.iload_n 2, 1) := by decide +kernel
theorem d_X9_lossOf_77 : decode cX9_lossOf 77 = .ok (.invokevirtual 251, 3) := by decide +kernel
theorem d_X9_lossOf_80 : decode cX9_lossOf 80 = .ok (.invokestatic 290, 3) := by decide +kernel
theorem d_X9_lossOf_83 : decode cX9_lossOf 83 = .ok (.ireturn, 1) := by decide +kernel
noncomputable def F_X9_lossOf (M : zMem) (p0 : Nat) (p1 : Int32) (p2 : Int32) (p3 : Int32) (p4 : Int32) : Option (Int32 × zMem) :=
  if p2 = 0 then
    some ((0 : Int32), M)
  else
    if p3 < 0 then
      some ((0 : Int32), M)
    else
      gd (shX (M.2.2 0 8) == 6) <|
      if (M.1 (M.2.2 0 8) 2) ≤ p3 then
        some ((0 : Int32), M)
      else
        zb (F_X4_shadeAt M p0 p3) fun v3 M2 =>
        zb (F_X9_has M2 v3 p1) fun v5 M4 =>
        if v5 = 0 then
          gd (shX (M4.2.2 0 8) == 6) <|
          gin p3 10 <|
          zl (M4.1 ((M4.2.2 0 8) + 2) p3.toNatClampNeg) fun v8 =>
          gd (shX (M4.2.2 0 10) == 4) <|
          gin p1 64 <|
          zb (F_X3_rate M4 (M4.2.2 0 10) p2 (M4.1 (p0 + 2) p1.toNatClampNeg) v8 (M4.1 ((M4.2.2 0 8) + 1) p3.toNatClampNeg) p3 p4 p1) fun v12 M11 =>
          some ((zmin p2 v12), M11)
        else
          some ((0 : Int32), M4)
def rm_X9_lossOf : Room := { frames := 5, cells := 0, slots := 0, locals := 132 }
set_option maxHeartbeats 4000000 in
set_option maxRecDepth 100000 in
theorem c_X9_lossOf (l : Launch) {G : zG} {ad : Nat → Nat} {n : Nat} (hA : zInj ad n) (M : zMem) (p0 : Nat) (p1 : Int32) (p2 : Int32) (p3 : Int32) (p4 : Int32) (hT : zT shX n 0 10) (hT_p0 : zT shX n p0 5) {r9 : Int32} {M9 : zMem} (hF : F_X9_lossOf M p0 p1 p2 p3 p4 = some (r9, M9)) : zM l yX9_lossOf cX9_lossOf 7 (some .int) rm_X9_lossOf G shX ad n M [.ref (ad 0), .ref (ad p0), .int p1, .int p2, .int p3, .int p4] (some (.int r9)) M9 := by
  refine zM_of hA (by decide +kernel) (lv := [(0, .ref (ad 0)), (1, .ref (ad p0)), (2, .int p1), (3, .int p2), (4, .int p3), (5, .int p4)]) (Nat.le_of_ble_eq_true rfl) rfl (fun p e s m args below meth c A cx hr => ?_)
  unfold F_X9_lossOf at hF
  refine z_iload_n cx d_X9_lossOf_0 3 rfl ?_
  refine z_if_eq cx 34 d_X9_lossOf_1 (by decide) hF (fun hF => ?_) (fun hF => ?_)
  · refine z_iconst (v := 0) cx d_X9_lossOf_34 ki_0 ?_
    exact z_iret cx hr rfl hF d_X9_lossOf_35
  refine z_iload cx d_X9_lossOf_4 4 rfl ?_
  refine z_if_lt cx 34 d_X9_lossOf_6 (by decide) hF (fun hF => ?_) (fun hF => ?_)
  · refine z_iconst (v := 0) cx d_X9_lossOf_34 ki_0 ?_
    exact z_iret cx hr rfl hF d_X9_lossOf_35
  refine z_iload cx d_X9_lossOf_9 4 rfl ?_
  refine z_aload_n cx d_X9_lossOf_11 0 rfl ?_
  obtain ⟨hg1, hF⟩ := gd_inv hF
  refine z_getD cx hT fg_SunnyPans_62 d_X9_lossOf_12 ?_
  refine z_getI cx (td_6 hT hg1) fg_SunnyPans_127 d_X9_lossOf_15 ?_
  refine z_icmp_ge cx 34 d_X9_lossOf_18 (by decide) hF (fun hF => ?_) (fun hF => ?_)
  · refine z_iconst (v := 0) cx d_X9_lossOf_34 ki_0 ?_
    exact z_iret cx hr rfl hF d_X9_lossOf_35
  refine z_aload_n cx d_X9_lossOf_21 1 rfl ?_
  refine z_iload cx d_X9_lossOf_22 4 rfl ?_
  obtain ⟨v3, M2, hc, hF⟩ := zb_inv hF
  refine z_callV cx (As := [.int p3]) (rest := []) (c_X4_shadeAt l cx.2.2.2.1.1 M p0 p3 hT_p0 hc) hT_p0 zo_5 cv_SunnyPans_330 ⟨rfl, rfl, Nat.le_of_ble_eq_true rfl, Nat.le_of_ble_eq_true rfl⟩ rfl rfl ⟨Nat.zero_le _, Nat.zero_le _⟩ (Nat.le_of_ble_eq_true rfl) d_X9_lossOf_24 ?_
  refine z_iload_n cx d_X9_lossOf_27 2 rfl ?_
  obtain ⟨v5, M4, hc, hF⟩ := zb_inv hF
  refine z_callS cx (As := [.long v3, .int p1]) (rest := []) (c_X9_has l cx.2.2.2.1.1 M2 v3 p1  hc) cs_SunnyPans_231 ⟨rfl, rfl, Nat.le_of_ble_eq_true rfl, Nat.le_of_ble_eq_true rfl⟩ rfl rfl ⟨Nat.zero_le _, Nat.zero_le _⟩ (Nat.le_of_ble_eq_true rfl) d_X9_lossOf_28 ?_
  refine z_if_eq cx 36 d_X9_lossOf_31 (by decide) hF (fun hF => ?_) (fun hF => ?_)
  · refine z_aload_n cx d_X9_lossOf_36 0 rfl ?_
    obtain ⟨hg6, hF⟩ := gd_inv hF
    refine z_getD cx hT fg_SunnyPans_62 d_X9_lossOf_37 ?_
    refine z_getR cx (td_6 hT hg6) fg_SunnyPans_241 ((M4.2.2 0 8) + 2) rfl d_X9_lossOf_40 ?_
    refine z_iload cx d_X9_lossOf_43 4 rfl ?_
    obtain ⟨hi7, hF⟩ := gin_inv hF
    refine z_iald cx (tfX_6_2 (td_6 hT hg6)) za_25 hi7 p3.toNatClampNeg rfl d_X9_lossOf_45 ?_
    refine z_nm hF (fun v8 hF => ?_)
    refine z_istore cx 6 [(6, .int v8), (0, .ref (ad 0)), (1, .ref (ad p0)), (2, .int p1), (3, .int p2), (4, .int p3), (5, .int p4)] d_X9_lossOf_46 (by decide) rfl ?_
    refine z_iload_n cx d_X9_lossOf_48 4 rfl ?_
    refine z_aload_n cx d_X9_lossOf_49 1 rfl ?_
    obtain ⟨hg9, hF⟩ := gd_inv hF
    refine z_getD cx hT fg_SunnyPans_72 d_X9_lossOf_50 ?_
    refine z_iload_n cx d_X9_lossOf_53 4 rfl ?_
    refine z_aload_n cx d_X9_lossOf_54 2 rfl ?_
    refine z_getR cx hT_p0 fg_SunnyPans_181 (p0 + 2) rfl d_X9_lossOf_55 ?_
    refine z_iload_n cx d_X9_lossOf_58 3 rfl ?_
    obtain ⟨hi10, hF⟩ := gin_inv hF
    refine z_iald cx (tfX_5_2 hT_p0) za_16 hi10 p1.toNatClampNeg rfl d_X9_lossOf_59 ?_
    refine z_iload cx d_X9_lossOf_60 0 rfl ?_
    refine z_aload_n cx d_X9_lossOf_62 1 rfl ?_
    refine z_getD cx hT fg_SunnyPans_62 d_X9_lossOf_63 ?_
    refine z_getR cx (td_6 hT hg6) fg_SunnyPans_238 ((M4.2.2 0 8) + 1) rfl d_X9_lossOf_66 ?_
    refine z_iload cx d_X9_lossOf_69 5 rfl ?_
    refine z_iald cx (tfX_6_1 (td_6 hT hg6)) za_25 hi7 p3.toNatClampNeg rfl d_X9_lossOf_71 ?_
    refine z_iload cx d_X9_lossOf_72 5 rfl ?_
    refine z_iload cx d_X9_lossOf_74 6 rfl ?_
    refine z_iload_n cx d_X9_lossOf_76 3 rfl ?_
    obtain ⟨v12, M11, hc, hF⟩ := zb_inv hF
    refine z_callV cx (As := [.int p2, .int (M4.1 (p0 + 2) p1.toNatClampNeg), .int v8, .int (M4.1 ((M4.2.2 0 8) + 1) p3.toNatClampNeg), .int p3, .int p4, .int p1]) (rest := [.int p2]) (c_X3_rate l cx.2.2.2.1.1 M4 (M4.2.2 0 10) p2 (M4.1 (p0 + 2) p1.toNatClampNeg) v8 (M4.1 ((M4.2.2 0 8) + 1) p3.toNatClampNeg) p3 p4 p1 (td_4 hT hg9) hc) (td_4 hT hg9) zo_4 cv_SunnyPans_251 ⟨rfl, rfl, Nat.le_of_ble_eq_true rfl, Nat.le_of_ble_eq_true rfl⟩ rfl rfl ⟨Nat.zero_le _, Nat.zero_le _⟩ (Nat.le_of_ble_eq_true rfl) d_X9_lossOf_77 ?_
    refine z_mmin cx ⟨wd_950, wd_602, wd_116, wd_603⟩ ⟨Nat.le_of_ble_eq_true rfl, Nat.le_of_ble_eq_true rfl, Nat.le_of_ble_eq_true rfl, Nat.le_of_ble_eq_true rfl⟩ d_X9_lossOf_80 ?_
    exact z_iret cx hr rfl hF d_X9_lossOf_83
  refine z_iconst (v := 0) cx d_X9_lossOf_34 ki_0 ?_
  exact z_iret cx hr rfl hF d_X9_lossOf_35
