/-! SunnyPans.lossBy -/
theorem d_X9_lossBy_0 : decode cX9_lossBy 0 = .ok (.aload_n 0, 1) := by decide +kernel
theorem d_X9_lossBy_1 : decode cX9_lossBy 1 = .ok (.getfield 19, 3) := by decide +kernel
theorem d_X9_lossBy_4 : decode cX9_lossBy 4 = .ok (.getfield 159, 3) := by decide +kernel
theorem d_X9_lossBy_7 : decode cX9_lossBy 7 = .ok (.astore_n 2, 1) := by decide +kernel
theorem d_X9_lossBy_8 : decode cX9_lossBy 8 = .ok (.iconst 0, 1) := by decide +kernel
theorem d_X9_lossBy_9 : decode cX9_lossBy 9 = .ok (.istore_n 3, 1) := by decide +kernel
theorem d_X9_lossBy_10 : decode cX9_lossBy 10 = .ok (.iconst 0, 1) := by decide +kernel
theorem d_X9_lossBy_11 : decode cX9_lossBy 11 = .ok (.istore 4, 2) := by decide +kernel
theorem d_X9_lossBy_13 : decode cX9_lossBy 13 = .ok (.iload 4, 2) := by decide +kernel
theorem d_X9_lossBy_15 : decode cX9_lossBy 15 = .ok (.bipush 64, 2) := by decide +kernel
theorem d_X9_lossBy_17 : decode cX9_lossBy 17 = .ok (.if_icmp .ge 31, 3) := by decide +kernel
theorem d_X9_lossBy_20 : decode cX9_lossBy 20 = .ok (.iload_n 3, 1) := by decide +kernel
theorem d_X9_lossBy_21 : decode cX9_lossBy 21 = .ok (.aload_n 0, 1) := by decide +kernel
theorem d_X9_lossBy_22 : decode cX9_lossBy 22 = .ok (.aload_n 2, 1) := by decide +kernel
theorem d_X9_lossBy_23 : decode cX9_lossBy 23 = .ok (.iload 4, 2) := by decide +kernel
theorem d_X9_lossBy_25 : decode cX9_lossBy 25 = .ok (.aload_n 2, 1) := by decide +kernel
theorem d_X9_lossBy_26 : decode cX9_lossBy 26 = .ok (.getfield 174, 3) := by decide +kernel
theorem d_X9_lossBy_29 : decode cX9_lossBy 29 = .ok (.iload 4, 2) := by decide +kernel
theorem d_X9_lossBy_31 : decode cX9_lossBy 31 = .ok (.iaload, 1) := by decide +kernel
theorem d_X9_lossBy_32 : decode cX9_lossBy 32 = .ok (.iload_n 1, 1) := by decide +kernel
theorem d_X9_lossBy_33 : decode cX9_lossBy 33 = .ok (.aload_n 2, 1) := by decide +kernel
theorem d_X9_lossBy_34 : decode cX9_lossBy 34 = .ok (.getfield 168, 3) := by decide +kernel
theorem d_X9_lossBy_37 : decode cX9_lossBy 37 = .ok (.invokevirtual 326, 3) := by decide +kernel
theorem d_X9_lossBy_40 : decode cX9_lossBy 40 = .ok (.iadd, 1) := by decide +kernel
theorem d_X9_lossBy_41 : decode cX9_lossBy 41 = .ok (.istore_n 3, 1) := by decide +kernel
theorem d_X9_lossBy_42 : decode cX9_lossBy 42 = .ok (.iinc 4 1, 3) := by decide +kernel
theorem d_X9_lossBy_45 : decode cX9_lossBy 45 = .ok (.goto (-32), 3) := by decide +kernel
theorem d_X9_lossBy_48 : decode cX9_lossBy 48 = .ok (.iload_n 3, 1) := by decide +kernel
theorem d_X9_lossBy_49 : decode cX9_lossBy 49 = .ok (.ireturn, 1) := by decide +kernel
def F_X9_lossBy_13 (p0 : Int32) (self13 : Int32 → Int32 → Int32 → zMem → Option (Int32 × zMem)) (b13_L1 : Int32) (b13_L3 : Int32) (b13_L4 : Int32) (M : zMem) : Option (Int32 × zMem) :=
  if (64 : Int32) ≤ b13_L4 then
    some (b13_L3, M)
  else
    gin b13_L4 64 <|
    zb (F_X9_lossOf M 4 b13_L4 (M.1 5 b13_L4.toNatClampNeg) b13_L1 (M.1 4 4)) fun v3 M2 =>
    zl (b13_L3 + v3) fun v4 =>
    self13 b13_L1 v4 (b13_L4 + 1) M2
def F_X9_lossBy (M : zMem) (p0 : Int32) : Option (Int32 × zMem) :=
  itF (fun _ _ _ _ => none) (F_X9_lossBy_13 p0) zFuel p0 (0 : Int32) (0 : Int32) M
def rm_X9_lossBy : Room := { frames := 6, cells := 0, slots := 0, locals := 158 }
set_option maxHeartbeats 4000000 in
set_option maxRecDepth 100000 in
theorem c_X9_lossBy (l : Launch) {G : zG} {ad : Nat → Nat} {n : Nat} (hA : zInj ad n) (M : zMem) (p0 : Int32) (hT : zT shX n 0 10) {r9 : Int32} {M9 : zMem} (hF : F_X9_lossBy M p0 = some (r9, M9)) : zM l yX9_lossBy cX9_lossBy 5 (some .int) rm_X9_lossBy G shX ad n M [.ref (ad 0), .int p0] (some (.int r9)) M9 := by
  refine zM_of hA (by decide +kernel) (lv := [(0, .ref (ad 0)), (1, .int p0)]) (Nat.le_of_ble_eq_true rfl) rfl (fun p e s m args below meth c A cx hr => ?_)
  have hL13 : ∀ (fuel : Nat), ∀ (b13_L1 : Int32) (b13_L3 : Int32) (b13_L4 : Int32) (M : zMem), itF (fun _ _ _ _ => none) (F_X9_lossBy_13 p0) fuel b13_L1 b13_L3 b13_L4 M = some (r9, M9) → zJ p l e rm_X9_lossBy s m args below meth c G shX ad n A 5 (MQ below (zQ G shX ad n M9 (some (.int r9)) A) args s 0 0 A) 0 0 M 13 [(0, .ref (ad 0)), (1, .int b13_L1), (2, .ref (ad 4)), (3, .int b13_L3), (4, .int b13_L4)] [] := by
    intro fuel
    induction fuel with
    | zero => intro b13_L1 b13_L3 b13_L4 M hF; cases hF
    | succ fuel hs13 =>
      intro b13_L1 b13_L3 b13_L4 M hF
      have hF : F_X9_lossBy_13 p0 (itF (fun _ _ _ _ => none) (F_X9_lossBy_13 p0) fuel) b13_L1 b13_L3 b13_L4 M = some (r9, M9) := hF
      generalize itF (fun _ _ _ _ => none) (F_X9_lossBy_13 p0) fuel = self13 at hs13 hF
      unfold F_X9_lossBy_13 at hF
      refine z_iload cx d_X9_lossBy_13 4 rfl ?_
      refine z_bipush (v := 64) cx d_X9_lossBy_15 kb_64 ?_
      refine z_icmp_ge cx 48 d_X9_lossBy_17 (by decide) hF (fun hF => ?_) (fun hF => ?_)
      · refine z_iload_n cx d_X9_lossBy_48 3 rfl ?_
        exact z_iret cx hr rfl hF d_X9_lossBy_49
      refine z_iload_n cx d_X9_lossBy_20 3 rfl ?_
      refine z_aload_n cx d_X9_lossBy_21 0 rfl ?_
      refine z_aload_n cx d_X9_lossBy_22 2 rfl ?_
      refine z_iload cx d_X9_lossBy_23 4 rfl ?_
      refine z_aload_n cx d_X9_lossBy_25 2 rfl ?_
      refine z_getR cx ? fg_SunnyPans_174 5 rfl d_X9_lossBy_26 ?_
      refine z_iload cx d_X9_lossBy_29 4 rfl ?_
      obtain ⟨hi1, hF⟩ := gin_inv hF
      refine z_iald cx (tfX_5_1 ?) za_16 hi1 b13_L4.toNatClampNeg rfl d_X9_lossBy_31 ?_
      refine z_iload_n cx d_X9_lossBy_32 1 rfl ?_
      refine z_aload_n cx d_X9_lossBy_33 2 rfl ?_
      refine z_getI cx ? fg_SunnyPans_168 d_X9_lossBy_34 ?_
      obtain ⟨v3, M2, hc, hF⟩ := zb_inv hF
      refine z_callV cx (As := [.ref (ad 4), .int b13_L4, .int (M.1 5 b13_L4.toNatClampNeg), .int b13_L1, .int (M.1 4 4)]) (rest := [.int b13_L3]) (c_X9_lossOf l cx.2.2.2.1.1 M 4 b13_L4 (M.1 5 b13_L4.toNatClampNeg) b13_L1 (M.1 4 4) hT ? hc) hT zo_10 cv_SunnyPans_326 ⟨rfl, rfl, Nat.le_of_ble_eq_true rfl, Nat.le_of_ble_eq_true rfl⟩ rfl rfl ⟨Nat.zero_le _, Nat.zero_le _⟩ (Nat.le_of_ble_eq_true rfl) d_X9_lossBy_37 ?_
      refine z_iadd cx d_X9_lossBy_40 ?_
      refine z_nm hF (fun v4 hF => ?_)
      refine z_istore_n cx 3 [(3, .int v4), (0, .ref (ad 0)), (1, .int b13_L1), (2, .ref (ad 4)), (4, .int b13_L4)] d_X9_lossBy_41 rfl (by decide) rfl ?_
      refine z_iinc cx 4 1 [(4, .int (b13_L4 + 1)), (3, .int v4), (0, .ref (ad 0)), (1, .int b13_L1), (2, .ref (ad 4))] d_X9_lossBy_42 4 rfl ki_1 (by decide) rfl ?_
      refine z_goto cx 13 d_X9_lossBy_45 (by decide) ?_
      exact z_lv [2, 3, 4, 1, 0] _ rfl (hs13 b13_L1 v4 (b13_L4 + 1) M2 hF)
  unfold F_X9_lossBy at hF
  refine z_aload_n cx d_X9_lossBy_0 0 rfl ?_
  refine z_getR cx hT fg_SunnyPans_19 3 rfl d_X9_lossBy_1 ?_
  refine z_getR cx (tfX_10_3 hT) fg_SunnyPans_159 4 rfl d_X9_lossBy_4 ?_
  refine z_astore_n cx 2 [(2, .ref (ad 4)), (0, .ref (ad 0)), (1, .int p0)] d_X9_lossBy_7 rfl (by decide) rfl ?_
  refine z_iconst (v := 0) cx d_X9_lossBy_8 ki_0 ?_
  refine z_istore_n cx 3 [(3, .int (0 : Int32)), (2, .ref (ad 4)), (0, .ref (ad 0)), (1, .int p0)] d_X9_lossBy_9 rfl (by decide) rfl ?_
  refine z_iconst (v := 0) cx d_X9_lossBy_10 ki_0 ?_
  refine z_istore cx 4 [(4, .int (0 : Int32)), (3, .int (0 : Int32)), (2, .ref (ad 4)), (0, .ref (ad 0)), (1, .int p0)] d_X9_lossBy_11 (by decide) rfl ?_
  exact z_lv [3, 4, 2, 1, 0] _ rfl (hL13 zFuel p0 (0 : Int32) (0 : Int32) M hF)
/-! SunnyPans.layEverywhere -/
theorem d_X9_layEverywhere_0 : decode cX9_layEverywhere 0 = .ok (.aload_n 0, 1) := by decide +kernel
theorem d_X9_layEverywhere_1 : decode cX9_layEverywhere 1 = .ok (.getfield 19, 3) := by decide +kernel
theorem d_X9_layEverywhere_4 : decode cX9_layEverywhere 4 = .ok (.getfield 159, 3) := by decide +kernel
theorem d_X9_layEverywhere_7 : decode cX9_layEverywhere 7 = .ok (.invokevirtual 361, 3) := by decide +kernel
theorem d_X9_layEverywhere_10 : decode cX9_layEverywhere 10 = .ok (.aload_n 0, 1) := by decide +kernel
theorem d_X9_layEverywhere_11 : decode cX9_layEverywhere 11 = .ok (.getfield 62, 3) := by decide +kernel
theorem d_X9_layEverywhere_14 : decode cX9_layEverywhere 14 = .ok (.getfield 200, 3) := by decide +kernel
theorem d_X9_layEverywhere_17 : decode cX9_layEverywhere 17 = .ok (.land, 1) := by decide +kernel
theorem d_X9_layEverywhere_18 : decode cX9_layEverywhere 18 = .ok (.lstore_n 2, 1) := by decide +kernel
theorem d_X9_layEverywhere_19 : decode cX9_layEverywhere 19 = .ok (.aload_n 0, 1) := by decide +kernel
theorem d_X9_layEverywhere_20 : decode cX9_layEverywhere 20 = .ok (.getfield 44, 3) := by decide +kernel
theorem d_X9_layEverywhere_23 : decode cX9_layEverywhere 23 = .ok (.aload_n 0, 1) := by decide +kernel
theorem d_X9_layEverywhere_24 : decode cX9_layEverywhere 24 = .ok (.getfield 62, 3) := by decide +kernel
theorem d_X9_layEverywhere_27 : decode cX9_layEverywhere 27 = .ok (.aload_n 0, 1) := by decide +kernel
theorem d_X9_layEverywhere_28 : decode cX9_layEverywhere 28 = .ok (.getfield 19, 3) := by decide +kernel
theorem d_X9_layEverywhere_31 : decode cX9_layEverywhere 31 = .ok (.getfield 159, 3) := by decide +kernel
theorem d_X9_layEverywhere_34 : decode cX9_layEverywhere 34 = .ok (.lload_n 2, 1) := by decide +kernel
theorem d_X9_layEverywhere_35 : decode cX9_layEverywhere 35 = .ok (.iload_n 1, 1) := by decide +kernel
theorem d_X9_layEverywhere_36 : decode cX9_layEverywhere 36 = .ok (.invokevirtual 364, 3) := by decide +kernel
theorem d_X9_layEverywhere_39 : decode cX9_layEverywhere 39 = .ok (.lload_n 2, 1) := by decide +kernel
theorem d_X9_layEverywhere_40 : decode cX9_layEverywhere 40 = .ok (.lreturn, 1) := by decide +kernel
def F_X9_layEverywhere (M : zMem) (p0 : Int32) : Option (Int64 × zMem) :=
  zb (F_X4_freePlaces M 4) fun v2 M1 =>
  gd (shX (M1.2.2 0 8) == 6) <|
  zl (v2 &&& (M1.2.1 (M1.2.2 0 8) 3)) fun v4 =>
  zbv (F_X6_lay M1 104 (M1.2.2 0 8) 4 v4 p0) fun M5 =>
  some (v4, M5)
def rm_X9_layEverywhere : Room := { frames := 6, cells := 0, slots := 0, locals := 163 }
set_option maxHeartbeats 4000000 in
set_option maxRecDepth 100000 in
theorem c_X9_layEverywhere (l : Launch) {G : zG} {ad : Nat → Nat} {n : Nat} (hA : zInj ad n) (M : zMem) (p0 : Int32) (hT : zT shX n 0 10) {r9 : Int64} {M9 : zMem} (hF : F_X9_layEverywhere M p0 = some (r9, M9)) : zM l yX9_layEverywhere cX9_layEverywhere 4 (some .long) rm_X9_layEverywhere G shX ad n M [.ref (ad 0), .int p0] (some (.long r9)) M9 := by
  refine zM_of hA (by decide +kernel) (lv := [(0, .ref (ad 0)), (1, .int p0)]) (Nat.le_of_ble_eq_true rfl) rfl (fun p e s m args below meth c A cx hr => ?_)
  unfold F_X9_layEverywhere at hF
  refine z_aload_n cx d_X9_layEverywhere_0 0 rfl ?_
  refine z_getR cx hT fg_SunnyPans_19 3 rfl d_X9_layEverywhere_1 ?_
  refine z_getR cx (tfX_10_3 hT) fg_SunnyPans_159 4 rfl d_X9_layEverywhere_4 ?_
  obtain ⟨v2, M1, hc, hF⟩ := zb_inv hF
  refine z_callV cx (As := []) (rest := []) (c_X4_freePlaces l cx.2.2.2.1.1 M 4 (tfX_8_1 (tfX_10_3 hT)) hc) (tfX_8_1 (tfX_10_3 hT)) zo_5 cv_SunnyPans_361 ⟨rfl, rfl, Nat.le_of_ble_eq_true rfl, Nat.le_of_ble_eq_true rfl⟩ rfl rfl ⟨Nat.zero_le _, Nat.zero_le _⟩ (Nat.le_of_ble_eq_true rfl) d_X9_layEverywhere_7 ?_
  refine z_aload_n cx d_X9_layEverywhere_10 0 rfl ?_
  obtain ⟨hg3, hF⟩ := gd_inv hF
  refine z_getD cx hT fg_SunnyPans_62 d_X9_layEverywhere_11 ?_
  refine z_getL cx (td_6 hT hg3) fg_SunnyPans_200 d_X9_layEverywhere_14 ?_
  refine z_land cx d_X9_layEverywhere_17 ?_
  refine z_nml hF (fun v4 hF => ?_)
  refine z_lstore_n cx 2 [(2, .long v4), (0, .ref (ad 0)), (1, .int p0)] d_X9_layEverywhere_18 rfl (by decide) rfl ?_
  refine z_aload_n cx d_X9_layEverywhere_19 1 rfl ?_
  refine z_getR cx hT fg_SunnyPans_44 104 rfl d_X9_layEverywhere_20 ?_
  refine z_aload_n cx d_X9_layEverywhere_23 1 rfl ?_
  refine z_getD cx hT fg_SunnyPans_62 d_X9_layEverywhere_24 ?_
  refine z_aload_n cx d_X9_layEverywhere_27 1 rfl ?_
  refine z_getR cx hT fg_SunnyPans_19 3 rfl d_X9_layEverywhere_28 ?_
  refine z_getR cx (tfX_10_3 hT) fg_SunnyPans_159 4 rfl d_X9_layEverywhere_31 ?_
  refine z_lload_n cx d_X9_layEverywhere_34 0 rfl ?_
  refine z_iload_n cx d_X9_layEverywhere_35 2 rfl ?_
  obtain ⟨M5, hc, hF⟩ := zbv_inv hF
  refine z_callV cx (As := [.ref (ad (M1.2.2 0 8)), .ref (ad 4), .long v4, .int p0]) (rest := []) (c_X6_lay l cx.2.2.2.1.1 M1 104 (M1.2.2 0 8) 4 v4 p0 (tfX_10_104 hT) (td_6 hT hg3) (tfX_8_1 (tfX_10_3 hT)) hc) (tfX_10_104 hT) zo_7 cv_SunnyPans_364 ⟨rfl, rfl, Nat.le_of_ble_eq_true rfl, Nat.le_of_ble_eq_true rfl⟩ rfl rfl ⟨Nat.zero_le _, Nat.zero_le _⟩ (Nat.le_of_ble_eq_true rfl) d_X9_layEverywhere_36 ?_
  refine z_lload_n cx d_X9_layEverywhere_39 0 rfl ?_
  exact z_lret cx hr hF d_X9_layEverywhere_40
/-! SunnyPans.brineAfterDay -/
theorem d_X9_brineAfterDay_0 : decode cX9_brineAfterDay 0 = .ok (.aload_n 0, 1) := by decide +kernel
theorem d_X9_brineAfterDay_1 : decode cX9_brineAfterDay 1 = .ok (.getfield 19, 3) := by decide +kernel
theorem d_X9_brineAfterDay_4 : decode cX9_brineAfterDay 4 = .ok (.getfield 159, 3) := by decide +kernel
theorem d_X9_brineAfterDay_7 : decode cX9_brineAfterDay 7 = .ok (.astore_n 3, 1) := by decide +kernel
theorem d_X9_brineAfterDay_8 : decode cX9_brineAfterDay 8 = .ok (.aload_n 3, 1) := by decide +kernel
theorem d_X9_brineAfterDay_9 : decode cX9_brineAfterDay 9 = .ok (.getfield 174, 3) := by decide +kernel
theorem d_X9_brineAfterDay_12 : decode cX9_brineAfterDay 12 = .ok (.iload_n 1, 1) := by decide +kernel
theorem d_X9_brineAfterDay_13 : decode cX9_brineAfterDay 13 = .ok (.iaload, 1) := by decide +kernel
theorem d_X9_brineAfterDay_14 : decode cX9_brineAfterDay 14 = .ok (.istore 4, 2) := by decide +kernel
theorem d_X9_brineAfterDay_16 : decode cX9_brineAfterDay 16 = .ok (.aload_n 3, 1) := by decide +kernel
theorem d_X9_brineAfterDay_17 : decode cX9_brineAfterDay 17 = .ok (.getfield 171, 3) := by decide +kernel
theorem d_X9_brineAfterDay_20 : decode cX9_brineAfterDay 20 = .ok (.istore 5, 2) := by decide +kernel
theorem d_X9_brineAfterDay_22 : decode cX9_brineAfterDay 22 = .ok (.aload_n 3, 1) := by decide +kernel
theorem d_X9_brineAfterDay_23 : decode cX9_brineAfterDay 23 = .ok (.getfield 168, 3) := by decide +kernel
theorem d_X9_brineAfterDay_26 : decode cX9_brineAfterDay 26 = .ok (.istore 6, 2) := by decide +kernel
theorem d_X9_brineAfterDay_28 : decode cX9_brineAfterDay 28 = .ok (.iconst 0, 1) := by decide +kernel
theorem d_X9_brineAfterDay_29 : decode cX9_brineAfterDay 29 = .ok (.istore 7, 2) := by decide +kernel
theorem d_X9_brineAfterDay_31 : decode cX9_brineAfterDay 31 = .ok (.iload 7, 2) := by decide +kernel
theorem d_X9_brineAfterDay_33 : decode cX9_brineAfterDay 33 = .ok (.aload_n 0, 1) := by decide +kernel
theorem d_X9_brineAfterDay_34 : decode cX9_brineAfterDay 34 = .ok (.getfield 62, 3) := by decide +kernel
theorem d_X9_brineAfterDay_37 : decode cX9_brineAfterDay 37 = .ok (.getfield 127, 3) := by decide +kernel
theorem d_X9_brineAfterDay_40 : decode cX9_brineAfterDay 40 = .ok (.if_icmp .ge 69, 3) := by decide +kernel
theorem d_X9_brineAfterDay_43 : decode cX9_brineAfterDay 43 = .ok (.iload 4, 2) := by decide +kernel
theorem d_X9_brineAfterDay_45 : decode cX9_brineAfterDay 45 = .ok (.ifCond .le 64, 3) := by decide +kernel
theorem d_X9_brineAfterDay_48 : decode cX9_brineAfterDay 48 = .ok (.aload_n 0, 1) := by decide +kernel
theorem d_X9_brineAfterDay_49 : decode cX9_brineAfterDay 49 = .ok (.getfield 44, 3) := by decide +kernel
theorem d_X9_brineAfterDay_52 : decode cX9_brineAfterDay 52 = .ok (.iload_n 2, 1) := by decide +kernel
theorem d_X9_brineAfterDay_53 : decode cX9_brineAfterDay 53 = .ok (.iload 5, 2) := by decide +kernel
theorem d_X9_brineAfterDay_55 : decode cX9_brineAfterDay 55 = .ok (.invokevirtual 379, 3) := by decide +kernel
theorem d_X9_brineAfterDay_58 : decode cX9_brineAfterDay 58 = .ok (.iload_n 1, 1) := by decide +kernel
theorem d_X9_brineAfterDay_59 : decode cX9_brineAfterDay 59 = .ok (.invokestatic 231, 3) := by decide +kernel
theorem d_X9_brineAfterDay_62 : decode cX9_brineAfterDay 62 = .ok (.ifCond .ne 20, 3) := by decide +kernel
theorem d_X9_brineAfterDay_65 : decode cX9_brineAfterDay 65 = .ok (.iload 4, 2) := by decide +kernel
theorem d_X9_brineAfterDay_67 : decode cX9_brineAfterDay 67 = .ok (.aload_n 0, 1) := by decide +kernel
theorem d_X9_brineAfterDay_68 : decode cX9_brineAfterDay 68 = .ok (.aload_n 3, 1) := by decide +kernel
theorem d_X9_brineAfterDay_69 : decode cX9_brineAfterDay 69 = .ok (.iload_n 1, 1) := by decide +kernel
theorem d_X9_brineAfterDay_70 : decode cX9_brineAfterDay 70 = .ok (.iload 4, 2) := by decide +kernel
theorem d_X9_brineAfterDay_72 : decode cX9_brineAfterDay 72 = .ok (.iload 5, 2) := by decide +kernel
theorem d_X9_brineAfterDay_74 : decode cX9_brineAfterDay 74 = .ok (.iload 6, 2) := by decide +kernel
theorem d_X9_brineAfterDay_76 : decode cX9_brineAfterDay 76 = .ok (.invokevirtual 326, 3) := by decide +kernel
theorem d_X9_brineAfterDay_79 : decode cX9_brineAfterDay 79 = .ok (.isub, 1) := by decide +kernel
theorem d_X9_brineAfterDay_80 : decode cX9_brineAfterDay 80 = .ok (.istore 4, 2) := by decide +kernel
theorem d_X9_brineAfterDay_82 : decode cX9_brineAfterDay 82 = .ok (.iinc 5 1, 3) := by decide +kernel
theorem d_X9_brineAfterDay_85 : decode cX9_brineAfterDay 85 = .ok (.iload 5, 2) := by decide +kernel
theorem d_X9_brineAfterDay_87 : decode cX9_brineAfterDay 87 = .ok (.aload_n 0, 1) := by decide +kernel
theorem d_X9_brineAfterDay_88 : decode cX9_brineAfterDay 88 = .ok (.getfield 62, 3) := by decide +kernel
theorem d_X9_brineAfterDay_91 : decode cX9_brineAfterDay 91 = .ok (.getfield 127, 3) := by decide +kernel
theorem d_X9_brineAfterDay_94 : decode cX9_brineAfterDay 94 = .ok (.if_icmp .lt 9, 3) := by decide +kernel
theorem d_X9_brineAfterDay_97 : decode cX9_brineAfterDay 97 = .ok (.iconst 0, 1) := by decide +kernel
theorem d_X9_brineAfterDay_98 : decode cX9_brineAfterDay 98 = .ok (.istore 5, 2) := by decide +kernel
theorem d_X9_brineAfterDay_100 : decode cX9_brineAfterDay 100 = .ok (.iinc 6 1, 3) := by decide +kernel
theorem d_X9_brineAfterDay_103 : decode cX9_brineAfterDay 103 = .ok (.iinc 7 1, 3) := by decide +kernel
theorem d_X9_brineAfterDay_106 : decode cX9_brineAfterDay 106 = .ok (.goto (-75), 3) := by decide +kernel
theorem d_X9_brineAfterDay_109 : decode cX9_brineAfterDay 109 = .ok (.iload 4, 2) := by decide +kernel
theorem d_X9_brineAfterDay_111 : decode cX9_brineAfterDay 111 = .ok (.ireturn, 1) := by decide +kernel
def F_X9_brineAfterDay_103 (p0 : Int32) (p1 : Int32) (self31 : Int32 → Int32 → Int32 → Int32 → Int32 → Int32 → zMem → Option (Int32 × zMem)) (b103_L1 : Int32) (b103_L2 : Int32) (b103_L4 : Int32) (b103_L5 : Int32) (b103_L6 : Int32) (b103_L7 : Int32) (M : zMem) : Option (Int32 × zMem) :=
  self31 b103_L1 b103_L2 b103_L4 b103_L5 b103_L6 (b103_L7 + 1) M
def F_X9_brineAfterDay_82 (p0 : Int32) (p1 : Int32) (self31 : Int32 → Int32 → Int32 → Int32 → Int32 → Int32 → zMem → Option (Int32 × zMem)) (b82_L1 : Int32) (b82_L2 : Int32) (b82_L4 : Int32) (b82_L5 : Int32) (b82_L6 : Int32) (b82_L7 : Int32) (M : zMem) : Option (Int32 × zMem) :=
  gd (shX (M.2.2 0 8) == 6) <|
  if (b82_L5 + 1) < (M.1 (M.2.2 0 8) 2) then
    F_X9_brineAfterDay_103 p0 p1 self31 b82_L1 b82_L2 b82_L4 (b82_L5 + 1) b82_L6 b82_L7 M
  else
    F_X9_brineAfterDay_103 p0 p1 self31 b82_L1 b82_L2 b82_L4 (0 : Int32) (b82_L6 + 1) b82_L7 M
def F_X9_brineAfterDay_31 (p0 : Int32) (p1 : Int32) (self31 : Int32 → Int32 → Int32 → Int32 → Int32 → Int32 → zMem → Option (Int32 × zMem)) (b31_L1 : Int32) (b31_L2 : Int32) (b31_L4 : Int32) (b31_L5 : Int32) (b31_L6 : Int32) (b31_L7 : Int32) (M : zMem) : Option (Int32 × zMem) :=
  gd (shX (M.2.2 0 8) == 6) <|
  if (M.1 (M.2.2 0 8) 2) ≤ b31_L7 then
    some (b31_L4, M)
  else
    if b31_L4 ≤ 0 then
      some (b31_L4, M)
    else
      zb (F_X6_addedAt M 104 b31_L2 b31_L5) fun v4 M3 =>
      zb (F_X9_has M3 v4 b31_L1) fun v6 M5 =>
      if v6 = 0 then
        zb (F_X9_lossOf M5 4 b31_L1 b31_L4 b31_L5 b31_L6) fun v8 M7 =>
        zl (b31_L4 - v8) fun v9 =>
        F_X9_brineAfterDay_82 p0 p1 self31 b31_L1 b31_L2 v9 b31_L5 b31_L6 b31_L7 M7
      else
        F_X9_brineAfterDay_82 p0 p1 self31 b31_L1 b31_L2 b31_L4 b31_L5 b31_L6 b31_L7 M5
def F_X9_brineAfterDay (M : zMem) (p0 : Int32) (p1 : Int32) : Option (Int32 × zMem) :=
  gin p0 64 <|
  zl (M.1 5 p0.toNatClampNeg) fun v11 =>
  zl (M.1 4 5) fun v12 =>
  zl (M.1 4 4) fun v13 =>
  itF (fun _ _ _ _ _ _ _ => none) (F_X9_brineAfterDay_31 p0 p1) zFuel p0 p1 v11 v12 v13 (0 : Int32) M
def rm_X9_brineAfterDay : Room := { frames := 6, cells := 0, slots := 0, locals := 158 }
set_option maxHeartbeats 4000000 in
set_option maxRecDepth 100000 in
theorem c_X9_brineAfterDay (l : Launch) {G : zG} {ad : Nat → Nat} {n : Nat} (hA : zInj ad n) (M : zMem) (p0 : Int32) (p1 : Int32) (hT : zT shX n 0 10) {r9 : Int32} {M9 : zMem} (hF : F_X9_brineAfterDay M p0 p1 = some (r9, M9)) : zM l yX9_brineAfterDay cX9_brineAfterDay 8 (some .int) rm_X9_brineAfterDay G shX ad n M [.ref (ad 0), .int p0, .int p1] (some (.int r9)) M9 := by
  refine zM_of hA (by decide +kernel) (lv := [(0, .ref (ad 0)), (1, .int p0), (2, .int p1)]) (Nat.le_of_ble_eq_true rfl) rfl (fun p e s m args below meth c A cx hr => ?_)
  have hb103 : ∀ (self31 : Int32 → Int32 → Int32 → Int32 → Int32 → Int32 → zMem → Option (Int32 × zMem)) (hs31 : ∀ (b31_L1 : Int32) (b31_L2 : Int32) (b31_L4 : Int32) (b31_L5 : Int32) (b31_L6 : Int32) (b31_L7 : Int32) (M : zMem), self31 b31_L1 b31_L2 b31_L4 b31_L5 b31_L6 b31_L7 M = some (r9, M9) → zJ p l e rm_X9_brineAfterDay s m args below meth c G shX ad n A 8 (MQ below (zQ G shX ad n M9 (some (.int r9)) A) args s 0 0 A) 0 0 M 31 [(0, .ref (ad 0)), (1, .int b31_L1), (2, .int b31_L2), (3, .ref (ad 4)), (4, .int b31_L4), (5, .int b31_L5), (6, .int b31_L6), (7, .int b31_L7)] []), ∀ (b103_L1 : Int32) (b103_L2 : Int32) (b103_L4 : Int32) (b103_L5 : Int32) (b103_L6 : Int32) (b103_L7 : Int32) (M : zMem), F_X9_brineAfterDay_103 p0 p1 self31 b103_L1 b103_L2 b103_L4 b103_L5 b103_L6 b103_L7 M = some (r9, M9) → zJ p l e rm_X9_brineAfterDay s m args below meth c G shX ad n A 8 (MQ below (zQ G shX ad n M9 (some (.int r9)) A) args s 0 0 A) 0 0 M 103 [(0, .ref (ad 0)), (1, .int b103_L1), (2, .int b103_L2), (3, .ref (ad 4)), (4, .int b103_L4), (5, .int b103_L5), (6, .int b103_L6), (7, .int b103_L7)] [] := by
    intro self31 hs31 b103_L1 b103_L2 b103_L4 b103_L5 b103_L6 b103_L7 M hF
    unfold F_X9_brineAfterDay_103 at hF
    refine z_iinc cx 7 1 [(7, .int (b103_L7 + 1)), (0, .ref (ad 0)), (1, .int b103_L1), (2, .int b103_L2), (3, .ref (ad 4)), (4, .int b103_L4), (5, .int b103_L5), (6, .int b103_L6)] d_X9_brineAfterDay_103 7 rfl ki_1 (by decide) rfl ?_
    refine z_goto cx 31 d_X9_brineAfterDay_106 (by decide) ?_
    exact z_lv [1, 2, 3, 4, 5, 6, 7, 0] _ rfl (hs31 b103_L1 b103_L2 b103_L4 b103_L5 b103_L6 (b103_L7 + 1) M hF)
  have hb82 : ∀ (self31 : Int32 → Int32 → Int32 → Int32 → Int32 → Int32 → zMem → Option (Int32 × zMem)) (hs31 : ∀ (b31_L1 : Int32) (b31_L2 : Int32) (b31_L4 : Int32) (b31_L5 : Int32) (b31_L6 : Int32) (b31_L7 : Int32) (M : zMem), self31 b31_L1 b31_L2 b31_L4 b31_L5 b31_L6 b31_L7 M = some (r9, M9) → zJ p l e rm_X9_brineAfterDay s m args below meth c G shX ad n A 8 (MQ below (zQ G shX ad n M9 (some (.int r9)) A) args s 0 0 A) 0 0 M 31 [(0, .ref (ad 0)), (1, .int b31_L1), (2, .int b31_L2), (3, .ref (ad 4)), (4, .int b31_L4), (5, .int b31_L5), (6, .int b31_L6), (7, .int b31_L7)] []), ∀ (b82_L1 : Int32) (b82_L2 : Int32) (b82_L4 : Int32) (b82_L5 : Int32) (b82_L6 : Int32) (b82_L7 : Int32) (M : zMem), F_X9_brineAfterDay_82 p0 p1 self31 b82_L1 b82_L2 b82_L4 b82_L5 b82_L6 b82_L7 M = some (r9, M9) → zJ p l e rm_X9_brineAfterDay s m args below meth c G shX ad n A 8 (MQ below (zQ G shX ad n M9 (some (.int r9)) A) args s 0 0 A) 0 0 M 82 [(0, .ref (ad 0)), (1, .int b82_L1), (2, .int b82_L2), (3, .ref (ad 4)), (4, .int b82_L4), (5, .int b82_L5), (6, .int b82_L6), (7, .int b82_L7)] [] := by
    intro self31 hs31 b82_L1 b82_L2 b82_L4 b82_L5 b82_L6 b82_L7 M hF
    unfold F_X9_brineAfterDay_82 at hF
    refine z_iinc cx 5 1 [(5, .int (b82_L5 + 1)), (0, .ref (ad 0)), (1, .int b82_L1), (2, .int b82_L2), (3, .ref (ad 4)), (4, .int b82_L4), (6, .int b82_L6), (7, .int b82_L7)] d_X9_brineAfterDay_82 5 rfl ki_1 (by decide) rfl ?_
    refine z_iload cx d_X9_brineAfterDay_85 0 rfl ?_
    refine z_aload_n cx d_X9_brineAfterDay_87 1 rfl ?_
    obtain ⟨hg1, hF⟩ := gd_inv hF
    refine z_getD cx hT fg_SunnyPans_62 d_X9_brineAfterDay_88 ?_
    refine z_getI cx (td_6 hT hg1) fg_SunnyPans_127 d_X9_brineAfterDay_91 ?_
    refine z_icmp_lt cx 103 d_X9_brineAfterDay_94 (by decide) hF (fun hF => ?_) (fun hF => ?_)
    · exact z_lv [1, 2, 3, 4, 5, 0, 6, 7] _ rfl (hb103 self31 hs31 b82_L1 b82_L2 b82_L4 (b82_L5 + 1) b82_L6 b82_L7 M hF)
    refine z_iconst (v := 0) cx d_X9_brineAfterDay_97 ki_0 ?_
    refine z_istore cx 5 [(5, .int (0 : Int32)), (0, .ref (ad 0)), (1, .int b82_L1), (2, .int b82_L2), (3, .ref (ad 4)), (4, .int b82_L4), (6, .int b82_L6), (7, .int b82_L7)] d_X9_brineAfterDay_98 (by decide) rfl ?_
    refine z_iinc cx 6 1 [(6, .int (b82_L6 + 1)), (5, .int (0 : Int32)), (0, .ref (ad 0)), (1, .int b82_L1), (2, .int b82_L2), (3, .ref (ad 4)), (4, .int b82_L4), (7, .int b82_L7)] d_X9_brineAfterDay_100 6 rfl ki_1 (by decide) rfl ?_
    exact z_lv [2, 3, 4, 5, 6, 1, 0, 7] _ rfl (hb103 self31 hs31 b82_L1 b82_L2 b82_L4 (0 : Int32) (b82_L6 + 1) b82_L7 M hF)
  have hL31 : ∀ (fuel : Nat), ∀ (b31_L1 : Int32) (b31_L2 : Int32) (b31_L4 : Int32) (b31_L5 : Int32) (b31_L6 : Int32) (b31_L7 : Int32) (M : zMem), itF (fun _ _ _ _ _ _ _ => none) (F_X9_brineAfterDay_31 p0 p1) fuel b31_L1 b31_L2 b31_L4 b31_L5 b31_L6 b31_L7 M = some (r9, M9) → zJ p l e rm_X9_brineAfterDay s m args below meth c G shX ad n A 8 (MQ below (zQ G shX ad n M9 (some (.int r9)) A) args s 0 0 A) 0 0 M 31 [(0, .ref (ad 0)), (1, .int b31_L1), (2, .int b31_L2), (3, .ref (ad 4)), (4, .int b31_L4), (5, .int b31_L5), (6, .int b31_L6), (7, .int b31_L7)] [] := by
    intro fuel
    induction fuel with
    | zero => intro b31_L1 b31_L2 b31_L4 b31_L5 b31_L6 b31_L7 M hF; cases hF
    | succ fuel hs31 =>
      intro b31_L1 b31_L2 b31_L4 b31_L5 b31_L6 b31_L7 M hF
      have hF : F_X9_brineAfterDay_31 p0 p1 (itF (fun _ _ _ _ _ _ _ => none) (F_X9_brineAfterDay_31 p0 p1) fuel) b31_L1 b31_L2 b31_L4 b31_L5 b31_L6 b31_L7 M = some (r9, M9) := hF
      generalize itF (fun _ _ _ _ _ _ _ => none) (F_X9_brineAfterDay_31 p0 p1) fuel = self31 at hs31 hF
      unfold F_X9_brineAfterDay_31 at hF
      refine z_iload cx d_X9_brineAfterDay_31 7 rfl ?_
      refine z_aload_n cx d_X9_brineAfterDay_33 0 rfl ?_
      obtain ⟨hg2, hF⟩ := gd_inv hF
      refine z_getD cx hT fg_SunnyPans_62 d_X9_brineAfterDay_34 ?_
      refine z_getI cx (td_6 hT hg2) fg_SunnyPans_127 d_X9_brineAfterDay_37 ?_
      refine z_icmp_ge cx 109 d_X9_brineAfterDay_40 (by decide) hF (fun hF => ?_) (fun hF => ?_)
      · refine z_iload cx d_X9_brineAfterDay_109 4 rfl ?_
        exact z_iret cx hr rfl hF d_X9_brineAfterDay_111
      refine z_iload cx d_X9_brineAfterDay_43 4 rfl ?_
      refine z_if_le cx 109 d_X9_brineAfterDay_45 (by decide) hF (fun hF => ?_) (fun hF => ?_)
      · refine z_iload cx d_X9_brineAfterDay_109 4 rfl ?_
        exact z_iret cx hr rfl hF d_X9_brineAfterDay_111
      refine z_aload_n cx d_X9_brineAfterDay_48 0 rfl ?_
      refine z_getR cx hT fg_SunnyPans_44 104 rfl d_X9_brineAfterDay_49 ?_
      refine z_iload_n cx d_X9_brineAfterDay_52 2 rfl ?_
      refine z_iload cx d_X9_brineAfterDay_53 5 rfl ?_
      obtain ⟨v4, M3, hc, hF⟩ := zb_inv hF
      refine z_callV cx (As := [.int b31_L2, .int b31_L5]) (rest := []) (c_X6_addedAt l cx.2.2.2.1.1 M 104 b31_L2 b31_L5 (tfX_10_104 hT) hc) (tfX_10_104 hT) zo_7 cv_SunnyPans_379 ⟨rfl, rfl, Nat.le_of_ble_eq_true rfl, Nat.le_of_ble_eq_true rfl⟩ rfl rfl ⟨Nat.zero_le _, Nat.zero_le _⟩ (Nat.le_of_ble_eq_true rfl) d_X9_brineAfterDay_55 ?_
      refine z_iload_n cx d_X9_brineAfterDay_58 1 rfl ?_
      obtain ⟨v6, M5, hc, hF⟩ := zb_inv hF
      refine z_callS cx (As := [.long v4, .int b31_L1]) (rest := []) (c_X9_has l cx.2.2.2.1.1 M3 v4 b31_L1  hc) cs_SunnyPans_231 ⟨rfl, rfl, Nat.le_of_ble_eq_true rfl, Nat.le_of_ble_eq_true rfl⟩ rfl rfl ⟨Nat.zero_le _, Nat.zero_le _⟩ (Nat.le_of_ble_eq_true rfl) d_X9_brineAfterDay_59 ?_
      refine z_if_ne cx 82 d_X9_brineAfterDay_62 (by decide) hF (fun hF => ?_) (fun hF => ?_)
      · exact hb82 self31 hs31 b31_L1 b31_L2 b31_L4 b31_L5 b31_L6 b31_L7 M5 hF
      refine z_iload cx d_X9_brineAfterDay_65 4 rfl ?_
      refine z_aload_n cx d_X9_brineAfterDay_67 0 rfl ?_
      refine z_aload_n cx d_X9_brineAfterDay_68 3 rfl ?_
      refine z_iload_n cx d_X9_brineAfterDay_69 1 rfl ?_
      refine z_iload cx d_X9_brineAfterDay_70 4 rfl ?_
      refine z_iload cx d_X9_brineAfterDay_72 5 rfl ?_
      refine z_iload cx d_X9_brineAfterDay_74 6 rfl ?_
      obtain ⟨v8, M7, hc, hF⟩ := zb_inv hF
      refine z_callV cx (As := [.ref (ad 4), .int b31_L1, .int b31_L4, .int b31_L5, .int b31_L6]) (rest := [.int b31_L4]) (c_X9_lossOf l cx.2.2.2.1.1 M5 4 b31_L1 b31_L4 b31_L5 b31_L6 hT ? hc) hT zo_10 cv_SunnyPans_326 ⟨rfl, rfl, Nat.le_of_ble_eq_true rfl, Nat.le_of_ble_eq_true rfl⟩ rfl rfl ⟨Nat.zero_le _, Nat.zero_le _⟩ (Nat.le_of_ble_eq_true rfl) d_X9_brineAfterDay_76 ?_
      refine z_isub cx d_X9_brineAfterDay_79 ?_
      refine z_nm hF (fun v9 hF => ?_)
      refine z_istore cx 4 [(4, .int v9), (0, .ref (ad 0)), (1, .int b31_L1), (2, .int b31_L2), (3, .ref (ad 4)), (5, .int b31_L5), (6, .int b31_L6), (7, .int b31_L7)] d_X9_brineAfterDay_80 (by decide) rfl ?_
      exact z_lv [1, 2, 3, 4, 0, 5, 6, 7] _ rfl (hb82 self31 hs31 b31_L1 b31_L2 v9 b31_L5 b31_L6 b31_L7 M7 hF)
  unfold F_X9_brineAfterDay at hF
  refine z_aload_n cx d_X9_brineAfterDay_0 0 rfl ?_
  refine z_getR cx hT fg_SunnyPans_19 3 rfl d_X9_brineAfterDay_1 ?_
  refine z_getR cx (tfX_10_3 hT) fg_SunnyPans_159 4 rfl d_X9_brineAfterDay_4 ?_
  refine z_astore_n cx 3 [(3, .ref (ad 4)), (0, .ref (ad 0)), (1, .int p0), (2, .int p1)] d_X9_brineAfterDay_7 rfl (by decide) rfl ?_
  refine z_aload_n cx d_X9_brineAfterDay_8 0 rfl ?_
  refine z_getR cx (tfX_8_1 (tfX_10_3 hT)) fg_SunnyPans_174 5 rfl d_X9_brineAfterDay_9 ?_
  refine z_iload_n cx d_X9_brineAfterDay_12 2 rfl ?_
  obtain ⟨hi10, hF⟩ := gin_inv hF
  refine z_iald cx (tfX_5_1 (tfX_8_1 (tfX_10_3 hT))) za_16 hi10 p0.toNatClampNeg rfl d_X9_brineAfterDay_13 ?_
  refine z_nm hF (fun v11 hF => ?_)
  refine z_istore cx 4 [(4, .int v11), (3, .ref (ad 4)), (0, .ref (ad 0)), (1, .int p0), (2, .int p1)] d_X9_brineAfterDay_14 (by decide) rfl ?_
  refine z_aload_n cx d_X9_brineAfterDay_16 1 rfl ?_
  refine z_getI cx (tfX_8_1 (tfX_10_3 hT)) fg_SunnyPans_171 d_X9_brineAfterDay_17 ?_
  refine z_nm hF (fun v12 hF => ?_)
  refine z_istore cx 5 [(5, .int v12), (4, .int v11), (3, .ref (ad 4)), (0, .ref (ad 0)), (1, .int p0), (2, .int p1)] d_X9_brineAfterDay_20 (by decide) rfl ?_
  refine z_aload_n cx d_X9_brineAfterDay_22 2 rfl ?_
  refine z_getI cx (tfX_8_1 (tfX_10_3 hT)) fg_SunnyPans_168 d_X9_brineAfterDay_23 ?_
  refine z_nm hF (fun v13 hF => ?_)
  refine z_istore cx 6 [(6, .int v13), (5, .int v12), (4, .int v11), (3, .ref (ad 4)), (0, .ref (ad 0)), (1, .int p0), (2, .int p1)] d_X9_brineAfterDay_26 (by decide) rfl ?_
  refine z_iconst (v := 0) cx d_X9_brineAfterDay_28 ki_0 ?_
  refine z_istore cx 7 [(7, .int (0 : Int32)), (6, .int v13), (5, .int v12), (4, .int v11), (3, .ref (ad 4)), (0, .ref (ad 0)), (1, .int p0), (2, .int p1)] d_X9_brineAfterDay_29 (by decide) rfl ?_
  exact z_lv [5, 6, 7, 4, 3, 2, 1, 0] _ rfl (hL31 zFuel p0 p1 v11 v12 v13 (0 : Int32) M hF)
/-! SunnyPans.linesRight -/
theorem d_X9_linesRight_0 : decode cX9_linesRight 0 = .ok (.iconst 0, 1) := by decide +kernel
theorem d_X9_linesRight_1 : decode cX9_linesRight 1 = .ok (.istore_n 2, 1) := by decide +kernel
theorem d_X9_linesRight_2 : decode cX9_linesRight 2 = .ok (.iload_n 2, 1) := by decide +kernel
theorem d_X9_linesRight_3 : decode cX9_linesRight 3 = .ok (.aload_n 0, 1) := by decide +kernel
theorem d_X9_linesRight_4 : decode cX9_linesRight 4 = .ok (.getfield 82, 3) := by decide +kernel
theorem d_X9_linesRight_7 : decode cX9_linesRight 7 = .ok (.getfield 145, 3) := by decide +kernel
theorem d_X9_linesRight_10 : decode cX9_linesRight 10 = .ok (.if_icmp .ge 43, 3) := by decide +kernel
theorem d_X9_linesRight_13 : decode cX9_linesRight 13 = .ok (.iload_n 2, 1) := by decide +kernel
theorem d_X9_linesRight_14 : decode cX9_linesRight 14 = .ok (.bipush 8, 2) := by decide +kernel
theorem d_X9_linesRight_16 : decode cX9_linesRight 16 = .ok (.if_icmp .ge 37, 3) := by decide +kernel
theorem d_X9_linesRight_19 : decode cX9_linesRight 19 = .ok (.aload_n 0, 1) := by decide +kernel
theorem d_X9_linesRight_20 : decode cX9_linesRight 20 = .ok (.aload_n 0, 1) := by decide +kernel
theorem d_X9_linesRight_21 : decode cX9_linesRight 21 = .ok (.getfield 82, 3) := by decide +kernel
theorem d_X9_linesRight_24 : decode cX9_linesRight 24 = .ok (.getfield 372, 3) := by decide +kernel
theorem d_X9_linesRight_27 : decode cX9_linesRight 27 = .ok (.iload_n 2, 1) := by decide +kernel
theorem d_X9_linesRight_28 : decode cX9_linesRight 28 = .ok (.iaload, 1) := by decide +kernel
theorem d_X9_linesRight_29 : decode cX9_linesRight 29 = .ok (.iload_n 1, 1) := by decide +kernel
theorem d_X9_linesRight_30 : decode cX9_linesRight 30 = .ok (.invokevirtual 375, 3) := by decide +kernel
theorem d_X9_linesRight_33 : decode cX9_linesRight 33 = .ok (.aload_n 0, 1) := by decide +kernel
theorem d_X9_linesRight_34 : decode cX9_linesRight 34 = .ok (.getfield 82, 3) := by decide +kernel
theorem d_X9_linesRight_37 : decode cX9_linesRight 37 = .ok (.getfield 378, 3) := by decide +kernel
theorem d_X9_linesRight_40 : decode cX9_linesRight 40 = .ok (.iload_n 2, 1) := by decide +kernel
theorem d_X9_linesRight_41 : decode cX9_linesRight 41 = .ok (.iaload, 1) := by decide +kernel
theorem d_X9_linesRight_42 : decode cX9_linesRight 42 = .ok (.if_icmp .eq 5, 3) := by decide +kernel
theorem d_X9_linesRight_45 : decode cX9_linesRight 45 = .ok (.iconst 0, 1) := by decide +kernel
theorem d_X9_linesRight_46 : decode cX9_linesRight 46 = .ok (.ireturn, 1) := by decide +kernel
theorem d_X9_linesRight_47 : decode cX9_linesRight 47 = .ok (.iinc 2 1, 3) := by decide +kernel
theorem d_X9_linesRight_50 : decode cX9_linesRight 50 = .ok (.goto (-48), 3) := by decide +kernel
theorem d_X9_linesRight_53 : decode cX9_linesRight 53 = .ok (.iconst 1, 1) := by decide +kernel
theorem d_X9_linesRight_54 : decode cX9_linesRight 54 = .ok (.ireturn, 1) := by decide +kernel
def F_X9_linesRight_2 (p0 : Int32) (self2 : Int32 → Int32 → zMem → Option (Int32 × zMem)) (b2_L1 : Int32) (b2_L2 : Int32) (M : zMem) : Option (Int32 × zMem) :=
  gd (shX (M.2.2 0 12) == 2) <|
  if (M.1 (M.2.2 0 12) 2) ≤ b2_L2 then
    some ((1 : Int32), M)
  else
    if (8 : Int32) ≤ b2_L2 then
      some ((1 : Int32), M)
    else
      gin b2_L2 8 <|
      zb (F_X9_brineAfterDay M (M.1 ((M.2.2 0 12) + 1) b2_L2.toNatClampNeg) b2_L1) fun v4 M3 =>
      gd (shX (M3.2.2 0 12) == 2) <|
      if v4 = (M3.1 ((M3.2.2 0 12) + 2) b2_L2.toNatClampNeg) then
        self2 b2_L1 (b2_L2 + 1) M3
      else
        some ((0 : Int32), M3)
def F_X9_linesRight (M : zMem) (p0 : Int32) : Option (Int32 × zMem) :=
  itF (fun _ _ _ => none) (F_X9_linesRight_2 p0) zFuel p0 (0 : Int32) M
def rm_X9_linesRight : Room := { frames := 7, cells := 0, slots := 0, locals := 185 }
set_option maxHeartbeats 4000000 in
set_option maxRecDepth 100000 in
theorem c_X9_linesRight (l : Launch) {G : zG} {ad : Nat → Nat} {n : Nat} (hA : zInj ad n) (M : zMem) (p0 : Int32) (hT : zT shX n 0 10) {r9 : Int32} {M9 : zMem} (hF : F_X9_linesRight M p0 = some (r9, M9)) : zM l yX9_linesRight cX9_linesRight 3 (some .boolean) rm_X9_linesRight G shX ad n M [.ref (ad 0), .int p0] (some (.int r9)) M9 := by
  refine zM_of hA (by decide +kernel) (lv := [(0, .ref (ad 0)), (1, .int p0)]) (Nat.le_of_ble_eq_true rfl) rfl (fun p e s m args below meth c A cx hr => ?_)
  have hL2 : ∀ (fuel : Nat), ∀ (b2_L1 : Int32) (b2_L2 : Int32) (M : zMem), itF (fun _ _ _ => none) (F_X9_linesRight_2 p0) fuel b2_L1 b2_L2 M = some (r9, M9) → zJ p l e rm_X9_linesRight s m args below meth c G shX ad n A 3 (MQ below (zQ G shX ad n M9 (some (.int r9)) A) args s 0 0 A) 0 0 M 2 [(0, .ref (ad 0)), (1, .int b2_L1), (2, .int b2_L2)] [] := by
    intro fuel
    induction fuel with
    | zero => intro b2_L1 b2_L2 M hF; cases hF
    | succ fuel hs2 =>
      intro b2_L1 b2_L2 M hF
      have hF : F_X9_linesRight_2 p0 (itF (fun _ _ _ => none) (F_X9_linesRight_2 p0) fuel) b2_L1 b2_L2 M = some (r9, M9) := hF
      generalize itF (fun _ _ _ => none) (F_X9_linesRight_2 p0) fuel = self2 at hs2 hF
      unfold F_X9_linesRight_2 at hF
      refine z_iload_n cx d_X9_linesRight_2 2 rfl ?_
      refine z_aload_n cx d_X9_linesRight_3 0 rfl ?_
      obtain ⟨hg1, hF⟩ := gd_inv hF
      refine z_getD cx hT fg_SunnyPans_82 d_X9_linesRight_4 ?_
      refine z_getI cx (td_2 hT hg1) fg_SunnyPans_145 d_X9_linesRight_7 ?_
      refine z_icmp_ge cx 53 d_X9_linesRight_10 (by decide) hF (fun hF => ?_) (fun hF => ?_)
      · refine z_iconst (v := 1) cx d_X9_linesRight_53 ki_1 ?_
        exact z_iret cx hr nb1 hF d_X9_linesRight_54
      refine z_iload_n cx d_X9_linesRight_13 2 rfl ?_
      refine z_bipush (v := 8) cx d_X9_linesRight_14 kb_8 ?_
      refine z_icmp_ge cx 53 d_X9_linesRight_16 (by decide) hF (fun hF => ?_) (fun hF => ?_)
      · refine z_iconst (v := 1) cx d_X9_linesRight_53 ki_1 ?_
        exact z_iret cx hr nb1 hF d_X9_linesRight_54
      refine z_aload_n cx d_X9_linesRight_19 0 rfl ?_
      refine z_aload_n cx d_X9_linesRight_20 0 rfl ?_
      refine z_getD cx hT fg_SunnyPans_82 d_X9_linesRight_21 ?_
      refine z_getR cx (td_2 hT hg1) fg_SunnyPans_372 ((M.2.2 0 12) + 1) rfl d_X9_linesRight_24 ?_
      refine z_iload_n cx d_X9_linesRight_27 2 rfl ?_
      obtain ⟨hi2, hF⟩ := gin_inv hF
      refine z_iald cx (tfX_2_1 (td_2 hT hg1)) za_26 hi2 b2_L2.toNatClampNeg rfl d_X9_linesRight_28 ?_
      refine z_iload_n cx d_X9_linesRight_29 1 rfl ?_
      obtain ⟨v4, M3, hc, hF⟩ := zb_inv hF
      refine z_callV cx (As := [.int (M.1 ((M.2.2 0 12) + 1) b2_L2.toNatClampNeg), .int b2_L1]) (rest := []) (c_X9_brineAfterDay l cx.2.2.2.1.1 M (M.1 ((M.2.2 0 12) + 1) b2_L2.toNatClampNeg) b2_L1 hT hc) hT zo_10 cv_SunnyPans_375 ⟨rfl, rfl, Nat.le_of_ble_eq_true rfl, Nat.le_of_ble_eq_true rfl⟩ rfl rfl ⟨Nat.zero_le _, Nat.zero_le _⟩ (Nat.le_of_ble_eq_true rfl) d_X9_linesRight_30 ?_
      refine z_aload_n cx d_X9_linesRight_33 0 rfl ?_
      obtain ⟨hg5, hF⟩ := gd_inv hF
      refine z_getD cx hT fg_SunnyPans_82 d_X9_linesRight_34 ?_
      refine z_getR cx (td_2 hT hg5) fg_SunnyPans_378 ((M3.2.2 0 12) + 2) rfl d_X9_linesRight_37 ?_
      refine z_iload_n cx d_X9_linesRight_40 2 rfl ?_
      refine z_iald cx (tfX_2_2 (td_2 hT hg5)) za_26 hi2 b2_L2.toNatClampNeg rfl d_X9_linesRight_41 ?_
      refine z_icmp_eq cx 47 d_X9_linesRight_42 (by decide) hF (fun hF => ?_) (fun hF => ?_)
      · refine z_iinc cx 2 1 [(2, .int (b2_L2 + 1)), (0, .ref (ad 0)), (1, .int b2_L1)] d_X9_linesRight_47 2 rfl ki_1 (by decide) rfl ?_
        refine z_goto cx 2 d_X9_linesRight_50 (by decide) ?_
        exact z_lv [1, 2, 0] _ rfl (hs2 b2_L1 (b2_L2 + 1) M3 hF)
      refine z_iconst (v := 0) cx d_X9_linesRight_45 ki_0 ?_
      exact z_iret cx hr nb0 hF d_X9_linesRight_46
  unfold F_X9_linesRight at hF
  refine z_iconst (v := 0) cx d_X9_linesRight_0 ki_0 ?_
  refine z_istore_n cx 2 [(2, .int (0 : Int32)), (0, .ref (ad 0)), (1, .int p0)] d_X9_linesRight_1 rfl (by decide) rfl ?_
  exact z_lv [1, 2, 0] _ rfl (hL2 zFuel p0 (0 : Int32) M hF)
/-! SunnyPans.fittingPlaces -/
theorem d_X9_fittingPlaces_0 : decode cX9_fittingPlaces 0 = .ok (.aload_n 0, 1) := by decide +kernel
theorem d_X9_fittingPlaces_1 : decode cX9_fittingPlaces 1 = .ok (.iload_n 1, 1) := by decide +kernel
theorem d_X9_fittingPlaces_2 : decode cX9_fittingPlaces 2 = .ok (.invokevirtual 333, 3) := by decide +kernel
theorem d_X9_fittingPlaces_5 : decode cX9_fittingPlaces 5 = .ok (.lstore_n 2, 1) := by decide +kernel
theorem d_X9_fittingPlaces_6 : decode cX9_fittingPlaces 6 = .ok (.lconst 0, 1) := by decide +kernel
theorem d_X9_fittingPlaces_7 : decode cX9_fittingPlaces 7 = .ok (.lstore 4, 2) := by decide +kernel
theorem d_X9_fittingPlaces_9 : decode cX9_fittingPlaces 9 = .ok (.iconst 0, 1) := by decide +kernel
theorem d_X9_fittingPlaces_10 : decode cX9_fittingPlaces 10 = .ok (.istore 6, 2) := by decide +kernel
theorem d_X9_fittingPlaces_12 : decode cX9_fittingPlaces 12 = .ok (.iload 6, 2) := by decide +kernel
theorem d_X9_fittingPlaces_14 : decode cX9_fittingPlaces 14 = .ok (.bipush 64, 2) := by decide +kernel
theorem d_X9_fittingPlaces_16 : decode cX9_fittingPlaces 16 = .ok (.if_icmp .ge 37, 3) := by decide +kernel
theorem d_X9_fittingPlaces_19 : decode cX9_fittingPlaces 19 = .ok (.lload_n 2, 1) := by decide +kernel
theorem d_X9_fittingPlaces_20 : decode cX9_fittingPlaces 20 = .ok (.iload 6, 2) := by decide +kernel
theorem d_X9_fittingPlaces_22 : decode cX9_fittingPlaces 22 = .ok (.invokestatic 231, 3) := by decide +kernel
theorem d_X9_fittingPlaces_25 : decode cX9_fittingPlaces 25 = .ok (.ifCond .eq 22, 3) := by decide +kernel
theorem d_X9_fittingPlaces_28 : decode cX9_fittingPlaces 28 = .ok (.aload_n 0, 1) := by decide +kernel
theorem d_X9_fittingPlaces_29 : decode cX9_fittingPlaces 29 = .ok (.iload 6, 2) := by decide +kernel
theorem d_X9_fittingPlaces_31 : decode cX9_fittingPlaces 31 = .ok (.invokevirtual 368, 3) := by decide +kernel
theorem d_X9_fittingPlaces_34 : decode cX9_fittingPlaces 34 = .ok (.ifCond .eq 13, 3) := by decide +kernel
theorem d_X9_fittingPlaces_37 : decode cX9_fittingPlaces 37 = .ok (.lload 4, 2) := by decide +kernel
theorem d_X9_fittingPlaces_39 : decode cX9_fittingPlaces 39 = .ok (.iload 6, 2) := by decide +kernel
theorem d_X9_fittingPlaces_41 : decode cX9_fittingPlaces 41 = .ok (.invokestatic 298, 3) := by decide +kernel
theorem d_X9_fittingPlaces_44 : decode cX9_fittingPlaces 44 = .ok (.lor, 1) := by decide +kernel
theorem d_X9_fittingPlaces_45 : decode cX9_fittingPlaces 45 = .ok (.lstore 4, 2) := by decide +kernel
theorem d_X9_fittingPlaces_47 : decode cX9_fittingPlaces 47 = .ok (.iinc 6 1, 3) := by decide +kernel
theorem d_X9_fittingPlaces_50 : decode cX9_fittingPlaces 50 = .ok (.goto (-38), 3) := by decide +kernel
theorem d_X9_fittingPlaces_53 : decode cX9_fittingPlaces 53 = .ok (.lload 4, 2) := by decide +kernel
theorem d_X9_fittingPlaces_55 : decode cX9_fittingPlaces 55 = .ok (.lreturn, 1) := by decide +kernel
def F_X9_fittingPlaces_47 (p0 : Int32) (self12 : Int64 → Int64 → Int32 → zMem → Option (Int64 × zMem)) (b47_L2 : Int64) (b47_L4 : Int64) (b47_L6 : Int32) (M : zMem) : Option (Int64 × zMem) :=
  self12 b47_L2 b47_L4 (b47_L6 + 1) M
def F_X9_fittingPlaces_12 (p0 : Int32) (self12 : Int64 → Int64 → Int32 → zMem → Option (Int64 × zMem)) (b12_L2 : Int64) (b12_L4 : Int64) (b12_L6 : Int32) (M : zMem) : Option (Int64 × zMem) :=
  if (64 : Int32) ≤ b12_L6 then
    some (b12_L4, M)
  else
    zb (F_X9_has M b12_L2 b12_L6) fun v2 M1 =>
    if v2 = 0 then
      F_X9_fittingPlaces_47 p0 self12 b12_L2 b12_L4 b12_L6 M1
    else
      zb (F_X9_linesRight M1 b12_L6) fun v4 M3 =>
      if v4 = 0 then
        F_X9_fittingPlaces_47 p0 self12 b12_L2 b12_L4 b12_L6 M3
      else
        zb (F_X9_bit M3 b12_L6) fun v6 M5 =>
        zl (b12_L4 ||| v6) fun v7 =>
        F_X9_fittingPlaces_47 p0 self12 b12_L2 v7 b12_L6 M5
def F_X9_fittingPlaces (M : zMem) (p0 : Int32) : Option (Int64 × zMem) :=
  zb (F_X9_layEverywhere M p0) fun v9 M8 =>
  itF (fun _ _ _ _ => none) (F_X9_fittingPlaces_12 p0) zFuel v9 (0 : Int64) (0 : Int32) M8
def rm_X9_fittingPlaces : Room := { frames := 8, cells := 0, slots := 0, locals := 207 }
set_option maxHeartbeats 4000000 in
set_option maxRecDepth 100000 in
theorem c_X9_fittingPlaces (l : Launch) {G : zG} {ad : Nat → Nat} {n : Nat} (hA : zInj ad n) (M : zMem) (p0 : Int32) (hT : zT shX n 0 10) {r9 : Int64} {M9 : zMem} (hF : F_X9_fittingPlaces M p0 = some (r9, M9)) : zM l yX9_fittingPlaces cX9_fittingPlaces 7 (some .long) rm_X9_fittingPlaces G shX ad n M [.ref (ad 0), .int p0] (some (.long r9)) M9 := by
  refine zM_of hA (by decide +kernel) (lv := [(0, .ref (ad 0)), (1, .int p0)]) (Nat.le_of_ble_eq_true rfl) rfl (fun p e s m args below meth c A cx hr => ?_)
  have hb47 : ∀ (self12 : Int64 → Int64 → Int32 → zMem → Option (Int64 × zMem)) (hs12 : ∀ (b12_L2 : Int64) (b12_L4 : Int64) (b12_L6 : Int32) (M : zMem), self12 b12_L2 b12_L4 b12_L6 M = some (r9, M9) → zJ p l e rm_X9_fittingPlaces s m args below meth c G shX ad n A 7 (MQ below (zQ G shX ad n M9 (some (.long r9)) A) args s 0 0 A) 0 0 M 12 [(0, .ref (ad 0)), (2, .long b12_L2), (4, .long b12_L4), (6, .int b12_L6)] []), ∀ (b47_L2 : Int64) (b47_L4 : Int64) (b47_L6 : Int32) (M : zMem), F_X9_fittingPlaces_47 p0 self12 b47_L2 b47_L4 b47_L6 M = some (r9, M9) → zJ p l e rm_X9_fittingPlaces s m args below meth c G shX ad n A 7 (MQ below (zQ G shX ad n M9 (some (.long r9)) A) args s 0 0 A) 0 0 M 47 [(0, .ref (ad 0)), (2, .long b47_L2), (4, .long b47_L4), (6, .int b47_L6)] [] := by
    intro self12 hs12 b47_L2 b47_L4 b47_L6 M hF
    unfold F_X9_fittingPlaces_47 at hF
    refine z_iinc cx 6 1 [(6, .int (b47_L6 + 1)), (0, .ref (ad 0)), (2, .long b47_L2), (4, .long b47_L4)] d_X9_fittingPlaces_47 3 rfl ki_1 (by decide) rfl ?_
    refine z_goto cx 12 d_X9_fittingPlaces_50 (by decide) ?_
    exact z_lv [1, 2, 3, 0] _ rfl (hs12 b47_L2 b47_L4 (b47_L6 + 1) M hF)
  have hL12 : ∀ (fuel : Nat), ∀ (b12_L2 : Int64) (b12_L4 : Int64) (b12_L6 : Int32) (M : zMem), itF (fun _ _ _ _ => none) (F_X9_fittingPlaces_12 p0) fuel b12_L2 b12_L4 b12_L6 M = some (r9, M9) → zJ p l e rm_X9_fittingPlaces s m args below meth c G shX ad n A 7 (MQ below (zQ G shX ad n M9 (some (.long r9)) A) args s 0 0 A) 0 0 M 12 [(0, .ref (ad 0)), (2, .long b12_L2), (4, .long b12_L4), (6, .int b12_L6)] [] := by
    intro fuel
    induction fuel with
    | zero => intro b12_L2 b12_L4 b12_L6 M hF; cases hF
    | succ fuel hs12 =>
      intro b12_L2 b12_L4 b12_L6 M hF
      have hF : F_X9_fittingPlaces_12 p0 (itF (fun _ _ _ _ => none) (F_X9_fittingPlaces_12 p0) fuel) b12_L2 b12_L4 b12_L6 M = some (r9, M9) := hF
      generalize itF (fun _ _ _ _ => none) (F_X9_fittingPlaces_12 p0) fuel = self12 at hs12 hF
      unfold F_X9_fittingPlaces_12 at hF
      refine z_iload cx d_X9_fittingPlaces_12 3 rfl ?_
      refine z_bipush (v := 64) cx d_X9_fittingPlaces_14 kb_64 ?_
      refine z_icmp_ge cx 53 d_X9_fittingPlaces_16 (by decide) hF (fun hF => ?_) (fun hF => ?_)
      · refine z_lload cx d_X9_fittingPlaces_53 2 rfl ?_
        exact z_lret cx hr hF d_X9_fittingPlaces_55
      refine z_lload_n cx d_X9_fittingPlaces_19 1 rfl ?_
      refine z_iload cx d_X9_fittingPlaces_20 3 rfl ?_
      obtain ⟨v2, M1, hc, hF⟩ := zb_inv hF
      refine z_callS cx (As := [.long b12_L2, .int b12_L6]) (rest := []) (c_X9_has l cx.2.2.2.1.1 M b12_L2 b12_L6  hc) cs_SunnyPans_231 ⟨rfl, rfl, Nat.le_of_ble_eq_true rfl, Nat.le_of_ble_eq_true rfl⟩ rfl rfl ⟨Nat.zero_le _, Nat.zero_le _⟩ (Nat.le_of_ble_eq_true rfl) d_X9_fittingPlaces_22 ?_
      refine z_if_eq cx 47 d_X9_fittingPlaces_25 (by decide) hF (fun hF => ?_) (fun hF => ?_)
      · exact hb47 self12 hs12 b12_L2 b12_L4 b12_L6 M1 hF
      refine z_aload_n cx d_X9_fittingPlaces_28 0 rfl ?_
      refine z_iload cx d_X9_fittingPlaces_29 3 rfl ?_
      obtain ⟨v4, M3, hc, hF⟩ := zb_inv hF
      refine z_callV cx (As := [.int b12_L6]) (rest := []) (c_X9_linesRight l cx.2.2.2.1.1 M1 b12_L6 hT hc) hT zo_10 cv_SunnyPans_368 ⟨rfl, rfl, Nat.le_of_ble_eq_true rfl, Nat.le_of_ble_eq_true rfl⟩ rfl rfl ⟨Nat.zero_le _, Nat.zero_le _⟩ (Nat.le_of_ble_eq_true rfl) d_X9_fittingPlaces_31 ?_
      refine z_if_eq cx 47 d_X9_fittingPlaces_34 (by decide) hF (fun hF => ?_) (fun hF => ?_)
      · exact hb47 self12 hs12 b12_L2 b12_L4 b12_L6 M3 hF
      refine z_lload cx d_X9_fittingPlaces_37 2 rfl ?_
      refine z_iload cx d_X9_fittingPlaces_39 3 rfl ?_
      obtain ⟨v6, M5, hc, hF⟩ := zb_inv hF
      refine z_callS cx (As := [.int b12_L6]) (rest := [.long b12_L4]) (c_X9_bit l cx.2.2.2.1.1 M3 b12_L6  hc) cs_SunnyPans_298 ⟨rfl, rfl, Nat.le_of_ble_eq_true rfl, Nat.le_of_ble_eq_true rfl⟩ rfl rfl ⟨Nat.zero_le _, Nat.zero_le _⟩ (Nat.le_of_ble_eq_true rfl) d_X9_fittingPlaces_41 ?_
      refine z_lor cx d_X9_fittingPlaces_44 ?_
      refine z_nml hF (fun v7 hF => ?_)
      refine z_lstore cx 4 [(4, .long v7), (0, .ref (ad 0)), (2, .long b12_L2), (6, .int b12_L6)] d_X9_fittingPlaces_45 (by decide) rfl ?_
      exact z_lv [1, 2, 0, 3] _ rfl (hb47 self12 hs12 b12_L2 v7 b12_L6 M5 hF)
  unfold F_X9_fittingPlaces at hF
  refine z_aload_n cx d_X9_fittingPlaces_0 0 rfl ?_
  refine z_iload_n cx d_X9_fittingPlaces_1 1 rfl ?_
  obtain ⟨v9, M8, hc, hF⟩ := zb_inv hF
  refine z_callV cx (As := [.int p0]) (rest := []) (c_X9_layEverywhere l cx.2.2.2.1.1 M p0 hT hc) hT zo_10 cv_SunnyPans_333 ⟨rfl, rfl, Nat.le_of_ble_eq_true rfl, Nat.le_of_ble_eq_true rfl⟩ rfl rfl ⟨Nat.zero_le _, Nat.zero_le _⟩ (Nat.le_of_ble_eq_true rfl) d_X9_fittingPlaces_2 ?_
  refine z_lstore_n cx 2 [(2, .long v9), (0, .ref (ad 0)), (1, .int p0)] d_X9_fittingPlaces_5 rfl (by decide) rfl ?_
  refine z_lconst (v := 0) cx d_X9_fittingPlaces_6 (by decide +kernel) ?_
  refine z_lstore cx 4 [(4, .long (0 : Int64)), (2, .long v9), (0, .ref (ad 0)), (1, .int p0)] d_X9_fittingPlaces_7 (by decide) rfl ?_
  refine z_iconst (v := 0) cx d_X9_fittingPlaces_9 ki_0 ?_
  refine z_istore cx 6 [(6, .int (0 : Int32)), (4, .long (0 : Int64)), (2, .long v9), (0, .ref (ad 0)), (1, .int p0)] d_X9_fittingPlaces_10 (by decide) rfl ?_
  exact z_lv [3, 2, 1, 0] _ rfl (hL12 zFuel v9 (0 : Int64) (0 : Int32) M8 hF)
/-! SunnyPans.brinesSeen -/
theorem d_X9_brinesSeen_0 : decode cX9_brinesSeen 0 = .ok (.iconst 0, 1) := by decide +kernel
theorem d_X9_brinesSeen_1 : decode cX9_brinesSeen 1 = .ok (.istore 4, 2) := by decide +kernel
theorem d_X9_brinesSeen_3 : decode cX9_brinesSeen 3 = .ok (.iconst (-1), 1) := by decide +kernel
theorem d_X9_brinesSeen_4 : decode cX9_brinesSeen 4 = .ok (.istore 5, 2) := by decide +kernel
theorem d_X9_brinesSeen_6 : decode cX9_brinesSeen 6 = .ok (.iconst 0, 1) := by decide +kernel
theorem d_X9_brinesSeen_7 : decode cX9_brinesSeen 7 = .ok (.istore 6, 2) := by decide +kernel
theorem d_X9_brinesSeen_9 : decode cX9_brinesSeen 9 = .ok (.iload 6, 2) := by decide +kernel
theorem d_X9_brinesSeen_11 : decode cX9_brinesSeen 11 = .ok (.bipush 64, 2) := by decide +kernel
theorem d_X9_brinesSeen_13 : decode cX9_brinesSeen 13 = .ok (.if_icmp .ge 86, 3) := by decide +kernel
theorem d_X9_brinesSeen_16 : decode cX9_brinesSeen 16 = .ok (.lload_n 2, 1) := by decide +kernel
theorem d_X9_brinesSeen_17 : decode cX9_brinesSeen 17 = .ok (.iload 6, 2) := by decide +kernel
theorem d_X9_brinesSeen_19 : decode cX9_brinesSeen 19 = .ok (.invokestatic 231, 3) := by decide +kernel
theorem d_X9_brinesSeen_22 : decode cX9_brinesSeen 22 = .ok (.ifCond .ne 6, 3) := by decide +kernel
theorem d_X9_brinesSeen_25 : decode cX9_brinesSeen 25 = .ok (.goto 68, 3) := by decide +kernel
theorem d_X9_brinesSeen_28 : decode cX9_brinesSeen 28 = .ok (.aload_n 0, 1) := by decide +kernel
theorem d_X9_brinesSeen_29 : decode cX9_brinesSeen 29 = .ok (.getfield 44, 3) := by decide +kernel
theorem d_X9_brinesSeen_32 : decode cX9_brinesSeen 32 = .ok (.iload 6, 2) := by decide +kernel
theorem d_X9_brinesSeen_34 : decode cX9_brinesSeen 34 = .ok (.invokevirtual 383, 3) := by decide +kernel
theorem d_X9_brinesSeen_37 : decode cX9_brinesSeen 37 = .ok (.iload_n 1, 1) := by decide +kernel
theorem d_X9_brinesSeen_38 : decode cX9_brinesSeen 38 = .ok (.invokestatic 231, 3) := by decide +kernel
theorem d_X9_brinesSeen_41 : decode cX9_brinesSeen 41 = .ok (.ifCond .eq 20, 3) := by decide +kernel
theorem d_X9_brinesSeen_44 : decode cX9_brinesSeen 44 = .ok (.aload_n 0, 1) := by decide +kernel
theorem d_X9_brinesSeen_45 : decode cX9_brinesSeen 45 = .ok (.getfield 55, 3) := by decide +kernel
theorem d_X9_brinesSeen_48 : decode cX9_brinesSeen 48 = .ok (.iload 4, 2) := by decide +kernel
theorem d_X9_brinesSeen_50 : decode cX9_brinesSeen 50 = .ok (.aload_n 0, 1) := by decide +kernel
theorem d_X9_brinesSeen_51 : decode cX9_brinesSeen 51 = .ok (.iload_n 1, 1) := by decide +kernel
theorem d_X9_brinesSeen_52 : decode cX9_brinesSeen 52 = .ok (.iload 6, 2) := by decide +kernel
theorem d_X9_brinesSeen_54 : decode cX9_brinesSeen 54 = .ok (.invokevirtual 375, 3) := by decide +kernel
theorem d_X9_brinesSeen_57 : decode cX9_brinesSeen 57 = .ok (.iastore, 1) := by decide +kernel
theorem d_X9_brinesSeen_58 : decode cX9_brinesSeen 58 = .ok (.goto 32, 3) := by decide +kernel
theorem d_X9_brinesSeen_61 : decode cX9_brinesSeen 61 = .ok (.iload 5, 2) := by decide +kernel
theorem d_X9_brinesSeen_63 : decode cX9_brinesSeen 63 = .ok (.iconst (-1), 1) := by decide +kernel
theorem d_X9_brinesSeen_64 : decode cX9_brinesSeen 64 = .ok (.if_icmp .ne 13, 3) := by decide +kernel
theorem d_X9_brinesSeen_67 : decode cX9_brinesSeen 67 = .ok (.aload_n 0, 1) := by decide +kernel
theorem d_X9_brinesSeen_68 : decode cX9_brinesSeen 68 = .ok (.iload_n 1, 1) := by decide +kernel
theorem d_X9_brinesSeen_69 : decode cX9_brinesSeen 69 = .ok (.iload 6, 2) := by decide +kernel
theorem d_X9_brinesSeen_71 : decode cX9_brinesSeen 71 = .ok (.invokevirtual 375, 3) := by decide +kernel
theorem d_X9_brinesSeen_74 : decode cX9_brinesSeen 74 = .ok (.goto 5, 3) := by decide +kernel
theorem d_X9_brinesSeen_77 : decode cX9_brinesSeen 77 = .ok (.iload 5, 2) := by decide +kernel
theorem d_X9_brinesSeen_79 : decode cX9_brinesSeen 79 = .ok (.istore 5, 2) := by decide +kernel
theorem d_X9_brinesSeen_81 : decode cX9_brinesSeen 81 = .ok (.aload_n 0, 1) := by decide +kernel
theorem d_X9_brinesSeen_82 : decode cX9_brinesSeen 82 = .ok (.getfield 55, 3) := by decide +kernel
theorem d_X9_brinesSeen_85 : decode cX9_brinesSeen 85 = .ok (.iload 4, 2) := by decide +kernel
theorem d_X9_brinesSeen_87 : decode cX9_brinesSeen 87 = .ok (.iload 5, 2) := by decide +kernel
theorem d_X9_brinesSeen_89 : decode cX9_brinesSeen 89 = .ok (.iastore, 1) := by decide +kernel
theorem d_X9_brinesSeen_90 : decode cX9_brinesSeen 90 = .ok (.iinc 4 1, 3) := by decide +kernel
theorem d_X9_brinesSeen_93 : decode cX9_brinesSeen 93 = .ok (.iinc 6 1, 3) := by decide +kernel
theorem d_X9_brinesSeen_96 : decode cX9_brinesSeen 96 = .ok (.goto (-87), 3) := by decide +kernel
theorem d_X9_brinesSeen_99 : decode cX9_brinesSeen 99 = .ok (.iload 4, 2) := by decide +kernel
theorem d_X9_brinesSeen_101 : decode cX9_brinesSeen 101 = .ok (.ireturn, 1) := by decide +kernel
def F_X9_brinesSeen_93 (p0 : Int32) (p1 : Int64) (self9 : Int32 → Int64 → Int32 → Int32 → Int32 → zMem → Option (Int32 × zMem)) (b93_L1 : Int32) (b93_L2 : Int64) (b93_L4 : Int32) (b93_L5 : Int32) (b93_L6 : Int32) (M : zMem) : Option (Int32 × zMem) :=
  self9 b93_L1 b93_L2 b93_L4 b93_L5 (b93_L6 + 1) M
def F_X9_brinesSeen_90 (p0 : Int32) (p1 : Int64) (self9 : Int32 → Int64 → Int32 → Int32 → Int32 → zMem → Option (Int32 × zMem)) (b90_L1 : Int32) (b90_L2 : Int64) (b90_L4 : Int32) (b90_L5 : Int32) (b90_L6 : Int32) (M : zMem) : Option (Int32 × zMem) :=
  F_X9_brinesSeen_93 p0 p1 self9 b90_L1 b90_L2 (b90_L4 + 1) b90_L5 b90_L6 M
def F_X9_brinesSeen_79 (p0 : Int32) (p1 : Int64) (self9 : Int32 → Int64 → Int32 → Int32 → Int32 → zMem → Option (Int32 × zMem)) (b79_L1 : Int32) (b79_L2 : Int64) (b79_L4 : Int32) (b79_L6 : Int32) (b79_S0 : Int32) (M : zMem) : Option (Int32 × zMem) :=
  gin b79_L4 64 <|
  zl (zI M 173 b79_L4.toNatClampNeg b79_S0) fun M2 =>
  F_X9_brinesSeen_90 p0 p1 self9 b79_L1 b79_L2 b79_L4 b79_S0 b79_L6 M2
def F_X9_brinesSeen_9 (p0 : Int32) (p1 : Int64) (self9 : Int32 → Int64 → Int32 → Int32 → Int32 → zMem → Option (Int32 × zMem)) (b9_L1 : Int32) (b9_L2 : Int64) (b9_L4 : Int32) (b9_L5 : Int32) (b9_L6 : Int32) (M : zMem) : Option (Int32 × zMem) :=
  if (64 : Int32) ≤ b9_L6 then
    some (b9_L4, M)
  else
    zb (F_X9_has M b9_L2 b9_L6) fun v4 M3 =>
    if v4 = 0 then
      F_X9_brinesSeen_93 p0 p1 self9 b9_L1 b9_L2 b9_L4 b9_L5 b9_L6 M3
    else
      zb (F_X6_touchedBy M3 104 b9_L6) fun v6 M5 =>
      zb (F_X9_has M5 v6 b9_L1) fun v8 M7 =>
      if v8 = 0 then
        if b9_L5 = (-1 : Int32) then
          zb (F_X9_brineAfterDay M7 b9_L1 b9_L6) fun v10 M9 =>
          F_X9_brinesSeen_79 p0 p1 self9 b9_L1 b9_L2 b9_L4 b9_L6 v10 M9
        else
          F_X9_brinesSeen_79 p0 p1 self9 b9_L1 b9_L2 b9_L4 b9_L6 b9_L5 M7
      else
        zb (F_X9_brineAfterDay M7 b9_L1 b9_L6) fun v12 M11 =>
        gin b9_L4 64 <|
        zl (zI M11 173 b9_L4.toNatClampNeg v12) fun M14 =>
        F_X9_brinesSeen_90 p0 p1 self9 b9_L1 b9_L2 b9_L4 b9_L5 b9_L6 M14
def F_X9_brinesSeen (M : zMem) (p0 : Int32) (p1 : Int64) : Option (Int32 × zMem) :=
  itF (fun _ _ _ _ _ _ => none) (F_X9_brinesSeen_9 p0 p1) zFuel p0 p1 (0 : Int32) (-1 : Int32) (0 : Int32) M
def rm_X9_brinesSeen : Room := { frames := 7, cells := 0, slots := 0, locals := 185 }
set_option maxHeartbeats 4000000 in
set_option maxRecDepth 100000 in
theorem c_X9_brinesSeen (l : Launch) {G : zG} {ad : Nat → Nat} {n : Nat} (hA : zInj ad n) (M : zMem) (p0 : Int32) (p1 : Int64) (hT : zT shX n 0 10) {r9 : Int32} {M9 : zMem} (hF : F_X9_brinesSeen M p0 p1 = some (r9, M9)) : zM l yX9_brinesSeen cX9_brinesSeen 7 (some .int) rm_X9_brinesSeen G shX ad n M [.ref (ad 0), .int p0, .long p1] (some (.int r9)) M9 := by
  refine zM_of hA (by decide +kernel) (lv := [(0, .ref (ad 0)), (1, .int p0), (2, .long p1)]) (Nat.le_of_ble_eq_true rfl) rfl (fun p e s m args below meth c A cx hr => ?_)
  have hb93 : ∀ (self9 : Int32 → Int64 → Int32 → Int32 → Int32 → zMem → Option (Int32 × zMem)) (hs9 : ∀ (b9_L1 : Int32) (b9_L2 : Int64) (b9_L4 : Int32) (b9_L5 : Int32) (b9_L6 : Int32) (M : zMem), self9 b9_L1 b9_L2 b9_L4 b9_L5 b9_L6 M = some (r9, M9) → zJ p l e rm_X9_brinesSeen s m args below meth c G shX ad n A 7 (MQ below (zQ G shX ad n M9 (some (.int r9)) A) args s 0 0 A) 0 0 M 9 [(0, .ref (ad 0)), (1, .int b9_L1), (2, .long b9_L2), (4, .int b9_L4), (5, .int b9_L5), (6, .int b9_L6)] []), ∀ (b93_L1 : Int32) (b93_L2 : Int64) (b93_L4 : Int32) (b93_L5 : Int32) (b93_L6 : Int32) (M : zMem), F_X9_brinesSeen_93 p0 p1 self9 b93_L1 b93_L2 b93_L4 b93_L5 b93_L6 M = some (r9, M9) → zJ p l e rm_X9_brinesSeen s m args below meth c G shX ad n A 7 (MQ below (zQ G shX ad n M9 (some (.int r9)) A) args s 0 0 A) 0 0 M 93 [(0, .ref (ad 0)), (1, .int b93_L1), (2, .long b93_L2), (4, .int b93_L4), (5, .int b93_L5), (6, .int b93_L6)] [] := by
    intro self9 hs9 b93_L1 b93_L2 b93_L4 b93_L5 b93_L6 M hF
    unfold F_X9_brinesSeen_93 at hF
    refine z_iinc cx 6 1 [(6, .int (b93_L6 + 1)), (0, .ref (ad 0)), (1, .int b93_L1), (2, .long b93_L2), (4, .int b93_L4), (5, .int b93_L5)] d_X9_brinesSeen_93 5 rfl ki_1 (by decide) rfl ?_
    refine z_goto cx 9 d_X9_brinesSeen_96 (by decide) ?_
    exact z_lv [1, 2, 3, 4, 5, 0] _ rfl (hs9 b93_L1 b93_L2 b93_L4 b93_L5 (b93_L6 + 1) M hF)
  have hb90 : ∀ (self9 : Int32 → Int64 → Int32 → Int32 → Int32 → zMem → Option (Int32 × zMem)) (hs9 : ∀ (b9_L1 : Int32) (b9_L2 : Int64) (b9_L4 : Int32) (b9_L5 : Int32) (b9_L6 : Int32) (M : zMem), self9 b9_L1 b9_L2 b9_L4 b9_L5 b9_L6 M = some (r9, M9) → zJ p l e rm_X9_brinesSeen s m args below meth c G shX ad n A 7 (MQ below (zQ G shX ad n M9 (some (.int r9)) A) args s 0 0 A) 0 0 M 9 [(0, .ref (ad 0)), (1, .int b9_L1), (2, .long b9_L2), (4, .int b9_L4), (5, .int b9_L5), (6, .int b9_L6)] []), ∀ (b90_L1 : Int32) (b90_L2 : Int64) (b90_L4 : Int32) (b90_L5 : Int32) (b90_L6 : Int32) (M : zMem), F_X9_brinesSeen_90 p0 p1 self9 b90_L1 b90_L2 b90_L4 b90_L5 b90_L6 M = some (r9, M9) → zJ p l e rm_X9_brinesSeen s m args below meth c G shX ad n A 7 (MQ below (zQ G shX ad n M9 (some (.int r9)) A) args s 0 0 A) 0 0 M 90 [(0, .ref (ad 0)), (1, .int b90_L1), (2, .long b90_L2), (4, .int b90_L4), (5, .int b90_L5), (6, .int b90_L6)] [] := by
    intro self9 hs9 b90_L1 b90_L2 b90_L4 b90_L5 b90_L6 M hF
    unfold F_X9_brinesSeen_90 at hF
    refine z_iinc cx 4 1 [(4, .int (b90_L4 + 1)), (0, .ref (ad 0)), (1, .int b90_L1), (2, .long b90_L2), (5, .int b90_L5), (6, .int b90_L6)] d_X9_brinesSeen_90 3 rfl ki_1 (by decide) rfl ?_
    exact z_lv [1, 2, 3, 0, 4, 5] _ rfl (hb93 self9 hs9 b90_L1 b90_L2 (b90_L4 + 1) b90_L5 b90_L6 M hF)
  have hb79 : ∀ (self9 : Int32 → Int64 → Int32 → Int32 → Int32 → zMem → Option (Int32 × zMem)) (hs9 : ∀ (b9_L1 : Int32) (b9_L2 : Int64) (b9_L4 : Int32) (b9_L5 : Int32) (b9_L6 : Int32) (M : zMem), self9 b9_L1 b9_L2 b9_L4 b9_L5 b9_L6 M = some (r9, M9) → zJ p l e rm_X9_brinesSeen s m args below meth c G shX ad n A 7 (MQ below (zQ G shX ad n M9 (some (.int r9)) A) args s 0 0 A) 0 0 M 9 [(0, .ref (ad 0)), (1, .int b9_L1), (2, .long b9_L2), (4, .int b9_L4), (5, .int b9_L5), (6, .int b9_L6)] []), ∀ (b79_L1 : Int32) (b79_L2 : Int64) (b79_L4 : Int32) (b79_L6 : Int32) (b79_S0 : Int32) (M : zMem), F_X9_brinesSeen_79 p0 p1 self9 b79_L1 b79_L2 b79_L4 b79_L6 b79_S0 M = some (r9, M9) → zJ p l e rm_X9_brinesSeen s m args below meth c G shX ad n A 7 (MQ below (zQ G shX ad n M9 (some (.int r9)) A) args s 0 0 A) 0 0 M 79 [(0, .ref (ad 0)), (1, .int b79_L1), (2, .long b79_L2), (4, .int b79_L4), (6, .int b79_L6)] [.int b79_S0] := by
    intro self9 hs9 b79_L1 b79_L2 b79_L4 b79_L6 b79_S0 M hF
    unfold F_X9_brinesSeen_79 at hF
    refine z_istore cx 5 [(5, .int b79_S0), (0, .ref (ad 0)), (1, .int b79_L1), (2, .long b79_L2), (4, .int b79_L4), (6, .int b79_L6)] d_X9_brinesSeen_79 (by decide) rfl ?_
    refine z_aload_n cx d_X9_brinesSeen_81 1 rfl ?_
    refine z_getR cx hT fg_SunnyPans_55 173 rfl d_X9_brinesSeen_82 ?_
    refine z_iload cx d_X9_brinesSeen_85 4 rfl ?_
    refine z_iload cx d_X9_brinesSeen_87 0 rfl ?_
    obtain ⟨hi1, hF⟩ := gin_inv hF
    refine z_iast cx (tfX_10_173 hT) za_16 hi1 b79_L4.toNatClampNeg rfl d_X9_brinesSeen_89 ?_
    refine z_nmM hF (fun M2 hF => ?_)
    exact z_lv [1, 2, 3, 4, 0, 5] _ rfl (hb90 self9 hs9 b79_L1 b79_L2 b79_L4 b79_S0 b79_L6 M2 hF)
  have hL9 : ∀ (fuel : Nat), ∀ (b9_L1 : Int32) (b9_L2 : Int64) (b9_L4 : Int32) (b9_L5 : Int32) (b9_L6 : Int32) (M : zMem), itF (fun _ _ _ _ _ _ => none) (F_X9_brinesSeen_9 p0 p1) fuel b9_L1 b9_L2 b9_L4 b9_L5 b9_L6 M = some (r9, M9) → zJ p l e rm_X9_brinesSeen s m args below meth c G shX ad n A 7 (MQ below (zQ G shX ad n M9 (some (.int r9)) A) args s 0 0 A) 0 0 M 9 [(0, .ref (ad 0)), (1, .int b9_L1), (2, .long b9_L2), (4, .int b9_L4), (5, .int b9_L5), (6, .int b9_L6)] [] := by
    intro fuel
    induction fuel with
    | zero => intro b9_L1 b9_L2 b9_L4 b9_L5 b9_L6 M hF; cases hF
    | succ fuel hs9 =>
      intro b9_L1 b9_L2 b9_L4 b9_L5 b9_L6 M hF
      have hF : F_X9_brinesSeen_9 p0 p1 (itF (fun _ _ _ _ _ _ => none) (F_X9_brinesSeen_9 p0 p1) fuel) b9_L1 b9_L2 b9_L4 b9_L5 b9_L6 M = some (r9, M9) := hF
      generalize itF (fun _ _ _ _ _ _ => none) (F_X9_brinesSeen_9 p0 p1) fuel = self9 at hs9 hF
      unfold F_X9_brinesSeen_9 at hF
      refine z_iload cx d_X9_brinesSeen_9 5 rfl ?_
      refine z_bipush (v := 64) cx d_X9_brinesSeen_11 kb_64 ?_
      refine z_icmp_ge cx 99 d_X9_brinesSeen_13 (by decide) hF (fun hF => ?_) (fun hF => ?_)
      · refine z_iload cx d_X9_brinesSeen_99 3 rfl ?_
        exact z_iret cx hr rfl hF d_X9_brinesSeen_101
      refine z_lload_n cx d_X9_brinesSeen_16 2 rfl ?_
      refine z_iload cx d_X9_brinesSeen_17 5 rfl ?_
      obtain ⟨v4, M3, hc, hF⟩ := zb_inv hF
      refine z_callS cx (As := [.long b9_L2, .int b9_L6]) (rest := []) (c_X9_has l cx.2.2.2.1.1 M b9_L2 b9_L6  hc) cs_SunnyPans_231 ⟨rfl, rfl, Nat.le_of_ble_eq_true rfl, Nat.le_of_ble_eq_true rfl⟩ rfl rfl ⟨Nat.zero_le _, Nat.zero_le _⟩ (Nat.le_of_ble_eq_true rfl) d_X9_brinesSeen_19 ?_
      refine z_if_ne cx 28 d_X9_brinesSeen_22 (by decide) hF (fun hF => ?_) (fun hF => ?_)
      · refine z_aload_n cx d_X9_brinesSeen_28 0 rfl ?_
        refine z_getR cx hT fg_SunnyPans_44 104 rfl d_X9_brinesSeen_29 ?_
        refine z_iload cx d_X9_brinesSeen_32 5 rfl ?_
        obtain ⟨v6, M5, hc, hF⟩ := zb_inv hF
        refine z_callV cx (As := [.int b9_L6]) (rest := []) (c_X6_touchedBy l cx.2.2.2.1.1 M3 104 b9_L6 (tfX_10_104 hT) hc) (tfX_10_104 hT) zo_7 cv_SunnyPans_383 ⟨rfl, rfl, Nat.le_of_ble_eq_true rfl, Nat.le_of_ble_eq_true rfl⟩ rfl rfl ⟨Nat.zero_le _, Nat.zero_le _⟩ (Nat.le_of_ble_eq_true rfl) d_X9_brinesSeen_34 ?_
        refine z_iload_n cx d_X9_brinesSeen_37 1 rfl ?_
        obtain ⟨v8, M7, hc, hF⟩ := zb_inv hF
        refine z_callS cx (As := [.long v6, .int b9_L1]) (rest := []) (c_X9_has l cx.2.2.2.1.1 M5 v6 b9_L1  hc) cs_SunnyPans_231 ⟨rfl, rfl, Nat.le_of_ble_eq_true rfl, Nat.le_of_ble_eq_true rfl⟩ rfl rfl ⟨Nat.zero_le _, Nat.zero_le _⟩ (Nat.le_of_ble_eq_true rfl) d_X9_brinesSeen_38 ?_
        refine z_if_eq cx 61 d_X9_brinesSeen_41 (by decide) hF (fun hF => ?_) (fun hF => ?_)
        · refine z_iload cx d_X9_brinesSeen_61 4 rfl ?_
          refine z_iconst (v := -1) cx d_X9_brinesSeen_63 ki_m1 ?_
          refine z_icmp_ne cx 77 d_X9_brinesSeen_64 (by decide) hF (fun hF => ?_) (fun hF => ?_)
          · refine z_iload cx d_X9_brinesSeen_77 4 rfl ?_
            exact z_lv [0, 1, 2, 3, 5] _ rfl (hb79 self9 hs9 b9_L1 b9_L2 b9_L4 b9_L6 b9_L5 M7 hF)
          refine z_aload_n cx d_X9_brinesSeen_67 0 rfl ?_
          refine z_iload_n cx d_X9_brinesSeen_68 1 rfl ?_
          refine z_iload cx d_X9_brinesSeen_69 5 rfl ?_
          obtain ⟨v10, M9, hc, hF⟩ := zb_inv hF
          refine z_callV cx (As := [.int b9_L1, .int b9_L6]) (rest := []) (c_X9_brineAfterDay l cx.2.2.2.1.1 M7 b9_L1 b9_L6 hT hc) hT zo_10 cv_SunnyPans_375 ⟨rfl, rfl, Nat.le_of_ble_eq_true rfl, Nat.le_of_ble_eq_true rfl⟩ rfl rfl ⟨Nat.zero_le _, Nat.zero_le _⟩ (Nat.le_of_ble_eq_true rfl) d_X9_brinesSeen_71 ?_
          refine z_goto cx 79 d_X9_brinesSeen_74 (by decide) ?_
          exact z_lv [0, 1, 2, 3, 5] _ rfl (hb79 self9 hs9 b9_L1 b9_L2 b9_L4 b9_L6 v10 M9 hF)
        refine z_aload_n cx d_X9_brinesSeen_44 0 rfl ?_
        refine z_getR cx hT fg_SunnyPans_55 173 rfl d_X9_brinesSeen_45 ?_
        refine z_iload cx d_X9_brinesSeen_48 3 rfl ?_
        refine z_aload_n cx d_X9_brinesSeen_50 0 rfl ?_
        refine z_iload_n cx d_X9_brinesSeen_51 1 rfl ?_
        refine z_iload cx d_X9_brinesSeen_52 5 rfl ?_
        obtain ⟨v12, M11, hc, hF⟩ := zb_inv hF
        refine z_callV cx (As := [.int b9_L1, .int b9_L6]) (rest := [.int b9_L4, .ref (ad 173)]) (c_X9_brineAfterDay l cx.2.2.2.1.1 M7 b9_L1 b9_L6 hT hc) hT zo_10 cv_SunnyPans_375 ⟨rfl, rfl, Nat.le_of_ble_eq_true rfl, Nat.le_of_ble_eq_true rfl⟩ rfl rfl ⟨Nat.zero_le _, Nat.zero_le _⟩ (Nat.le_of_ble_eq_true rfl) d_X9_brinesSeen_54 ?_
        obtain ⟨hi13, hF⟩ := gin_inv hF
        refine z_iast cx (tfX_10_173 hT) za_16 hi13 b9_L4.toNatClampNeg rfl d_X9_brinesSeen_57 ?_
        refine z_nmM hF (fun M14 hF => ?_)
        refine z_goto cx 90 d_X9_brinesSeen_58 (by decide) ?_
        exact hb90 self9 hs9 b9_L1 b9_L2 b9_L4 b9_L5 b9_L6 M14 hF
      refine z_goto cx 93 d_X9_brinesSeen_25 (by decide) ?_
      exact hb93 self9 hs9 b9_L1 b9_L2 b9_L4 b9_L5 b9_L6 M3 hF
  unfold F_X9_brinesSeen at hF
  refine z_iconst (v := 0) cx d_X9_brinesSeen_0 ki_0 ?_
  refine z_istore cx 4 [(4, .int (0 : Int32)), (0, .ref (ad 0)), (1, .int p0), (2, .long p1)] d_X9_brinesSeen_1 (by decide) rfl ?_
  refine z_iconst (v := -1) cx d_X9_brinesSeen_3 ki_m1 ?_
  refine z_istore cx 5 [(5, .int (-1 : Int32)), (4, .int (0 : Int32)), (0, .ref (ad 0)), (1, .int p0), (2, .long p1)] d_X9_brinesSeen_4 (by decide) rfl ?_
  refine z_iconst (v := 0) cx d_X9_brinesSeen_6 ki_0 ?_
  refine z_istore cx 6 [(6, .int (0 : Int32)), (5, .int (-1 : Int32)), (4, .int (0 : Int32)), (0, .ref (ad 0)), (1, .int p0), (2, .long p1)] d_X9_brinesSeen_7 (by decide) rfl ?_
  exact z_lv [3, 4, 5, 2, 1, 0] _ rfl (hL9 zFuel p0 p1 (0 : Int32) (-1 : Int32) (0 : Int32) M hF)
/-! SunnyPans.mostAlike -/
theorem d_X9_mostAlike_0 : decode cX9_mostAlike 0 = .ok (.iconst 0, 1) := by decide +kernel
theorem d_X9_mostAlike_1 : decode cX9_mostAlike 1 = .ok (.istore_n 2, 1) := by decide +kernel
theorem d_X9_mostAlike_2 : decode cX9_mostAlike 2 = .ok (.iconst 0, 1) := by decide +kernel
theorem d_X9_mostAlike_3 : decode cX9_mostAlike 3 = .ok (.istore_n 3, 1) := by decide +kernel
theorem d_X9_mostAlike_4 : decode cX9_mostAlike 4 = .ok (.iload_n 3, 1) := by decide +kernel
theorem d_X9_mostAlike_5 : decode cX9_mostAlike 5 = .ok (.iload_n 1, 1) := by decide +kernel
theorem d_X9_mostAlike_6 : decode cX9_mostAlike 6 = .ok (.if_icmp .ge 60, 3) := by decide +kernel
theorem d_X9_mostAlike_9 : decode cX9_mostAlike 9 = .ok (.iconst 0, 1) := by decide +kernel
theorem d_X9_mostAlike_10 : decode cX9_mostAlike 10 = .ok (.istore 4, 2) := by decide +kernel
theorem d_X9_mostAlike_12 : decode cX9_mostAlike 12 = .ok (.iload_n 3, 1) := by decide +kernel
theorem d_X9_mostAlike_13 : decode cX9_mostAlike 13 = .ok (.istore 5, 2) := by decide +kernel
theorem d_X9_mostAlike_15 : decode cX9_mostAlike 15 = .ok (.iload 5, 2) := by decide +kernel
theorem d_X9_mostAlike_17 : decode cX9_mostAlike 17 = .ok (.iload_n 1, 1) := by decide +kernel
theorem d_X9_mostAlike_18 : decode cX9_mostAlike 18 = .ok (.if_icmp .ge 35, 3) := by decide +kernel
theorem d_X9_mostAlike_21 : decode cX9_mostAlike 21 = .ok (.iload 4, 2) := by decide +kernel
theorem d_X9_mostAlike_23 : decode cX9_mostAlike 23 = .ok (.aload_n 0, 1) := by decide +kernel
theorem d_X9_mostAlike_24 : decode cX9_mostAlike 24 = .ok (.getfield 55, 3) := by decide +kernel
theorem d_X9_mostAlike_27 : decode cX9_mostAlike 27 = .ok (.iload_n 3, 1) := by decide +kernel
theorem d_X9_mostAlike_28 : decode cX9_mostAlike 28 = .ok (.iaload, 1) := by decide +kernel
theorem d_X9_mostAlike_29 : decode cX9_mostAlike 29 = .ok (.aload_n 0, 1) := by decide +kernel
theorem d_X9_mostAlike_30 : decode cX9_mostAlike 30 = .ok (.getfield 55, 3) := by decide +kernel
theorem d_X9_mostAlike_33 : decode cX9_mostAlike 33 = .ok (.iload 5, 2) := by decide +kernel
theorem d_X9_mostAlike_35 : decode cX9_mostAlike 35 = .ok (.iaload, 1) := by decide +kernel
theorem d_X9_mostAlike_36 : decode cX9_mostAlike 36 = .ok (.if_icmp .ne 7, 3) := by decide +kernel
theorem d_X9_mostAlike_39 : decode cX9_mostAlike 39 = .ok (.iconst 1, 1) := by decide +kernel
theorem d_X9_mostAlike_40 : decode cX9_mostAlike 40 = .ok (.goto 4, 3) := by decide +kernel
theorem d_X9_mostAlike_43 : decode cX9_mostAlike 43 = .ok (.iconst 0, 1) := by decide +kernel
theorem d_X9_mostAlike_44 : decode cX9_mostAlike 44 = .ok (.iadd, 1) := by decide +kernel
theorem d_X9_mostAlike_45 : decode cX9_mostAlike 45 = .ok (.istore 4, 2) := by decide +kernel
theorem d_X9_mostAlike_47 : decode cX9_mostAlike 47 = .ok (.iinc 5 1, 3) := by decide +kernel
theorem d_X9_mostAlike_50 : decode cX9_mostAlike 50 = .ok (.goto (-35), 3) := by decide +kernel
theorem d_X9_mostAlike_53 : decode cX9_mostAlike 53 = .ok (.iload_n 2, 1) := by decide +kernel
theorem d_X9_mostAlike_54 : decode cX9_mostAlike 54 = .ok (.iload 4, 2) := by decide +kernel
theorem d_X9_mostAlike_56 : decode cX9_mostAlike 56 = .ok (.invokestatic 386, 3) := by decide +kernel
theorem d_X9_mostAlike_59 : decode cX9_mostAlike 59 = .ok (.istore_n 2, 1) := by decide +kernel
theorem d_X9_mostAlike_60 : decode cX9_mostAlike 60 = .ok (.iinc 3 1, 3) := by decide +kernel
theorem d_X9_mostAlike_63 : decode cX9_mostAlike 63 = .ok (.goto (-59), 3) := by decide +kernel
theorem d_X9_mostAlike_66 : decode cX9_mostAlike 66 = .ok (.iload_n 2, 1) := by decide +kernel
theorem d_X9_mostAlike_67 : decode cX9_mostAlike 67 = .ok (.ireturn, 1) := by decide +kernel
def F_X9_mostAlike_44 (p0 : Int32) (self4 : Int32 → Int32 → Int32 → zMem → Option (Int32 × zMem)) (self15 : Int32 → Int32 → Int32 → Int32 → Int32 → zMem → Option (Int32 × zMem)) (b44_L1 : Int32) (b44_L2 : Int32) (b44_L3 : Int32) (b44_L5 : Int32) (b44_S0 : Int32) (b44_S1 : Int32) (M : zMem) : Option (Int32 × zMem) :=
  zl (b44_S0 + b44_S1) fun v1 =>
  self15 b44_L1 b44_L2 b44_L3 v1 (b44_L5 + 1) M
def F_X9_mostAlike_15 (p0 : Int32) (self4 : Int32 → Int32 → Int32 → zMem → Option (Int32 × zMem)) (self15 : Int32 → Int32 → Int32 → Int32 → Int32 → zMem → Option (Int32 × zMem)) (b15_L1 : Int32) (b15_L2 : Int32) (b15_L3 : Int32) (b15_L4 : Int32) (b15_L5 : Int32) (M : zMem) : Option (Int32 × zMem) :=
  if b15_L1 ≤ b15_L5 then
    zl (zmax b15_L2 b15_L4) fun v2 =>
    self4 b15_L1 v2 (b15_L3 + 1) M
  else
    gin b15_L3 64 <|
    gin b15_L5 64 <|
    if (M.1 173 b15_L3.toNatClampNeg) = (M.1 173 b15_L5.toNatClampNeg) then
      F_X9_mostAlike_44 p0 self4 self15 b15_L1 b15_L2 b15_L3 b15_L5 b15_L4 (1 : Int32) M
    else
      F_X9_mostAlike_44 p0 self4 self15 b15_L1 b15_L2 b15_L3 b15_L5 b15_L4 (0 : Int32) M
def F_X9_mostAlike_4 (p0 : Int32) (self4 : Int32 → Int32 → Int32 → zMem → Option (Int32 × zMem)) (b4_L1 : Int32) (b4_L2 : Int32) (b4_L3 : Int32) (M : zMem) : Option (Int32 × zMem) :=
  if b4_L1 ≤ b4_L3 then
    some (b4_L2, M)
  else
    itF (fun _ _ _ _ _ _ => none) (F_X9_mostAlike_15 p0 self4) zFuel b4_L1 b4_L2 b4_L3 (0 : Int32) b4_L3 M
def F_X9_mostAlike (M : zMem) (p0 : Int32) : Option (Int32 × zMem) :=
  itF (fun _ _ _ _ => none) (F_X9_mostAlike_4 p0) zFuel p0 (0 : Int32) (0 : Int32) M
def rm_X9_mostAlike : Room := { frames := 3, cells := 0, slots := 0, locals := 80 }
set_option maxHeartbeats 4000000 in
set_option maxRecDepth 100000 in
theorem c_X9_mostAlike (l : Launch) {G : zG} {ad : Nat → Nat} {n : Nat} (hA : zInj ad n) (M : zMem) (p0 : Int32) (hT : zT shX n 0 10) {r9 : Int32} {M9 : zMem} (hF : F_X9_mostAlike M p0 = some (r9, M9)) : zM l yX9_mostAlike cX9_mostAlike 6 (some .int) rm_X9_mostAlike G shX ad n M [.ref (ad 0), .int p0] (some (.int r9)) M9 := by
  refine zM_of hA (by decide +kernel) (lv := [(0, .ref (ad 0)), (1, .int p0)]) (Nat.le_of_ble_eq_true rfl) rfl (fun p e s m args below meth c A cx hr => ?_)
  have hb44 : ∀ (self4 : Int32 → Int32 → Int32 → zMem → Option (Int32 × zMem)) (hs4 : ∀ (b4_L1 : Int32) (b4_L2 : Int32) (b4_L3 : Int32) (M : zMem), self4 b4_L1 b4_L2 b4_L3 M = some (r9, M9) → zJ p l e rm_X9_mostAlike s m args below meth c G shX ad n A 6 (MQ below (zQ G shX ad n M9 (some (.int r9)) A) args s 0 0 A) 0 0 M 4 [(0, .ref (ad 0)), (1, .int b4_L1), (2, .int b4_L2), (3, .int b4_L3)] []) (self15 : Int32 → Int32 → Int32 → Int32 → Int32 → zMem → Option (Int32 × zMem)) (hs15 : ∀ (b15_L1 : Int32) (b15_L2 : Int32) (b15_L3 : Int32) (b15_L4 : Int32) (b15_L5 : Int32) (M : zMem), self15 b15_L1 b15_L2 b15_L3 b15_L4 b15_L5 M = some (r9, M9) → zJ p l e rm_X9_mostAlike s m args below meth c G shX ad n A 6 (MQ below (zQ G shX ad n M9 (some (.int r9)) A) args s 0 0 A) 0 0 M 15 [(0, .ref (ad 0)), (1, .int b15_L1), (2, .int b15_L2), (3, .int b15_L3), (4, .int b15_L4), (5, .int b15_L5)] []), ∀ (b44_L1 : Int32) (b44_L2 : Int32) (b44_L3 : Int32) (b44_L5 : Int32) (b44_S0 : Int32) (b44_S1 : Int32) (M : zMem), F_X9_mostAlike_44 p0 self4 self15 b44_L1 b44_L2 b44_L3 b44_L5 b44_S0 b44_S1 M = some (r9, M9) → zJ p l e rm_X9_mostAlike s m args below meth c G shX ad n A 6 (MQ below (zQ G shX ad n M9 (some (.int r9)) A) args s 0 0 A) 0 0 M 44 [(0, .ref (ad 0)), (1, .int b44_L1), (2, .int b44_L2), (3, .int b44_L3), (5, .int b44_L5)] [.int b44_S1, .int b44_S0] := by
    intro self4 hs4 self15 hs15 b44_L1 b44_L2 b44_L3 b44_L5 b44_S0 b44_S1 M hF
    unfold F_X9_mostAlike_44 at hF
    refine z_iadd cx d_X9_mostAlike_44 ?_
    refine z_nm hF (fun v1 hF => ?_)
    refine z_istore cx 4 [(4, .int v1), (0, .ref (ad 0)), (1, .int b44_L1), (2, .int b44_L2), (3, .int b44_L3), (5, .int b44_L5)] d_X9_mostAlike_45 (by decide) rfl ?_
    refine z_iinc cx 5 1 [(5, .int (b44_L5 + 1)), (4, .int v1), (0, .ref (ad 0)), (1, .int b44_L1), (2, .int b44_L2), (3, .int b44_L3)] d_X9_mostAlike_47 5 rfl ki_1 (by decide) rfl ?_
    refine z_goto cx 15 d_X9_mostAlike_50 (by decide) ?_
    exact z_lv [2, 3, 4, 5, 1, 0] _ rfl (hs15 b44_L1 b44_L2 b44_L3 v1 (b44_L5 + 1) M hF)
  have hL15 : ∀ (self4 : Int32 → Int32 → Int32 → zMem → Option (Int32 × zMem)) (hs4 : ∀ (b4_L1 : Int32) (b4_L2 : Int32) (b4_L3 : Int32) (M : zMem), self4 b4_L1 b4_L2 b4_L3 M = some (r9, M9) → zJ p l e rm_X9_mostAlike s m args below meth c G shX ad n A 6 (MQ below (zQ G shX ad n M9 (some (.int r9)) A) args s 0 0 A) 0 0 M 4 [(0, .ref (ad 0)), (1, .int b4_L1), (2, .int b4_L2), (3, .int b4_L3)] []) (fuel : Nat), ∀ (b15_L1 : Int32) (b15_L2 : Int32) (b15_L3 : Int32) (b15_L4 : Int32) (b15_L5 : Int32) (M : zMem), itF (fun _ _ _ _ _ _ => none) (F_X9_mostAlike_15 p0 self4) fuel b15_L1 b15_L2 b15_L3 b15_L4 b15_L5 M = some (r9, M9) → zJ p l e rm_X9_mostAlike s m args below meth c G shX ad n A 6 (MQ below (zQ G shX ad n M9 (some (.int r9)) A) args s 0 0 A) 0 0 M 15 [(0, .ref (ad 0)), (1, .int b15_L1), (2, .int b15_L2), (3, .int b15_L3), (4, .int b15_L4), (5, .int b15_L5)] [] := by
    intro self4 hs4 fuel
    induction fuel with
    | zero => intro b15_L1 b15_L2 b15_L3 b15_L4 b15_L5 M hF; cases hF
    | succ fuel hs15 =>
      intro b15_L1 b15_L2 b15_L3 b15_L4 b15_L5 M hF
      have hF : F_X9_mostAlike_15 p0 self4 (itF (fun _ _ _ _ _ _ => none) (F_X9_mostAlike_15 p0 self4) fuel) b15_L1 b15_L2 b15_L3 b15_L4 b15_L5 M = some (r9, M9) := hF
      generalize itF (fun _ _ _ _ _ _ => none) (F_X9_mostAlike_15 p0 self4) fuel = self15 at hs15 hF
      unfold F_X9_mostAlike_15 at hF
      refine z_iload cx d_X9_mostAlike_15 5 rfl ?_
      refine z_iload_n cx d_X9_mostAlike_17 1 rfl ?_
      refine z_icmp_ge cx 53 d_X9_mostAlike_18 (by decide) hF (fun hF => ?_) (fun hF => ?_)
      · refine z_iload_n cx d_X9_mostAlike_53 2 rfl ?_
        refine z_iload cx d_X9_mostAlike_54 4 rfl ?_
        refine z_mmax cx ⟨wd_1252, wd_605, wd_116, wd_606⟩ ⟨Nat.le_of_ble_eq_true rfl, Nat.le_of_ble_eq_true rfl, Nat.zero_le _, Nat.zero_le _⟩ d_X9_mostAlike_56 ?_
        refine z_nm hF (fun v2 hF => ?_)
        refine z_istore_n cx 2 [(2, .int v2), (0, .ref (ad 0)), (1, .int b15_L1), (3, .int b15_L3), (4, .int b15_L4), (5, .int b15_L5)] d_X9_mostAlike_59 rfl (by decide) rfl ?_
        refine z_iinc cx 3 1 [(3, .int (b15_L3 + 1)), (2, .int v2), (0, .ref (ad 0)), (1, .int b15_L1), (4, .int b15_L4), (5, .int b15_L5)] d_X9_mostAlike_60 3 rfl ki_1 (by decide) rfl ?_
        refine z_goto cx 4 d_X9_mostAlike_63 (by decide) ?_
        exact z_lv [2, 3, 1, 0] _ rfl (hs4 b15_L1 v2 (b15_L3 + 1) M hF)
      refine z_iload cx d_X9_mostAlike_21 4 rfl ?_
      refine z_aload_n cx d_X9_mostAlike_23 0 rfl ?_
      refine z_getR cx hT fg_SunnyPans_55 173 rfl d_X9_mostAlike_24 ?_
      refine z_iload_n cx d_X9_mostAlike_27 3 rfl ?_
      obtain ⟨hi3, hF⟩ := gin_inv hF
      refine z_iald cx (tfX_10_173 hT) za_16 hi3 b15_L3.toNatClampNeg rfl d_X9_mostAlike_28 ?_
      refine z_aload_n cx d_X9_mostAlike_29 0 rfl ?_
      refine z_getR cx hT fg_SunnyPans_55 173 rfl d_X9_mostAlike_30 ?_
      refine z_iload cx d_X9_mostAlike_33 5 rfl ?_
      obtain ⟨hi4, hF⟩ := gin_inv hF
      refine z_iald cx (tfX_10_173 hT) za_16 hi4 b15_L5.toNatClampNeg rfl d_X9_mostAlike_35 ?_
      refine z_icmp_ne cx 43 d_X9_mostAlike_36 (by decide) hF (fun hF => ?_) (fun hF => ?_)
      · refine z_iconst (v := 0) cx d_X9_mostAlike_43 ki_0 ?_
        exact z_lv [0, 1, 2, 3, 5] _ rfl (hb44 self4 hs4 self15 hs15 b15_L1 b15_L2 b15_L3 b15_L5 b15_L4 (0 : Int32) M hF)
      refine z_iconst (v := 1) cx d_X9_mostAlike_39 ki_1 ?_
      refine z_goto cx 44 d_X9_mostAlike_40 (by decide) ?_
      exact z_lv [0, 1, 2, 3, 5] _ rfl (hb44 self4 hs4 self15 hs15 b15_L1 b15_L2 b15_L3 b15_L5 b15_L4 (1 : Int32) M hF)
  have hL4 : ∀ (fuel : Nat), ∀ (b4_L1 : Int32) (b4_L2 : Int32) (b4_L3 : Int32) (M : zMem), itF (fun _ _ _ _ => none) (F_X9_mostAlike_4 p0) fuel b4_L1 b4_L2 b4_L3 M = some (r9, M9) → zJ p l e rm_X9_mostAlike s m args below meth c G shX ad n A 6 (MQ below (zQ G shX ad n M9 (some (.int r9)) A) args s 0 0 A) 0 0 M 4 [(0, .ref (ad 0)), (1, .int b4_L1), (2, .int b4_L2), (3, .int b4_L3)] [] := by
    intro fuel
    induction fuel with
    | zero => intro b4_L1 b4_L2 b4_L3 M hF; cases hF
    | succ fuel hs4 =>
      intro b4_L1 b4_L2 b4_L3 M hF
      have hF : F_X9_mostAlike_4 p0 (itF (fun _ _ _ _ => none) (F_X9_mostAlike_4 p0) fuel) b4_L1 b4_L2 b4_L3 M = some (r9, M9) := hF
      generalize itF (fun _ _ _ _ => none) (F_X9_mostAlike_4 p0) fuel = self4 at hs4 hF
      unfold F_X9_mostAlike_4 at hF
      refine z_iload_n cx d_X9_mostAlike_4 3 rfl ?_
      refine z_iload_n cx d_X9_mostAlike_5 1 rfl ?_
      refine z_icmp_ge cx 66 d_X9_mostAlike_6 (by decide) hF (fun hF => ?_) (fun hF => ?_)
      · refine z_iload_n cx d_X9_mostAlike_66 2 rfl ?_
        exact z_iret cx hr rfl hF d_X9_mostAlike_67
      refine z_iconst (v := 0) cx d_X9_mostAlike_9 ki_0 ?_
      refine z_istore cx 4 [(4, .int (0 : Int32)), (0, .ref (ad 0)), (1, .int b4_L1), (2, .int b4_L2), (3, .int b4_L3)] d_X9_mostAlike_10 (by decide) rfl ?_
      refine z_iload_n cx d_X9_mostAlike_12 4 rfl ?_
      refine z_istore cx 5 [(5, .int b4_L3), (4, .int (0 : Int32)), (0, .ref (ad 0)), (1, .int b4_L1), (2, .int b4_L2), (3, .int b4_L3)] d_X9_mostAlike_13 (by decide) rfl ?_
      exact z_lv [2, 3, 4, 5, 1, 0] _ rfl (hL15 self4 hs4 zFuel b4_L1 b4_L2 b4_L3 (0 : Int32) b4_L3 M hF)
  unfold F_X9_mostAlike at hF
  refine z_iconst (v := 0) cx d_X9_mostAlike_0 ki_0 ?_
  refine z_istore_n cx 2 [(2, .int (0 : Int32)), (0, .ref (ad 0)), (1, .int p0)] d_X9_mostAlike_1 rfl (by decide) rfl ?_
  refine z_iconst (v := 0) cx d_X9_mostAlike_2 ki_0 ?_
  refine z_istore_n cx 3 [(3, .int (0 : Int32)), (2, .int (0 : Int32)), (0, .ref (ad 0)), (1, .int p0)] d_X9_mostAlike_3 rfl (by decide) rfl ?_
  exact z_lv [2, 3, 1, 0] _ rfl (hL4 zFuel p0 (0 : Int32) (0 : Int32) M hF)
/-! SunnyPans.draw -/
theorem d_X9_draw_0 : decode cX9_draw 0 = .ok (.aload_n 0, 1) := by decide +kernel
theorem d_X9_draw_1 : decode cX9_draw 1 = .ok (.aload_n 0, 1) := by decide +kernel
theorem d_X9_draw_2 : decode cX9_draw 2 = .ok (.getfield 393, 3) := by decide +kernel
theorem d_X9_draw_5 : decode cX9_draw 5 = .ok (.ldc_w 406, 3) := by decide +kernel
theorem d_X9_draw_8 : decode cX9_draw 8 = .ok (.imul, 1) := by decide +kernel
theorem d_X9_draw_9 : decode cX9_draw 9 = .ok (.sipush 12345, 3) := by decide +kernel
theorem d_X9_draw_12 : decode cX9_draw 12 = .ok (.iadd, 1) := by decide +kernel
theorem d_X9_draw_13 : decode cX9_draw 13 = .ok (.putfield 393, 3) := by decide +kernel
theorem d_X9_draw_16 : decode cX9_draw 16 = .ok (.iload_n 1, 1) := by decide +kernel
theorem d_X9_draw_17 : decode cX9_draw 17 = .ok (.ifCond .le 19, 3) := by decide +kernel
theorem d_X9_draw_20 : decode cX9_draw 20 = .ok (.aload_n 0, 1) := by decide +kernel
theorem d_X9_draw_21 : decode cX9_draw 21 = .ok (.getfield 393, 3) := by decide +kernel
theorem d_X9_draw_24 : decode cX9_draw 24 = .ok (.bipush 16, 2) := by decide +kernel
theorem d_X9_draw_26 : decode cX9_draw 26 = .ok (.iushr, 1) := by decide +kernel
theorem d_X9_draw_27 : decode cX9_draw 27 = .ok (.sipush 32767, 3) := by decide +kernel
theorem d_X9_draw_30 : decode cX9_draw 30 = .ok (.iand, 1) := by decide +kernel
theorem d_X9_draw_31 : decode cX9_draw 31 = .ok (.iload_n 1, 1) := by decide +kernel
theorem d_X9_draw_32 : decode cX9_draw 32 = .ok (.irem, 1) := by decide +kernel
theorem d_X9_draw_33 : decode cX9_draw 33 = .ok (.goto 4, 3) := by decide +kernel
theorem d_X9_draw_36 : decode cX9_draw 36 = .ok (.iconst 0, 1) := by decide +kernel
theorem d_X9_draw_37 : decode cX9_draw 37 = .ok (.ireturn, 1) := by decide +kernel
def F_X9_draw (M : zMem) (p0 : Int32) : Option (Int32 × zMem) :=
  zl (zI M 0 18 (((M.1 0 18) * (1103515245 : Int32)) + (12345 : Int32))) fun M1 =>
  if p0 ≤ 0 then
    some ((0 : Int32), M1)
  else
    gd (!(p0 == 0)) <|
    some (((((M1.1 0 18).toUInt32 >>> ((16 : Int32).toUInt32 &&& Int32.toUInt32 31)).toInt32 &&& (32767 : Int32)) - (((M1.1 0 18).toUInt32 >>> ((16 : Int32).toUInt32 &&& Int32.toUInt32 31)).toInt32 &&& (32767 : Int32)) / p0 * p0), M1)
def rm_X9_draw : Room := { frames := 2, cells := 0, slots := 0, locals := 80 }
set_option maxHeartbeats 4000000 in
set_option maxRecDepth 100000 in
theorem c_X9_draw (l : Launch) {G : zG} {ad : Nat → Nat} {n : Nat} (hA : zInj ad n) (M : zMem) (p0 : Int32) (hT : zT shX n 0 10) {r9 : Int32} {M9 : zMem} (hF : F_X9_draw M p0 = some (r9, M9)) : zM l yX9_draw cX9_draw 2 (some .int) rm_X9_draw G shX ad n M [.ref (ad 0), .int p0] (some (.int r9)) M9 := by
  refine zM_of hA (by decide +kernel) (lv := [(0, .ref (ad 0)), (1, .int p0)]) (Nat.le_of_ble_eq_true rfl) rfl (fun p e s m args below meth c A cx hr => ?_)
  unfold F_X9_draw at hF
  refine z_aload_n cx d_X9_draw_0 0 rfl ?_
  refine z_aload_n cx d_X9_draw_1 0 rfl ?_
  refine z_getI cx hT fg_SunnyPans_393 d_X9_draw_2 ?_
  refine z_ldcw cx wd_1367 d_X9_draw_5 ?_
  refine z_imul cx d_X9_draw_8 ?_
  refine z_sipush (v := 12345) cx d_X9_draw_9 ks_12345 ?_
  refine z_iadd cx d_X9_draw_12 ?_
  refine z_putI cx hT fp_SunnyPans_393 d_X9_draw_13 ?_
  refine z_nmM hF (fun M1 hF => ?_)
  refine z_iload_n cx d_X9_draw_16 1 rfl ?_
  refine z_if_le cx 36 d_X9_draw_17 (by decide) hF (fun hF => ?_) (fun hF => ?_)
  · refine z_iconst (v := 0) cx d_X9_draw_36 ki_0 ?_
    exact z_iret cx hr rfl hF d_X9_draw_37
  refine z_aload_n cx d_X9_draw_20 0 rfl ?_
  refine z_getI cx hT fg_SunnyPans_393 d_X9_draw_21 ?_
  refine z_bipush (v := 16) cx d_X9_draw_24 kb_16 ?_
  refine z_iushr cx d_X9_draw_26 ?_
  refine z_sipush (v := 32767) cx d_X9_draw_27 ks_32767 ?_
  refine z_iand cx d_X9_draw_30 ?_
  refine z_iload_n cx d_X9_draw_31 1 rfl ?_
  obtain ⟨hz2, hF⟩ := gd_inv hF
  refine z_irem cx d_X9_draw_32 (zne hz2) ?_
  refine z_goto cx 37 d_X9_draw_33 (by decide) ?_
  exact z_iret cx hr rfl hF d_X9_draw_37
/-! SunnyPans.runSummer -/
theorem d_X9_runSummer_0 : decode cX9_runSummer 0 = .ok (.aload_n 0, 1) := by decide +kernel
theorem d_X9_runSummer_1 : decode cX9_runSummer 1 = .ok (.getfield 37, 3) := by decide +kernel
theorem d_X9_runSummer_4 : decode cX9_runSummer 4 = .ok (.aload_n 0, 1) := by decide +kernel
theorem d_X9_runSummer_5 : decode cX9_runSummer 5 = .ok (.getfield 19, 3) := by decide +kernel
theorem d_X9_runSummer_8 : decode cX9_runSummer 8 = .ok (.getfield 159, 3) := by decide +kernel
theorem d_X9_runSummer_11 : decode cX9_runSummer 11 = .ok (.invokevirtual 307, 3) := by decide +kernel
theorem d_X9_runSummer_14 : decode cX9_runSummer 14 = .ok (.aload_n 0, 1) := by decide +kernel
theorem d_X9_runSummer_15 : decode cX9_runSummer 15 = .ok (.iload_n 1, 1) := by decide +kernel
theorem d_X9_runSummer_16 : decode cX9_runSummer 16 = .ok (.putfield 393, 3) := by decide +kernel
theorem d_X9_runSummer_19 : decode cX9_runSummer 19 = .ok (.iconst 0, 1) := by decide +kernel
theorem d_X9_runSummer_20 : decode cX9_runSummer 20 = .ok (.istore 4, 2) := by decide +kernel
theorem d_X9_runSummer_22 : decode cX9_runSummer 22 = .ok (.iload 4, 2) := by decide +kernel
theorem d_X9_runSummer_24 : decode cX9_runSummer 24 = .ok (.iload_n 2, 1) := by decide +kernel
theorem d_X9_runSummer_25 : decode cX9_runSummer 25 = .ok (.if_icmp .ge 108, 3) := by decide +kernel
theorem d_X9_runSummer_28 : decode cX9_runSummer 28 = .ok (.aload_n 0, 1) := by decide +kernel
theorem d_X9_runSummer_29 : decode cX9_runSummer 29 = .ok (.aload_n 0, 1) := by decide +kernel
theorem d_X9_runSummer_30 : decode cX9_runSummer 30 = .ok (.getfield 62, 3) := by decide +kernel
theorem d_X9_runSummer_33 : decode cX9_runSummer 33 = .ok (.getfield 162, 3) := by decide +kernel
theorem d_X9_runSummer_36 : decode cX9_runSummer 36 = .ok (.invokevirtual 396, 3) := by decide +kernel
theorem d_X9_runSummer_39 : decode cX9_runSummer 39 = .ok (.istore 5, 2) := by decide +kernel
theorem d_X9_runSummer_41 : decode cX9_runSummer 41 = .ok (.aload_n 0, 1) := by decide +kernel
theorem d_X9_runSummer_42 : decode cX9_runSummer 42 = .ok (.aload_n 0, 1) := by decide +kernel
theorem d_X9_runSummer_43 : decode cX9_runSummer 43 = .ok (.getfield 62, 3) := by decide +kernel
theorem d_X9_runSummer_46 : decode cX9_runSummer 46 = .ok (.getfield 165, 3) := by decide +kernel
theorem d_X9_runSummer_49 : decode cX9_runSummer 49 = .ok (.invokevirtual 396, 3) := by decide +kernel
theorem d_X9_runSummer_52 : decode cX9_runSummer 52 = .ok (.istore 6, 2) := by decide +kernel
theorem d_X9_runSummer_54 : decode cX9_runSummer 54 = .ok (.aload_n 0, 1) := by decide +kernel
theorem d_X9_runSummer_55 : decode cX9_runSummer 55 = .ok (.bipush 16, 2) := by decide +kernel
theorem d_X9_runSummer_57 : decode cX9_runSummer 57 = .ok (.invokevirtual 396, 3) := by decide +kernel
theorem d_X9_runSummer_60 : decode cX9_runSummer 60 = .ok (.iload_n 3, 1) := by decide +kernel
theorem d_X9_runSummer_61 : decode cX9_runSummer 61 = .ok (.if_icmp .ge 29, 3) := by decide +kernel
theorem d_X9_runSummer_64 : decode cX9_runSummer 64 = .ok (.aload_n 0, 1) := by decide +kernel
theorem d_X9_runSummer_65 : decode cX9_runSummer 65 = .ok (.getfield 37, 3) := by decide +kernel
theorem d_X9_runSummer_68 : decode cX9_runSummer 68 = .ok (.iload 5, 2) := by decide +kernel
theorem d_X9_runSummer_70 : decode cX9_runSummer 70 = .ok (.iload 6, 2) := by decide +kernel
theorem d_X9_runSummer_72 : decode cX9_runSummer 72 = .ok (.invokestatic 213, 3) := by decide +kernel
theorem d_X9_runSummer_75 : decode cX9_runSummer 75 = .ok (.iconst 1, 1) := by decide +kernel
theorem d_X9_runSummer_76 : decode cX9_runSummer 76 = .ok (.aload_n 0, 1) := by decide +kernel
theorem d_X9_runSummer_77 : decode cX9_runSummer 77 = .ok (.bipush 99, 2) := by decide +kernel
theorem d_X9_runSummer_79 : decode cX9_runSummer 79 = .ok (.invokevirtual 396, 3) := by decide +kernel
theorem d_X9_runSummer_82 : decode cX9_runSummer 82 = .ok (.iadd, 1) := by decide +kernel
theorem d_X9_runSummer_83 : decode cX9_runSummer 83 = .ok (.invokevirtual 399, 3) := by decide +kernel
theorem d_X9_runSummer_86 : decode cX9_runSummer 86 = .ok (.pop, 1) := by decide +kernel
theorem d_X9_runSummer_87 : decode cX9_runSummer 87 = .ok (.goto 22, 3) := by decide +kernel
theorem d_X9_runSummer_90 : decode cX9_runSummer 90 = .ok (.aload_n 0, 1) := by decide +kernel
theorem d_X9_runSummer_91 : decode cX9_runSummer 91 = .ok (.getfield 37, 3) := by decide +kernel
theorem d_X9_runSummer_94 : decode cX9_runSummer 94 = .ok (.aload_n 0, 1) := by decide +kernel
theorem d_X9_runSummer_95 : decode cX9_runSummer 95 = .ok (.getfield 62, 3) := by decide +kernel
theorem d_X9_runSummer_98 : decode cX9_runSummer 98 = .ok (.iload 5, 2) := by decide +kernel
theorem d_X9_runSummer_100 : decode cX9_runSummer 100 = .ok (.iload 6, 2) := by decide +kernel
theorem d_X9_runSummer_102 : decode cX9_runSummer 102 = .ok (.invokestatic 213, 3) := by decide +kernel
theorem d_X9_runSummer_105 : decode cX9_runSummer 105 = .ok (.invokevirtual 402, 3) := by decide +kernel
theorem d_X9_runSummer_108 : decode cX9_runSummer 108 = .ok (.pop, 1) := by decide +kernel
theorem d_X9_runSummer_109 : decode cX9_runSummer 109 = .ok (.aload_n 0, 1) := by decide +kernel
theorem d_X9_runSummer_110 : decode cX9_runSummer 110 = .ok (.getfield 62, 3) := by decide +kernel
theorem d_X9_runSummer_113 : decode cX9_runSummer 113 = .ok (.getfield 127, 3) := by decide +kernel
theorem d_X9_runSummer_116 : decode cX9_runSummer 116 = .ok (.ifCond .le 11, 3) := by decide +kernel
theorem d_X9_runSummer_119 : decode cX9_runSummer 119 = .ok (.aload_n 0, 1) := by decide +kernel
theorem d_X9_runSummer_120 : decode cX9_runSummer 120 = .ok (.aload_n 0, 1) := by decide +kernel
theorem d_X9_runSummer_121 : decode cX9_runSummer 121 = .ok (.getfield 37, 3) := by decide +kernel
theorem d_X9_runSummer_124 : decode cX9_runSummer 124 = .ok (.invokevirtual 311, 3) := by decide +kernel
theorem d_X9_runSummer_127 : decode cX9_runSummer 127 = .ok (.iinc 4 1, 3) := by decide +kernel
theorem d_X9_runSummer_130 : decode cX9_runSummer 130 = .ok (.goto (-108), 3) := by decide +kernel
theorem d_X9_runSummer_133 : decode cX9_runSummer 133 = .ok (.return_, 1) := by decide +kernel
def F_X9_runSummer_127 (p0 : Int32) (p1 : Int32) (p2 : Int32) (self22 : Int32 → Int32 → Int32 → zMem → Option (zMem)) (b127_L2 : Int32) (b127_L3 : Int32) (b127_L4 : Int32) (M : zMem) : Option (zMem) :=
  self22 b127_L2 b127_L3 (b127_L4 + 1) M
def F_X9_runSummer_109 (p0 : Int32) (p1 : Int32) (p2 : Int32) (self22 : Int32 → Int32 → Int32 → zMem → Option (zMem)) (b109_L2 : Int32) (b109_L3 : Int32) (b109_L4 : Int32) (M : zMem) : Option (zMem) :=
  gd (shX (M.2.2 0 8) == 6) <|
  if (M.1 (M.2.2 0 8) 2) ≤ 0 then
    F_X9_runSummer_127 p0 p1 p2 self22 b109_L2 b109_L3 b109_L4 M
  else
    zbv (F_X9_passHour M 99) fun M2 =>
    F_X9_runSummer_127 p0 p1 p2 self22 b109_L2 b109_L3 b109_L4 M2
def F_X9_runSummer_22 (p0 : Int32) (p1 : Int32) (p2 : Int32) (self22 : Int32 → Int32 → Int32 → zMem → Option (zMem)) (b22_L2 : Int32) (b22_L3 : Int32) (b22_L4 : Int32) (M : zMem) : Option (zMem) :=
  if b22_L2 ≤ b22_L4 then
    some M
  else
    gd (shX (M.2.2 0 8) == 6) <|
    zb (F_X9_draw M (M.1 (M.2.2 0 8) 0)) fun v5 M4 =>
    gd (shX (M4.2.2 0 8) == 6) <|
    zb (F_X9_draw M4 (M4.1 (M4.2.2 0 8) 1)) fun v8 M7 =>
    zb (F_X9_draw M7 (16 : Int32)) fun v10 M9 =>
    if b22_L3 ≤ v10 then
      gd (shX (M9.2.2 0 8) == 6) <|
      zb (F_X9_placeOf M9 v5 v8) fun v13 M12 =>
      zb (F_X4_haul M12 99 (M9.2.2 0 8) v13) fun v15 M14 =>
      F_X9_runSummer_109 p0 p1 p2 self22 b22_L2 b22_L3 b22_L4 M14
    else
      zb (F_X9_placeOf M9 v5 v8) fun v17 M16 =>
      zb (F_X9_draw M16 (99 : Int32)) fun v19 M18 =>
      zb (F_X4_pour M18 99 v17 ((1 : Int32) + v19)) fun v21 M20 =>
      F_X9_runSummer_109 p0 p1 p2 self22 b22_L2 b22_L3 b22_L4 M20
def F_X9_runSummer (M : zMem) (p0 : Int32) (p1 : Int32) (p2 : Int32) : Option (zMem) :=
  zbv (F_X4_copyFrom M 99 4) fun M22 =>
  zl (zI M22 0 18 p0) fun M23 =>
  itF (fun _ _ _ _ => none) (F_X9_runSummer_22 p0 p1 p2) zFuel p1 p2 (0 : Int32) M23
def rm_X9_runSummer : Room := { frames := 7, cells := 0, slots := 0, locals := 180 }
set_option maxHeartbeats 4000000 in
set_option maxRecDepth 100000 in
theorem c_X9_runSummer (l : Launch) {G : zG} {ad : Nat → Nat} {n : Nat} (hA : zInj ad n) (M : zMem) (p0 : Int32) (p1 : Int32) (p2 : Int32) (hT : zT shX n 0 10) {M9 : zMem} (hF : F_X9_runSummer M p0 p1 p2 = some M9) : zM l yX9_runSummer cX9_runSummer 7 none rm_X9_runSummer G shX ad n M [.ref (ad 0), .int p0, .int p1, .int p2] none M9 := by
  refine zM_of hA (by decide +kernel) (lv := [(0, .ref (ad 0)), (1, .int p0), (2, .int p1), (3, .int p2)]) (Nat.le_of_ble_eq_true rfl) rfl (fun p e s m args below meth c A cx hr => ?_)
  have hb127 : ∀ (self22 : Int32 → Int32 → Int32 → zMem → Option (zMem)) (hs22 : ∀ (b22_L2 : Int32) (b22_L3 : Int32) (b22_L4 : Int32) (M : zMem), self22 b22_L2 b22_L3 b22_L4 M = some M9 → zJ p l e rm_X9_runSummer s m args below meth c G shX ad n A 7 (MQ below (zQ G shX ad n M9 none A) args s 0 0 A) 0 0 M 22 [(0, .ref (ad 0)), (2, .int b22_L2), (3, .int b22_L3), (4, .int b22_L4)] []), ∀ (b127_L2 : Int32) (b127_L3 : Int32) (b127_L4 : Int32) (M : zMem), F_X9_runSummer_127 p0 p1 p2 self22 b127_L2 b127_L3 b127_L4 M = some M9 → zJ p l e rm_X9_runSummer s m args below meth c G shX ad n A 7 (MQ below (zQ G shX ad n M9 none A) args s 0 0 A) 0 0 M 127 [(0, .ref (ad 0)), (2, .int b127_L2), (3, .int b127_L3), (4, .int b127_L4)] [] := by
    intro self22 hs22 b127_L2 b127_L3 b127_L4 M hF
    unfold F_X9_runSummer_127 at hF
    refine z_iinc cx 4 1 [(4, .int (b127_L4 + 1)), (0, .ref (ad 0)), (2, .int b127_L2), (3, .int b127_L3)] d_X9_runSummer_127 3 rfl ki_1 (by decide) rfl ?_
    refine z_goto cx 22 d_X9_runSummer_130 (by decide) ?_
    exact z_lv [1, 2, 3, 0] _ rfl (hs22 b127_L2 b127_L3 (b127_L4 + 1) M hF)
  have hb109 : ∀ (self22 : Int32 → Int32 → Int32 → zMem → Option (zMem)) (hs22 : ∀ (b22_L2 : Int32) (b22_L3 : Int32) (b22_L4 : Int32) (M : zMem), self22 b22_L2 b22_L3 b22_L4 M = some M9 → zJ p l e rm_X9_runSummer s m args below meth c G shX ad n A 7 (MQ below (zQ G shX ad n M9 none A) args s 0 0 A) 0 0 M 22 [(0, .ref (ad 0)), (2, .int b22_L2), (3, .int b22_L3), (4, .int b22_L4)] []), ∀ (b109_L2 : Int32) (b109_L3 : Int32) (b109_L4 : Int32) (M : zMem), F_X9_runSummer_109 p0 p1 p2 self22 b109_L2 b109_L3 b109_L4 M = some M9 → zJ p l e rm_X9_runSummer s m args below meth c G shX ad n A 7 (MQ below (zQ G shX ad n M9 none A) args s 0 0 A) 0 0 M 109 [(0, .ref (ad 0)), (2, .int b109_L2), (3, .int b109_L3), (4, .int b109_L4)] [] := by
    intro self22 hs22 b109_L2 b109_L3 b109_L4 M hF
    unfold F_X9_runSummer_109 at hF
    refine z_aload_n cx d_X9_runSummer_109 0 rfl ?_
    obtain ⟨hg1, hF⟩ := gd_inv hF
    refine z_getD cx hT fg_SunnyPans_62 d_X9_runSummer_110 ?_
    refine z_getI cx (td_6 hT hg1) fg_SunnyPans_127 d_X9_runSummer_113 ?_
    refine z_if_le cx 127 d_X9_runSummer_116 (by decide) hF (fun hF => ?_) (fun hF => ?_)
    · exact hb127 self22 hs22 b109_L2 b109_L3 b109_L4 M hF
    refine z_aload_n cx d_X9_runSummer_119 0 rfl ?_
    refine z_aload_n cx d_X9_runSummer_120 0 rfl ?_
    refine z_getR cx hT fg_SunnyPans_37 99 rfl d_X9_runSummer_121 ?_
    obtain ⟨M2, hc, hF⟩ := zbv_inv hF
    refine z_callV cx (As := [.ref (ad 99)]) (rest := []) (c_X9_passHour l cx.2.2.2.1.1 M 99 hT (tfX_10_99 hT) hc) hT zo_10 cv_SunnyPans_311 ⟨rfl, rfl, Nat.le_of_ble_eq_true rfl, Nat.le_of_ble_eq_true rfl⟩ rfl rfl ⟨Nat.zero_le _, Nat.zero_le _⟩ (Nat.le_of_ble_eq_true rfl) d_X9_runSummer_124 ?_
    exact hb127 self22 hs22 b109_L2 b109_L3 b109_L4 M2 hF
  have hL22 : ∀ (fuel : Nat), ∀ (b22_L2 : Int32) (b22_L3 : Int32) (b22_L4 : Int32) (M : zMem), itF (fun _ _ _ _ => none) (F_X9_runSummer_22 p0 p1 p2) fuel b22_L2 b22_L3 b22_L4 M = some M9 → zJ p l e rm_X9_runSummer s m args below meth c G shX ad n A 7 (MQ below (zQ G shX ad n M9 none A) args s 0 0 A) 0 0 M 22 [(0, .ref (ad 0)), (2, .int b22_L2), (3, .int b22_L3), (4, .int b22_L4)] [] := by
    intro fuel
    induction fuel with
    | zero => intro b22_L2 b22_L3 b22_L4 M hF; cases hF
    | succ fuel hs22 =>
      intro b22_L2 b22_L3 b22_L4 M hF
      have hF : F_X9_runSummer_22 p0 p1 p2 (itF (fun _ _ _ _ => none) (F_X9_runSummer_22 p0 p1 p2) fuel) b22_L2 b22_L3 b22_L4 M = some M9 := hF
      generalize itF (fun _ _ _ _ => none) (F_X9_runSummer_22 p0 p1 p2) fuel = self22 at hs22 hF
      unfold F_X9_runSummer_22 at hF
      refine z_iload cx d_X9_runSummer_22 3 rfl ?_
      refine z_iload_n cx d_X9_runSummer_24 1 rfl ?_
      refine z_icmp_ge cx 133 d_X9_runSummer_25 (by decide) hF (fun hF => ?_) (fun hF => ?_)
      · exact z_vret cx hr hF d_X9_runSummer_133
      refine z_aload_n cx d_X9_runSummer_28 0 rfl ?_
      refine z_aload_n cx d_X9_runSummer_29 0 rfl ?_
      obtain ⟨hg3, hF⟩ := gd_inv hF
      refine z_getD cx hT fg_SunnyPans_62 d_X9_runSummer_30 ?_
      refine z_getI cx (td_6 hT hg3) fg_SunnyPans_162 d_X9_runSummer_33 ?_
      obtain ⟨v5, M4, hc, hF⟩ := zb_inv hF
      refine z_callV cx (As := [.int (M.1 (M.2.2 0 8) 0)]) (rest := []) (c_X9_draw l cx.2.2.2.1.1 M (M.1 (M.2.2 0 8) 0) hT hc) hT zo_10 cv_SunnyPans_396 ⟨rfl, rfl, Nat.le_of_ble_eq_true rfl, Nat.le_of_ble_eq_true rfl⟩ rfl rfl ⟨Nat.zero_le _, Nat.zero_le _⟩ (Nat.le_of_ble_eq_true rfl) d_X9_runSummer_36 ?_
      refine z_istore cx 5 [(5, .int v5), (0, .ref (ad 0)), (2, .int b22_L2), (3, .int b22_L3), (4, .int b22_L4)] d_X9_runSummer_39 (by decide) rfl ?_
      refine z_aload_n cx d_X9_runSummer_41 1 rfl ?_
      refine z_aload_n cx d_X9_runSummer_42 1 rfl ?_
      obtain ⟨hg6, hF⟩ := gd_inv hF
      refine z_getD cx hT fg_SunnyPans_62 d_X9_runSummer_43 ?_
      refine z_getI cx (td_6 hT hg6) fg_SunnyPans_165 d_X9_runSummer_46 ?_
      obtain ⟨v8, M7, hc, hF⟩ := zb_inv hF
      refine z_callV cx (As := [.int (M4.1 (M4.2.2 0 8) 1)]) (rest := []) (c_X9_draw l cx.2.2.2.1.1 M4 (M4.1 (M4.2.2 0 8) 1) hT hc) hT zo_10 cv_SunnyPans_396 ⟨rfl, rfl, Nat.le_of_ble_eq_true rfl, Nat.le_of_ble_eq_true rfl⟩ rfl rfl ⟨Nat.zero_le _, Nat.zero_le _⟩ (Nat.le_of_ble_eq_true rfl) d_X9_runSummer_49 ?_
      refine z_istore cx 6 [(6, .int v8), (5, .int v5), (0, .ref (ad 0)), (2, .int b22_L2), (3, .int b22_L3), (4, .int b22_L4)] d_X9_runSummer_52 (by decide) rfl ?_
      refine z_aload_n cx d_X9_runSummer_54 2 rfl ?_
      refine z_bipush (v := 16) cx d_X9_runSummer_55 kb_16 ?_
      obtain ⟨v10, M9, hc, hF⟩ := zb_inv hF
      refine z_callV cx (As := [.int (16 : Int32)]) (rest := []) (c_X9_draw l cx.2.2.2.1.1 M7 (16 : Int32) hT hc) hT zo_10 cv_SunnyPans_396 ⟨rfl, rfl, Nat.le_of_ble_eq_true rfl, Nat.le_of_ble_eq_true rfl⟩ rfl rfl ⟨Nat.zero_le _, Nat.zero_le _⟩ (Nat.le_of_ble_eq_true rfl) d_X9_runSummer_57 ?_
      refine z_iload_n cx d_X9_runSummer_60 4 rfl ?_
      refine z_icmp_ge cx 90 d_X9_runSummer_61 (by decide) hF (fun hF => ?_) (fun hF => ?_)
      · refine z_aload_n cx d_X9_runSummer_90 2 rfl ?_
        refine z_getR cx hT fg_SunnyPans_37 99 rfl d_X9_runSummer_91 ?_
        refine z_aload_n cx d_X9_runSummer_94 2 rfl ?_
        obtain ⟨hg11, hF⟩ := gd_inv hF
        refine z_getD cx hT fg_SunnyPans_62 d_X9_runSummer_95 ?_
        refine z_iload cx d_X9_runSummer_98 1 rfl ?_
        refine z_iload cx d_X9_runSummer_100 0 rfl ?_
        obtain ⟨v13, M12, hc, hF⟩ := zb_inv hF
        refine z_callS cx (As := [.int v5, .int v8]) (rest := [.ref (ad (M9.2.2 0 8)), .ref (ad 99)]) (c_X9_placeOf l cx.2.2.2.1.1 M9 v5 v8  hc) cs_SunnyPans_213 ⟨rfl, rfl, Nat.le_of_ble_eq_true rfl, Nat.le_of_ble_eq_true rfl⟩ rfl rfl ⟨Nat.zero_le _, Nat.zero_le _⟩ (Nat.le_of_ble_eq_true rfl) d_X9_runSummer_102 ?_
        obtain ⟨v15, M14, hc, hF⟩ := zb_inv hF
        refine z_callV cx (As := [.ref (ad (M9.2.2 0 8)), .int v13]) (rest := []) (c_X4_haul l cx.2.2.2.1.1 M12 99 (M9.2.2 0 8) v13 (tfX_10_99 hT) (td_6 hT hg11) hc) (tfX_10_99 hT) zo_5 cv_SunnyPans_402 ⟨rfl, rfl, Nat.le_of_ble_eq_true rfl, Nat.le_of_ble_eq_true rfl⟩ rfl rfl ⟨Nat.zero_le _, Nat.zero_le _⟩ (Nat.le_of_ble_eq_true rfl) d_X9_runSummer_105 ?_
        refine z_pop cx d_X9_runSummer_108 rfl ?_
        exact z_lv [2, 3, 4, 5] _ rfl (hb109 self22 hs22 b22_L2 b22_L3 b22_L4 M14 hF)
      refine z_aload_n cx d_X9_runSummer_64 2 rfl ?_
      refine z_getR cx hT fg_SunnyPans_37 99 rfl d_X9_runSummer_65 ?_
      refine z_iload cx d_X9_runSummer_68 1 rfl ?_
      refine z_iload cx d_X9_runSummer_70 0 rfl ?_
      obtain ⟨v17, M16, hc, hF⟩ := zb_inv hF
      refine z_callS cx (As := [.int v5, .int v8]) (rest := [.ref (ad 99)]) (c_X9_placeOf l cx.2.2.2.1.1 M9 v5 v8  hc) cs_SunnyPans_213 ⟨rfl, rfl, Nat.le_of_ble_eq_true rfl, Nat.le_of_ble_eq_true rfl⟩ rfl rfl ⟨Nat.zero_le _, Nat.zero_le _⟩ (Nat.le_of_ble_eq_true rfl) d_X9_runSummer_72 ?_
      refine z_iconst (v := 1) cx d_X9_runSummer_75 ki_1 ?_
      refine z_aload_n cx d_X9_runSummer_76 2 rfl ?_
      refine z_bipush (v := 99) cx d_X9_runSummer_77 kb_99 ?_
      obtain ⟨v19, M18, hc, hF⟩ := zb_inv hF
      refine z_callV cx (As := [.int (99 : Int32)]) (rest := [.int (1 : Int32), .int v17, .ref (ad 99)]) (c_X9_draw l cx.2.2.2.1.1 M16 (99 : Int32) hT hc) hT zo_10 cv_SunnyPans_396 ⟨rfl, rfl, Nat.le_of_ble_eq_true rfl, Nat.le_of_ble_eq_true rfl⟩ rfl rfl ⟨Nat.zero_le _, Nat.zero_le _⟩ (Nat.le_of_ble_eq_true rfl) d_X9_runSummer_79 ?_
      refine z_iadd cx d_X9_runSummer_82 ?_
      obtain ⟨v21, M20, hc, hF⟩ := zb_inv hF
      refine z_callV cx (As := [.int v17, .int ((1 : Int32) + v19)]) (rest := []) (c_X4_pour l cx.2.2.2.1.1 M18 99 v17 ((1 : Int32) + v19) (tfX_10_99 hT) hc) (tfX_10_99 hT) zo_5 cv_SunnyPans_399 ⟨rfl, rfl, Nat.le_of_ble_eq_true rfl, Nat.le_of_ble_eq_true rfl⟩ rfl rfl ⟨Nat.zero_le _, Nat.zero_le _⟩ (Nat.le_of_ble_eq_true rfl) d_X9_runSummer_83 ?_
      refine z_pop cx d_X9_runSummer_86 rfl ?_
      refine z_goto cx 109 d_X9_runSummer_87 (by decide) ?_
      exact z_lv [2, 3, 4, 5] _ rfl (hb109 self22 hs22 b22_L2 b22_L3 b22_L4 M20 hF)
  unfold F_X9_runSummer at hF
  refine z_aload_n cx d_X9_runSummer_0 0 rfl ?_
  refine z_getR cx hT fg_SunnyPans_37 99 rfl d_X9_runSummer_1 ?_
  refine z_aload_n cx d_X9_runSummer_4 0 rfl ?_
  refine z_getR cx hT fg_SunnyPans_19 3 rfl d_X9_runSummer_5 ?_
  refine z_getR cx (tfX_10_3 hT) fg_SunnyPans_159 4 rfl d_X9_runSummer_8 ?_
  obtain ⟨M22, hc, hF⟩ := zbv_inv hF
  refine z_callV cx (As := [.ref (ad 4)]) (rest := []) (c_X4_copyFrom l cx.2.2.2.1.1 M 99 4 (tfX_10_99 hT) (tfX_8_1 (tfX_10_3 hT)) hc) (tfX_10_99 hT) zo_5 cv_SunnyPans_307 ⟨rfl, rfl, Nat.le_of_ble_eq_true rfl, Nat.le_of_ble_eq_true rfl⟩ rfl rfl ⟨Nat.zero_le _, Nat.zero_le _⟩ (Nat.le_of_ble_eq_true rfl) d_X9_runSummer_11 ?_
  refine z_aload_n cx d_X9_runSummer_14 0 rfl ?_
  refine z_iload_n cx d_X9_runSummer_15 1 rfl ?_
  refine z_putI cx hT fp_SunnyPans_393 d_X9_runSummer_16 ?_
  refine z_nmM hF (fun M23 hF => ?_)
  refine z_iconst (v := 0) cx d_X9_runSummer_19 ki_0 ?_
  refine z_istore cx 4 [(4, .int (0 : Int32)), (0, .ref (ad 0)), (1, .int p0), (2, .int p1), (3, .int p2)] d_X9_runSummer_20 (by decide) rfl ?_
  exact z_lv [1, 3, 4, 0] _ rfl (hL22 zFuel p1 p2 (0 : Int32) M23 hF)
/-! SunnyPans.status -/
theorem d_X9_status_0 : decode cX9_status 0 = .ok (.iload_n 1, 1) := by decide +kernel
theorem d_X9_status_1 : decode cX9_status 1 = .ok (.ifCond .ne 8, 3) := by decide +kernel
theorem d_X9_status_4 : decode cX9_status 4 = .ok (.aload_n 0, 1) := by decide +kernel
theorem d_X9_status_5 : decode cX9_status 5 = .ok (.getfield 410, 3) := by decide +kernel
theorem d_X9_status_8 : decode cX9_status 8 = .ok (.ireturn, 1) := by decide +kernel
theorem d_X9_status_9 : decode cX9_status 9 = .ok (.iload_n 1, 1) := by decide +kernel
theorem d_X9_status_10 : decode cX9_status 10 = .ok (.iconst 1, 1) := by decide +kernel
theorem d_X9_status_11 : decode cX9_status 11 = .ok (.if_icmp .ne 10, 3) := by decide +kernel
theorem d_X9_status_14 : decode cX9_status 14 = .ok (.aload_n 0, 1) := by decide +kernel
theorem d_X9_status_15 : decode cX9_status 15 = .ok (.getfield 413, 3) := by decide +kernel
theorem d_X9_status_18 : decode cX9_status 18 = .ok (.goto 4, 3) := by decide +kernel
theorem d_X9_status_21 : decode cX9_status 21 = .ok (.iconst (-1), 1) := by decide +kernel
theorem d_X9_status_22 : decode cX9_status 22 = .ok (.ireturn, 1) := by decide +kernel
def F_X9_status (M : zMem) (p0 : Int32) : Option (Int32 × zMem) :=
  if p0 = 0 then
    some ((M.1 0 16), M)
  else
    if p0 = (1 : Int32) then
      some ((M.1 0 17), M)
    else
      some ((-1 : Int32), M)
def rm_X9_status : Room := { frames := 2, cells := 0, slots := 0, locals := 80 }
set_option maxHeartbeats 4000000 in
set_option maxRecDepth 100000 in
theorem c_X9_status (l : Launch) {G : zG} {ad : Nat → Nat} {n : Nat} (hA : zInj ad n) (M : zMem) (p0 : Int32) (hT : zT shX n 0 10) {r9 : Int32} {M9 : zMem} (hF : F_X9_status M p0 = some (r9, M9)) : zM l yX9_status cX9_status 2 (some .int) rm_X9_status G shX ad n M [.ref (ad 0), .int p0] (some (.int r9)) M9 := by
  refine zM_of hA (by decide +kernel) (lv := [(0, .ref (ad 0)), (1, .int p0)]) (Nat.le_of_ble_eq_true rfl) rfl (fun p e s m args below meth c A cx hr => ?_)
  unfold F_X9_status at hF
  refine z_iload_n cx d_X9_status_0 1 rfl ?_
  refine z_if_ne cx 9 d_X9_status_1 (by decide) hF (fun hF => ?_) (fun hF => ?_)
  · refine z_iload_n cx d_X9_status_9 1 rfl ?_
    refine z_iconst (v := 1) cx d_X9_status_10 ki_1 ?_
    refine z_icmp_ne cx 21 d_X9_status_11 (by decide) hF (fun hF => ?_) (fun hF => ?_)
    · refine z_iconst (v := -1) cx d_X9_status_21 ki_m1 ?_
      exact z_iret cx hr rfl hF d_X9_status_22
    refine z_aload_n cx d_X9_status_14 0 rfl ?_
    refine z_getI cx hT fg_SunnyPans_413 d_X9_status_15 ?_
    refine z_goto cx 22 d_X9_status_18 (by decide) ?_
    exact z_iret cx hr rfl hF d_X9_status_22
  refine z_aload_n cx d_X9_status_4 0 rfl ?_
  refine z_getI cx hT fg_SunnyPans_410 d_X9_status_5 ?_
  exact z_iret cx hr rfl hF d_X9_status_8
/-! SunnyPans.count -/
theorem d_X9_count_0 : decode cX9_count 0 = .ok (.iload_n 1, 1) := by decide +kernel
theorem d_X9_count_1 : decode cX9_count 1 = .ok (.tableswitch 48 0 2 #[27, 32, 40], 27) := by decide +kernel
theorem d_X9_count_28 : decode cX9_count 28 = .ok (.aload_n 0, 1) := by decide +kernel
theorem d_X9_count_29 : decode cX9_count 29 = .ok (.getfield 121, 3) := by decide +kernel
theorem d_X9_count_32 : decode cX9_count 32 = .ok (.ireturn, 1) := by decide +kernel
theorem d_X9_count_33 : decode cX9_count 33 = .ok (.aload_n 0, 1) := by decide +kernel
theorem d_X9_count_34 : decode cX9_count 34 = .ok (.getfield 10, 3) := by decide +kernel
theorem d_X9_count_37 : decode cX9_count 37 = .ok (.getfield 89, 3) := by decide +kernel
theorem d_X9_count_40 : decode cX9_count 40 = .ok (.ireturn, 1) := by decide +kernel
theorem d_X9_count_41 : decode cX9_count 41 = .ok (.aload_n 0, 1) := by decide +kernel
theorem d_X9_count_42 : decode cX9_count 42 = .ok (.getfield 19, 3) := by decide +kernel
theorem d_X9_count_45 : decode cX9_count 45 = .ok (.getfield 131, 3) := by decide +kernel
theorem d_X9_count_48 : decode cX9_count 48 = .ok (.ireturn, 1) := by decide +kernel
theorem d_X9_count_49 : decode cX9_count 49 = .ok (.iconst (-1), 1) := by decide +kernel
theorem d_X9_count_50 : decode cX9_count 50 = .ok (.ireturn, 1) := by decide +kernel
def F_X9_count_41 (p0 : Int32) (M : zMem) : Option (Int32 × zMem) :=
  some ((M.1 3 1), M)
def F_X9_count_33 (p0 : Int32) (M : zMem) : Option (Int32 × zMem) :=
  some ((M.1 1 1), M)
def F_X9_count_28 (p0 : Int32) (M : zMem) : Option (Int32 × zMem) :=
  some ((M.1 0 14), M)
def F_X9_count (M : zMem) (p0 : Int32) : Option (Int32 × zMem) :=
  if p0 = 0 then
    F_X9_count_28 p0 M
  else
  if p0 = 1 then
    F_X9_count_33 p0 M
  else
  if p0 = 2 then
    F_X9_count_41 p0 M
  else
  some ((-1 : Int32), M)
def rm_X9_count : Room := { frames := 2, cells := 0, slots := 0, locals := 80 }
set_option maxHeartbeats 4000000 in
set_option maxRecDepth 100000 in
theorem c_X9_count (l : Launch) {G : zG} {ad : Nat → Nat} {n : Nat} (hA : zInj ad n) (M : zMem) (p0 : Int32) (hT : zT shX n 0 10) {r9 : Int32} {M9 : zMem} (hF : F_X9_count M p0 = some (r9, M9)) : zM l yX9_count cX9_count 2 (some .int) rm_X9_count G shX ad n M [.ref (ad 0), .int p0] (some (.int r9)) M9 := by
  refine zM_of hA (by decide +kernel) (lv := [(0, .ref (ad 0)), (1, .int p0)]) (Nat.le_of_ble_eq_true rfl) rfl (fun p e s m args below meth c A cx hr => ?_)
  have hb41 : ∀ (M : zMem), F_X9_count_41 p0 M = some (r9, M9) → zJ p l e rm_X9_count s m args below meth c G shX ad n A 2 (MQ below (zQ G shX ad n M9 (some (.int r9)) A) args s 0 0 A) 0 0 M 41 [(0, .ref (ad 0))] [] := by
    intro M hF
    unfold F_X9_count_41 at hF
    refine z_aload_n cx d_X9_count_41 0 rfl ?_
    refine z_getR cx hT fg_SunnyPans_19 3 rfl d_X9_count_42 ?_
    refine z_getI cx (tfX_10_3 hT) fg_SunnyPans_131 d_X9_count_45 ?_
    exact z_iret cx hr rfl hF d_X9_count_48
  have hb33 : ∀ (M : zMem), F_X9_count_33 p0 M = some (r9, M9) → zJ p l e rm_X9_count s m args below meth c G shX ad n A 2 (MQ below (zQ G shX ad n M9 (some (.int r9)) A) args s 0 0 A) 0 0 M 33 [(0, .ref (ad 0))] [] := by
    intro M hF
    unfold F_X9_count_33 at hF
    refine z_aload_n cx d_X9_count_33 0 rfl ?_
    refine z_getR cx hT fg_SunnyPans_10 1 rfl d_X9_count_34 ?_
    refine z_getI cx (tfX_10_1 hT) fg_SunnyPans_89 d_X9_count_37 ?_
    exact z_iret cx hr rfl hF d_X9_count_40
  have hb28 : ∀ (M : zMem), F_X9_count_28 p0 M = some (r9, M9) → zJ p l e rm_X9_count s m args below meth c G shX ad n A 2 (MQ below (zQ G shX ad n M9 (some (.int r9)) A) args s 0 0 A) 0 0 M 28 [(0, .ref (ad 0))] [] := by
    intro M hF
    unfold F_X9_count_28 at hF
    refine z_aload_n cx d_X9_count_28 0 rfl ?_
    refine z_getI cx hT fg_SunnyPans_121 d_X9_count_29 ?_
    exact z_iret cx hr rfl hF d_X9_count_32
  unfold F_X9_count at hF
  refine z_iload_n cx d_X9_count_0 1 rfl ?_
  by_cases q0 : p0 = 0
  · rw [if_pos q0] at hF
    refine z_tabIn cx 28 d_X9_count_1 (by rw [q0]; decide +kernel) (by rw [q0]; decide +kernel) (by rw [q0]; rfl) (by decide) ?_
    exact z_lv [0] _ rfl (hb28 M hF)
  rw [if_neg q0] at hF
  by_cases q1 : p0 = 1
  · rw [if_pos q1] at hF
    refine z_tabIn cx 33 d_X9_count_1 (by rw [q1]; decide +kernel) (by rw [q1]; decide +kernel) (by rw [q1]; rfl) (by decide) ?_
    exact z_lv [0] _ rfl (hb33 M hF)
  rw [if_neg q1] at hF
  by_cases q2 : p0 = 2
  · rw [if_pos q2] at hF
    refine z_tabIn cx 41 d_X9_count_1 (by rw [q2]; decide +kernel) (by rw [q2]; decide +kernel) (by rw [q2]; rfl) (by decide) ?_
    exact z_lv [0] _ rfl (hb41 M hF)
  rw [if_neg q2] at hF
  refine z_tabOut cx 49 d_X9_count_1 (by have w0 := lv_neT q0 (a := 0) (by decide +kernel); have w1 := lv_neT q1 (a := 1) (by decide +kernel); have w2 := lv_neT q2 (a := 2) (by decide +kernel); omega) (by decide) ?_
  refine z_iconst (v := -1) cx d_X9_count_49 ki_m1 ?_
  exact z_iret cx hr rfl hF d_X9_count_50
/-! SunnyPansModel.tellsNothing -/
theorem d_X10_tellsNothing_0 : decode cX10_tellsNothing 0 = .ok (.aload_n 0, 1) := by decide +kernel
theorem d_X10_tellsNothing_1 : decode cX10_tellsNothing 1 = .ok (.getfield 20, 3) := by decide +kernel
theorem d_X10_tellsNothing_4 : decode cX10_tellsNothing 4 = .ok (.iconst 0, 1) := by decide +kernel
theorem d_X10_tellsNothing_5 : decode cX10_tellsNothing 5 = .ok (.iconst 4, 1) := by decide +kernel
theorem d_X10_tellsNothing_6 : decode cX10_tellsNothing 6 = .ok (.iastore, 1) := by decide +kernel
theorem d_X10_tellsNothing_7 : decode cX10_tellsNothing 7 = .ok (.aload_n 0, 1) := by decide +kernel
theorem d_X10_tellsNothing_8 : decode cX10_tellsNothing 8 = .ok (.getfield 20, 3) := by decide +kernel
theorem d_X10_tellsNothing_11 : decode cX10_tellsNothing 11 = .ok (.iconst 1, 1) := by decide +kernel
theorem d_X10_tellsNothing_12 : decode cX10_tellsNothing 12 = .ok (.iconst 4, 1) := by decide +kernel
theorem d_X10_tellsNothing_13 : decode cX10_tellsNothing 13 = .ok (.iastore, 1) := by decide +kernel
theorem d_X10_tellsNothing_14 : decode cX10_tellsNothing 14 = .ok (.aload_n 0, 1) := by decide +kernel
theorem d_X10_tellsNothing_15 : decode cX10_tellsNothing 15 = .ok (.getfield 20, 3) := by decide +kernel
theorem d_X10_tellsNothing_18 : decode cX10_tellsNothing 18 = .ok (.iconst 2, 1) := by decide +kernel
theorem d_X10_tellsNothing_19 : decode cX10_tellsNothing 19 = .ok (.iconst 0, 1) := by decide +kernel
theorem d_X10_tellsNothing_20 : decode cX10_tellsNothing 20 = .ok (.iastore, 1) := by decide +kernel
theorem d_X10_tellsNothing_21 : decode cX10_tellsNothing 21 = .ok (.iconst 0, 1) := by decide +kernel
theorem d_X10_tellsNothing_22 : decode cX10_tellsNothing 22 = .ok (.istore_n 1, 1) := by decide +kernel
theorem d_X10_tellsNothing_23 : decode cX10_tellsNothing 23 = .ok (.iload_n 1, 1) := by decide +kernel
theorem d_X10_tellsNothing_24 : decode cX10_tellsNothing 24 = .ok (.sipush 192, 3) := by decide +kernel
theorem d_X10_tellsNothing_27 : decode cX10_tellsNothing 27 = .ok (.if_icmp .ge 16, 3) := by decide +kernel
theorem d_X10_tellsNothing_30 : decode cX10_tellsNothing 30 = .ok (.aload_n 0, 1) := by decide +kernel
theorem d_X10_tellsNothing_31 : decode cX10_tellsNothing 31 = .ok (.getfield 26, 3) := by decide +kernel
theorem d_X10_tellsNothing_34 : decode cX10_tellsNothing 34 = .ok (.iload_n 1, 1) := by decide +kernel
theorem d_X10_tellsNothing_35 : decode cX10_tellsNothing 35 = .ok (.iconst 0, 1) := by decide +kernel
theorem d_X10_tellsNothing_36 : decode cX10_tellsNothing 36 = .ok (.iastore, 1) := by decide +kernel
theorem d_X10_tellsNothing_37 : decode cX10_tellsNothing 37 = .ok (.iinc 1 1, 3) := by decide +kernel
theorem d_X10_tellsNothing_40 : decode cX10_tellsNothing 40 = .ok (.goto (-17), 3) := by decide +kernel
theorem d_X10_tellsNothing_43 : decode cX10_tellsNothing 43 = .ok (.return_, 1) := by decide +kernel
def F_X10_tellsNothing_23 (self23 : Int32 → zMem → Option (zMem)) (b23_L1 : Int32) (M : zMem) : Option (zMem) :=
  if (192 : Int32) ≤ b23_L1 then
    some M
  else
    gin b23_L1 192 <|
    zl (zI M 5 b23_L1.toNatClampNeg (0 : Int32)) fun M2 =>
    self23 (b23_L1 + 1) M2
def F_X10_tellsNothing (M : zMem)  : Option (zMem) :=
  zl (zI M 3 0 (4 : Int32)) fun M3 =>
  zl (zI M3 3 1 (4 : Int32)) fun M4 =>
  zl (zI M4 3 2 (0 : Int32)) fun M5 =>
  itF (fun _ _ => none) (F_X10_tellsNothing_23) zFuel (0 : Int32) M5
def rm_X10_tellsNothing : Room := { frames := 2, cells := 0, slots := 0, locals := 80 }
set_option maxHeartbeats 4000000 in
set_option maxRecDepth 100000 in
theorem c_X10_tellsNothing (l : Launch) {G : zG} {ad : Nat → Nat} {n : Nat} (hA : zInj ad n) (M : zMem)  (hT : zT shM n 0 11) {M9 : zMem} (hF : F_X10_tellsNothing M  = some M9) : zM l yX10_tellsNothing cX10_tellsNothing 2 none rm_X10_tellsNothing G shM ad n M [.ref (ad 0)] none M9 := by
  refine zM_of hA (by decide +kernel) (lv := [(0, .ref (ad 0))]) (Nat.le_of_ble_eq_true rfl) rfl (fun p e s m args below meth c A cx hr => ?_)
  have hL23 : ∀ (fuel : Nat), ∀ (b23_L1 : Int32) (M : zMem), itF (fun _ _ => none) (F_X10_tellsNothing_23) fuel b23_L1 M = some M9 → zJ p l e rm_X10_tellsNothing s m args below meth c G shM ad n A 2 (MQ below (zQ G shM ad n M9 none A) args s 0 0 A) 0 0 M 23 [(0, .ref (ad 0)), (1, .int b23_L1)] [] := by
    intro fuel
    induction fuel with
    | zero => intro b23_L1 M hF; cases hF
    | succ fuel hs23 =>
      intro b23_L1 M hF
      have hF : F_X10_tellsNothing_23 (itF (fun _ _ => none) (F_X10_tellsNothing_23) fuel) b23_L1 M = some M9 := hF
      generalize itF (fun _ _ => none) (F_X10_tellsNothing_23) fuel = self23 at hs23 hF
      unfold F_X10_tellsNothing_23 at hF
      refine z_iload_n cx d_X10_tellsNothing_23 1 rfl ?_
      refine z_sipush (v := 192) cx d_X10_tellsNothing_24 ks_192 ?_
      refine z_icmp_ge cx 43 d_X10_tellsNothing_27 (by decide) hF (fun hF => ?_) (fun hF => ?_)
      · exact z_vret cx hr hF d_X10_tellsNothing_43
      refine z_aload_n cx d_X10_tellsNothing_30 0 rfl ?_
      refine z_getR cx hT fg_SunnyPansModel_26 5 rfl d_X10_tellsNothing_31 ?_
      refine z_iload_n cx d_X10_tellsNothing_34 1 rfl ?_
      refine z_iconst (v := 0) cx d_X10_tellsNothing_35 ki_0 ?_
      obtain ⟨hi1, hF⟩ := gin_inv hF
      refine z_iast cx (tfM_11_5 hT) za_29 hi1 b23_L1.toNatClampNeg rfl d_X10_tellsNothing_36 ?_
      refine z_nmM hF (fun M2 hF => ?_)
      refine z_iinc cx 1 1 [(1, .int (b23_L1 + 1)), (0, .ref (ad 0))] d_X10_tellsNothing_37 1 rfl ki_1 (by decide) rfl ?_
      refine z_goto cx 23 d_X10_tellsNothing_40 (by decide) ?_
      exact z_lv [1, 0] _ rfl (hs23 (b23_L1 + 1) M2 hF)
  unfold F_X10_tellsNothing at hF
  refine z_aload_n cx d_X10_tellsNothing_0 0 rfl ?_
  refine z_getR cx hT fg_SunnyPansModel_20 3 rfl d_X10_tellsNothing_1 ?_
  refine z_iconst (v := 0) cx d_X10_tellsNothing_4 ki_0 ?_
  refine z_iconst (v := 4) cx d_X10_tellsNothing_5 ki_4 ?_
  refine z_iast cx (tfM_11_3 hT) za_28 (zvp (by decide +kernel)) 0 rfl d_X10_tellsNothing_6 ?_
  refine z_nmM hF (fun M3 hF => ?_)
  refine z_aload_n cx d_X10_tellsNothing_7 0 rfl ?_
  refine z_getR cx hT fg_SunnyPansModel_20 3 rfl d_X10_tellsNothing_8 ?_
  refine z_iconst (v := 1) cx d_X10_tellsNothing_11 ki_1 ?_
  refine z_iconst (v := 4) cx d_X10_tellsNothing_12 ki_4 ?_
  refine z_iast cx (tfM_11_3 hT) za_28 (zvp (by decide +kernel)) 1 rfl d_X10_tellsNothing_13 ?_
  refine z_nmM hF (fun M4 hF => ?_)
  refine z_aload_n cx d_X10_tellsNothing_14 0 rfl ?_
  refine z_getR cx hT fg_SunnyPansModel_20 3 rfl d_X10_tellsNothing_15 ?_
  refine z_iconst (v := 2) cx d_X10_tellsNothing_18 ki_2 ?_
  refine z_iconst (v := 0) cx d_X10_tellsNothing_19 ki_0 ?_
  refine z_iast cx (tfM_11_3 hT) za_28 (zvp (by decide +kernel)) 2 rfl d_X10_tellsNothing_20 ?_
  refine z_nmM hF (fun M5 hF => ?_)
  refine z_iconst (v := 0) cx d_X10_tellsNothing_21 ki_0 ?_
  refine z_istore_n cx 1 [(1, .int (0 : Int32)), (0, .ref (ad 0))] d_X10_tellsNothing_22 rfl (by decide) rfl ?_
  exact z_lv [1, 0] _ rfl (hL23 zFuel (0 : Int32) M5 hF)
/-! SunnyPansModel.thrown -/
theorem d_X10_thrown_0 : decode cX10_thrown 0 = .ok (.aload_n 0, 1) := by decide +kernel
theorem d_X10_thrown_1 : decode cX10_thrown 1 = .ok (.getfield 82, 3) := by decide +kernel
theorem d_X10_thrown_4 : decode cX10_thrown 4 = .ok (.ireturn, 1) := by decide +kernel
def F_X10_thrown (M : zMem)  : Option (Int32 × zMem) :=
  some ((M.1 0 0), M)
def rm_X10_thrown : Room := { frames := 2, cells := 0, slots := 0, locals := 80 }
set_option maxHeartbeats 4000000 in
set_option maxRecDepth 100000 in
theorem c_X10_thrown (l : Launch) {G : zG} {ad : Nat → Nat} {n : Nat} (hA : zInj ad n) (M : zMem)  (hT : zT shM n 0 11) {r9 : Int32} {M9 : zMem} (hF : F_X10_thrown M  = some (r9, M9)) : zM l yX10_thrown cX10_thrown 1 (some .int) rm_X10_thrown G shM ad n M [.ref (ad 0)] (some (.int r9)) M9 := by
  refine zM_of hA (by decide +kernel) (lv := [(0, .ref (ad 0))]) (Nat.le_of_ble_eq_true rfl) rfl (fun p e s m args below meth c A cx hr => ?_)
  unfold F_X10_thrown at hF
  refine z_aload_n cx d_X10_thrown_0 0 rfl ?_
  refine z_getI cx hT fg_SunnyPansModel_82 d_X10_thrown_1 ?_
  exact z_iret cx hr rfl hF d_X10_thrown_4
/-! SunnyPansModel.bad -/
theorem d_X10_bad_0 : decode cX10_bad 0 = .ok (.iload_n 1, 1) := by decide +kernel
theorem d_X10_bad_1 : decode cX10_bad 1 = .ok (.ifCond .eq 25, 3) := by decide +kernel
theorem d_X10_bad_4 : decode cX10_bad 4 = .ok (.aload_n 0, 1) := by decide +kernel
theorem d_X10_bad_5 : decode cX10_bad 5 = .ok (.getfield 82, 3) := by decide +kernel
theorem d_X10_bad_8 : decode cX10_bad 8 = .ok (.ifCond .ne 18, 3) := by decide +kernel
theorem d_X10_bad_11 : decode cX10_bad 11 = .ok (.aload_n 0, 1) := by decide +kernel
theorem d_X10_bad_12 : decode cX10_bad 12 = .ok (.iload_n 2, 1) := by decide +kernel
theorem d_X10_bad_13 : decode cX10_bad 13 = .ok (.putfield 82, 3) := by decide +kernel
theorem d_X10_bad_16 : decode cX10_bad 16 = .ok (.aload_n 0, 1) := by decide +kernel
theorem d_X10_bad_17 : decode cX10_bad 17 = .ok (.getfield 17, 3) := by decide +kernel
theorem d_X10_bad_20 : decode cX10_bad 20 = .ok (.iload_n 3, 1) := by decide +kernel
theorem d_X10_bad_21 : decode cX10_bad 21 = .ok (.dup2, 1) := by decide +kernel
theorem d_X10_bad_22 : decode cX10_bad 22 = .ok (.iaload, 1) := by decide +kernel
theorem d_X10_bad_23 : decode cX10_bad 23 = .ok (.iconst 1, 1) := by decide +kernel
theorem d_X10_bad_24 : decode cX10_bad 24 = .ok (.iadd, 1) := by decide +kernel
theorem d_X10_bad_25 : decode cX10_bad 25 = .ok (.iastore, 1) := by decide +kernel
theorem d_X10_bad_26 : decode cX10_bad 26 = .ok (.aload_n 0, 1) := by decide +kernel
theorem d_X10_bad_27 : decode cX10_bad 27 = .ok (.getfield 82, 3) := by decide +kernel
theorem d_X10_bad_30 : decode cX10_bad 30 = .ok (.ifCond .eq 7, 3) := by decide +kernel
theorem d_X10_bad_33 : decode cX10_bad 33 = .ok (.iconst 1, 1) := by decide +kernel
theorem d_X10_bad_34 : decode cX10_bad 34 = .ok (.goto 4, 3) := by decide +kernel
theorem d_X10_bad_37 : decode cX10_bad 37 = .ok (.iconst 0, 1) := by decide +kernel
theorem d_X10_bad_38 : decode cX10_bad 38 = .ok (.ireturn, 1) := by decide +kernel
def F_X10_bad_26 (p0 : Int32) (p1 : Int32) (p2 : Int32) (M : zMem) : Option (Int32 × zMem) :=
  if (M.1 0 0) = 0 then
    some ((0 : Int32), M)
  else
    some ((1 : Int32), M)
def F_X10_bad (M : zMem) (p0 : Int32) (p1 : Int32) (p2 : Int32) : Option (Int32 × zMem) :=
  if p0 = 0 then
    F_X10_bad_26 p0 p1 p2 M
  else
    if (M.1 0 0) = 0 then
      zl (zI M 0 0 p1) fun M1 =>
      gin p2 2 <|
      zl (zI M1 2 p2.toNatClampNeg ((M1.1 2 p2.toNatClampNeg) + (1 : Int32))) fun M3 =>
      F_X10_bad_26 p0 p1 p2 M3
    else
      F_X10_bad_26 p0 p1 p2 M
def rm_X10_bad : Room := { frames := 2, cells := 0, slots := 0, locals := 80 }
set_option maxHeartbeats 4000000 in
set_option maxRecDepth 100000 in
theorem c_X10_bad (l : Launch) {G : zG} {ad : Nat → Nat} {n : Nat} (hA : zInj ad n) (M : zMem) (p0 : Int32) (p1 : Int32) (p2 : Int32) (hT : zT shM n 0 11) {r9 : Int32} {M9 : zMem} (hF : F_X10_bad M p0 p1 p2 = some (r9, M9)) : zM l yX10_bad cX10_bad 4 (some .boolean) rm_X10_bad G shM ad n M [.ref (ad 0), .int p0, .int p1, .int p2] (some (.int r9)) M9 := by
  refine zM_of hA (by decide +kernel) (lv := [(0, .ref (ad 0)), (1, .int p0), (2, .int p1), (3, .int p2)]) (Nat.le_of_ble_eq_true rfl) rfl (fun p e s m args below meth c A cx hr => ?_)
  have hb26 : ∀ (M : zMem), F_X10_bad_26 p0 p1 p2 M = some (r9, M9) → zJ p l e rm_X10_bad s m args below meth c G shM ad n A 4 (MQ below (zQ G shM ad n M9 (some (.int r9)) A) args s 0 0 A) 0 0 M 26 [(0, .ref (ad 0))] [] := by
    intro M hF
    unfold F_X10_bad_26 at hF
    refine z_aload_n cx d_X10_bad_26 0 rfl ?_
    refine z_getI cx hT fg_SunnyPansModel_82 d_X10_bad_27 ?_
    refine z_if_eq cx 37 d_X10_bad_30 (by decide) hF (fun hF => ?_) (fun hF => ?_)
    · refine z_iconst (v := 0) cx d_X10_bad_37 ki_0 ?_
      exact z_iret cx hr nb0 hF d_X10_bad_38
    refine z_iconst (v := 1) cx d_X10_bad_33 ki_1 ?_
    refine z_goto cx 38 d_X10_bad_34 (by decide) ?_
    exact z_iret cx hr nb1 hF d_X10_bad_38
  unfold F_X10_bad at hF
  refine z_iload_n cx d_X10_bad_0 1 rfl ?_
  refine z_if_eq cx 26 d_X10_bad_1 (by decide) hF (fun hF => ?_) (fun hF => ?_)
  · exact z_lv [0] _ rfl (hb26 M hF)
  refine z_aload_n cx d_X10_bad_4 0 rfl ?_
  refine z_getI cx hT fg_SunnyPansModel_82 d_X10_bad_5 ?_
  refine z_if_ne cx 26 d_X10_bad_8 (by decide) hF (fun hF => ?_) (fun hF => ?_)
  · exact z_lv [0] _ rfl (hb26 M hF)
  refine z_aload_n cx d_X10_bad_11 0 rfl ?_
  refine z_iload_n cx d_X10_bad_12 2 rfl ?_
  refine z_putI cx hT fp_SunnyPansModel_82 d_X10_bad_13 ?_
  refine z_nmM hF (fun M1 hF => ?_)
  refine z_aload_n cx d_X10_bad_16 0 rfl ?_
  refine z_getR cx hT fg_SunnyPansModel_17 2 rfl d_X10_bad_17 ?_
  refine z_iload_n cx d_X10_bad_20 3 rfl ?_
  refine z_dup2 cx d_X10_bad_21 rfl rfl ?_
  obtain ⟨hi2, hF⟩ := gin_inv hF
  refine z_iald cx (tfM_11_2 hT) za_27 hi2 p2.toNatClampNeg rfl d_X10_bad_22 ?_
  refine z_iconst (v := 1) cx d_X10_bad_23 ki_1 ?_
  refine z_iadd cx d_X10_bad_24 ?_
  refine z_iast cx (tfM_11_2 hT) za_27 hi2 p2.toNatClampNeg rfl d_X10_bad_25 ?_
  refine z_nmM hF (fun M3 hF => ?_)
  exact z_lv [0] _ rfl (hb26 M3 hF)
/-! SunnyPansModel.in -/
theorem d_X10_in_0 : decode cX10_in 0 = .ok (.iload_n 0, 1) := by decide +kernel
theorem d_X10_in_1 : decode cX10_in 1 = .ok (.iload_n 1, 1) := by decide +kernel
theorem d_X10_in_2 : decode cX10_in 2 = .ok (.if_icmp .lt 12, 3) := by decide +kernel
theorem d_X10_in_5 : decode cX10_in 5 = .ok (.iload_n 0, 1) := by decide +kernel
theorem d_X10_in_6 : decode cX10_in 6 = .ok (.iload_n 2, 1) := by decide +kernel
theorem d_X10_in_7 : decode cX10_in 7 = .ok (.if_icmp .gt 7, 3) := by decide +kernel
theorem d_X10_in_10 : decode cX10_in 10 = .ok (.iconst 1, 1) := by decide +kernel
theorem d_X10_in_11 : decode cX10_in 11 = .ok (.goto 4, 3) := by decide +kernel
theorem d_X10_in_14 : decode cX10_in 14 = .ok (.iconst 0, 1) := by decide +kernel
theorem d_X10_in_15 : decode cX10_in 15 = .ok (.ireturn, 1) := by decide +kernel
def F_X10_in (M : zMem) (p0 : Int32) (p1 : Int32) (p2 : Int32) : Option (Int32 × zMem) :=
  if p0 < p1 then
    some ((0 : Int32), M)
  else
    if p2 < p0 then
      some ((0 : Int32), M)
    else
      some ((1 : Int32), M)
def rm_X10_in : Room := { frames := 2, cells := 0, slots := 0, locals := 80 }
set_option maxHeartbeats 4000000 in
set_option maxRecDepth 100000 in
theorem c_X10_in (l : Launch) {G : zG} {ad : Nat → Nat} {n : Nat} (hA : zInj ad n) (M : zMem) (p0 : Int32) (p1 : Int32) (p2 : Int32) {r9 : Int32} {M9 : zMem} (hF : F_X10_in M p0 p1 p2 = some (r9, M9)) : zM l yX10_in cX10_in 3 (some .boolean) rm_X10_in G shM ad n M [.int p0, .int p1, .int p2] (some (.int r9)) M9 := by
  refine zM_of hA (by decide +kernel) (lv := [(0, .int p0), (1, .int p1), (2, .int p2)]) (Nat.le_of_ble_eq_true rfl) rfl (fun p e s m args below meth c A cx hr => ?_)
  unfold F_X10_in at hF
  refine z_iload_n cx d_X10_in_0 0 rfl ?_
  refine z_iload_n cx d_X10_in_1 1 rfl ?_
  refine z_icmp_lt cx 14 d_X10_in_2 (by decide) hF (fun hF => ?_) (fun hF => ?_)
  · refine z_iconst (v := 0) cx d_X10_in_14 ki_0 ?_
    exact z_iret cx hr nb0 hF d_X10_in_15
  refine z_iload_n cx d_X10_in_5 0 rfl ?_
  refine z_iload_n cx d_X10_in_6 2 rfl ?_
  refine z_icmp_gt cx 14 d_X10_in_7 (by decide) hF (fun hF => ?_) (fun hF => ?_)
  · refine z_iconst (v := 0) cx d_X10_in_14 ki_0 ?_
    exact z_iret cx hr nb0 hF d_X10_in_15
  refine z_iconst (v := 1) cx d_X10_in_10 ki_1 ?_
  refine z_goto cx 15 d_X10_in_11 (by decide) ?_
  exact z_iret cx hr nb1 hF d_X10_in_15
/-! SunnyPansModel.less -/
theorem d_X10_less_0 : decode cX10_less 0 = .ok (.iload_n 0, 1) := by decide +kernel
theorem d_X10_less_1 : decode cX10_less 1 = .ok (.iload_n 1, 1) := by decide +kernel
theorem d_X10_less_2 : decode cX10_less 2 = .ok (.if_icmp .ge 7, 3) := by decide +kernel
theorem d_X10_less_5 : decode cX10_less 5 = .ok (.iload_n 0, 1) := by decide +kernel
theorem d_X10_less_6 : decode cX10_less 6 = .ok (.goto 4, 3) := by decide +kernel
theorem d_X10_less_9 : decode cX10_less 9 = .ok (.iload_n 1, 1) := by decide +kernel
theorem d_X10_less_10 : decode cX10_less 10 = .ok (.ireturn, 1) := by decide +kernel
def F_X10_less (M : zMem) (p0 : Int32) (p1 : Int32) : Option (Int32 × zMem) :=
  if p1 ≤ p0 then
    some (p1, M)
  else
    some (p0, M)
def rm_X10_less : Room := { frames := 2, cells := 0, slots := 0, locals := 80 }
set_option maxHeartbeats 4000000 in
set_option maxRecDepth 100000 in
theorem c_X10_less (l : Launch) {G : zG} {ad : Nat → Nat} {n : Nat} (hA : zInj ad n) (M : zMem) (p0 : Int32) (p1 : Int32) {r9 : Int32} {M9 : zMem} (hF : F_X10_less M p0 p1 = some (r9, M9)) : zM l yX10_less cX10_less 2 (some .int) rm_X10_less G shM ad n M [.int p0, .int p1] (some (.int r9)) M9 := by
  refine zM_of hA (by decide +kernel) (lv := [(0, .int p0), (1, .int p1)]) (Nat.le_of_ble_eq_true rfl) rfl (fun p e s m args below meth c A cx hr => ?_)
  unfold F_X10_less at hF
  refine z_iload_n cx d_X10_less_0 0 rfl ?_
  refine z_iload_n cx d_X10_less_1 1 rfl ?_
  refine z_icmp_ge cx 9 d_X10_less_2 (by decide) hF (fun hF => ?_) (fun hF => ?_)
  · refine z_iload_n cx d_X10_less_9 1 rfl ?_
    exact z_iret cx hr rfl hF d_X10_less_10
  refine z_iload_n cx d_X10_less_5 0 rfl ?_
  refine z_goto cx 10 d_X10_less_6 (by decide) ?_
  exact z_iret cx hr rfl hF d_X10_less_10
/-! SunnyPansModel.more -/
theorem d_X10_more_0 : decode cX10_more 0 = .ok (.iload_n 0, 1) := by decide +kernel
theorem d_X10_more_1 : decode cX10_more 1 = .ok (.iload_n 1, 1) := by decide +kernel
theorem d_X10_more_2 : decode cX10_more 2 = .ok (.if_icmp .le 7, 3) := by decide +kernel
theorem d_X10_more_5 : decode cX10_more 5 = .ok (.iload_n 0, 1) := by decide +kernel
theorem d_X10_more_6 : decode cX10_more 6 = .ok (.goto 4, 3) := by decide +kernel
theorem d_X10_more_9 : decode cX10_more 9 = .ok (.iload_n 1, 1) := by decide +kernel
theorem d_X10_more_10 : decode cX10_more 10 = .ok (.ireturn, 1) := by decide +kernel
def F_X10_more (M : zMem) (p0 : Int32) (p1 : Int32) : Option (Int32 × zMem) :=
  if p0 ≤ p1 then
    some (p1, M)
  else
    some (p0, M)
def rm_X10_more : Room := { frames := 2, cells := 0, slots := 0, locals := 80 }
set_option maxHeartbeats 4000000 in
set_option maxRecDepth 100000 in
theorem c_X10_more (l : Launch) {G : zG} {ad : Nat → Nat} {n : Nat} (hA : zInj ad n) (M : zMem) (p0 : Int32) (p1 : Int32) {r9 : Int32} {M9 : zMem} (hF : F_X10_more M p0 p1 = some (r9, M9)) : zM l yX10_more cX10_more 2 (some .int) rm_X10_more G shM ad n M [.int p0, .int p1] (some (.int r9)) M9 := by
  refine zM_of hA (by decide +kernel) (lv := [(0, .int p0), (1, .int p1)]) (Nat.le_of_ble_eq_true rfl) rfl (fun p e s m args below meth c A cx hr => ?_)
  unfold F_X10_more at hF
  refine z_iload_n cx d_X10_more_0 0 rfl ?_
  refine z_iload_n cx d_X10_more_1 1 rfl ?_
  refine z_icmp_le cx 9 d_X10_more_2 (by decide) hF (fun hF => ?_) (fun hF => ?_)
  · refine z_iload_n cx d_X10_more_9 1 rfl ?_
    exact z_iret cx hr rfl hF d_X10_more_10
  refine z_iload_n cx d_X10_more_5 0 rfl ?_
  refine z_goto cx 10 d_X10_more_6 (by decide) ?_
  exact z_iret cx hr rfl hF d_X10_more_10
/-! SunnyPansModel.has -/
theorem d_X10_has_0 : decode cX10_has 0 = .ok (.iload_n 0, 1) := by decide +kernel
theorem d_X10_has_1 : decode cX10_has 1 = .ok (.iload_n 1, 1) := by decide +kernel
theorem d_X10_has_2 : decode cX10_has 2 = .ok (.ishr, 1) := by decide +kernel
theorem d_X10_has_3 : decode cX10_has 3 = .ok (.iconst 1, 1) := by decide +kernel
theorem d_X10_has_4 : decode cX10_has 4 = .ok (.iand, 1) := by decide +kernel
theorem d_X10_has_5 : decode cX10_has 5 = .ok (.iconst 1, 1) := by decide +kernel
theorem d_X10_has_6 : decode cX10_has 6 = .ok (.if_icmp .ne 7, 3) := by decide +kernel
theorem d_X10_has_9 : decode cX10_has 9 = .ok (.iconst 1, 1) := by decide +kernel
theorem d_X10_has_10 : decode cX10_has 10 = .ok (.goto 4, 3) := by decide +kernel
theorem d_X10_has_13 : decode cX10_has 13 = .ok (.iconst 0, 1) := by decide +kernel
theorem d_X10_has_14 : decode cX10_has 14 = .ok (.ireturn, 1) := by decide +kernel
def F_X10_has (M : zMem) (p0 : Int32) (p1 : Int32) : Option (Int32 × zMem) :=
  if ((p0 >>> (p1 &&& 31)) &&& (1 : Int32)) = (1 : Int32) then
    some ((1 : Int32), M)
  else
    some ((0 : Int32), M)
def rm_X10_has : Room := { frames := 2, cells := 0, slots := 0, locals := 80 }
set_option maxHeartbeats 4000000 in
set_option maxRecDepth 100000 in
theorem c_X10_has (l : Launch) {G : zG} {ad : Nat → Nat} {n : Nat} (hA : zInj ad n) (M : zMem) (p0 : Int32) (p1 : Int32) {r9 : Int32} {M9 : zMem} (hF : F_X10_has M p0 p1 = some (r9, M9)) : zM l yX10_has cX10_has 2 (some .boolean) rm_X10_has G shM ad n M [.int p0, .int p1] (some (.int r9)) M9 := by
  refine zM_of hA (by decide +kernel) (lv := [(0, .int p0), (1, .int p1)]) (Nat.le_of_ble_eq_true rfl) rfl (fun p e s m args below meth c A cx hr => ?_)
  unfold F_X10_has at hF
  refine z_iload_n cx d_X10_has_0 0 rfl ?_
  refine z_iload_n cx d_X10_has_1 1 rfl ?_
  refine z_ishr cx d_X10_has_2 ?_
  refine z_iconst (v := 1) cx d_X10_has_3 ki_1 ?_
  refine z_iand cx d_X10_has_4 ?_
  refine z_iconst (v := 1) cx d_X10_has_5 ki_1 ?_
  refine z_icmp_ne cx 13 d_X10_has_6 (by decide) hF (fun hF => ?_) (fun hF => ?_)
  · refine z_iconst (v := 0) cx d_X10_has_13 ki_0 ?_
    exact z_iret cx hr nb0 hF d_X10_has_14
  refine z_iconst (v := 1) cx d_X10_has_9 ki_1 ?_
  refine z_goto cx 14 d_X10_has_10 (by decide) ?_
  exact z_iret cx hr nb1 hF d_X10_has_14
/-! SunnyPansModel.feed -/
theorem d_X10_feed_0 : decode cX10_feed 0 = .ok (.aload_n 0, 1) := by decide +kernel
theorem d_X10_feed_1 : decode cX10_feed 1 = .ok (.iconst 0, 1) := by decide +kernel
theorem d_X10_feed_2 : decode cX10_feed 2 = .ok (.putfield 82, 3) := by decide +kernel
theorem d_X10_feed_5 : decode cX10_feed 5 = .ok (.aload_n 0, 1) := by decide +kernel
theorem d_X10_feed_6 : decode cX10_feed 6 = .ok (.getfield 85, 3) := by decide +kernel
theorem d_X10_feed_9 : decode cX10_feed 9 = .ok (.bipush 20, 2) := by decide +kernel
theorem d_X10_feed_11 : decode cX10_feed 11 = .ok (.iadd, 1) := by decide +kernel
theorem d_X10_feed_12 : decode cX10_feed 12 = .ok (.sipush 600, 3) := by decide +kernel
theorem d_X10_feed_15 : decode cX10_feed 15 = .ok (.if_icmp .le 5, 3) := by decide +kernel
theorem d_X10_feed_18 : decode cX10_feed 18 = .ok (.iconst (-1), 1) := by decide +kernel
theorem d_X10_feed_19 : decode cX10_feed 19 = .ok (.ireturn, 1) := by decide +kernel
theorem d_X10_feed_20 : decode cX10_feed 20 = .ok (.iconst 0, 1) := by decide +kernel
theorem d_X10_feed_21 : decode cX10_feed 21 = .ok (.istore 6, 2) := by decide +kernel
theorem d_X10_feed_23 : decode cX10_feed 23 = .ok (.iload 6, 2) := by decide +kernel
theorem d_X10_feed_25 : decode cX10_feed 25 = .ok (.bipush 20, 2) := by decide +kernel
theorem d_X10_feed_27 : decode cX10_feed 27 = .ok (.if_icmp .ge 93, 3) := by decide +kernel
theorem d_X10_feed_30 : decode cX10_feed 30 = .ok (.iload 6, 2) := by decide +kernel
theorem d_X10_feed_32 : decode cX10_feed 32 = .ok (.iconst 4, 1) := by decide +kernel
theorem d_X10_feed_33 : decode cX10_feed 33 = .ok (.if_icmp .ge 7, 3) := by decide +kernel
theorem d_X10_feed_36 : decode cX10_feed 36 = .ok (.iload_n 1, 1) := by decide +kernel
theorem d_X10_feed_37 : decode cX10_feed 37 = .ok (.goto 39, 3) := by decide +kernel
theorem d_X10_feed_40 : decode cX10_feed 40 = .ok (.iload 6, 2) := by decide +kernel
theorem d_X10_feed_42 : decode cX10_feed 42 = .ok (.bipush 8, 2) := by decide +kernel
theorem d_X10_feed_44 : decode cX10_feed 44 = .ok (.if_icmp .ge 7, 3) := by decide +kernel
theorem d_X10_feed_47 : decode cX10_feed 47 = .ok (.iload_n 2, 1) := by decide +kernel
theorem d_X10_feed_48 : decode cX10_feed 48 = .ok (.goto 28, 3) := by decide +kernel
theorem d_X10_feed_51 : decode cX10_feed 51 = .ok (.iload 6, 2) := by decide +kernel
theorem d_X10_feed_53 : decode cX10_feed 53 = .ok (.bipush 12, 2) := by decide +kernel
theorem d_X10_feed_55 : decode cX10_feed 55 = .ok (.if_icmp .ge 7, 3) := by decide +kernel
theorem d_X10_feed_58 : decode cX10_feed 58 = .ok (.iload_n 3, 1) := by decide +kernel
theorem d_X10_feed_59 : decode cX10_feed 59 = .ok (.goto 17, 3) := by decide +kernel
theorem d_X10_feed_62 : decode cX10_feed 62 = .ok (.iload 6, 2) := by decide +kernel
theorem d_X10_feed_64 : decode cX10_feed 64 = .ok (.bipush 16, 2) := by decide +kernel
theorem d_X10_feed_66 : decode cX10_feed 66 = .ok (.if_icmp .ge 8, 3) := by decide +kernel
theorem d_X10_feed_69 : decode cX10_feed 69 = .ok (.iload 4, 2) := by decide +kernel
theorem d_X10_feed_71 : decode cX10_feed 71 = .ok (.goto 5, 3) := by decide +kernel
theorem d_X10_feed_74 : decode cX10_feed 74 = .ok (.iload 5, 2) := by decide +kernel
theorem d_X10_feed_76 : decode cX10_feed 76 = .ok (.istore 7, 2) := by decide +kernel
theorem d_X10_feed_78 : decode cX10_feed 78 = .ok (.aload_n 0, 1) := by decide +kernel
theorem d_X10_feed_79 : decode cX10_feed 79 = .ok (.getfield 13, 3) := by decide +kernel
theorem d_X10_feed_82 : decode cX10_feed 82 = .ok (.aload_n 0, 1) := by decide +kernel
theorem d_X10_feed_83 : decode cX10_feed 83 = .ok (.getfield 85, 3) := by decide +kernel
theorem d_X10_feed_86 : decode cX10_feed 86 = .ok (.iload 7, 2) := by decide +kernel
theorem d_X10_feed_88 : decode cX10_feed 88 = .ok (.bipush 24, 2) := by decide +kernel
theorem d_X10_feed_90 : decode cX10_feed 90 = .ok (.bipush 8, 2) := by decide +kernel
theorem d_X10_feed_92 : decode cX10_feed 92 = .ok (.iload 6, 2) := by decide +kernel
theorem d_X10_feed_94 : decode cX10_feed 94 = .ok (.iconst 4, 1) := by decide +kernel
theorem d_X10_feed_95 : decode cX10_feed 95 = .ok (.irem, 1) := by decide +kernel
theorem d_X10_feed_96 : decode cX10_feed 96 = .ok (.imul, 1) := by decide +kernel
theorem d_X10_feed_97 : decode cX10_feed 97 = .ok (.isub, 1) := by decide +kernel
theorem d_X10_feed_98 : decode cX10_feed 98 = .ok (.ishr, 1) := by decide +kernel
theorem d_X10_feed_99 : decode cX10_feed 99 = .ok (.sipush 255, 3) := by decide +kernel
theorem d_X10_feed_102 : decode cX10_feed 102 = .ok (.iand, 1) := by decide +kernel
theorem d_X10_feed_103 : decode cX10_feed 103 = .ok (.iastore, 1) := by decide +kernel
theorem d_X10_feed_104 : decode cX10_feed 104 = .ok (.aload_n 0, 1) := by decide +kernel
theorem d_X10_feed_105 : decode cX10_feed 105 = .ok (.dup, 1) := by decide +kernel
theorem d_X10_feed_106 : decode cX10_feed 106 = .ok (.getfield 85, 3) := by decide +kernel
theorem d_X10_feed_109 : decode cX10_feed 109 = .ok (.iconst 1, 1) := by decide +kernel
theorem d_X10_feed_110 : decode cX10_feed 110 = .ok (.iadd, 1) := by decide +kernel
theorem d_X10_feed_111 : decode cX10_feed 111 = .ok (.putfield 85, 3) := by decide +kernel
theorem d_X10_feed_114 : decode cX10_feed 114 = .ok (.iinc 6 1, 3) := by decide +kernel
theorem d_X10_feed_117 : decode cX10_feed 117 = .ok (.goto (-94), 3) := by decide +kernel
theorem d_X10_feed_120 : decode cX10_feed 120 = .ok (.aload_n 0, 1) := by decide +kernel
theorem d_X10_feed_121 : decode cX10_feed 121 = .ok (.getfield 85, 3) := by decide +kernel
theorem d_X10_feed_124 : decode cX10_feed 124 = .ok (.ireturn, 1) := by decide +kernel
def F_X10_feed_76 (p0 : Int32) (p1 : Int32) (p2 : Int32) (p3 : Int32) (p4 : Int32) (self23 : Int32 → Int32 → Int32 → Int32 → Int32 → Int32 → zMem → Option (Int32 × zMem)) (b76_L1 : Int32) (b76_L2 : Int32) (b76_L3 : Int32) (b76_L4 : Int32) (b76_L5 : Int32) (b76_L6 : Int32) (b76_S0 : Int32) (M : zMem) : Option (Int32 × zMem) :=
  gin (M.1 0 1) 600 <|
  zl (zI M 1 ((M.1 0 1).toNatClampNeg) ((b76_S0 >>> (((24 : Int32) - ((8 : Int32) * (b76_L6 - b76_L6 / (4 : Int32) * (4 : Int32)))) &&& 31)) &&& (255 : Int32))) fun M2 =>
  zl (zI M2 0 1 ((M2.1 0 1) + (1 : Int32))) fun M3 =>
  self23 b76_L1 b76_L2 b76_L3 b76_L4 b76_L5 (b76_L6 + 1) M3
def F_X10_feed_23 (p0 : Int32) (p1 : Int32) (p2 : Int32) (p3 : Int32) (p4 : Int32) (self23 : Int32 → Int32 → Int32 → Int32 → Int32 → Int32 → zMem → Option (Int32 × zMem)) (b23_L1 : Int32) (b23_L2 : Int32) (b23_L3 : Int32) (b23_L4 : Int32) (b23_L5 : Int32) (b23_L6 : Int32) (M : zMem) : Option (Int32 × zMem) :=
  if (20 : Int32) ≤ b23_L6 then
    some ((M.1 0 1), M)
  else
    if (4 : Int32) ≤ b23_L6 then
      if (8 : Int32) ≤ b23_L6 then
        if (12 : Int32) ≤ b23_L6 then
          if (16 : Int32) ≤ b23_L6 then
            F_X10_feed_76 p0 p1 p2 p3 p4 self23 b23_L1 b23_L2 b23_L3 b23_L4 b23_L5 b23_L6 b23_L5 M
          else
            F_X10_feed_76 p0 p1 p2 p3 p4 self23 b23_L1 b23_L2 b23_L3 b23_L4 b23_L5 b23_L6 b23_L4 M
        else
          F_X10_feed_76 p0 p1 p2 p3 p4 self23 b23_L1 b23_L2 b23_L3 b23_L4 b23_L5 b23_L6 b23_L3 M
      else
        F_X10_feed_76 p0 p1 p2 p3 p4 self23 b23_L1 b23_L2 b23_L3 b23_L4 b23_L5 b23_L6 b23_L2 M
    else
      F_X10_feed_76 p0 p1 p2 p3 p4 self23 b23_L1 b23_L2 b23_L3 b23_L4 b23_L5 b23_L6 b23_L1 M
def F_X10_feed (M : zMem) (p0 : Int32) (p1 : Int32) (p2 : Int32) (p3 : Int32) (p4 : Int32) : Option (Int32 × zMem) :=
  zl (zI M 0 0 (0 : Int32)) fun M4 =>
  if ((M4.1 0 1) + (20 : Int32)) ≤ (600 : Int32) then
    itF (fun _ _ _ _ _ _ _ => none) (F_X10_feed_23 p0 p1 p2 p3 p4) zFuel p0 p1 p2 p3 p4 (0 : Int32) M4
  else
    some ((-1 : Int32), M4)
def rm_X10_feed : Room := { frames := 2, cells := 0, slots := 0, locals := 80 }
set_option maxHeartbeats 4000000 in
set_option maxRecDepth 100000 in
theorem c_X10_feed (l : Launch) {G : zG} {ad : Nat → Nat} {n : Nat} (hA : zInj ad n) (M : zMem) (p0 : Int32) (p1 : Int32) (p2 : Int32) (p3 : Int32) (p4 : Int32) (hT : zT shM n 0 11) {r9 : Int32} {M9 : zMem} (hF : F_X10_feed M p0 p1 p2 p3 p4 = some (r9, M9)) : zM l yX10_feed cX10_feed 8 (some .int) rm_X10_feed G shM ad n M [.ref (ad 0), .int p0, .int p1, .int p2, .int p3, .int p4] (some (.int r9)) M9 := by
  refine zM_of hA (by decide +kernel) (lv := [(0, .ref (ad 0)), (1, .int p0), (2, .int p1), (3, .int p2), (4, .int p3), (5, .int p4)]) (Nat.le_of_ble_eq_true rfl) rfl (fun p e s m args below meth c A cx hr => ?_)
  have hb76 : ∀ (self23 : Int32 → Int32 → Int32 → Int32 → Int32 → Int32 → zMem → Option (Int32 × zMem)) (hs23 : ∀ (b23_L1 : Int32) (b23_L2 : Int32) (b23_L3 : Int32) (b23_L4 : Int32) (b23_L5 : Int32) (b23_L6 : Int32) (M : zMem), self23 b23_L1 b23_L2 b23_L3 b23_L4 b23_L5 b23_L6 M = some (r9, M9) → zJ p l e rm_X10_feed s m args below meth c G shM ad n A 8 (MQ below (zQ G shM ad n M9 (some (.int r9)) A) args s 0 0 A) 0 0 M 23 [(0, .ref (ad 0)), (1, .int b23_L1), (2, .int b23_L2), (3, .int b23_L3), (4, .int b23_L4), (5, .int b23_L5), (6, .int b23_L6)] []), ∀ (b76_L1 : Int32) (b76_L2 : Int32) (b76_L3 : Int32) (b76_L4 : Int32) (b76_L5 : Int32) (b76_L6 : Int32) (b76_S0 : Int32) (M : zMem), F_X10_feed_76 p0 p1 p2 p3 p4 self23 b76_L1 b76_L2 b76_L3 b76_L4 b76_L5 b76_L6 b76_S0 M = some (r9, M9) → zJ p l e rm_X10_feed s m args below meth c G shM ad n A 8 (MQ below (zQ G shM ad n M9 (some (.int r9)) A) args s 0 0 A) 0 0 M 76 [(0, .ref (ad 0)), (1, .int b76_L1), (2, .int b76_L2), (3, .int b76_L3), (4, .int b76_L4), (5, .int b76_L5), (6, .int b76_L6)] [.int b76_S0] := by
    intro self23 hs23 b76_L1 b76_L2 b76_L3 b76_L4 b76_L5 b76_L6 b76_S0 M hF
    unfold F_X10_feed_76 at hF
    refine z_istore cx 7 [(7, .int b76_S0), (0, .ref (ad 0)), (1, .int b76_L1), (2, .int b76_L2), (3, .int b76_L3), (4, .int b76_L4), (5, .int b76_L5), (6, .int b76_L6)] d_X10_feed_76 (by decide) rfl ?_
    refine z_aload_n cx d_X10_feed_78 1 rfl ?_
    refine z_getR cx hT fg_SunnyPansModel_13 1 rfl d_X10_feed_79 ?_
    refine z_aload_n cx d_X10_feed_82 1 rfl ?_
    refine z_getI cx hT fg_SunnyPansModel_85 d_X10_feed_83 ?_
    refine z_iload cx d_X10_feed_86 0 rfl ?_
    refine z_bipush (v := 24) cx d_X10_feed_88 kb_24 ?_
    refine z_bipush (v := 8) cx d_X10_feed_90 kb_8 ?_
    refine z_iload cx d_X10_feed_92 7 rfl ?_
    refine z_iconst (v := 4) cx d_X10_feed_94 ki_4 ?_
    refine z_irem cx d_X10_feed_95 (by decide) ?_
    refine z_imul cx d_X10_feed_96 ?_
    refine z_isub cx d_X10_feed_97 ?_
    refine z_ishr cx d_X10_feed_98 ?_
    refine z_sipush (v := 255) cx d_X10_feed_99 ks_255 ?_
    refine z_iand cx d_X10_feed_102 ?_
    obtain ⟨hi1, hF⟩ := gin_inv hF
    refine z_iast cx (tfM_11_1 hT) za_17 hi1 ((M.1 0 1).toNatClampNeg) rfl d_X10_feed_103 ?_
    refine z_nmM hF (fun M2 hF => ?_)
    refine z_aload_n cx d_X10_feed_104 1 rfl ?_
    refine z_dup cx d_X10_feed_105 rfl ?_
    refine z_getI cx hT fg_SunnyPansModel_85 d_X10_feed_106 ?_
    refine z_iconst (v := 1) cx d_X10_feed_109 ki_1 ?_
    refine z_iadd cx d_X10_feed_110 ?_
    refine z_putI cx hT fp_SunnyPansModel_85 d_X10_feed_111 ?_
    refine z_nmM hF (fun M3 hF => ?_)
    refine z_iinc cx 6 1 [(6, .int (b76_L6 + 1)), (7, .int b76_S0), (0, .ref (ad 0)), (1, .int b76_L1), (2, .int b76_L2), (3, .int b76_L3), (4, .int b76_L4), (5, .int b76_L5)] d_X10_feed_114 7 rfl ki_1 (by decide) rfl ?_
    refine z_goto cx 23 d_X10_feed_117 (by decide) ?_
    exact z_lv [2, 3, 4, 5, 6, 7, 0] _ rfl (hs23 b76_L1 b76_L2 b76_L3 b76_L4 b76_L5 (b76_L6 + 1) M3 hF)
  have hL23 : ∀ (fuel : Nat), ∀ (b23_L1 : Int32) (b23_L2 : Int32) (b23_L3 : Int32) (b23_L4 : Int32) (b23_L5 : Int32) (b23_L6 : Int32) (M : zMem), itF (fun _ _ _ _ _ _ _ => none) (F_X10_feed_23 p0 p1 p2 p3 p4) fuel b23_L1 b23_L2 b23_L3 b23_L4 b23_L5 b23_L6 M = some (r9, M9) → zJ p l e rm_X10_feed s m args below meth c G shM ad n A 8 (MQ below (zQ G shM ad n M9 (some (.int r9)) A) args s 0 0 A) 0 0 M 23 [(0, .ref (ad 0)), (1, .int b23_L1), (2, .int b23_L2), (3, .int b23_L3), (4, .int b23_L4), (5, .int b23_L5), (6, .int b23_L6)] [] := by
    intro fuel
    induction fuel with
    | zero => intro b23_L1 b23_L2 b23_L3 b23_L4 b23_L5 b23_L6 M hF; cases hF
    | succ fuel hs23 =>
      intro b23_L1 b23_L2 b23_L3 b23_L4 b23_L5 b23_L6 M hF
      have hF : F_X10_feed_23 p0 p1 p2 p3 p4 (itF (fun _ _ _ _ _ _ _ => none) (F_X10_feed_23 p0 p1 p2 p3 p4) fuel) b23_L1 b23_L2 b23_L3 b23_L4 b23_L5 b23_L6 M = some (r9, M9) := hF
      generalize itF (fun _ _ _ _ _ _ _ => none) (F_X10_feed_23 p0 p1 p2 p3 p4) fuel = self23 at hs23 hF
      unfold F_X10_feed_23 at hF
      refine z_iload cx d_X10_feed_23 6 rfl ?_
      refine z_bipush (v := 20) cx d_X10_feed_25 kb_20 ?_
      refine z_icmp_ge cx 120 d_X10_feed_27 (by decide) hF (fun hF => ?_) (fun hF => ?_)
      · refine z_aload_n cx d_X10_feed_120 0 rfl ?_
        refine z_getI cx hT fg_SunnyPansModel_85 d_X10_feed_121 ?_
        exact z_iret cx hr rfl hF d_X10_feed_124
      refine z_iload cx d_X10_feed_30 6 rfl ?_
      refine z_iconst (v := 4) cx d_X10_feed_32 ki_4 ?_
      refine z_icmp_ge cx 40 d_X10_feed_33 (by decide) hF (fun hF => ?_) (fun hF => ?_)
      · refine z_iload cx d_X10_feed_40 6 rfl ?_
        refine z_bipush (v := 8) cx d_X10_feed_42 kb_8 ?_
        refine z_icmp_ge cx 51 d_X10_feed_44 (by decide) hF (fun hF => ?_) (fun hF => ?_)
        · refine z_iload cx d_X10_feed_51 6 rfl ?_
          refine z_bipush (v := 12) cx d_X10_feed_53 kb_12 ?_
          refine z_icmp_ge cx 62 d_X10_feed_55 (by decide) hF (fun hF => ?_) (fun hF => ?_)
          · refine z_iload cx d_X10_feed_62 6 rfl ?_
            refine z_bipush (v := 16) cx d_X10_feed_64 kb_16 ?_
            refine z_icmp_ge cx 74 d_X10_feed_66 (by decide) hF (fun hF => ?_) (fun hF => ?_)
            · refine z_iload cx d_X10_feed_74 5 rfl ?_
              exact hb76 self23 hs23 b23_L1 b23_L2 b23_L3 b23_L4 b23_L5 b23_L6 b23_L5 M hF
            refine z_iload cx d_X10_feed_69 4 rfl ?_
            refine z_goto cx 76 d_X10_feed_71 (by decide) ?_
            exact hb76 self23 hs23 b23_L1 b23_L2 b23_L3 b23_L4 b23_L5 b23_L6 b23_L4 M hF
          refine z_iload_n cx d_X10_feed_58 3 rfl ?_
          refine z_goto cx 76 d_X10_feed_59 (by decide) ?_
          exact hb76 self23 hs23 b23_L1 b23_L2 b23_L3 b23_L4 b23_L5 b23_L6 b23_L3 M hF
        refine z_iload_n cx d_X10_feed_47 2 rfl ?_
        refine z_goto cx 76 d_X10_feed_48 (by decide) ?_
        exact hb76 self23 hs23 b23_L1 b23_L2 b23_L3 b23_L4 b23_L5 b23_L6 b23_L2 M hF
      refine z_iload_n cx d_X10_feed_36 1 rfl ?_
      refine z_goto cx 76 d_X10_feed_37 (by decide) ?_
      exact hb76 self23 hs23 b23_L1 b23_L2 b23_L3 b23_L4 b23_L5 b23_L6 b23_L1 M hF
  unfold F_X10_feed at hF
  refine z_aload_n cx d_X10_feed_0 0 rfl ?_
  refine z_iconst (v := 0) cx d_X10_feed_1 ki_0 ?_
  refine z_putI cx hT fp_SunnyPansModel_82 d_X10_feed_2 ?_
  refine z_nmM hF (fun M4 hF => ?_)
  refine z_aload_n cx d_X10_feed_5 0 rfl ?_
  refine z_getI cx hT fg_SunnyPansModel_85 d_X10_feed_6 ?_
  refine z_bipush (v := 20) cx d_X10_feed_9 kb_20 ?_
  refine z_iadd cx d_X10_feed_11 ?_
  refine z_sipush (v := 600) cx d_X10_feed_12 ks_600 ?_
  refine z_icmp_le cx 20 d_X10_feed_15 (by decide) hF (fun hF => ?_) (fun hF => ?_)
  · refine z_iconst (v := 0) cx d_X10_feed_20 ki_0 ?_
    refine z_istore cx 6 [(6, .int (0 : Int32)), (0, .ref (ad 0)), (1, .int p0), (2, .int p1), (3, .int p2), (4, .int p3), (5, .int p4)] d_X10_feed_21 (by decide) rfl ?_
    exact z_lv [1, 2, 3, 4, 5, 6, 0] _ rfl (hL23 zFuel p0 p1 p2 p3 p4 (0 : Int32) M4 hF)
  refine z_iconst (v := -1) cx d_X10_feed_18 ki_m1 ?_
  exact z_iret cx hr rfl hF d_X10_feed_19
/-! SunnyPansModel.byteAt -/
theorem d_X10_byteAt_0 : decode cX10_byteAt 0 = .ok (.iload_n 1, 1) := by decide +kernel
theorem d_X10_byteAt_1 : decode cX10_byteAt 1 = .ok (.aload_n 0, 1) := by decide +kernel
theorem d_X10_byteAt_2 : decode cX10_byteAt 2 = .ok (.getfield 88, 3) := by decide +kernel
theorem d_X10_byteAt_5 : decode cX10_byteAt 5 = .ok (.if_icmp .lt 7, 3) := by decide +kernel
theorem d_X10_byteAt_8 : decode cX10_byteAt 8 = .ok (.iconst (-1), 1) := by decide +kernel
theorem d_X10_byteAt_9 : decode cX10_byteAt 9 = .ok (.goto 9, 3) := by decide +kernel
theorem d_X10_byteAt_12 : decode cX10_byteAt 12 = .ok (.aload_n 0, 1) := by decide +kernel
theorem d_X10_byteAt_13 : decode cX10_byteAt 13 = .ok (.getfield 13, 3) := by decide +kernel
theorem d_X10_byteAt_16 : decode cX10_byteAt 16 = .ok (.iload_n 1, 1) := by decide +kernel
theorem d_X10_byteAt_17 : decode cX10_byteAt 17 = .ok (.iaload, 1) := by decide +kernel
theorem d_X10_byteAt_18 : decode cX10_byteAt 18 = .ok (.ireturn, 1) := by decide +kernel
def F_X10_byteAt (M : zMem) (p0 : Int32) : Option (Int32 × zMem) :=
  if p0 < (M.1 0 2) then
    gin p0 600 <|
    some ((M.1 1 p0.toNatClampNeg), M)
  else
    some ((-1 : Int32), M)
def rm_X10_byteAt : Room := { frames := 2, cells := 0, slots := 0, locals := 80 }
set_option maxHeartbeats 4000000 in
set_option maxRecDepth 100000 in
theorem c_X10_byteAt (l : Launch) {G : zG} {ad : Nat → Nat} {n : Nat} (hA : zInj ad n) (M : zMem) (p0 : Int32) (hT : zT shM n 0 11) {r9 : Int32} {M9 : zMem} (hF : F_X10_byteAt M p0 = some (r9, M9)) : zM l yX10_byteAt cX10_byteAt 2 (some .int) rm_X10_byteAt G shM ad n M [.ref (ad 0), .int p0] (some (.int r9)) M9 := by
  refine zM_of hA (by decide +kernel) (lv := [(0, .ref (ad 0)), (1, .int p0)]) (Nat.le_of_ble_eq_true rfl) rfl (fun p e s m args below meth c A cx hr => ?_)
  unfold F_X10_byteAt at hF
  refine z_iload_n cx d_X10_byteAt_0 1 rfl ?_
  refine z_aload_n cx d_X10_byteAt_1 0 rfl ?_
  refine z_getI cx hT fg_SunnyPansModel_88 d_X10_byteAt_2 ?_
  refine z_icmp_lt cx 12 d_X10_byteAt_5 (by decide) hF (fun hF => ?_) (fun hF => ?_)
  · refine z_aload_n cx d_X10_byteAt_12 0 rfl ?_
    refine z_getR cx hT fg_SunnyPansModel_13 1 rfl d_X10_byteAt_13 ?_
    refine z_iload_n cx d_X10_byteAt_16 1 rfl ?_
    obtain ⟨hi1, hF⟩ := gin_inv hF
    refine z_iald cx (tfM_11_1 hT) za_17 hi1 p0.toNatClampNeg rfl d_X10_byteAt_17 ?_
    exact z_iret cx hr rfl hF d_X10_byteAt_18
  refine z_iconst (v := -1) cx d_X10_byteAt_8 ki_m1 ?_
  refine z_goto cx 18 d_X10_byteAt_9 (by decide) ?_
  exact z_iret cx hr rfl hF d_X10_byteAt_18
/-! SunnyPansModel.blanks -/
theorem d_X10_blanks_0 : decode cX10_blanks 0 = .ok (.aload_n 0, 1) := by decide +kernel
theorem d_X10_blanks_1 : decode cX10_blanks 1 = .ok (.aload_n 0, 1) := by decide +kernel
theorem d_X10_blanks_2 : decode cX10_blanks 2 = .ok (.getfield 91, 3) := by decide +kernel
theorem d_X10_blanks_5 : decode cX10_blanks 5 = .ok (.invokevirtual 94, 3) := by decide +kernel
theorem d_X10_blanks_8 : decode cX10_blanks 8 = .ok (.bipush 32, 2) := by decide +kernel
theorem d_X10_blanks_10 : decode cX10_blanks 10 = .ok (.if_icmp .ne 16, 3) := by decide +kernel
theorem d_X10_blanks_13 : decode cX10_blanks 13 = .ok (.aload_n 0, 1) := by decide +kernel
theorem d_X10_blanks_14 : decode cX10_blanks 14 = .ok (.dup, 1) := by decide +kernel
theorem d_X10_blanks_15 : decode cX10_blanks 15 = .ok (.getfield 91, 3) := by decide +kernel
theorem d_X10_blanks_18 : decode cX10_blanks 18 = .ok (.iconst 1, 1) := by decide +kernel
theorem d_X10_blanks_19 : decode cX10_blanks 19 = .ok (.iadd, 1) := by decide +kernel
theorem d_X10_blanks_20 : decode cX10_blanks 20 = .ok (.putfield 91, 3) := by decide +kernel
theorem d_X10_blanks_23 : decode cX10_blanks 23 = .ok (.goto (-23), 3) := by decide +kernel
theorem d_X10_blanks_26 : decode cX10_blanks 26 = .ok (.return_, 1) := by decide +kernel
def F_X10_blanks_0 (self0 : zMem → Option (zMem)) (M : zMem) : Option (zMem) :=
  zb (F_X10_byteAt M (M.1 0 4)) fun v2 M1 =>
  if v2 = (32 : Int32) then
    zl (zI M1 0 4 ((M1.1 0 4) + (1 : Int32))) fun M3 =>
    self0  M3
  else
    some M1
def F_X10_blanks (M : zMem)  : Option (zMem) :=
  itF (fun _ => none) (F_X10_blanks_0) zFuel  M
def rm_X10_blanks : Room := { frames := 3, cells := 0, slots := 0, locals := 101 }
set_option maxHeartbeats 4000000 in
set_option maxRecDepth 100000 in
theorem c_X10_blanks (l : Launch) {G : zG} {ad : Nat → Nat} {n : Nat} (hA : zInj ad n) (M : zMem)  (hT : zT shM n 0 11) {M9 : zMem} (hF : F_X10_blanks M  = some M9) : zM l yX10_blanks cX10_blanks 1 none rm_X10_blanks G shM ad n M [.ref (ad 0)] none M9 := by
  refine zM_of hA (by decide +kernel) (lv := [(0, .ref (ad 0))]) (Nat.le_of_ble_eq_true rfl) rfl (fun p e s m args below meth c A cx hr => ?_)
  have hL0 : ∀ (fuel : Nat), ∀ (M : zMem), itF (fun _ => none) (F_X10_blanks_0) fuel M = some M9 → zJ p l e rm_X10_blanks s m args below meth c G shM ad n A 1 (MQ below (zQ G shM ad n M9 none A) args s 0 0 A) 0 0 M 0 [(0, .ref (ad 0))] [] := by
    intro fuel
    induction fuel with
    | zero => intro M hF; cases hF
    | succ fuel hs0 =>
      intro M hF
      have hF : F_X10_blanks_0 (itF (fun _ => none) (F_X10_blanks_0) fuel) M = some M9 := hF
      generalize itF (fun _ => none) (F_X10_blanks_0) fuel = self0 at hs0 hF
      unfold F_X10_blanks_0 at hF
      refine z_aload_n cx d_X10_blanks_0 0 rfl ?_
      refine z_aload_n cx d_X10_blanks_1 0 rfl ?_
      refine z_getI cx hT fg_SunnyPansModel_91 d_X10_blanks_2 ?_
      obtain ⟨v2, M1, hc, hF⟩ := zb_inv hF
      refine z_callV cx (As := [.int (M.1 0 4)]) (rest := []) (c_X10_byteAt l cx.2.2.2.1.1 M (M.1 0 4) hT hc) hT zo_11 cv_SunnyPansModel_94 ⟨rfl, rfl, Nat.le_of_ble_eq_true rfl, Nat.le_of_ble_eq_true rfl⟩ rfl rfl ⟨Nat.zero_le _, Nat.zero_le _⟩ (Nat.le_of_ble_eq_true rfl) d_X10_blanks_5 ?_
      refine z_bipush (v := 32) cx d_X10_blanks_8 kb_32 ?_
      refine z_icmp_ne cx 26 d_X10_blanks_10 (by decide) hF (fun hF => ?_) (fun hF => ?_)
      · exact z_vret cx hr hF d_X10_blanks_26
      refine z_aload_n cx d_X10_blanks_13 0 rfl ?_
      refine z_dup cx d_X10_blanks_14 rfl ?_
      refine z_getI cx hT fg_SunnyPansModel_91 d_X10_blanks_15 ?_
      refine z_iconst (v := 1) cx d_X10_blanks_18 ki_1 ?_
      refine z_iadd cx d_X10_blanks_19 ?_
      refine z_putI cx hT fp_SunnyPansModel_91 d_X10_blanks_20 ?_
      refine z_nmM hF (fun M3 hF => ?_)
      refine z_goto cx 0 d_X10_blanks_23 (by decide) ?_
      exact hs0 M3 hF
  unfold F_X10_blanks at hF
  exact hL0 zFuel M hF
/-! SunnyPansModel.wrong -/
theorem d_X10_wrong_0 : decode cX10_wrong 0 = .ok (.aload_n 0, 1) := by decide +kernel
theorem d_X10_wrong_1 : decode cX10_wrong 1 = .ok (.getfield 98, 3) := by decide +kernel
theorem d_X10_wrong_4 : decode cX10_wrong 4 = .ok (.ifCond .ne 13, 3) := by decide +kernel
theorem d_X10_wrong_7 : decode cX10_wrong 7 = .ok (.aload_n 0, 1) := by decide +kernel
theorem d_X10_wrong_8 : decode cX10_wrong 8 = .ok (.iload_n 1, 1) := by decide +kernel
theorem d_X10_wrong_9 : decode cX10_wrong 9 = .ok (.putfield 98, 3) := by decide +kernel
theorem d_X10_wrong_12 : decode cX10_wrong 12 = .ok (.aload_n 0, 1) := by decide +kernel
theorem d_X10_wrong_13 : decode cX10_wrong 13 = .ok (.iload_n 2, 1) := by decide +kernel
theorem d_X10_wrong_14 : decode cX10_wrong 14 = .ok (.putfield 101, 3) := by decide +kernel
theorem d_X10_wrong_17 : decode cX10_wrong 17 = .ok (.return_, 1) := by decide +kernel
def F_X10_wrong (M : zMem) (p0 : Int32) (p1 : Int32) : Option (zMem) :=
  if (M.1 0 5) = 0 then
    zl (zI M 0 5 p0) fun M1 =>
    zl (zI M1 0 6 p1) fun M2 =>
    some M2
  else
    some M
def rm_X10_wrong : Room := { frames := 2, cells := 0, slots := 0, locals := 80 }
set_option maxHeartbeats 4000000 in
set_option maxRecDepth 100000 in
theorem c_X10_wrong (l : Launch) {G : zG} {ad : Nat → Nat} {n : Nat} (hA : zInj ad n) (M : zMem) (p0 : Int32) (p1 : Int32) (hT : zT shM n 0 11) {M9 : zMem} (hF : F_X10_wrong M p0 p1 = some M9) : zM l yX10_wrong cX10_wrong 3 none rm_X10_wrong G shM ad n M [.ref (ad 0), .int p0, .int p1] none M9 := by
  refine zM_of hA (by decide +kernel) (lv := [(0, .ref (ad 0)), (1, .int p0), (2, .int p1)]) (Nat.le_of_ble_eq_true rfl) rfl (fun p e s m args below meth c A cx hr => ?_)
  unfold F_X10_wrong at hF
  refine z_aload_n cx d_X10_wrong_0 0 rfl ?_
  refine z_getI cx hT fg_SunnyPansModel_98 d_X10_wrong_1 ?_
  refine z_if_ne cx 17 d_X10_wrong_4 (by decide) hF (fun hF => ?_) (fun hF => ?_)
  · exact z_vret cx hr hF d_X10_wrong_17
  refine z_aload_n cx d_X10_wrong_7 0 rfl ?_
  refine z_iload_n cx d_X10_wrong_8 1 rfl ?_
  refine z_putI cx hT fp_SunnyPansModel_98 d_X10_wrong_9 ?_
  refine z_nmM hF (fun M1 hF => ?_)
  refine z_aload_n cx d_X10_wrong_12 0 rfl ?_
  refine z_iload_n cx d_X10_wrong_13 2 rfl ?_
  refine z_putI cx hT fp_SunnyPansModel_101 d_X10_wrong_14 ?_
  refine z_nmM hF (fun M2 hF => ?_)
  exact z_vret cx hr hF d_X10_wrong_17
/-! SunnyPansModel.isDigit -/
theorem d_X10_isDigit_0 : decode cX10_isDigit 0 = .ok (.iload_n 0, 1) := by decide +kernel
theorem d_X10_isDigit_1 : decode cX10_isDigit 1 = .ok (.bipush 48, 2) := by decide +kernel
theorem d_X10_isDigit_3 : decode cX10_isDigit 3 = .ok (.if_icmp .lt 13, 3) := by decide +kernel
theorem d_X10_isDigit_6 : decode cX10_isDigit 6 = .ok (.iload_n 0, 1) := by decide +kernel
theorem d_X10_isDigit_7 : decode cX10_isDigit 7 = .ok (.bipush 57, 2) := by decide +kernel
theorem d_X10_isDigit_9 : decode cX10_isDigit 9 = .ok (.if_icmp .gt 7, 3) := by decide +kernel
theorem d_X10_isDigit_12 : decode cX10_isDigit 12 = .ok (.iconst 1, 1) := by decide +kernel
theorem d_X10_isDigit_13 : decode cX10_isDigit 13 = .ok (.goto 4, 3) := by decide +kernel
theorem d_X10_isDigit_16 : decode cX10_isDigit 16 = .ok (.iconst 0, 1) := by decide +kernel
theorem d_X10_isDigit_17 : decode cX10_isDigit 17 = .ok (.ireturn, 1) := by decide +kernel
def F_X10_isDigit (M : zMem) (p0 : Int32) : Option (Int32 × zMem) :=
  if p0 < (48 : Int32) then
    some ((0 : Int32), M)
  else
    if (57 : Int32) < p0 then
      some ((0 : Int32), M)
    else
      some ((1 : Int32), M)
def rm_X10_isDigit : Room := { frames := 2, cells := 0, slots := 0, locals := 80 }
set_option maxHeartbeats 4000000 in
set_option maxRecDepth 100000 in
theorem c_X10_isDigit (l : Launch) {G : zG} {ad : Nat → Nat} {n : Nat} (hA : zInj ad n) (M : zMem) (p0 : Int32) {r9 : Int32} {M9 : zMem} (hF : F_X10_isDigit M p0 = some (r9, M9)) : zM l yX10_isDigit cX10_isDigit 1 (some .boolean) rm_X10_isDigit G shM ad n M [.int p0] (some (.int r9)) M9 := by
  refine zM_of hA (by decide +kernel) (lv := [(0, .int p0)]) (Nat.le_of_ble_eq_true rfl) rfl (fun p e s m args below meth c A cx hr => ?_)
  unfold F_X10_isDigit at hF
  refine z_iload_n cx d_X10_isDigit_0 0 rfl ?_
  refine z_bipush (v := 48) cx d_X10_isDigit_1 kb_48 ?_
  refine z_icmp_lt cx 16 d_X10_isDigit_3 (by decide) hF (fun hF => ?_) (fun hF => ?_)
  · refine z_iconst (v := 0) cx d_X10_isDigit_16 ki_0 ?_
    exact z_iret cx hr nb0 hF d_X10_isDigit_17
  refine z_iload_n cx d_X10_isDigit_6 0 rfl ?_
  refine z_bipush (v := 57) cx d_X10_isDigit_7 kb_57 ?_
  refine z_icmp_gt cx 16 d_X10_isDigit_9 (by decide) hF (fun hF => ?_) (fun hF => ?_)
  · refine z_iconst (v := 0) cx d_X10_isDigit_16 ki_0 ?_
    exact z_iret cx hr nb0 hF d_X10_isDigit_17
  refine z_iconst (v := 1) cx d_X10_isDigit_12 ki_1 ?_
  refine z_goto cx 17 d_X10_isDigit_13 (by decide) ?_
  exact z_iret cx hr nb1 hF d_X10_isDigit_17
/-! SunnyPansModel.isSmall -/
theorem d_X10_isSmall_0 : decode cX10_isSmall 0 = .ok (.iload_n 0, 1) := by decide +kernel
theorem d_X10_isSmall_1 : decode cX10_isSmall 1 = .ok (.bipush 97, 2) := by decide +kernel
theorem d_X10_isSmall_3 : decode cX10_isSmall 3 = .ok (.if_icmp .lt 13, 3) := by decide +kernel
theorem d_X10_isSmall_6 : decode cX10_isSmall 6 = .ok (.iload_n 0, 1) := by decide +kernel
theorem d_X10_isSmall_7 : decode cX10_isSmall 7 = .ok (.bipush 122, 2) := by decide +kernel
theorem d_X10_isSmall_9 : decode cX10_isSmall 9 = .ok (.if_icmp .gt 7, 3) := by decide +kernel
theorem d_X10_isSmall_12 : decode cX10_isSmall 12 = .ok (.iconst 1, 1) := by decide +kernel
theorem d_X10_isSmall_13 : decode cX10_isSmall 13 = .ok (.goto 4, 3) := by decide +kernel
theorem d_X10_isSmall_16 : decode cX10_isSmall 16 = .ok (.iconst 0, 1) := by decide +kernel
theorem d_X10_isSmall_17 : decode cX10_isSmall 17 = .ok (.ireturn, 1) := by decide +kernel
def F_X10_isSmall (M : zMem) (p0 : Int32) : Option (Int32 × zMem) :=
  if p0 < (97 : Int32) then
    some ((0 : Int32), M)
  else
    if (122 : Int32) < p0 then
      some ((0 : Int32), M)
    else
      some ((1 : Int32), M)
def rm_X10_isSmall : Room := { frames := 2, cells := 0, slots := 0, locals := 80 }
set_option maxHeartbeats 4000000 in
set_option maxRecDepth 100000 in
theorem c_X10_isSmall (l : Launch) {G : zG} {ad : Nat → Nat} {n : Nat} (hA : zInj ad n) (M : zMem) (p0 : Int32) {r9 : Int32} {M9 : zMem} (hF : F_X10_isSmall M p0 = some (r9, M9)) : zM l yX10_isSmall cX10_isSmall 1 (some .boolean) rm_X10_isSmall G shM ad n M [.int p0] (some (.int r9)) M9 := by
  refine zM_of hA (by decide +kernel) (lv := [(0, .int p0)]) (Nat.le_of_ble_eq_true rfl) rfl (fun p e s m args below meth c A cx hr => ?_)
  unfold F_X10_isSmall at hF
  refine z_iload_n cx d_X10_isSmall_0 0 rfl ?_
  refine z_bipush (v := 97) cx d_X10_isSmall_1 kb_97 ?_
  refine z_icmp_lt cx 16 d_X10_isSmall_3 (by decide) hF (fun hF => ?_) (fun hF => ?_)
  · refine z_iconst (v := 0) cx d_X10_isSmall_16 ki_0 ?_
    exact z_iret cx hr nb0 hF d_X10_isSmall_17
  refine z_iload_n cx d_X10_isSmall_6 0 rfl ?_
  refine z_bipush (v := 122) cx d_X10_isSmall_7 kb_122 ?_
  refine z_icmp_gt cx 16 d_X10_isSmall_9 (by decide) hF (fun hF => ?_) (fun hF => ?_)
  · refine z_iconst (v := 0) cx d_X10_isSmall_16 ki_0 ?_
    exact z_iret cx hr nb0 hF d_X10_isSmall_17
  refine z_iconst (v := 1) cx d_X10_isSmall_12 ki_1 ?_
  refine z_goto cx 17 d_X10_isSmall_13 (by decide) ?_
  exact z_iret cx hr nb1 hF d_X10_isSmall_17
/-! SunnyPansModel.number -/
theorem d_X10_number_0 : decode cX10_number 0 = .ok (.aload_n 0, 1) := by decide +kernel
theorem d_X10_number_1 : decode cX10_number 1 = .ok (.getfield 98, 3) := by decide +kernel
theorem d_X10_number_4 : decode cX10_number 4 = .ok (.ifCond .eq 5, 3) := by decide +kernel
theorem d_X10_number_7 : decode cX10_number 7 = .ok (.iconst 0, 1) := by decide +kernel
theorem d_X10_number_8 : decode cX10_number 8 = .ok (.ireturn, 1) := by decide +kernel
theorem d_X10_number_9 : decode cX10_number 9 = .ok (.aload_n 0, 1) := by decide +kernel
theorem d_X10_number_10 : decode cX10_number 10 = .ok (.invokevirtual 104, 3) := by decide +kernel
theorem d_X10_number_13 : decode cX10_number 13 = .ok (.aload_n 0, 1) := by decide +kernel
theorem d_X10_number_14 : decode cX10_number 14 = .ok (.getfield 91, 3) := by decide +kernel
theorem d_X10_number_17 : decode cX10_number 17 = .ok (.istore_n 3, 1) := by decide +kernel
theorem d_X10_number_18 : decode cX10_number 18 = .ok (.iconst 0, 1) := by decide +kernel
theorem d_X10_number_19 : decode cX10_number 19 = .ok (.istore 4, 2) := by decide +kernel
theorem d_X10_number_21 : decode cX10_number 21 = .ok (.aload_n 0, 1) := by decide +kernel
theorem d_X10_number_22 : decode cX10_number 22 = .ok (.aload_n 0, 1) := by decide +kernel
theorem d_X10_number_23 : decode cX10_number 23 = .ok (.getfield 91, 3) := by decide +kernel
theorem d_X10_number_26 : decode cX10_number 26 = .ok (.invokevirtual 94, 3) := by decide +kernel
theorem d_X10_number_29 : decode cX10_number 29 = .ok (.invokestatic 107, 3) := by decide +kernel
theorem d_X10_number_32 : decode cX10_number 32 = .ok (.ifCond .ne 12, 3) := by decide +kernel
theorem d_X10_number_35 : decode cX10_number 35 = .ok (.aload_n 0, 1) := by decide +kernel
theorem d_X10_number_36 : decode cX10_number 36 = .ok (.iconst 1, 1) := by decide +kernel
theorem d_X10_number_37 : decode cX10_number 37 = .ok (.aload_n 0, 1) := by decide +kernel
theorem d_X10_number_38 : decode cX10_number 38 = .ok (.getfield 91, 3) := by decide +kernel
theorem d_X10_number_41 : decode cX10_number 41 = .ok (.invokevirtual 111, 3) := by decide +kernel
theorem d_X10_number_44 : decode cX10_number 44 = .ok (.aload_n 0, 1) := by decide +kernel
theorem d_X10_number_45 : decode cX10_number 45 = .ok (.aload_n 0, 1) := by decide +kernel
theorem d_X10_number_46 : decode cX10_number 46 = .ok (.getfield 91, 3) := by decide +kernel
theorem d_X10_number_49 : decode cX10_number 49 = .ok (.invokevirtual 94, 3) := by decide +kernel
theorem d_X10_number_52 : decode cX10_number 52 = .ok (.invokestatic 107, 3) := by decide +kernel
theorem d_X10_number_55 : decode cX10_number 55 = .ok (.ifCond .eq 51, 3) := by decide +kernel
theorem d_X10_number_58 : decode cX10_number 58 = .ok (.bipush 10, 2) := by decide +kernel
theorem d_X10_number_60 : decode cX10_number 60 = .ok (.iload 4, 2) := by decide +kernel
theorem d_X10_number_62 : decode cX10_number 62 = .ok (.imul, 1) := by decide +kernel
theorem d_X10_number_63 : decode cX10_number 63 = .ok (.aload_n 0, 1) := by decide +kernel
theorem d_X10_number_64 : decode cX10_number 64 = .ok (.aload_n 0, 1) := by decide +kernel
theorem d_X10_number_65 : decode cX10_number 65 = .ok (.getfield 91, 3) := by decide +kernel
theorem d_X10_number_68 : decode cX10_number 68 = .ok (.invokevirtual 94, 3) := by decide +kernel
theorem d_X10_number_71 : decode cX10_number 71 = .ok (.iadd, 1) := by decide +kernel
theorem d_X10_number_72 : decode cX10_number 72 = .ok (.bipush 48, 2) := by decide +kernel
theorem d_X10_number_74 : decode cX10_number 74 = .ok (.isub, 1) := by decide +kernel
theorem d_X10_number_75 : decode cX10_number 75 = .ok (.istore 4, 2) := by decide +kernel
theorem d_X10_number_77 : decode cX10_number 77 = .ok (.iload 4, 2) := by decide +kernel
theorem d_X10_number_79 : decode cX10_number 79 = .ok (.ldc 115, 2) := by decide +kernel
theorem d_X10_number_81 : decode cX10_number 81 = .ok (.if_icmp .le 8, 3) := by decide +kernel
theorem d_X10_number_84 : decode cX10_number 84 = .ok (.ldc 115, 2) := by decide +kernel
theorem d_X10_number_86 : decode cX10_number 86 = .ok (.goto 5, 3) := by decide +kernel
theorem d_X10_number_89 : decode cX10_number 89 = .ok (.iload 4, 2) := by decide +kernel
theorem d_X10_number_91 : decode cX10_number 91 = .ok (.istore 4, 2) := by decide +kernel
theorem d_X10_number_93 : decode cX10_number 93 = .ok (.aload_n 0, 1) := by decide +kernel
theorem d_X10_number_94 : decode cX10_number 94 = .ok (.dup, 1) := by decide +kernel
theorem d_X10_number_95 : decode cX10_number 95 = .ok (.getfield 91, 3) := by decide +kernel
theorem d_X10_number_98 : decode cX10_number 98 = .ok (.iconst 1, 1) := by decide +kernel
theorem d_X10_number_99 : decode cX10_number 99 = .ok (.iadd, 1) := by decide +kernel
theorem d_X10_number_100 : decode cX10_number 100 = .ok (.putfield 91, 3) := by decide +kernel
theorem d_X10_number_103 : decode cX10_number 103 = .ok (.goto (-59), 3) := by decide +kernel
theorem d_X10_number_106 : decode cX10_number 106 = .ok (.iload 4, 2) := by decide +kernel
theorem d_X10_number_108 : decode cX10_number 108 = .ok (.iload_n 1, 1) := by decide +kernel
theorem d_X10_number_109 : decode cX10_number 109 = .ok (.iload_n 2, 1) := by decide +kernel
theorem d_X10_number_110 : decode cX10_number 110 = .ok (.invokestatic 116, 3) := by decide +kernel
theorem d_X10_number_113 : decode cX10_number 113 = .ok (.ifCond .ne 9, 3) := by decide +kernel
theorem d_X10_number_116 : decode cX10_number 116 = .ok (.aload_n 0, 1) := by decide +kernel
theorem d_X10_number_117 : decode cX10_number 117 = .ok (.iconst 2, 1) := by decide +kernel
theorem d_X10_number_118 : decode cX10_number 118 = .ok (.iload_n 3, 1) := by decide +kernel
theorem d_X10_number_119 : decode cX10_number 119 = .ok (.invokevirtual 111, 3) := by decide +kernel
theorem d_X10_number_122 : decode cX10_number 122 = .ok (.aload_n 0, 1) := by decide +kernel
theorem d_X10_number_123 : decode cX10_number 123 = .ok (.getfield 98, 3) := by decide +kernel
theorem d_X10_number_126 : decode cX10_number 126 = .ok (.ifCond .ne 8, 3) := by decide +kernel
theorem d_X10_number_129 : decode cX10_number 129 = .ok (.iload 4, 2) := by decide +kernel
theorem d_X10_number_131 : decode cX10_number 131 = .ok (.goto 4, 3) := by decide +kernel
theorem d_X10_number_134 : decode cX10_number 134 = .ok (.iconst 0, 1) := by decide +kernel
theorem d_X10_number_135 : decode cX10_number 135 = .ok (.ireturn, 1) := by decide +kernel
def F_X10_number_122 (p0 : Int32) (p1 : Int32) (b122_L4 : Int32) (M : zMem) : Option (Int32 × zMem) :=
  if (M.1 0 5) = 0 then
    some (b122_L4, M)
  else
    some ((0 : Int32), M)
def F_X10_number_91 (p0 : Int32) (p1 : Int32) (self44 : Int32 → Int32 → Int32 → Int32 → zMem → Option (Int32 × zMem)) (b91_L1 : Int32) (b91_L2 : Int32) (b91_L3 : Int32) (b91_S0 : Int32) (M : zMem) : Option (Int32 × zMem) :=
  zl (zI M 0 4 ((M.1 0 4) + (1 : Int32))) fun M1 =>
  self44 b91_L1 b91_L2 b91_L3 b91_S0 M1
def F_X10_number_44 (p0 : Int32) (p1 : Int32) (self44 : Int32 → Int32 → Int32 → Int32 → zMem → Option (Int32 × zMem)) (b44_L1 : Int32) (b44_L2 : Int32) (b44_L3 : Int32) (b44_L4 : Int32) (M : zMem) : Option (Int32 × zMem) :=
  zb (F_X10_byteAt M (M.1 0 4)) fun v3 M2 =>
  zb (F_X10_isDigit M2 v3) fun v5 M4 =>
  if v5 = 0 then
    zb (F_X10_in M4 b44_L4 b44_L1 b44_L2) fun v7 M6 =>
    if v7 = 0 then
      zbv (F_X10_wrong M6 (2 : Int32) b44_L3) fun M8 =>
      F_X10_number_122 p0 p1 b44_L4 M8
    else
      F_X10_number_122 p0 p1 b44_L4 M6
  else
    zb (F_X10_byteAt M4 (M4.1 0 4)) fun v10 M9 =>
    zl ((((10 : Int32) * b44_L4) + v10) - (48 : Int32)) fun v11 =>
    if v11 ≤ (100000 : Int32) then
      F_X10_number_91 p0 p1 self44 b44_L1 b44_L2 b44_L3 v11 M9
    else
      F_X10_number_91 p0 p1 self44 b44_L1 b44_L2 b44_L3 (100000 : Int32) M9
def F_X10_number (M : zMem) (p0 : Int32) (p1 : Int32) : Option (Int32 × zMem) :=
  if (M.1 0 5) = 0 then
    zbv (F_X10_blanks M) fun M12 =>
    zl (M12.1 0 4) fun v13 =>
    zb (F_X10_byteAt M12 (M12.1 0 4)) fun v15 M14 =>
    zb (F_X10_isDigit M14 v15) fun v17 M16 =>
    if v17 = 0 then
      zbv (F_X10_wrong M16 (1 : Int32) (M16.1 0 4)) fun M18 =>
      itF (fun _ _ _ _ _ => none) (F_X10_number_44 p0 p1) zFuel p0 p1 v13 (0 : Int32) M18
    else
      itF (fun _ _ _ _ _ => none) (F_X10_number_44 p0 p1) zFuel p0 p1 v13 (0 : Int32) M16
  else
    some ((0 : Int32), M)
def rm_X10_number : Room := { frames := 4, cells := 0, slots := 0, locals := 121 }
set_option maxHeartbeats 4000000 in
set_option maxRecDepth 100000 in
theorem c_X10_number (l : Launch) {G : zG} {ad : Nat → Nat} {n : Nat} (hA : zInj ad n) (M : zMem) (p0 : Int32) (p1 : Int32) (hT : zT shM n 0 11) {r9 : Int32} {M9 : zMem} (hF : F_X10_number M p0 p1 = some (r9, M9)) : zM l yX10_number cX10_number 5 (some .int) rm_X10_number G shM ad n M [.ref (ad 0), .int p0, .int p1] (some (.int r9)) M9 := by
  refine zM_of hA (by decide +kernel) (lv := [(0, .ref (ad 0)), (1, .int p0), (2, .int p1)]) (Nat.le_of_ble_eq_true rfl) rfl (fun p e s m args below meth c A cx hr => ?_)
  have hb122 : ∀ (b122_L4 : Int32) (M : zMem), F_X10_number_122 p0 p1 b122_L4 M = some (r9, M9) → zJ p l e rm_X10_number s m args below meth c G shM ad n A 5 (MQ below (zQ G shM ad n M9 (some (.int r9)) A) args s 0 0 A) 0 0 M 122 [(0, .ref (ad 0)), (4, .int b122_L4)] [] := by
    intro b122_L4 M hF
    unfold F_X10_number_122 at hF
    refine z_aload_n cx d_X10_number_122 0 rfl ?_
    refine z_getI cx hT fg_SunnyPansModel_98 d_X10_number_123 ?_
    refine z_if_ne cx 134 d_X10_number_126 (by decide) hF (fun hF => ?_) (fun hF => ?_)
    · refine z_iconst (v := 0) cx d_X10_number_134 ki_0 ?_
      exact z_iret cx hr rfl hF d_X10_number_135
    refine z_iload cx d_X10_number_129 1 rfl ?_
    refine z_goto cx 135 d_X10_number_131 (by decide) ?_
    exact z_iret cx hr rfl hF d_X10_number_135
  have hb91 : ∀ (self44 : Int32 → Int32 → Int32 → Int32 → zMem → Option (Int32 × zMem)) (hs44 : ∀ (b44_L1 : Int32) (b44_L2 : Int32) (b44_L3 : Int32) (b44_L4 : Int32) (M : zMem), self44 b44_L1 b44_L2 b44_L3 b44_L4 M = some (r9, M9) → zJ p l e rm_X10_number s m args below meth c G shM ad n A 5 (MQ below (zQ G shM ad n M9 (some (.int r9)) A) args s 0 0 A) 0 0 M 44 [(0, .ref (ad 0)), (1, .int b44_L1), (2, .int b44_L2), (3, .int b44_L3), (4, .int b44_L4)] []), ∀ (b91_L1 : Int32) (b91_L2 : Int32) (b91_L3 : Int32) (b91_S0 : Int32) (M : zMem), F_X10_number_91 p0 p1 self44 b91_L1 b91_L2 b91_L3 b91_S0 M = some (r9, M9) → zJ p l e rm_X10_number s m args below meth c G shM ad n A 5 (MQ below (zQ G shM ad n M9 (some (.int r9)) A) args s 0 0 A) 0 0 M 91 [(0, .ref (ad 0)), (1, .int b91_L1), (2, .int b91_L2), (3, .int b91_L3)] [.int b91_S0] := by
    intro self44 hs44 b91_L1 b91_L2 b91_L3 b91_S0 M hF
    unfold F_X10_number_91 at hF
    refine z_istore cx 4 [(4, .int b91_S0), (0, .ref (ad 0)), (1, .int b91_L1), (2, .int b91_L2), (3, .int b91_L3)] d_X10_number_91 (by decide) rfl ?_
    refine z_aload_n cx d_X10_number_93 1 rfl ?_
    refine z_dup cx d_X10_number_94 rfl ?_
    refine z_getI cx hT fg_SunnyPansModel_91 d_X10_number_95 ?_
    refine z_iconst (v := 1) cx d_X10_number_98 ki_1 ?_
    refine z_iadd cx d_X10_number_99 ?_
    refine z_putI cx hT fp_SunnyPansModel_91 d_X10_number_100 ?_
    refine z_nmM hF (fun M1 hF => ?_)
    refine z_goto cx 44 d_X10_number_103 (by decide) ?_
    exact z_lv [1, 2, 3, 4, 0] _ rfl (hs44 b91_L1 b91_L2 b91_L3 b91_S0 M1 hF)
  have hL44 : ∀ (fuel : Nat), ∀ (b44_L1 : Int32) (b44_L2 : Int32) (b44_L3 : Int32) (b44_L4 : Int32) (M : zMem), itF (fun _ _ _ _ _ => none) (F_X10_number_44 p0 p1) fuel b44_L1 b44_L2 b44_L3 b44_L4 M = some (r9, M9) → zJ p l e rm_X10_number s m args below meth c G shM ad n A 5 (MQ below (zQ G shM ad n M9 (some (.int r9)) A) args s 0 0 A) 0 0 M 44 [(0, .ref (ad 0)), (1, .int b44_L1), (2, .int b44_L2), (3, .int b44_L3), (4, .int b44_L4)] [] := by
    intro fuel
    induction fuel with
    | zero => intro b44_L1 b44_L2 b44_L3 b44_L4 M hF; cases hF
    | succ fuel hs44 =>
      intro b44_L1 b44_L2 b44_L3 b44_L4 M hF
      have hF : F_X10_number_44 p0 p1 (itF (fun _ _ _ _ _ => none) (F_X10_number_44 p0 p1) fuel) b44_L1 b44_L2 b44_L3 b44_L4 M = some (r9, M9) := hF
      generalize itF (fun _ _ _ _ _ => none) (F_X10_number_44 p0 p1) fuel = self44 at hs44 hF
      unfold F_X10_number_44 at hF
      refine z_aload_n cx d_X10_number_44 0 rfl ?_
      refine z_aload_n cx d_X10_number_45 0 rfl ?_
      refine z_getI cx hT fg_SunnyPansModel_91 d_X10_number_46 ?_
      obtain ⟨v3, M2, hc, hF⟩ := zb_inv hF
      refine z_callV cx (As := [.int (M.1 0 4)]) (rest := []) (c_X10_byteAt l cx.2.2.2.1.1 M (M.1 0 4) hT hc) hT zo_11 cv_SunnyPansModel_94 ⟨rfl, rfl, Nat.le_of_ble_eq_true rfl, Nat.le_of_ble_eq_true rfl⟩ rfl rfl ⟨Nat.zero_le _, Nat.zero_le _⟩ (Nat.le_of_ble_eq_true rfl) d_X10_number_49 ?_
      obtain ⟨v5, M4, hc, hF⟩ := zb_inv hF
      refine z_callS cx (As := [.int v3]) (rest := []) (c_X10_isDigit l cx.2.2.2.1.1 M2 v3  hc) cs_SunnyPansModel_107 ⟨rfl, rfl, Nat.le_of_ble_eq_true rfl, Nat.le_of_ble_eq_true rfl⟩ rfl rfl ⟨Nat.zero_le _, Nat.zero_le _⟩ (Nat.le_of_ble_eq_true rfl) d_X10_number_52 ?_
      refine z_if_eq cx 106 d_X10_number_55 (by decide) hF (fun hF => ?_) (fun hF => ?_)
      · refine z_iload cx d_X10_number_106 4 rfl ?_
        refine z_iload_n cx d_X10_number_108 1 rfl ?_
        refine z_iload_n cx d_X10_number_109 2 rfl ?_
        obtain ⟨v7, M6, hc, hF⟩ := zb_inv hF
        refine z_callS cx (As := [.int b44_L4, .int b44_L1, .int b44_L2]) (rest := []) (c_X10_in l cx.2.2.2.1.1 M4 b44_L4 b44_L1 b44_L2  hc) cs_SunnyPansModel_116 ⟨rfl, rfl, Nat.le_of_ble_eq_true rfl, Nat.le_of_ble_eq_true rfl⟩ rfl rfl ⟨Nat.zero_le _, Nat.zero_le _⟩ (Nat.le_of_ble_eq_true rfl) d_X10_number_110 ?_
        refine z_if_ne cx 122 d_X10_number_113 (by decide) hF (fun hF => ?_) (fun hF => ?_)
        · exact z_lv [0, 4] _ rfl (hb122 b44_L4 M6 hF)
        refine z_aload_n cx d_X10_number_116 0 rfl ?_
        refine z_iconst (v := 2) cx d_X10_number_117 ki_2 ?_
        refine z_iload_n cx d_X10_number_118 3 rfl ?_
        obtain ⟨M8, hc, hF⟩ := zbv_inv hF
        refine z_callV cx (As := [.int (2 : Int32), .int b44_L3]) (rest := []) (c_X10_wrong l cx.2.2.2.1.1 M6 (2 : Int32) b44_L3 hT hc) hT zo_11 cv_SunnyPansModel_111 ⟨rfl, rfl, Nat.le_of_ble_eq_true rfl, Nat.le_of_ble_eq_true rfl⟩ rfl rfl ⟨Nat.zero_le _, Nat.zero_le _⟩ (Nat.le_of_ble_eq_true rfl) d_X10_number_119 ?_
        exact z_lv [0, 4] _ rfl (hb122 b44_L4 M8 hF)
      refine z_bipush (v := 10) cx d_X10_number_58 kb_10 ?_
      refine z_iload cx d_X10_number_60 4 rfl ?_
      refine z_imul cx d_X10_number_62 ?_
      refine z_aload_n cx d_X10_number_63 0 rfl ?_
      refine z_aload_n cx d_X10_number_64 0 rfl ?_
      refine z_getI cx hT fg_SunnyPansModel_91 d_X10_number_65 ?_
      obtain ⟨v10, M9, hc, hF⟩ := zb_inv hF
      refine z_callV cx (As := [.int (M4.1 0 4)]) (rest := [.int ((10 : Int32) * b44_L4)]) (c_X10_byteAt l cx.2.2.2.1.1 M4 (M4.1 0 4) hT hc) hT zo_11 cv_SunnyPansModel_94 ⟨rfl, rfl, Nat.le_of_ble_eq_true rfl, Nat.le_of_ble_eq_true rfl⟩ rfl rfl ⟨Nat.zero_le _, Nat.zero_le _⟩ (Nat.le_of_ble_eq_true rfl) d_X10_number_68 ?_
      refine z_iadd cx d_X10_number_71 ?_
      refine z_bipush (v := 48) cx d_X10_number_72 kb_48 ?_
      refine z_isub cx d_X10_number_74 ?_
      refine z_nm hF (fun v11 hF => ?_)
      refine z_istore cx 4 [(4, .int v11), (0, .ref (ad 0)), (1, .int b44_L1), (2, .int b44_L2), (3, .int b44_L3)] d_X10_number_75 (by decide) rfl ?_
      refine z_iload cx d_X10_number_77 0 rfl ?_
      refine z_ldc cx wd_1583 d_X10_number_79 ?_
      refine z_icmp_le cx 89 d_X10_number_81 (by decide) hF (fun hF => ?_) (fun hF => ?_)
      · refine z_iload cx d_X10_number_89 0 rfl ?_
        exact z_lv [1, 2, 3, 4] _ rfl (hb91 self44 hs44 b44_L1 b44_L2 b44_L3 v11 M9 hF)
      refine z_ldc cx wd_1583 d_X10_number_84 ?_
      refine z_goto cx 91 d_X10_number_86 (by decide) ?_
      exact z_lv [1, 2, 3, 4] _ rfl (hb91 self44 hs44 b44_L1 b44_L2 b44_L3 (100000 : Int32) M9 hF)
  unfold F_X10_number at hF
  refine z_aload_n cx d_X10_number_0 0 rfl ?_
  refine z_getI cx hT fg_SunnyPansModel_98 d_X10_number_1 ?_
  refine z_if_eq cx 9 d_X10_number_4 (by decide) hF (fun hF => ?_) (fun hF => ?_)
  · refine z_aload_n cx d_X10_number_9 0 rfl ?_
    obtain ⟨M12, hc, hF⟩ := zbv_inv hF
    refine z_callV cx (As := []) (rest := []) (c_X10_blanks l cx.2.2.2.1.1 M hT hc) hT zo_11 cv_SunnyPansModel_104 ⟨rfl, rfl, Nat.le_of_ble_eq_true rfl, Nat.le_of_ble_eq_true rfl⟩ rfl rfl ⟨Nat.zero_le _, Nat.zero_le _⟩ (Nat.le_of_ble_eq_true rfl) d_X10_number_10 ?_
    refine z_aload_n cx d_X10_number_13 0 rfl ?_
    refine z_getI cx hT fg_SunnyPansModel_91 d_X10_number_14 ?_
    refine z_nm hF (fun v13 hF => ?_)
    refine z_istore_n cx 3 [(3, .int v13), (0, .ref (ad 0)), (1, .int p0), (2, .int p1)] d_X10_number_17 rfl (by decide) rfl ?_
    refine z_iconst (v := 0) cx d_X10_number_18 ki_0 ?_
    refine z_istore cx 4 [(4, .int (0 : Int32)), (3, .int v13), (0, .ref (ad 0)), (1, .int p0), (2, .int p1)] d_X10_number_19 (by decide) rfl ?_
    refine z_aload_n cx d_X10_number_21 2 rfl ?_
    refine z_aload_n cx d_X10_number_22 2 rfl ?_
    refine z_getI cx hT fg_SunnyPansModel_91 d_X10_number_23 ?_
    obtain ⟨v15, M14, hc, hF⟩ := zb_inv hF
    refine z_callV cx (As := [.int (M12.1 0 4)]) (rest := []) (c_X10_byteAt l cx.2.2.2.1.1 M12 (M12.1 0 4) hT hc) hT zo_11 cv_SunnyPansModel_94 ⟨rfl, rfl, Nat.le_of_ble_eq_true rfl, Nat.le_of_ble_eq_true rfl⟩ rfl rfl ⟨Nat.zero_le _, Nat.zero_le _⟩ (Nat.le_of_ble_eq_true rfl) d_X10_number_26 ?_
    obtain ⟨v17, M16, hc, hF⟩ := zb_inv hF
    refine z_callS cx (As := [.int v15]) (rest := []) (c_X10_isDigit l cx.2.2.2.1.1 M14 v15  hc) cs_SunnyPansModel_107 ⟨rfl, rfl, Nat.le_of_ble_eq_true rfl, Nat.le_of_ble_eq_true rfl⟩ rfl rfl ⟨Nat.zero_le _, Nat.zero_le _⟩ (Nat.le_of_ble_eq_true rfl) d_X10_number_29 ?_
    refine z_if_ne cx 44 d_X10_number_32 (by decide) hF (fun hF => ?_) (fun hF => ?_)
    · exact z_lv [2, 3, 4, 1, 0] _ rfl (hL44 zFuel p0 p1 v13 (0 : Int32) M16 hF)
    refine z_aload_n cx d_X10_number_35 2 rfl ?_
    refine z_iconst (v := 1) cx d_X10_number_36 ki_1 ?_
    refine z_aload_n cx d_X10_number_37 2 rfl ?_
    refine z_getI cx hT fg_SunnyPansModel_91 d_X10_number_38 ?_
    obtain ⟨M18, hc, hF⟩ := zbv_inv hF
    refine z_callV cx (As := [.int (1 : Int32), .int (M16.1 0 4)]) (rest := []) (c_X10_wrong l cx.2.2.2.1.1 M16 (1 : Int32) (M16.1 0 4) hT hc) hT zo_11 cv_SunnyPansModel_111 ⟨rfl, rfl, Nat.le_of_ble_eq_true rfl, Nat.le_of_ble_eq_true rfl⟩ rfl rfl ⟨Nat.zero_le _, Nat.zero_le _⟩ (Nat.le_of_ble_eq_true rfl) d_X10_number_41 ?_
    exact z_lv [2, 3, 4, 1, 0] _ rfl (hL44 zFuel p0 p1 v13 (0 : Int32) M18 hF)
  refine z_iconst (v := 0) cx d_X10_number_7 ki_0 ?_
  exact z_iret cx hr rfl hF d_X10_number_8
/-! SunnyPansModel.wordHere -/
theorem d_X10_wordHere_0 : decode cX10_wordHere 0 = .ok (.aload_n 0, 1) := by decide +kernel
theorem d_X10_wordHere_1 : decode cX10_wordHere 1 = .ok (.invokevirtual 104, 3) := by decide +kernel
theorem d_X10_wordHere_4 : decode cX10_wordHere 4 = .ok (.iconst 0, 1) := by decide +kernel
theorem d_X10_wordHere_5 : decode cX10_wordHere 5 = .ok (.istore_n 1, 1) := by decide +kernel
theorem d_X10_wordHere_6 : decode cX10_wordHere 6 = .ok (.iconst 0, 1) := by decide +kernel
theorem d_X10_wordHere_7 : decode cX10_wordHere 7 = .ok (.istore_n 2, 1) := by decide +kernel
theorem d_X10_wordHere_8 : decode cX10_wordHere 8 = .ok (.aload_n 0, 1) := by decide +kernel
theorem d_X10_wordHere_9 : decode cX10_wordHere 9 = .ok (.aload_n 0, 1) := by decide +kernel
theorem d_X10_wordHere_10 : decode cX10_wordHere 10 = .ok (.getfield 91, 3) := by decide +kernel
theorem d_X10_wordHere_13 : decode cX10_wordHere 13 = .ok (.iload_n 2, 1) := by decide +kernel
theorem d_X10_wordHere_14 : decode cX10_wordHere 14 = .ok (.iadd, 1) := by decide +kernel
theorem d_X10_wordHere_15 : decode cX10_wordHere 15 = .ok (.invokevirtual 94, 3) := by decide +kernel
theorem d_X10_wordHere_18 : decode cX10_wordHere 18 = .ok (.invokestatic 120, 3) := by decide +kernel
theorem d_X10_wordHere_21 : decode cX10_wordHere 21 = .ok (.ifCond .eq 40, 3) := by decide +kernel
theorem d_X10_wordHere_24 : decode cX10_wordHere 24 = .ok (.iload_n 2, 1) := by decide +kernel
theorem d_X10_wordHere_25 : decode cX10_wordHere 25 = .ok (.bipush 6, 2) := by decide +kernel
theorem d_X10_wordHere_27 : decode cX10_wordHere 27 = .ok (.if_icmp .ge 26, 3) := by decide +kernel
theorem d_X10_wordHere_30 : decode cX10_wordHere 30 = .ok (.bipush 27, 2) := by decide +kernel
theorem d_X10_wordHere_32 : decode cX10_wordHere 32 = .ok (.iload_n 1, 1) := by decide +kernel
theorem d_X10_wordHere_33 : decode cX10_wordHere 33 = .ok (.imul, 1) := by decide +kernel
theorem d_X10_wordHere_34 : decode cX10_wordHere 34 = .ok (.aload_n 0, 1) := by decide +kernel
theorem d_X10_wordHere_35 : decode cX10_wordHere 35 = .ok (.aload_n 0, 1) := by decide +kernel
theorem d_X10_wordHere_36 : decode cX10_wordHere 36 = .ok (.getfield 91, 3) := by decide +kernel
theorem d_X10_wordHere_39 : decode cX10_wordHere 39 = .ok (.iload_n 2, 1) := by decide +kernel
theorem d_X10_wordHere_40 : decode cX10_wordHere 40 = .ok (.iadd, 1) := by decide +kernel
theorem d_X10_wordHere_41 : decode cX10_wordHere 41 = .ok (.invokevirtual 94, 3) := by decide +kernel
theorem d_X10_wordHere_44 : decode cX10_wordHere 44 = .ok (.iadd, 1) := by decide +kernel
theorem d_X10_wordHere_45 : decode cX10_wordHere 45 = .ok (.bipush 97, 2) := by decide +kernel
theorem d_X10_wordHere_47 : decode cX10_wordHere 47 = .ok (.isub, 1) := by decide +kernel
theorem d_X10_wordHere_48 : decode cX10_wordHere 48 = .ok (.iconst 1, 1) := by decide +kernel
theorem d_X10_wordHere_49 : decode cX10_wordHere 49 = .ok (.iadd, 1) := by decide +kernel
theorem d_X10_wordHere_50 : decode cX10_wordHere 50 = .ok (.goto 4, 3) := by decide +kernel
theorem d_X10_wordHere_53 : decode cX10_wordHere 53 = .ok (.iload_n 1, 1) := by decide +kernel
theorem d_X10_wordHere_54 : decode cX10_wordHere 54 = .ok (.istore_n 1, 1) := by decide +kernel
theorem d_X10_wordHere_55 : decode cX10_wordHere 55 = .ok (.iinc 2 1, 3) := by decide +kernel
theorem d_X10_wordHere_58 : decode cX10_wordHere 58 = .ok (.goto (-50), 3) := by decide +kernel
theorem d_X10_wordHere_61 : decode cX10_wordHere 61 = .ok (.iload_n 2, 1) := by decide +kernel
theorem d_X10_wordHere_62 : decode cX10_wordHere 62 = .ok (.bipush 6, 2) := by decide +kernel
theorem d_X10_wordHere_64 : decode cX10_wordHere 64 = .ok (.if_icmp .le 7, 3) := by decide +kernel
theorem d_X10_wordHere_67 : decode cX10_wordHere 67 = .ok (.iconst (-1), 1) := by decide +kernel
theorem d_X10_wordHere_68 : decode cX10_wordHere 68 = .ok (.goto 4, 3) := by decide +kernel
theorem d_X10_wordHere_71 : decode cX10_wordHere 71 = .ok (.iload_n 1, 1) := by decide +kernel
theorem d_X10_wordHere_72 : decode cX10_wordHere 72 = .ok (.ireturn, 1) := by decide +kernel
def F_X10_wordHere_54 (self8 : Int32 → Int32 → zMem → Option (Int32 × zMem)) (b54_L2 : Int32) (b54_S0 : Int32) (M : zMem) : Option (Int32 × zMem) :=
  self8 b54_S0 (b54_L2 + 1) M
def F_X10_wordHere_8 (self8 : Int32 → Int32 → zMem → Option (Int32 × zMem)) (b8_L1 : Int32) (b8_L2 : Int32) (M : zMem) : Option (Int32 × zMem) :=
  zb (F_X10_byteAt M ((M.1 0 4) + b8_L2)) fun v2 M1 =>
  zb (F_X10_isSmall M1 v2) fun v4 M3 =>
  if v4 = 0 then
    if b8_L2 ≤ (6 : Int32) then
      some (b8_L1, M3)
    else
      some ((-1 : Int32), M3)
  else
    if (6 : Int32) ≤ b8_L2 then
      F_X10_wordHere_54 self8 b8_L2 b8_L1 M3
    else
      zb (F_X10_byteAt M3 ((M3.1 0 4) + b8_L2)) fun v6 M5 =>
      F_X10_wordHere_54 self8 b8_L2 (((((27 : Int32) * b8_L1) + v6) - (97 : Int32)) + (1 : Int32)) M5
def F_X10_wordHere (M : zMem)  : Option (Int32 × zMem) :=
  zbv (F_X10_blanks M) fun M7 =>
  itF (fun _ _ _ => none) (F_X10_wordHere_8) zFuel (0 : Int32) (0 : Int32) M7
def rm_X10_wordHere : Room := { frames := 4, cells := 0, slots := 0, locals := 121 }
set_option maxHeartbeats 4000000 in
set_option maxRecDepth 100000 in
theorem c_X10_wordHere (l : Launch) {G : zG} {ad : Nat → Nat} {n : Nat} (hA : zInj ad n) (M : zMem)  (hT : zT shM n 0 11) {r9 : Int32} {M9 : zMem} (hF : F_X10_wordHere M  = some (r9, M9)) : zM l yX10_wordHere cX10_wordHere 3 (some .int) rm_X10_wordHere G shM ad n M [.ref (ad 0)] (some (.int r9)) M9 := by
  refine zM_of hA (by decide +kernel) (lv := [(0, .ref (ad 0))]) (Nat.le_of_ble_eq_true rfl) rfl (fun p e s m args below meth c A cx hr => ?_)
  have hb54 : ∀ (self8 : Int32 → Int32 → zMem → Option (Int32 × zMem)) (hs8 : ∀ (b8_L1 : Int32) (b8_L2 : Int32) (M : zMem), self8 b8_L1 b8_L2 M = some (r9, M9) → zJ p l e rm_X10_wordHere s m args below meth c G shM ad n A 3 (MQ below (zQ G shM ad n M9 (some (.int r9)) A) args s 0 0 A) 0 0 M 8 [(0, .ref (ad 0)), (1, .int b8_L1), (2, .int b8_L2)] []), ∀ (b54_L2 : Int32) (b54_S0 : Int32) (M : zMem), F_X10_wordHere_54 self8 b54_L2 b54_S0 M = some (r9, M9) → zJ p l e rm_X10_wordHere s m args below meth c G shM ad n A 3 (MQ below (zQ G shM ad n M9 (some (.int r9)) A) args s 0 0 A) 0 0 M 54 [(0, .ref (ad 0)), (2, .int b54_L2)] [.int b54_S0] := by
    intro self8 hs8 b54_L2 b54_S0 M hF
    unfold F_X10_wordHere_54 at hF
    refine z_istore_n cx 1 [(1, .int b54_S0), (0, .ref (ad 0)), (2, .int b54_L2)] d_X10_wordHere_54 rfl (by decide) rfl ?_
    refine z_iinc cx 2 1 [(2, .int (b54_L2 + 1)), (1, .int b54_S0), (0, .ref (ad 0))] d_X10_wordHere_55 2 rfl ki_1 (by decide) rfl ?_
    refine z_goto cx 8 d_X10_wordHere_58 (by decide) ?_
    exact z_lv [2, 1, 0] _ rfl (hs8 b54_S0 (b54_L2 + 1) M hF)
  have hL8 : ∀ (fuel : Nat), ∀ (b8_L1 : Int32) (b8_L2 : Int32) (M : zMem), itF (fun _ _ _ => none) (F_X10_wordHere_8) fuel b8_L1 b8_L2 M = some (r9, M9) → zJ p l e rm_X10_wordHere s m args below meth c G shM ad n A 3 (MQ below (zQ G shM ad n M9 (some (.int r9)) A) args s 0 0 A) 0 0 M 8 [(0, .ref (ad 0)), (1, .int b8_L1), (2, .int b8_L2)] [] := by
    intro fuel
    induction fuel with
    | zero => intro b8_L1 b8_L2 M hF; cases hF
    | succ fuel hs8 =>
      intro b8_L1 b8_L2 M hF
      have hF : F_X10_wordHere_8 (itF (fun _ _ _ => none) (F_X10_wordHere_8) fuel) b8_L1 b8_L2 M = some (r9, M9) := hF
      generalize itF (fun _ _ _ => none) (F_X10_wordHere_8) fuel = self8 at hs8 hF
      unfold F_X10_wordHere_8 at hF
      refine z_aload_n cx d_X10_wordHere_8 0 rfl ?_
      refine z_aload_n cx d_X10_wordHere_9 0 rfl ?_
      refine z_getI cx hT fg_SunnyPansModel_91 d_X10_wordHere_10 ?_
      refine z_iload_n cx d_X10_wordHere_13 2 rfl ?_
      refine z_iadd cx d_X10_wordHere_14 ?_
      obtain ⟨v2, M1, hc, hF⟩ := zb_inv hF
      refine z_callV cx (As := [.int ((M.1 0 4) + b8_L2)]) (rest := []) (c_X10_byteAt l cx.2.2.2.1.1 M ((M.1 0 4) + b8_L2) hT hc) hT zo_11 cv_SunnyPansModel_94 ⟨rfl, rfl, Nat.le_of_ble_eq_true rfl, Nat.le_of_ble_eq_true rfl⟩ rfl rfl ⟨Nat.zero_le _, Nat.zero_le _⟩ (Nat.le_of_ble_eq_true rfl) d_X10_wordHere_15 ?_
      obtain ⟨v4, M3, hc, hF⟩ := zb_inv hF
      refine z_callS cx (As := [.int v2]) (rest := []) (c_X10_isSmall l cx.2.2.2.1.1 M1 v2  hc) cs_SunnyPansModel_120 ⟨rfl, rfl, Nat.le_of_ble_eq_true rfl, Nat.le_of_ble_eq_true rfl⟩ rfl rfl ⟨Nat.zero_le _, Nat.zero_le _⟩ (Nat.le_of_ble_eq_true rfl) d_X10_wordHere_18 ?_
      refine z_if_eq cx 61 d_X10_wordHere_21 (by decide) hF (fun hF => ?_) (fun hF => ?_)
      · refine z_iload_n cx d_X10_wordHere_61 2 rfl ?_
        refine z_bipush (v := 6) cx d_X10_wordHere_62 kb_6 ?_
        refine z_icmp_le cx 71 d_X10_wordHere_64 (by decide) hF (fun hF => ?_) (fun hF => ?_)
        · refine z_iload_n cx d_X10_wordHere_71 1 rfl ?_
          exact z_iret cx hr rfl hF d_X10_wordHere_72
        refine z_iconst (v := -1) cx d_X10_wordHere_67 ki_m1 ?_
        refine z_goto cx 72 d_X10_wordHere_68 (by decide) ?_
        exact z_iret cx hr rfl hF d_X10_wordHere_72
      refine z_iload_n cx d_X10_wordHere_24 2 rfl ?_
      refine z_bipush (v := 6) cx d_X10_wordHere_25 kb_6 ?_
      refine z_icmp_ge cx 53 d_X10_wordHere_27 (by decide) hF (fun hF => ?_) (fun hF => ?_)
      · refine z_iload_n cx d_X10_wordHere_53 1 rfl ?_
        exact z_lv [0, 2] _ rfl (hb54 self8 hs8 b8_L2 b8_L1 M3 hF)
      refine z_bipush (v := 27) cx d_X10_wordHere_30 kb_27 ?_
      refine z_iload_n cx d_X10_wordHere_32 1 rfl ?_
      refine z_imul cx d_X10_wordHere_33 ?_
      refine z_aload_n cx d_X10_wordHere_34 0 rfl ?_
      refine z_aload_n cx d_X10_wordHere_35 0 rfl ?_
      refine z_getI cx hT fg_SunnyPansModel_91 d_X10_wordHere_36 ?_
      refine z_iload_n cx d_X10_wordHere_39 2 rfl ?_
      refine z_iadd cx d_X10_wordHere_40 ?_
      obtain ⟨v6, M5, hc, hF⟩ := zb_inv hF
      refine z_callV cx (As := [.int ((M3.1 0 4) + b8_L2)]) (rest := [.int ((27 : Int32) * b8_L1)]) (c_X10_byteAt l cx.2.2.2.1.1 M3 ((M3.1 0 4) + b8_L2) hT hc) hT zo_11 cv_SunnyPansModel_94 ⟨rfl, rfl, Nat.le_of_ble_eq_true rfl, Nat.le_of_ble_eq_true rfl⟩ rfl rfl ⟨Nat.zero_le _, Nat.zero_le _⟩ (Nat.le_of_ble_eq_true rfl) d_X10_wordHere_41 ?_
      refine z_iadd cx d_X10_wordHere_44 ?_
      refine z_bipush (v := 97) cx d_X10_wordHere_45 kb_97 ?_
      refine z_isub cx d_X10_wordHere_47 ?_
      refine z_iconst (v := 1) cx d_X10_wordHere_48 ki_1 ?_
      refine z_iadd cx d_X10_wordHere_49 ?_
      refine z_goto cx 54 d_X10_wordHere_50 (by decide) ?_
      exact z_lv [0, 2] _ rfl (hb54 self8 hs8 b8_L2 (((((27 : Int32) * b8_L1) + v6) - (97 : Int32)) + (1 : Int32)) M5 hF)
  unfold F_X10_wordHere at hF
  refine z_aload_n cx d_X10_wordHere_0 0 rfl ?_
  obtain ⟨M7, hc, hF⟩ := zbv_inv hF
  refine z_callV cx (As := []) (rest := []) (c_X10_blanks l cx.2.2.2.1.1 M hT hc) hT zo_11 cv_SunnyPansModel_104 ⟨rfl, rfl, Nat.le_of_ble_eq_true rfl, Nat.le_of_ble_eq_true rfl⟩ rfl rfl ⟨Nat.zero_le _, Nat.zero_le _⟩ (Nat.le_of_ble_eq_true rfl) d_X10_wordHere_1 ?_
  refine z_iconst (v := 0) cx d_X10_wordHere_4 ki_0 ?_
  refine z_istore_n cx 1 [(1, .int (0 : Int32)), (0, .ref (ad 0))] d_X10_wordHere_5 rfl (by decide) rfl ?_
  refine z_iconst (v := 0) cx d_X10_wordHere_6 ki_0 ?_
  refine z_istore_n cx 2 [(2, .int (0 : Int32)), (1, .int (0 : Int32)), (0, .ref (ad 0))] d_X10_wordHere_7 rfl (by decide) rfl ?_
  exact z_lv [2, 1, 0] _ rfl (hL8 zFuel (0 : Int32) (0 : Int32) M7 hF)
/-! SunnyPansModel.six -/
theorem d_X10_six_0 : decode cX10_six 0 = .ok (.bipush 27, 2) := by decide +kernel
theorem d_X10_six_2 : decode cX10_six 2 = .ok (.bipush 27, 2) := by decide +kernel
theorem d_X10_six_4 : decode cX10_six 4 = .ok (.iload_n 0, 1) := by decide +kernel
theorem d_X10_six_5 : decode cX10_six 5 = .ok (.imul, 1) := by decide +kernel
theorem d_X10_six_6 : decode cX10_six 6 = .ok (.iload_n 1, 1) := by decide +kernel
theorem d_X10_six_7 : decode cX10_six 7 = .ok (.iadd, 1) := by decide +kernel
theorem d_X10_six_8 : decode cX10_six 8 = .ok (.imul, 1) := by decide +kernel
theorem d_X10_six_9 : decode cX10_six 9 = .ok (.iload_n 2, 1) := by decide +kernel
theorem d_X10_six_10 : decode cX10_six 10 = .ok (.iadd, 1) := by decide +kernel
theorem d_X10_six_11 : decode cX10_six 11 = .ok (.istore 6, 2) := by decide +kernel
theorem d_X10_six_13 : decode cX10_six 13 = .ok (.iload_n 3, 1) := by decide +kernel
theorem d_X10_six_14 : decode cX10_six 14 = .ok (.ifCond .ne 8, 3) := by decide +kernel
theorem d_X10_six_17 : decode cX10_six 17 = .ok (.iload 6, 2) := by decide +kernel
theorem d_X10_six_19 : decode cX10_six 19 = .ok (.goto 10, 3) := by decide +kernel
theorem d_X10_six_22 : decode cX10_six 22 = .ok (.bipush 27, 2) := by decide +kernel
theorem d_X10_six_24 : decode cX10_six 24 = .ok (.iload 6, 2) := by decide +kernel
theorem d_X10_six_26 : decode cX10_six 26 = .ok (.imul, 1) := by decide +kernel
theorem d_X10_six_27 : decode cX10_six 27 = .ok (.iload_n 3, 1) := by decide +kernel
theorem d_X10_six_28 : decode cX10_six 28 = .ok (.iadd, 1) := by decide +kernel
theorem d_X10_six_29 : decode cX10_six 29 = .ok (.istore 6, 2) := by decide +kernel
theorem d_X10_six_31 : decode cX10_six 31 = .ok (.iload 4, 2) := by decide +kernel
theorem d_X10_six_33 : decode cX10_six 33 = .ok (.ifCond .ne 8, 3) := by decide +kernel
theorem d_X10_six_36 : decode cX10_six 36 = .ok (.iload 6, 2) := by decide +kernel
theorem d_X10_six_38 : decode cX10_six 38 = .ok (.goto 11, 3) := by decide +kernel
theorem d_X10_six_41 : decode cX10_six 41 = .ok (.bipush 27, 2) := by decide +kernel
theorem d_X10_six_43 : decode cX10_six 43 = .ok (.iload 6, 2) := by decide +kernel
theorem d_X10_six_45 : decode cX10_six 45 = .ok (.imul, 1) := by decide +kernel
theorem d_X10_six_46 : decode cX10_six 46 = .ok (.iload 4, 2) := by decide +kernel
theorem d_X10_six_48 : decode cX10_six 48 = .ok (.iadd, 1) := by decide +kernel
theorem d_X10_six_49 : decode cX10_six 49 = .ok (.istore 6, 2) := by decide +kernel
theorem d_X10_six_51 : decode cX10_six 51 = .ok (.iload 5, 2) := by decide +kernel
theorem d_X10_six_53 : decode cX10_six 53 = .ok (.ifCond .ne 8, 3) := by decide +kernel
theorem d_X10_six_56 : decode cX10_six 56 = .ok (.iload 6, 2) := by decide +kernel
theorem d_X10_six_58 : decode cX10_six 58 = .ok (.goto 11, 3) := by decide +kernel
theorem d_X10_six_61 : decode cX10_six 61 = .ok (.bipush 27, 2) := by decide +kernel
theorem d_X10_six_63 : decode cX10_six 63 = .ok (.iload 6, 2) := by decide +kernel
theorem d_X10_six_65 : decode cX10_six 65 = .ok (.imul, 1) := by decide +kernel
theorem d_X10_six_66 : decode cX10_six 66 = .ok (.iload 5, 2) := by decide +kernel
theorem d_X10_six_68 : decode cX10_six 68 = .ok (.iadd, 1) := by decide +kernel
theorem d_X10_six_69 : decode cX10_six 69 = .ok (.ireturn, 1) := by decide +kernel
def F_X10_six_49 (p0 : Int32) (p1 : Int32) (p2 : Int32) (p3 : Int32) (p4 : Int32) (p5 : Int32) (b49_L5 : Int32) (b49_S0 : Int32) (M : zMem) : Option (Int32 × zMem) :=
  if b49_L5 = 0 then
    some (b49_S0, M)
  else
    some ((((27 : Int32) * b49_S0) + b49_L5), M)
def F_X10_six_29 (p0 : Int32) (p1 : Int32) (p2 : Int32) (p3 : Int32) (p4 : Int32) (p5 : Int32) (b29_L4 : Int32) (b29_L5 : Int32) (b29_S0 : Int32) (M : zMem) : Option (Int32 × zMem) :=
  if b29_L4 = 0 then
    F_X10_six_49 p0 p1 p2 p3 p4 p5 b29_L5 b29_S0 M
  else
    F_X10_six_49 p0 p1 p2 p3 p4 p5 b29_L5 (((27 : Int32) * b29_S0) + b29_L4) M
def F_X10_six (M : zMem) (p0 : Int32) (p1 : Int32) (p2 : Int32) (p3 : Int32) (p4 : Int32) (p5 : Int32) : Option (Int32 × zMem) :=
  zl (((27 : Int32) * (((27 : Int32) * p0) + p1)) + p2) fun v1 =>
  if p3 = 0 then
    F_X10_six_29 p0 p1 p2 p3 p4 p5 p4 p5 v1 M
  else
    F_X10_six_29 p0 p1 p2 p3 p4 p5 p4 p5 (((27 : Int32) * v1) + p3) M
def rm_X10_six : Room := { frames := 2, cells := 0, slots := 0, locals := 80 }
set_option maxHeartbeats 4000000 in
set_option maxRecDepth 100000 in
theorem c_X10_six (l : Launch) {G : zG} {ad : Nat → Nat} {n : Nat} (hA : zInj ad n) (M : zMem) (p0 : Int32) (p1 : Int32) (p2 : Int32) (p3 : Int32) (p4 : Int32) (p5 : Int32) {r9 : Int32} {M9 : zMem} (hF : F_X10_six M p0 p1 p2 p3 p4 p5 = some (r9, M9)) : zM l yX10_six cX10_six 7 (some .int) rm_X10_six G shM ad n M [.int p0, .int p1, .int p2, .int p3, .int p4, .int p5] (some (.int r9)) M9 := by
  refine zM_of hA (by decide +kernel) (lv := [(0, .int p0), (1, .int p1), (2, .int p2), (3, .int p3), (4, .int p4), (5, .int p5)]) (Nat.le_of_ble_eq_true rfl) rfl (fun p e s m args below meth c A cx hr => ?_)
  have hb49 : ∀ (b49_L5 : Int32) (b49_S0 : Int32) (M : zMem), F_X10_six_49 p0 p1 p2 p3 p4 p5 b49_L5 b49_S0 M = some (r9, M9) → zJ p l e rm_X10_six s m args below meth c G shM ad n A 7 (MQ below (zQ G shM ad n M9 (some (.int r9)) A) args s 0 0 A) 0 0 M 49 [(5, .int b49_L5)] [.int b49_S0] := by
    intro b49_L5 b49_S0 M hF
    unfold F_X10_six_49 at hF
    refine z_istore cx 6 [(6, .int b49_S0), (5, .int b49_L5)] d_X10_six_49 (by decide) rfl ?_
    refine z_iload cx d_X10_six_51 1 rfl ?_
    refine z_if_ne cx 61 d_X10_six_53 (by decide) hF (fun hF => ?_) (fun hF => ?_)
    · refine z_bipush (v := 27) cx d_X10_six_61 kb_27 ?_
      refine z_iload cx d_X10_six_63 0 rfl ?_
      refine z_imul cx d_X10_six_65 ?_
      refine z_iload cx d_X10_six_66 1 rfl ?_
      refine z_iadd cx d_X10_six_68 ?_
      exact z_iret cx hr rfl hF d_X10_six_69
    refine z_iload cx d_X10_six_56 0 rfl ?_
    refine z_goto cx 69 d_X10_six_58 (by decide) ?_
    exact z_iret cx hr rfl hF d_X10_six_69
  have hb29 : ∀ (b29_L4 : Int32) (b29_L5 : Int32) (b29_S0 : Int32) (M : zMem), F_X10_six_29 p0 p1 p2 p3 p4 p5 b29_L4 b29_L5 b29_S0 M = some (r9, M9) → zJ p l e rm_X10_six s m args below meth c G shM ad n A 7 (MQ below (zQ G shM ad n M9 (some (.int r9)) A) args s 0 0 A) 0 0 M 29 [(4, .int b29_L4), (5, .int b29_L5)] [.int b29_S0] := by
    intro b29_L4 b29_L5 b29_S0 M hF
    unfold F_X10_six_29 at hF
    refine z_istore cx 6 [(6, .int b29_S0), (4, .int b29_L4), (5, .int b29_L5)] d_X10_six_29 (by decide) rfl ?_
    refine z_iload cx d_X10_six_31 1 rfl ?_
    refine z_if_ne cx 41 d_X10_six_33 (by decide) hF (fun hF => ?_) (fun hF => ?_)
    · refine z_bipush (v := 27) cx d_X10_six_41 kb_27 ?_
      refine z_iload cx d_X10_six_43 0 rfl ?_
      refine z_imul cx d_X10_six_45 ?_
      refine z_iload cx d_X10_six_46 1 rfl ?_
      refine z_iadd cx d_X10_six_48 ?_
      exact z_lv [2] _ rfl (hb49 b29_L5 (((27 : Int32) * b29_S0) + b29_L4) M hF)
    refine z_iload cx d_X10_six_36 0 rfl ?_
    refine z_goto cx 49 d_X10_six_38 (by decide) ?_
    exact z_lv [2] _ rfl (hb49 b29_L5 b29_S0 M hF)
  unfold F_X10_six at hF
  refine z_bipush (v := 27) cx d_X10_six_0 kb_27 ?_
  refine z_bipush (v := 27) cx d_X10_six_2 kb_27 ?_
  refine z_iload_n cx d_X10_six_4 0 rfl ?_
  refine z_imul cx d_X10_six_5 ?_
  refine z_iload_n cx d_X10_six_6 1 rfl ?_
  refine z_iadd cx d_X10_six_7 ?_
  refine z_imul cx d_X10_six_8 ?_
  refine z_iload_n cx d_X10_six_9 2 rfl ?_
  refine z_iadd cx d_X10_six_10 ?_
  refine z_nm hF (fun v1 hF => ?_)
  refine z_istore cx 6 [(6, .int v1), (0, .int p0), (1, .int p1), (2, .int p2), (3, .int p3), (4, .int p4), (5, .int p5)] d_X10_six_11 (by decide) rfl ?_
  refine z_iload_n cx d_X10_six_13 4 rfl ?_
  refine z_if_ne cx 22 d_X10_six_14 (by decide) hF (fun hF => ?_) (fun hF => ?_)
  · refine z_bipush (v := 27) cx d_X10_six_22 kb_27 ?_
    refine z_iload cx d_X10_six_24 0 rfl ?_
    refine z_imul cx d_X10_six_26 ?_
    refine z_iload_n cx d_X10_six_27 4 rfl ?_
    refine z_iadd cx d_X10_six_28 ?_
    exact z_lv [5, 6] _ rfl (hb29 p4 p5 (((27 : Int32) * v1) + p3) M hF)
  refine z_iload cx d_X10_six_17 0 rfl ?_
  refine z_goto cx 29 d_X10_six_19 (by decide) ?_
  exact z_lv [5, 6] _ rfl (hb29 p4 p5 v1 M hF)
/-! SunnyPansModel.isWord -/
theorem d_X10_isWord_0 : decode cX10_isWord 0 = .ok (.aload_n 0, 1) := by decide +kernel
theorem d_X10_isWord_1 : decode cX10_isWord 1 = .ok (.getfield 98, 3) := by decide +kernel
theorem d_X10_isWord_4 : decode cX10_isWord 4 = .ok (.ifCond .ne 26, 3) := by decide +kernel
theorem d_X10_isWord_7 : decode cX10_isWord 7 = .ok (.aload_n 0, 1) := by decide +kernel
theorem d_X10_isWord_8 : decode cX10_isWord 8 = .ok (.invokevirtual 123, 3) := by decide +kernel
theorem d_X10_isWord_11 : decode cX10_isWord 11 = .ok (.iload_n 1, 1) := by decide +kernel
theorem d_X10_isWord_12 : decode cX10_isWord 12 = .ok (.iload_n 2, 1) := by decide +kernel
theorem d_X10_isWord_13 : decode cX10_isWord 13 = .ok (.iload_n 3, 1) := by decide +kernel
theorem d_X10_isWord_14 : decode cX10_isWord 14 = .ok (.iload 4, 2) := by decide +kernel
theorem d_X10_isWord_16 : decode cX10_isWord 16 = .ok (.iload 5, 2) := by decide +kernel
theorem d_X10_isWord_18 : decode cX10_isWord 18 = .ok (.iload 6, 2) := by decide +kernel
theorem d_X10_isWord_20 : decode cX10_isWord 20 = .ok (.invokestatic 127, 3) := by decide +kernel
theorem d_X10_isWord_23 : decode cX10_isWord 23 = .ok (.if_icmp .ne 7, 3) := by decide +kernel
theorem d_X10_isWord_26 : decode cX10_isWord 26 = .ok (.iconst 1, 1) := by decide +kernel
theorem d_X10_isWord_27 : decode cX10_isWord 27 = .ok (.goto 4, 3) := by decide +kernel
theorem d_X10_isWord_30 : decode cX10_isWord 30 = .ok (.iconst 0, 1) := by decide +kernel
theorem d_X10_isWord_31 : decode cX10_isWord 31 = .ok (.ireturn, 1) := by decide +kernel
def F_X10_isWord (M : zMem) (p0 : Int32) (p1 : Int32) (p2 : Int32) (p3 : Int32) (p4 : Int32) (p5 : Int32) : Option (Int32 × zMem) :=
  if (M.1 0 5) = 0 then
    zb (F_X10_wordHere M) fun v2 M1 =>
    zb (F_X10_six M1 p0 p1 p2 p3 p4 p5) fun v4 M3 =>
    if v2 = v4 then
      some ((1 : Int32), M3)
    else
      some ((0 : Int32), M3)
  else
    some ((0 : Int32), M)
def rm_X10_isWord : Room := { frames := 5, cells := 0, slots := 0, locals := 143 }
set_option maxHeartbeats 4000000 in
set_option maxRecDepth 100000 in
theorem c_X10_isWord (l : Launch) {G : zG} {ad : Nat → Nat} {n : Nat} (hA : zInj ad n) (M : zMem) (p0 : Int32) (p1 : Int32) (p2 : Int32) (p3 : Int32) (p4 : Int32) (p5 : Int32) (hT : zT shM n 0 11) {r9 : Int32} {M9 : zMem} (hF : F_X10_isWord M p0 p1 p2 p3 p4 p5 = some (r9, M9)) : zM l yX10_isWord cX10_isWord 7 (some .boolean) rm_X10_isWord G shM ad n M [.ref (ad 0), .int p0, .int p1, .int p2, .int p3, .int p4, .int p5] (some (.int r9)) M9 := by
  refine zM_of hA (by decide +kernel) (lv := [(0, .ref (ad 0)), (1, .int p0), (2, .int p1), (3, .int p2), (4, .int p3), (5, .int p4), (6, .int p5)]) (Nat.le_of_ble_eq_true rfl) rfl (fun p e s m args below meth c A cx hr => ?_)
  unfold F_X10_isWord at hF
  refine z_aload_n cx d_X10_isWord_0 0 rfl ?_
  refine z_getI cx hT fg_SunnyPansModel_98 d_X10_isWord_1 ?_
  refine z_if_ne cx 30 d_X10_isWord_4 (by decide) hF (fun hF => ?_) (fun hF => ?_)
  · refine z_iconst (v := 0) cx d_X10_isWord_30 ki_0 ?_
    exact z_iret cx hr nb0 hF d_X10_isWord_31
  refine z_aload_n cx d_X10_isWord_7 0 rfl ?_
  obtain ⟨v2, M1, hc, hF⟩ := zb_inv hF
  refine z_callV cx (As := []) (rest := []) (c_X10_wordHere l cx.2.2.2.1.1 M hT hc) hT zo_11 cv_SunnyPansModel_123 ⟨rfl, rfl, Nat.le_of_ble_eq_true rfl, Nat.le_of_ble_eq_true rfl⟩ rfl rfl ⟨Nat.zero_le _, Nat.zero_le _⟩ (Nat.le_of_ble_eq_true rfl) d_X10_isWord_8 ?_
  refine z_iload_n cx d_X10_isWord_11 1 rfl ?_
  refine z_iload_n cx d_X10_isWord_12 2 rfl ?_
  refine z_iload_n cx d_X10_isWord_13 3 rfl ?_
  refine z_iload cx d_X10_isWord_14 4 rfl ?_
  refine z_iload cx d_X10_isWord_16 5 rfl ?_
  refine z_iload cx d_X10_isWord_18 6 rfl ?_
  obtain ⟨v4, M3, hc, hF⟩ := zb_inv hF
  refine z_callS cx (As := [.int p0, .int p1, .int p2, .int p3, .int p4, .int p5]) (rest := [.int v2]) (c_X10_six l cx.2.2.2.1.1 M1 p0 p1 p2 p3 p4 p5  hc) cs_SunnyPansModel_127 ⟨rfl, rfl, Nat.le_of_ble_eq_true rfl, Nat.le_of_ble_eq_true rfl⟩ rfl rfl ⟨Nat.zero_le _, Nat.zero_le _⟩ (Nat.le_of_ble_eq_true rfl) d_X10_isWord_20 ?_
  refine z_icmp_ne cx 30 d_X10_isWord_23 (by decide) hF (fun hF => ?_) (fun hF => ?_)
  · refine z_iconst (v := 0) cx d_X10_isWord_30 ki_0 ?_
    exact z_iret cx hr nb0 hF d_X10_isWord_31
  refine z_iconst (v := 1) cx d_X10_isWord_26 ki_1 ?_
  refine z_goto cx 31 d_X10_isWord_27 (by decide) ?_
  exact z_iret cx hr nb1 hF d_X10_isWord_31
/-! SunnyPansModel.skipWord -/
theorem d_X10_skipWord_0 : decode cX10_skipWord 0 = .ok (.aload_n 0, 1) := by decide +kernel
theorem d_X10_skipWord_1 : decode cX10_skipWord 1 = .ok (.aload_n 0, 1) := by decide +kernel
theorem d_X10_skipWord_2 : decode cX10_skipWord 2 = .ok (.getfield 91, 3) := by decide +kernel
theorem d_X10_skipWord_5 : decode cX10_skipWord 5 = .ok (.invokevirtual 94, 3) := by decide +kernel
theorem d_X10_skipWord_8 : decode cX10_skipWord 8 = .ok (.invokestatic 120, 3) := by decide +kernel
theorem d_X10_skipWord_11 : decode cX10_skipWord 11 = .ok (.ifCond .eq 16, 3) := by decide +kernel
theorem d_X10_skipWord_14 : decode cX10_skipWord 14 = .ok (.aload_n 0, 1) := by decide +kernel
theorem d_X10_skipWord_15 : decode cX10_skipWord 15 = .ok (.dup, 1) := by decide +kernel
theorem d_X10_skipWord_16 : decode cX10_skipWord 16 = .ok (.getfield 91, 3) := by decide +kernel
theorem d_X10_skipWord_19 : decode cX10_skipWord 19 = .ok (.iconst 1, 1) := by decide +kernel
theorem d_X10_skipWord_20 : decode cX10_skipWord 20 = .ok (.iadd, 1) := by decide +kernel
theorem d_X10_skipWord_21 : decode cX10_skipWord 21 = .ok (.putfield 91, 3) := by decide +kernel
theorem d_X10_skipWord_24 : decode cX10_skipWord 24 = .ok (.goto (-24), 3) := by decide +kernel
theorem d_X10_skipWord_27 : decode cX10_skipWord 27 = .ok (.return_, 1) := by decide +kernel
def F_X10_skipWord_0 (self0 : zMem → Option (zMem)) (M : zMem) : Option (zMem) :=
  zb (F_X10_byteAt M (M.1 0 4)) fun v2 M1 =>
  zb (F_X10_isSmall M1 v2) fun v4 M3 =>
  if v4 = 0 then
    some M3
  else
    zl (zI M3 0 4 ((M3.1 0 4) + (1 : Int32))) fun M5 =>
    self0  M5
def F_X10_skipWord (M : zMem)  : Option (zMem) :=
  itF (fun _ => none) (F_X10_skipWord_0) zFuel  M
def rm_X10_skipWord : Room := { frames := 3, cells := 0, slots := 0, locals := 101 }
set_option maxHeartbeats 4000000 in
set_option maxRecDepth 100000 in
theorem c_X10_skipWord (l : Launch) {G : zG} {ad : Nat → Nat} {n : Nat} (hA : zInj ad n) (M : zMem)  (hT : zT shM n 0 11) {M9 : zMem} (hF : F_X10_skipWord M  = some M9) : zM l yX10_skipWord cX10_skipWord 1 none rm_X10_skipWord G shM ad n M [.ref (ad 0)] none M9 := by
  refine zM_of hA (by decide +kernel) (lv := [(0, .ref (ad 0))]) (Nat.le_of_ble_eq_true rfl) rfl (fun p e s m args below meth c A cx hr => ?_)
  have hL0 : ∀ (fuel : Nat), ∀ (M : zMem), itF (fun _ => none) (F_X10_skipWord_0) fuel M = some M9 → zJ p l e rm_X10_skipWord s m args below meth c G shM ad n A 1 (MQ below (zQ G shM ad n M9 none A) args s 0 0 A) 0 0 M 0 [(0, .ref (ad 0))] [] := by
    intro fuel
    induction fuel with
    | zero => intro M hF; cases hF
    | succ fuel hs0 =>
      intro M hF
      have hF : F_X10_skipWord_0 (itF (fun _ => none) (F_X10_skipWord_0) fuel) M = some M9 := hF
      generalize itF (fun _ => none) (F_X10_skipWord_0) fuel = self0 at hs0 hF
      unfold F_X10_skipWord_0 at hF
      refine z_aload_n cx d_X10_skipWord_0 0 rfl ?_
      refine z_aload_n cx d_X10_skipWord_1 0 rfl ?_
      refine z_getI cx hT fg_SunnyPansModel_91 d_X10_skipWord_2 ?_
      obtain ⟨v2, M1, hc, hF⟩ := zb_inv hF
      refine z_callV cx (As := [.int (M.1 0 4)]) (rest := []) (c_X10_byteAt l cx.2.2.2.1.1 M (M.1 0 4) hT hc) hT zo_11 cv_SunnyPansModel_94 ⟨rfl, rfl, Nat.le_of_ble_eq_true rfl, Nat.le_of_ble_eq_true rfl⟩ rfl rfl ⟨Nat.zero_le _, Nat.zero_le _⟩ (Nat.le_of_ble_eq_true rfl) d_X10_skipWord_5 ?_
      obtain ⟨v4, M3, hc, hF⟩ := zb_inv hF
      refine z_callS cx (As := [.int v2]) (rest := []) (c_X10_isSmall l cx.2.2.2.1.1 M1 v2  hc) cs_SunnyPansModel_120 ⟨rfl, rfl, Nat.le_of_ble_eq_true rfl, Nat.le_of_ble_eq_true rfl⟩ rfl rfl ⟨Nat.zero_le _, Nat.zero_le _⟩ (Nat.le_of_ble_eq_true rfl) d_X10_skipWord_8 ?_
      refine z_if_eq cx 27 d_X10_skipWord_11 (by decide) hF (fun hF => ?_) (fun hF => ?_)
      · exact z_vret cx hr hF d_X10_skipWord_27
      refine z_aload_n cx d_X10_skipWord_14 0 rfl ?_
      refine z_dup cx d_X10_skipWord_15 rfl ?_
      refine z_getI cx hT fg_SunnyPansModel_91 d_X10_skipWord_16 ?_
      refine z_iconst (v := 1) cx d_X10_skipWord_19 ki_1 ?_
      refine z_iadd cx d_X10_skipWord_20 ?_
      refine z_putI cx hT fp_SunnyPansModel_91 d_X10_skipWord_21 ?_
      refine z_nmM hF (fun M5 hF => ?_)
      refine z_goto cx 0 d_X10_skipWord_24 (by decide) ?_
      exact hs0 M5 hF
  unfold F_X10_skipWord at hF
  exact hL0 zFuel M hF
/-! SunnyPansModel.takes -/
theorem d_X10_takes_0 : decode cX10_takes 0 = .ok (.aload_n 0, 1) := by decide +kernel
theorem d_X10_takes_1 : decode cX10_takes 1 = .ok (.iload_n 1, 1) := by decide +kernel
theorem d_X10_takes_2 : decode cX10_takes 2 = .ok (.iload_n 2, 1) := by decide +kernel
theorem d_X10_takes_3 : decode cX10_takes 3 = .ok (.iload_n 3, 1) := by decide +kernel
theorem d_X10_takes_4 : decode cX10_takes 4 = .ok (.iload 4, 2) := by decide +kernel
theorem d_X10_takes_6 : decode cX10_takes 6 = .ok (.iload 5, 2) := by decide +kernel
theorem d_X10_takes_8 : decode cX10_takes 8 = .ok (.iload 6, 2) := by decide +kernel
theorem d_X10_takes_10 : decode cX10_takes 10 = .ok (.invokevirtual 131, 3) := by decide +kernel
theorem d_X10_takes_13 : decode cX10_takes 13 = .ok (.istore 7, 2) := by decide +kernel
theorem d_X10_takes_15 : decode cX10_takes 15 = .ok (.iload 7, 2) := by decide +kernel
theorem d_X10_takes_17 : decode cX10_takes 17 = .ok (.ifCond .eq 7, 3) := by decide +kernel
theorem d_X10_takes_20 : decode cX10_takes 20 = .ok (.aload_n 0, 1) := by decide +kernel
theorem d_X10_takes_21 : decode cX10_takes 21 = .ok (.invokevirtual 135, 3) := by decide +kernel
theorem d_X10_takes_24 : decode cX10_takes 24 = .ok (.iload 7, 2) := by decide +kernel
theorem d_X10_takes_26 : decode cX10_takes 26 = .ok (.ireturn, 1) := by decide +kernel
def F_X10_takes (M : zMem) (p0 : Int32) (p1 : Int32) (p2 : Int32) (p3 : Int32) (p4 : Int32) (p5 : Int32) : Option (Int32 × zMem) :=
  zb (F_X10_isWord M p0 p1 p2 p3 p4 p5) fun v2 M1 =>
  if v2 = 0 then
    gd (v2 == 0 || v2 == 1) <|
    some (v2, M1)
  else
    zbv (F_X10_skipWord M1) fun M4 =>
    gd (v2 == 0 || v2 == 1) <|
    some (v2, M4)
def rm_X10_takes : Room := { frames := 6, cells := 0, slots := 0, locals := 169 }
set_option maxHeartbeats 4000000 in
set_option maxRecDepth 100000 in
theorem c_X10_takes (l : Launch) {G : zG} {ad : Nat → Nat} {n : Nat} (hA : zInj ad n) (M : zMem) (p0 : Int32) (p1 : Int32) (p2 : Int32) (p3 : Int32) (p4 : Int32) (p5 : Int32) (hT : zT shM n 0 11) {r9 : Int32} {M9 : zMem} (hF : F_X10_takes M p0 p1 p2 p3 p4 p5 = some (r9, M9)) : zM l yX10_takes cX10_takes 8 (some .boolean) rm_X10_takes G shM ad n M [.ref (ad 0), .int p0, .int p1, .int p2, .int p3, .int p4, .int p5] (some (.int r9)) M9 := by
  refine zM_of hA (by decide +kernel) (lv := [(0, .ref (ad 0)), (1, .int p0), (2, .int p1), (3, .int p2), (4, .int p3), (5, .int p4), (6, .int p5)]) (Nat.le_of_ble_eq_true rfl) rfl (fun p e s m args below meth c A cx hr => ?_)
  unfold F_X10_takes at hF
  refine z_aload_n cx d_X10_takes_0 0 rfl ?_
  refine z_iload_n cx d_X10_takes_1 1 rfl ?_
  refine z_iload_n cx d_X10_takes_2 2 rfl ?_
  refine z_iload_n cx d_X10_takes_3 3 rfl ?_
  refine z_iload cx d_X10_takes_4 4 rfl ?_
  refine z_iload cx d_X10_takes_6 5 rfl ?_
  refine z_iload cx d_X10_takes_8 6 rfl ?_
  obtain ⟨v2, M1, hc, hF⟩ := zb_inv hF
  refine z_callV cx (As := [.int p0, .int p1, .int p2, .int p3, .int p4, .int p5]) (rest := []) (c_X10_isWord l cx.2.2.2.1.1 M p0 p1 p2 p3 p4 p5 hT hc) hT zo_11 cv_SunnyPansModel_131 ⟨rfl, rfl, Nat.le_of_ble_eq_true rfl, Nat.le_of_ble_eq_true rfl⟩ rfl rfl ⟨Nat.zero_le _, Nat.zero_le _⟩ (Nat.le_of_ble_eq_true rfl) d_X10_takes_10 ?_
  refine z_istore cx 7 [(7, .int v2), (0, .ref (ad 0)), (1, .int p0), (2, .int p1), (3, .int p2), (4, .int p3), (5, .int p4), (6, .int p5)] d_X10_takes_13 (by decide) rfl ?_
  refine z_iload cx d_X10_takes_15 0 rfl ?_
  refine z_if_eq cx 24 d_X10_takes_17 (by decide) hF (fun hF => ?_) (fun hF => ?_)
  · refine z_iload cx d_X10_takes_24 0 rfl ?_
    obtain ⟨hn3, hF⟩ := gd_inv hF
    exact z_iret cx hr (nbx hn3) hF d_X10_takes_26
  refine z_aload_n cx d_X10_takes_20 1 rfl ?_
  obtain ⟨M4, hc, hF⟩ := zbv_inv hF
  refine z_callV cx (As := []) (rest := []) (c_X10_skipWord l cx.2.2.2.1.1 M1 hT hc) hT zo_11 cv_SunnyPansModel_135 ⟨rfl, rfl, Nat.le_of_ble_eq_true rfl, Nat.le_of_ble_eq_true rfl⟩ rfl rfl ⟨Nat.zero_le _, Nat.zero_le _⟩ (Nat.le_of_ble_eq_true rfl) d_X10_takes_21 ?_
  refine z_iload cx d_X10_takes_24 0 rfl ?_
  obtain ⟨hn5, hF⟩ := gd_inv hF
  exact z_iret cx hr (nbx hn5) hF d_X10_takes_26
/-! SunnyPansModel.sign -/
theorem d_X10_sign_0 : decode cX10_sign 0 = .ok (.aload_n 0, 1) := by decide +kernel
theorem d_X10_sign_1 : decode cX10_sign 1 = .ok (.getfield 98, 3) := by decide +kernel
theorem d_X10_sign_4 : decode cX10_sign 4 = .ok (.ifCond .eq 4, 3) := by decide +kernel
theorem d_X10_sign_7 : decode cX10_sign 7 = .ok (.return_, 1) := by decide +kernel
theorem d_X10_sign_8 : decode cX10_sign 8 = .ok (.aload_n 0, 1) := by decide +kernel
theorem d_X10_sign_9 : decode cX10_sign 9 = .ok (.invokevirtual 104, 3) := by decide +kernel
theorem d_X10_sign_12 : decode cX10_sign 12 = .ok (.aload_n 0, 1) := by decide +kernel
theorem d_X10_sign_13 : decode cX10_sign 13 = .ok (.aload_n 0, 1) := by decide +kernel
theorem d_X10_sign_14 : decode cX10_sign 14 = .ok (.getfield 91, 3) := by decide +kernel
theorem d_X10_sign_17 : decode cX10_sign 17 = .ok (.invokevirtual 94, 3) := by decide +kernel
theorem d_X10_sign_20 : decode cX10_sign 20 = .ok (.iload_n 1, 1) := by decide +kernel
theorem d_X10_sign_21 : decode cX10_sign 21 = .ok (.if_icmp .ne 16, 3) := by decide +kernel
theorem d_X10_sign_24 : decode cX10_sign 24 = .ok (.aload_n 0, 1) := by decide +kernel
theorem d_X10_sign_25 : decode cX10_sign 25 = .ok (.dup, 1) := by decide +kernel
theorem d_X10_sign_26 : decode cX10_sign 26 = .ok (.getfield 91, 3) := by decide +kernel
theorem d_X10_sign_29 : decode cX10_sign 29 = .ok (.iconst 1, 1) := by decide +kernel
theorem d_X10_sign_30 : decode cX10_sign 30 = .ok (.iadd, 1) := by decide +kernel
theorem d_X10_sign_31 : decode cX10_sign 31 = .ok (.putfield 91, 3) := by decide +kernel
theorem d_X10_sign_34 : decode cX10_sign 34 = .ok (.goto 12, 3) := by decide +kernel
theorem d_X10_sign_37 : decode cX10_sign 37 = .ok (.aload_n 0, 1) := by decide +kernel
theorem d_X10_sign_38 : decode cX10_sign 38 = .ok (.iconst 1, 1) := by decide +kernel
theorem d_X10_sign_39 : decode cX10_sign 39 = .ok (.aload_n 0, 1) := by decide +kernel
theorem d_X10_sign_40 : decode cX10_sign 40 = .ok (.getfield 91, 3) := by decide +kernel
theorem d_X10_sign_43 : decode cX10_sign 43 = .ok (.invokevirtual 111, 3) := by decide +kernel
theorem d_X10_sign_46 : decode cX10_sign 46 = .ok (.return_, 1) := by decide +kernel
def F_X10_sign (M : zMem) (p0 : Int32) : Option (zMem) :=
  if (M.1 0 5) = 0 then
    zbv (F_X10_blanks M) fun M1 =>
    zb (F_X10_byteAt M1 (M1.1 0 4)) fun v3 M2 =>
    if v3 = p0 then
      zl (zI M2 0 4 ((M2.1 0 4) + (1 : Int32))) fun M5 =>
      some M5
    else
      zbv (F_X10_wrong M2 (1 : Int32) (M2.1 0 4)) fun M4 =>
      some M4
  else
    some M
def rm_X10_sign : Room := { frames := 4, cells := 0, slots := 0, locals := 121 }
set_option maxHeartbeats 4000000 in
set_option maxRecDepth 100000 in
theorem c_X10_sign (l : Launch) {G : zG} {ad : Nat → Nat} {n : Nat} (hA : zInj ad n) (M : zMem) (p0 : Int32) (hT : zT shM n 0 11) {M9 : zMem} (hF : F_X10_sign M p0 = some M9) : zM l yX10_sign cX10_sign 2 none rm_X10_sign G shM ad n M [.ref (ad 0), .int p0] none M9 := by
  refine zM_of hA (by decide +kernel) (lv := [(0, .ref (ad 0)), (1, .int p0)]) (Nat.le_of_ble_eq_true rfl) rfl (fun p e s m args below meth c A cx hr => ?_)
  unfold F_X10_sign at hF
  refine z_aload_n cx d_X10_sign_0 0 rfl ?_
  refine z_getI cx hT fg_SunnyPansModel_98 d_X10_sign_1 ?_
  refine z_if_eq cx 8 d_X10_sign_4 (by decide) hF (fun hF => ?_) (fun hF => ?_)
  · refine z_aload_n cx d_X10_sign_8 0 rfl ?_
    obtain ⟨M1, hc, hF⟩ := zbv_inv hF
    refine z_callV cx (As := []) (rest := []) (c_X10_blanks l cx.2.2.2.1.1 M hT hc) hT zo_11 cv_SunnyPansModel_104 ⟨rfl, rfl, Nat.le_of_ble_eq_true rfl, Nat.le_of_ble_eq_true rfl⟩ rfl rfl ⟨Nat.zero_le _, Nat.zero_le _⟩ (Nat.le_of_ble_eq_true rfl) d_X10_sign_9 ?_
    refine z_aload_n cx d_X10_sign_12 0 rfl ?_
    refine z_aload_n cx d_X10_sign_13 0 rfl ?_
    refine z_getI cx hT fg_SunnyPansModel_91 d_X10_sign_14 ?_
    obtain ⟨v3, M2, hc, hF⟩ := zb_inv hF
    refine z_callV cx (As := [.int (M1.1 0 4)]) (rest := []) (c_X10_byteAt l cx.2.2.2.1.1 M1 (M1.1 0 4) hT hc) hT zo_11 cv_SunnyPansModel_94 ⟨rfl, rfl, Nat.le_of_ble_eq_true rfl, Nat.le_of_ble_eq_true rfl⟩ rfl rfl ⟨Nat.zero_le _, Nat.zero_le _⟩ (Nat.le_of_ble_eq_true rfl) d_X10_sign_17 ?_
    refine z_iload_n cx d_X10_sign_20 1 rfl ?_
    refine z_icmp_ne cx 37 d_X10_sign_21 (by decide) hF (fun hF => ?_) (fun hF => ?_)
    · refine z_aload_n cx d_X10_sign_37 0 rfl ?_
      refine z_iconst (v := 1) cx d_X10_sign_38 ki_1 ?_
      refine z_aload_n cx d_X10_sign_39 0 rfl ?_
      refine z_getI cx hT fg_SunnyPansModel_91 d_X10_sign_40 ?_
      obtain ⟨M4, hc, hF⟩ := zbv_inv hF
      refine z_callV cx (As := [.int (1 : Int32), .int (M2.1 0 4)]) (rest := []) (c_X10_wrong l cx.2.2.2.1.1 M2 (1 : Int32) (M2.1 0 4) hT hc) hT zo_11 cv_SunnyPansModel_111 ⟨rfl, rfl, Nat.le_of_ble_eq_true rfl, Nat.le_of_ble_eq_true rfl⟩ rfl rfl ⟨Nat.zero_le _, Nat.zero_le _⟩ (Nat.le_of_ble_eq_true rfl) d_X10_sign_43 ?_
      exact z_vret cx hr hF d_X10_sign_46
    refine z_aload_n cx d_X10_sign_24 0 rfl ?_
    refine z_dup cx d_X10_sign_25 rfl ?_
    refine z_getI cx hT fg_SunnyPansModel_91 d_X10_sign_26 ?_
    refine z_iconst (v := 1) cx d_X10_sign_29 ki_1 ?_
    refine z_iadd cx d_X10_sign_30 ?_
    refine z_putI cx hT fp_SunnyPansModel_91 d_X10_sign_31 ?_
    refine z_nmM hF (fun M5 hF => ?_)
    refine z_goto cx 46 d_X10_sign_34 (by decide) ?_
    exact z_vret cx hr hF d_X10_sign_46
  exact z_vret cx hr hF d_X10_sign_7
/-! SunnyPansModel.takesSign -/
theorem d_X10_takesSign_0 : decode cX10_takesSign 0 = .ok (.aload_n 0, 1) := by decide +kernel
theorem d_X10_takesSign_1 : decode cX10_takesSign 1 = .ok (.getfield 98, 3) := by decide +kernel
theorem d_X10_takesSign_4 : decode cX10_takesSign 4 = .ok (.ifCond .eq 5, 3) := by decide +kernel
theorem d_X10_takesSign_7 : decode cX10_takesSign 7 = .ok (.iconst 0, 1) := by decide +kernel
theorem d_X10_takesSign_8 : decode cX10_takesSign 8 = .ok (.ireturn, 1) := by decide +kernel
theorem d_X10_takesSign_9 : decode cX10_takesSign 9 = .ok (.aload_n 0, 1) := by decide +kernel
theorem d_X10_takesSign_10 : decode cX10_takesSign 10 = .ok (.invokevirtual 104, 3) := by decide +kernel
theorem d_X10_takesSign_13 : decode cX10_takesSign 13 = .ok (.aload_n 0, 1) := by decide +kernel
theorem d_X10_takesSign_14 : decode cX10_takesSign 14 = .ok (.aload_n 0, 1) := by decide +kernel
theorem d_X10_takesSign_15 : decode cX10_takesSign 15 = .ok (.getfield 91, 3) := by decide +kernel
theorem d_X10_takesSign_18 : decode cX10_takesSign 18 = .ok (.invokevirtual 94, 3) := by decide +kernel
theorem d_X10_takesSign_21 : decode cX10_takesSign 21 = .ok (.iload_n 1, 1) := by decide +kernel
theorem d_X10_takesSign_22 : decode cX10_takesSign 22 = .ok (.if_icmp .ne 7, 3) := by decide +kernel
theorem d_X10_takesSign_25 : decode cX10_takesSign 25 = .ok (.iconst 1, 1) := by decide +kernel
theorem d_X10_takesSign_26 : decode cX10_takesSign 26 = .ok (.goto 4, 3) := by decide +kernel
theorem d_X10_takesSign_29 : decode cX10_takesSign 29 = .ok (.iconst 0, 1) := by decide +kernel
theorem d_X10_takesSign_30 : decode cX10_takesSign 30 = .ok (.istore_n 2, 1) := by decide +kernel
theorem d_X10_takesSign_31 : decode cX10_takesSign 31 = .ok (.iload_n 2, 1) := by decide +kernel
theorem d_X10_takesSign_32 : decode cX10_takesSign 32 = .ok (.ifCond .eq 13, 3) := by decide +kernel
theorem d_X10_takesSign_35 : decode cX10_takesSign 35 = .ok (.aload_n 0, 1) := by decide +kernel
theorem d_X10_takesSign_36 : decode cX10_takesSign 36 = .ok (.dup, 1) := by decide +kernel
theorem d_X10_takesSign_37 : decode cX10_takesSign 37 = .ok (.getfield 91, 3) := by decide +kernel
theorem d_X10_takesSign_40 : decode cX10_takesSign 40 = .ok (.iconst 1, 1) := by decide +kernel
theorem d_X10_takesSign_41 : decode cX10_takesSign 41 = .ok (.iadd, 1) := by decide +kernel
theorem d_X10_takesSign_42 : decode cX10_takesSign 42 = .ok (.putfield 91, 3) := by decide +kernel
theorem d_X10_takesSign_45 : decode cX10_takesSign 45 = .ok (.iload_n 2, 1) := by decide +kernel
theorem d_X10_takesSign_46 : decode cX10_takesSign 46 = .ok (.ireturn, 1) := by decide +kernel
def F_X10_takesSign_30 (p0 : Int32) (b30_S0 : Int32) (M : zMem) : Option (Int32 × zMem) :=
  if b30_S0 = 0 then
    gd (b30_S0 == 0 || b30_S0 == 1) <|
    some (b30_S0, M)
  else
    zl (zI M 0 4 ((M.1 0 4) + (1 : Int32))) fun M2 =>
    gd (b30_S0 == 0 || b30_S0 == 1) <|
    some (b30_S0, M2)
def F_X10_takesSign (M : zMem) (p0 : Int32) : Option (Int32 × zMem) :=
  if (M.1 0 5) = 0 then
    zbv (F_X10_blanks M) fun M4 =>
    zb (F_X10_byteAt M4 (M4.1 0 4)) fun v6 M5 =>
    if v6 = p0 then
      F_X10_takesSign_30 p0 (1 : Int32) M5
    else
      F_X10_takesSign_30 p0 (0 : Int32) M5
  else
    some ((0 : Int32), M)
def rm_X10_takesSign : Room := { frames := 4, cells := 0, slots := 0, locals := 121 }
set_option maxHeartbeats 4000000 in
set_option maxRecDepth 100000 in
theorem c_X10_takesSign (l : Launch) {G : zG} {ad : Nat → Nat} {n : Nat} (hA : zInj ad n) (M : zMem) (p0 : Int32) (hT : zT shM n 0 11) {r9 : Int32} {M9 : zMem} (hF : F_X10_takesSign M p0 = some (r9, M9)) : zM l yX10_takesSign cX10_takesSign 3 (some .boolean) rm_X10_takesSign G shM ad n M [.ref (ad 0), .int p0] (some (.int r9)) M9 := by
  refine zM_of hA (by decide +kernel) (lv := [(0, .ref (ad 0)), (1, .int p0)]) (Nat.le_of_ble_eq_true rfl) rfl (fun p e s m args below meth c A cx hr => ?_)
  have hb30 : ∀ (b30_S0 : Int32) (M : zMem), F_X10_takesSign_30 p0 b30_S0 M = some (r9, M9) → zJ p l e rm_X10_takesSign s m args below meth c G shM ad n A 3 (MQ below (zQ G shM ad n M9 (some (.int r9)) A) args s 0 0 A) 0 0 M 30 [(0, .ref (ad 0))] [.int b30_S0] := by
    intro b30_S0 M hF
    unfold F_X10_takesSign_30 at hF
    refine z_istore_n cx 2 [(2, .int b30_S0), (0, .ref (ad 0))] d_X10_takesSign_30 rfl (by decide) rfl ?_
    refine z_iload_n cx d_X10_takesSign_31 0 rfl ?_
    refine z_if_eq cx 45 d_X10_takesSign_32 (by decide) hF (fun hF => ?_) (fun hF => ?_)
    · refine z_iload_n cx d_X10_takesSign_45 0 rfl ?_
      obtain ⟨hn1, hF⟩ := gd_inv hF
      exact z_iret cx hr (nbx hn1) hF d_X10_takesSign_46
    refine z_aload_n cx d_X10_takesSign_35 1 rfl ?_
    refine z_dup cx d_X10_takesSign_36 rfl ?_
    refine z_getI cx hT fg_SunnyPansModel_91 d_X10_takesSign_37 ?_
    refine z_iconst (v := 1) cx d_X10_takesSign_40 ki_1 ?_
    refine z_iadd cx d_X10_takesSign_41 ?_
    refine z_putI cx hT fp_SunnyPansModel_91 d_X10_takesSign_42 ?_
    refine z_nmM hF (fun M2 hF => ?_)
    refine z_iload_n cx d_X10_takesSign_45 0 rfl ?_
    obtain ⟨hn3, hF⟩ := gd_inv hF
    exact z_iret cx hr (nbx hn3) hF d_X10_takesSign_46
  unfold F_X10_takesSign at hF
  refine z_aload_n cx d_X10_takesSign_0 0 rfl ?_
  refine z_getI cx hT fg_SunnyPansModel_98 d_X10_takesSign_1 ?_
  refine z_if_eq cx 9 d_X10_takesSign_4 (by decide) hF (fun hF => ?_) (fun hF => ?_)
  · refine z_aload_n cx d_X10_takesSign_9 0 rfl ?_
    obtain ⟨M4, hc, hF⟩ := zbv_inv hF
    refine z_callV cx (As := []) (rest := []) (c_X10_blanks l cx.2.2.2.1.1 M hT hc) hT zo_11 cv_SunnyPansModel_104 ⟨rfl, rfl, Nat.le_of_ble_eq_true rfl, Nat.le_of_ble_eq_true rfl⟩ rfl rfl ⟨Nat.zero_le _, Nat.zero_le _⟩ (Nat.le_of_ble_eq_true rfl) d_X10_takesSign_10 ?_
    refine z_aload_n cx d_X10_takesSign_13 0 rfl ?_
    refine z_aload_n cx d_X10_takesSign_14 0 rfl ?_
    refine z_getI cx hT fg_SunnyPansModel_91 d_X10_takesSign_15 ?_
    obtain ⟨v6, M5, hc, hF⟩ := zb_inv hF
    refine z_callV cx (As := [.int (M4.1 0 4)]) (rest := []) (c_X10_byteAt l cx.2.2.2.1.1 M4 (M4.1 0 4) hT hc) hT zo_11 cv_SunnyPansModel_94 ⟨rfl, rfl, Nat.le_of_ble_eq_true rfl, Nat.le_of_ble_eq_true rfl⟩ rfl rfl ⟨Nat.zero_le _, Nat.zero_le _⟩ (Nat.le_of_ble_eq_true rfl) d_X10_takesSign_18 ?_
    refine z_iload_n cx d_X10_takesSign_21 1 rfl ?_
    refine z_icmp_ne cx 29 d_X10_takesSign_22 (by decide) hF (fun hF => ?_) (fun hF => ?_)
    · refine z_iconst (v := 0) cx d_X10_takesSign_29 ki_0 ?_
      exact z_lv [0] _ rfl (hb30 (0 : Int32) M5 hF)
    refine z_iconst (v := 1) cx d_X10_takesSign_25 ki_1 ?_
    refine z_goto cx 30 d_X10_takesSign_26 (by decide) ?_
    exact z_lv [0] _ rfl (hb30 (1 : Int32) M5 hF)
  refine z_iconst (v := 0) cx d_X10_takesSign_7 ki_0 ?_
  exact z_iret cx hr nb0 hF d_X10_takesSign_8
/-! SunnyPansModel.starts -/
theorem d_X10_starts_0 : decode cX10_starts 0 = .ok (.aload_n 0, 1) := by decide +kernel
theorem d_X10_starts_1 : decode cX10_starts 1 = .ok (.iconst 0, 1) := by decide +kernel
theorem d_X10_starts_2 : decode cX10_starts 2 = .ok (.putfield 85, 3) := by decide +kernel
theorem d_X10_starts_5 : decode cX10_starts 5 = .ok (.aload_n 0, 1) := by decide +kernel
theorem d_X10_starts_6 : decode cX10_starts 6 = .ok (.iload_n 1, 1) := by decide +kernel
theorem d_X10_starts_7 : decode cX10_starts 7 = .ok (.putfield 88, 3) := by decide +kernel
theorem d_X10_starts_10 : decode cX10_starts 10 = .ok (.aload_n 0, 1) := by decide +kernel
theorem d_X10_starts_11 : decode cX10_starts 11 = .ok (.iconst 0, 1) := by decide +kernel
theorem d_X10_starts_12 : decode cX10_starts 12 = .ok (.putfield 91, 3) := by decide +kernel
theorem d_X10_starts_15 : decode cX10_starts 15 = .ok (.aload_n 0, 1) := by decide +kernel
theorem d_X10_starts_16 : decode cX10_starts 16 = .ok (.iconst 0, 1) := by decide +kernel
theorem d_X10_starts_17 : decode cX10_starts 17 = .ok (.putfield 98, 3) := by decide +kernel
theorem d_X10_starts_20 : decode cX10_starts 20 = .ok (.aload_n 0, 1) := by decide +kernel
theorem d_X10_starts_21 : decode cX10_starts 21 = .ok (.iconst (-1), 1) := by decide +kernel
theorem d_X10_starts_22 : decode cX10_starts 22 = .ok (.putfield 101, 3) := by decide +kernel
theorem d_X10_starts_25 : decode cX10_starts 25 = .ok (.aload_n 0, 1) := by decide +kernel
theorem d_X10_starts_26 : decode cX10_starts 26 = .ok (.iconst 0, 1) := by decide +kernel
theorem d_X10_starts_27 : decode cX10_starts 27 = .ok (.putfield 138, 3) := by decide +kernel
theorem d_X10_starts_30 : decode cX10_starts 30 = .ok (.aload_n 0, 1) := by decide +kernel
theorem d_X10_starts_31 : decode cX10_starts 31 = .ok (.iconst 0, 1) := by decide +kernel
theorem d_X10_starts_32 : decode cX10_starts 32 = .ok (.putfield 141, 3) := by decide +kernel
theorem d_X10_starts_35 : decode cX10_starts 35 = .ok (.aload_n 0, 1) := by decide +kernel
theorem d_X10_starts_36 : decode cX10_starts 36 = .ok (.invokevirtual 104, 3) := by decide +kernel
theorem d_X10_starts_39 : decode cX10_starts 39 = .ok (.return_, 1) := by decide +kernel
def F_X10_starts (M : zMem) (p0 : Int32) : Option (zMem) :=
  zl (zI M 0 1 (0 : Int32)) fun M1 =>
  zl (zI M1 0 2 p0) fun M2 =>
  zl (zI M2 0 4 (0 : Int32)) fun M3 =>
  zl (zI M3 0 5 (0 : Int32)) fun M4 =>
  zl (zI M4 0 6 (-1 : Int32)) fun M5 =>
  zl (zI M5 0 7 (0 : Int32)) fun M6 =>
  zl (zI M6 0 8 (0 : Int32)) fun M7 =>
  zbv (F_X10_blanks M7) fun M8 =>
  some M8
def rm_X10_starts : Room := { frames := 4, cells := 0, slots := 0, locals := 121 }
set_option maxHeartbeats 4000000 in
set_option maxRecDepth 100000 in
theorem c_X10_starts (l : Launch) {G : zG} {ad : Nat → Nat} {n : Nat} (hA : zInj ad n) (M : zMem) (p0 : Int32) (hT : zT shM n 0 11) {M9 : zMem} (hF : F_X10_starts M p0 = some M9) : zM l yX10_starts cX10_starts 2 none rm_X10_starts G shM ad n M [.ref (ad 0), .int p0] none M9 := by
  refine zM_of hA (by decide +kernel) (lv := [(0, .ref (ad 0)), (1, .int p0)]) (Nat.le_of_ble_eq_true rfl) rfl (fun p e s m args below meth c A cx hr => ?_)
  unfold F_X10_starts at hF
  refine z_aload_n cx d_X10_starts_0 0 rfl ?_
  refine z_iconst (v := 0) cx d_X10_starts_1 ki_0 ?_
  refine z_putI cx hT fp_SunnyPansModel_85 d_X10_starts_2 ?_
  refine z_nmM hF (fun M1 hF => ?_)
  refine z_aload_n cx d_X10_starts_5 0 rfl ?_
  refine z_iload_n cx d_X10_starts_6 1 rfl ?_
  refine z_putI cx hT fp_SunnyPansModel_88 d_X10_starts_7 ?_
  refine z_nmM hF (fun M2 hF => ?_)
  refine z_aload_n cx d_X10_starts_10 0 rfl ?_
  refine z_iconst (v := 0) cx d_X10_starts_11 ki_0 ?_
  refine z_putI cx hT fp_SunnyPansModel_91 d_X10_starts_12 ?_
  refine z_nmM hF (fun M3 hF => ?_)
  refine z_aload_n cx d_X10_starts_15 0 rfl ?_
  refine z_iconst (v := 0) cx d_X10_starts_16 ki_0 ?_
  refine z_putI cx hT fp_SunnyPansModel_98 d_X10_starts_17 ?_
  refine z_nmM hF (fun M4 hF => ?_)
  refine z_aload_n cx d_X10_starts_20 0 rfl ?_
  refine z_iconst (v := -1) cx d_X10_starts_21 ki_m1 ?_
  refine z_putI cx hT fp_SunnyPansModel_101 d_X10_starts_22 ?_
  refine z_nmM hF (fun M5 hF => ?_)
  refine z_aload_n cx d_X10_starts_25 0 rfl ?_
  refine z_iconst (v := 0) cx d_X10_starts_26 ki_0 ?_
  refine z_putI cx hT fp_SunnyPansModel_138 d_X10_starts_27 ?_
  refine z_nmM hF (fun M6 hF => ?_)
  refine z_aload_n cx d_X10_starts_30 0 rfl ?_
  refine z_iconst (v := 0) cx d_X10_starts_31 ki_0 ?_
  refine z_putI cx hT fp_SunnyPansModel_141 d_X10_starts_32 ?_
  refine z_nmM hF (fun M7 hF => ?_)
  refine z_aload_n cx d_X10_starts_35 0 rfl ?_
  obtain ⟨M8, hc, hF⟩ := zbv_inv hF
  refine z_callV cx (As := []) (rest := []) (c_X10_blanks l cx.2.2.2.1.1 M7 hT hc) hT zo_11 cv_SunnyPansModel_104 ⟨rfl, rfl, Nat.le_of_ble_eq_true rfl, Nat.le_of_ble_eq_true rfl⟩ rfl rfl ⟨Nat.zero_le _, Nat.zero_le _⟩ (Nat.le_of_ble_eq_true rfl) d_X10_starts_36 ?_
  exact z_vret cx hr hF d_X10_starts_39
/-! SunnyPansModel.ends -/
theorem d_X10_ends_0 : decode cX10_ends 0 = .ok (.aload_n 0, 1) := by decide +kernel
theorem d_X10_ends_1 : decode cX10_ends 1 = .ok (.aload_n 0, 1) := by decide +kernel
theorem d_X10_ends_2 : decode cX10_ends 2 = .ok (.getfield 101, 3) := by decide +kernel
theorem d_X10_ends_5 : decode cX10_ends 5 = .ok (.putfield 9, 3) := by decide +kernel
theorem d_X10_ends_8 : decode cX10_ends 8 = .ok (.aload_n 0, 1) := by decide +kernel
theorem d_X10_ends_9 : decode cX10_ends 9 = .ok (.getfield 98, 3) := by decide +kernel
theorem d_X10_ends_12 : decode cX10_ends 12 = .ok (.bipush 10, 2) := by decide +kernel
theorem d_X10_ends_14 : decode cX10_ends 14 = .ok (.isub, 1) := by decide +kernel
theorem d_X10_ends_15 : decode cX10_ends 15 = .ok (.ireturn, 1) := by decide +kernel
def F_X10_ends (M : zMem)  : Option (Int32 × zMem) :=
  zl (zI M 0 3 (M.1 0 6)) fun M1 =>
  some (((M1.1 0 5) - (10 : Int32)), M1)
def rm_X10_ends : Room := { frames := 2, cells := 0, slots := 0, locals := 80 }
set_option maxHeartbeats 4000000 in
set_option maxRecDepth 100000 in
theorem c_X10_ends (l : Launch) {G : zG} {ad : Nat → Nat} {n : Nat} (hA : zInj ad n) (M : zMem)  (hT : zT shM n 0 11) {r9 : Int32} {M9 : zMem} (hF : F_X10_ends M  = some (r9, M9)) : zM l yX10_ends cX10_ends 1 (some .int) rm_X10_ends G shM ad n M [.ref (ad 0)] (some (.int r9)) M9 := by
  refine zM_of hA (by decide +kernel) (lv := [(0, .ref (ad 0))]) (Nat.le_of_ble_eq_true rfl) rfl (fun p e s m args below meth c A cx hr => ?_)
  unfold F_X10_ends at hF
  refine z_aload_n cx d_X10_ends_0 0 rfl ?_
  refine z_aload_n cx d_X10_ends_1 0 rfl ?_
  refine z_getI cx hT fg_SunnyPansModel_101 d_X10_ends_2 ?_
  refine z_putI cx hT fp_SunnyPansModel_9 d_X10_ends_5 ?_
  refine z_nmM hF (fun M1 hF => ?_)
  refine z_aload_n cx d_X10_ends_8 0 rfl ?_
  refine z_getI cx hT fg_SunnyPansModel_98 d_X10_ends_9 ?_
  refine z_bipush (v := 10) cx d_X10_ends_12 kb_10 ?_
  refine z_isub cx d_X10_ends_14 ?_
  exact z_iret cx hr rfl hF d_X10_ends_15
/-! SunnyPansModel.kindHere -/
theorem d_X10_kindHere_0 : decode cX10_kindHere 0 = .ok (.aload_n 0, 1) := by decide +kernel
theorem d_X10_kindHere_1 : decode cX10_kindHere 1 = .ok (.bipush 19, 2) := by decide +kernel
theorem d_X10_kindHere_3 : decode cX10_kindHere 3 = .ok (.bipush 9, 2) := by decide +kernel
theorem d_X10_kindHere_5 : decode cX10_kindHere 5 = .ok (.bipush 26, 2) := by decide +kernel
theorem d_X10_kindHere_7 : decode cX10_kindHere 7 = .ok (.iconst 5, 1) := by decide +kernel
theorem d_X10_kindHere_8 : decode cX10_kindHere 8 = .ok (.iconst 0, 1) := by decide +kernel
theorem d_X10_kindHere_9 : decode cX10_kindHere 9 = .ok (.iconst 0, 1) := by decide +kernel
theorem d_X10_kindHere_10 : decode cX10_kindHere 10 = .ok (.invokevirtual 131, 3) := by decide +kernel
theorem d_X10_kindHere_13 : decode cX10_kindHere 13 = .ok (.ifCond .eq 5, 3) := by decide +kernel
theorem d_X10_kindHere_16 : decode cX10_kindHere 16 = .ok (.iconst 0, 1) := by decide +kernel
theorem d_X10_kindHere_17 : decode cX10_kindHere 17 = .ok (.ireturn, 1) := by decide +kernel
theorem d_X10_kindHere_18 : decode cX10_kindHere 18 = .ok (.aload_n 0, 1) := by decide +kernel
theorem d_X10_kindHere_19 : decode cX10_kindHere 19 = .ok (.bipush 8, 2) := by decide +kernel
theorem d_X10_kindHere_21 : decode cX10_kindHere 21 = .ok (.bipush 15, 2) := by decide +kernel
theorem d_X10_kindHere_23 : decode cX10_kindHere 23 = .ok (.bipush 21, 2) := by decide +kernel
theorem d_X10_kindHere_25 : decode cX10_kindHere 25 = .ok (.bipush 18, 2) := by decide +kernel
theorem d_X10_kindHere_27 : decode cX10_kindHere 27 = .ok (.iconst 0, 1) := by decide +kernel
theorem d_X10_kindHere_28 : decode cX10_kindHere 28 = .ok (.iconst 0, 1) := by decide +kernel
theorem d_X10_kindHere_29 : decode cX10_kindHere 29 = .ok (.invokevirtual 131, 3) := by decide +kernel
theorem d_X10_kindHere_32 : decode cX10_kindHere 32 = .ok (.ifCond .eq 5, 3) := by decide +kernel
theorem d_X10_kindHere_35 : decode cX10_kindHere 35 = .ok (.iconst 1, 1) := by decide +kernel
theorem d_X10_kindHere_36 : decode cX10_kindHere 36 = .ok (.ireturn, 1) := by decide +kernel
theorem d_X10_kindHere_37 : decode cX10_kindHere 37 = .ok (.aload_n 0, 1) := by decide +kernel
theorem d_X10_kindHere_38 : decode cX10_kindHere 38 = .ok (.bipush 16, 2) := by decide +kernel
theorem d_X10_kindHere_40 : decode cX10_kindHere 40 = .ok (.iconst 1, 1) := by decide +kernel
theorem d_X10_kindHere_41 : decode cX10_kindHere 41 = .ok (.bipush 14, 2) := by decide +kernel
theorem d_X10_kindHere_43 : decode cX10_kindHere 43 = .ok (.iconst 0, 1) := by decide +kernel
theorem d_X10_kindHere_44 : decode cX10_kindHere 44 = .ok (.iconst 0, 1) := by decide +kernel
theorem d_X10_kindHere_45 : decode cX10_kindHere 45 = .ok (.iconst 0, 1) := by decide +kernel
theorem d_X10_kindHere_46 : decode cX10_kindHere 46 = .ok (.invokevirtual 131, 3) := by decide +kernel
theorem d_X10_kindHere_49 : decode cX10_kindHere 49 = .ok (.ifCond .eq 5, 3) := by decide +kernel
theorem d_X10_kindHere_52 : decode cX10_kindHere 52 = .ok (.iconst 2, 1) := by decide +kernel
theorem d_X10_kindHere_53 : decode cX10_kindHere 53 = .ok (.ireturn, 1) := by decide +kernel
theorem d_X10_kindHere_54 : decode cX10_kindHere 54 = .ok (.aload_n 0, 1) := by decide +kernel
theorem d_X10_kindHere_55 : decode cX10_kindHere 55 = .ok (.bipush 8, 2) := by decide +kernel
theorem d_X10_kindHere_57 : decode cX10_kindHere 57 = .ok (.iconst 5, 1) := by decide +kernel
theorem d_X10_kindHere_58 : decode cX10_kindHere 58 = .ok (.iconst 1, 1) := by decide +kernel
theorem d_X10_kindHere_59 : decode cX10_kindHere 59 = .ok (.bipush 16, 2) := by decide +kernel
theorem d_X10_kindHere_61 : decode cX10_kindHere 61 = .ok (.iconst 0, 1) := by decide +kernel
theorem d_X10_kindHere_62 : decode cX10_kindHere 62 = .ok (.iconst 0, 1) := by decide +kernel
theorem d_X10_kindHere_63 : decode cX10_kindHere 63 = .ok (.invokevirtual 131, 3) := by decide +kernel
theorem d_X10_kindHere_66 : decode cX10_kindHere 66 = .ok (.ifCond .eq 7, 3) := by decide +kernel
theorem d_X10_kindHere_69 : decode cX10_kindHere 69 = .ok (.iconst 3, 1) := by decide +kernel
theorem d_X10_kindHere_70 : decode cX10_kindHere 70 = .ok (.goto 4, 3) := by decide +kernel
theorem d_X10_kindHere_73 : decode cX10_kindHere 73 = .ok (.iconst (-1), 1) := by decide +kernel
theorem d_X10_kindHere_74 : decode cX10_kindHere 74 = .ok (.ireturn, 1) := by decide +kernel
def F_X10_kindHere (M : zMem)  : Option (Int32 × zMem) :=
  zb (F_X10_isWord M (19 : Int32) (9 : Int32) (26 : Int32) (5 : Int32) (0 : Int32) (0 : Int32)) fun v2 M1 =>
  if v2 = 0 then
    zb (F_X10_isWord M1 (8 : Int32) (15 : Int32) (21 : Int32) (18 : Int32) (0 : Int32) (0 : Int32)) fun v4 M3 =>
    if v4 = 0 then
      zb (F_X10_isWord M3 (16 : Int32) (1 : Int32) (14 : Int32) (0 : Int32) (0 : Int32) (0 : Int32)) fun v6 M5 =>
      if v6 = 0 then
        zb (F_X10_isWord M5 (8 : Int32) (5 : Int32) (1 : Int32) (16 : Int32) (0 : Int32) (0 : Int32)) fun v8 M7 =>
        if v8 = 0 then
          some ((-1 : Int32), M7)
        else
          some ((3 : Int32), M7)
      else
        some ((2 : Int32), M5)
    else
      some ((1 : Int32), M3)
  else
    some ((0 : Int32), M1)
def rm_X10_kindHere : Room := { frames := 6, cells := 0, slots := 0, locals := 169 }
set_option maxHeartbeats 4000000 in
set_option maxRecDepth 100000 in
theorem c_X10_kindHere (l : Launch) {G : zG} {ad : Nat → Nat} {n : Nat} (hA : zInj ad n) (M : zMem)  (hT : zT shM n 0 11) {r9 : Int32} {M9 : zMem} (hF : F_X10_kindHere M  = some (r9, M9)) : zM l yX10_kindHere cX10_kindHere 1 (some .int) rm_X10_kindHere G shM ad n M [.ref (ad 0)] (some (.int r9)) M9 := by
  refine zM_of hA (by decide +kernel) (lv := [(0, .ref (ad 0))]) (Nat.le_of_ble_eq_true rfl) rfl (fun p e s m args below meth c A cx hr => ?_)
  unfold F_X10_kindHere at hF
  refine z_aload_n cx d_X10_kindHere_0 0 rfl ?_
  refine z_bipush (v := 19) cx d_X10_kindHere_1 kb_19 ?_
  refine z_bipush (v := 9) cx d_X10_kindHere_3 kb_9 ?_
  refine z_bipush (v := 26) cx d_X10_kindHere_5 kb_26 ?_
  refine z_iconst (v := 5) cx d_X10_kindHere_7 ki_5 ?_
  refine z_iconst (v := 0) cx d_X10_kindHere_8 ki_0 ?_
  refine z_iconst (v := 0) cx d_X10_kindHere_9 ki_0 ?_
  obtain ⟨v2, M1, hc, hF⟩ := zb_inv hF
  refine z_callV cx (As := [.int (19 : Int32), .int (9 : Int32), .int (26 : Int32), .int (5 : Int32), .int (0 : Int32), .int (0 : Int32)]) (rest := []) (c_X10_isWord l cx.2.2.2.1.1 M (19 : Int32) (9 : Int32) (26 : Int32) (5 : Int32) (0 : Int32) (0 : Int32) hT hc) hT zo_11 cv_SunnyPansModel_131 ⟨rfl, rfl, Nat.le_of_ble_eq_true rfl, Nat.le_of_ble_eq_true rfl⟩ rfl rfl ⟨Nat.zero_le _, Nat.zero_le _⟩ (Nat.le_of_ble_eq_true rfl) d_X10_kindHere_10 ?_
  refine z_if_eq cx 18 d_X10_kindHere_13 (by decide) hF (fun hF => ?_) (fun hF => ?_)
  · refine z_aload_n cx d_X10_kindHere_18 0 rfl ?_
    refine z_bipush (v := 8) cx d_X10_kindHere_19 kb_8 ?_
    refine z_bipush (v := 15) cx d_X10_kindHere_21 kb_15 ?_
    refine z_bipush (v := 21) cx d_X10_kindHere_23 kb_21 ?_
    refine z_bipush (v := 18) cx d_X10_kindHere_25 kb_18 ?_
    refine z_iconst (v := 0) cx d_X10_kindHere_27 ki_0 ?_
    refine z_iconst (v := 0) cx d_X10_kindHere_28 ki_0 ?_
    obtain ⟨v4, M3, hc, hF⟩ := zb_inv hF
    refine z_callV cx (As := [.int (8 : Int32), .int (15 : Int32), .int (21 : Int32), .int (18 : Int32), .int (0 : Int32), .int (0 : Int32)]) (rest := []) (c_X10_isWord l cx.2.2.2.1.1 M1 (8 : Int32) (15 : Int32) (21 : Int32) (18 : Int32) (0 : Int32) (0 : Int32) hT hc) hT zo_11 cv_SunnyPansModel_131 ⟨rfl, rfl, Nat.le_of_ble_eq_true rfl, Nat.le_of_ble_eq_true rfl⟩ rfl rfl ⟨Nat.zero_le _, Nat.zero_le _⟩ (Nat.le_of_ble_eq_true rfl) d_X10_kindHere_29 ?_
    refine z_if_eq cx 37 d_X10_kindHere_32 (by decide) hF (fun hF => ?_) (fun hF => ?_)
    · refine z_aload_n cx d_X10_kindHere_37 0 rfl ?_
      refine z_bipush (v := 16) cx d_X10_kindHere_38 kb_16 ?_
      refine z_iconst (v := 1) cx d_X10_kindHere_40 ki_1 ?_
      refine z_bipush (v := 14) cx d_X10_kindHere_41 kb_14 ?_
      refine z_iconst (v := 0) cx d_X10_kindHere_43 ki_0 ?_
      refine z_iconst (v := 0) cx d_X10_kindHere_44 ki_0 ?_
      refine z_iconst (v := 0) cx d_X10_kindHere_45 ki_0 ?_
      obtain ⟨v6, M5, hc, hF⟩ := zb_inv hF
      refine z_callV cx (As := [.int (16 : Int32), .int (1 : Int32), .int (14 : Int32), .int (0 : Int32), .int (0 : Int32), .int (0 : Int32)]) (rest := []) (c_X10_isWord l cx.2.2.2.1.1 M3 (16 : Int32) (1 : Int32) (14 : Int32) (0 : Int32) (0 : Int32) (0 : Int32) hT hc) hT zo_11 cv_SunnyPansModel_131 ⟨rfl, rfl, Nat.le_of_ble_eq_true rfl, Nat.le_of_ble_eq_true rfl⟩ rfl rfl ⟨Nat.zero_le _, Nat.zero_le _⟩ (Nat.le_of_ble_eq_true rfl) d_X10_kindHere_46 ?_
      refine z_if_eq cx 54 d_X10_kindHere_49 (by decide) hF (fun hF => ?_) (fun hF => ?_)
      · refine z_aload_n cx d_X10_kindHere_54 0 rfl ?_
        refine z_bipush (v := 8) cx d_X10_kindHere_55 kb_8 ?_
        refine z_iconst (v := 5) cx d_X10_kindHere_57 ki_5 ?_
        refine z_iconst (v := 1) cx d_X10_kindHere_58 ki_1 ?_
        refine z_bipush (v := 16) cx d_X10_kindHere_59 kb_16 ?_
        refine z_iconst (v := 0) cx d_X10_kindHere_61 ki_0 ?_
        refine z_iconst (v := 0) cx d_X10_kindHere_62 ki_0 ?_
        obtain ⟨v8, M7, hc, hF⟩ := zb_inv hF
        refine z_callV cx (As := [.int (8 : Int32), .int (5 : Int32), .int (1 : Int32), .int (16 : Int32), .int (0 : Int32), .int (0 : Int32)]) (rest := []) (c_X10_isWord l cx.2.2.2.1.1 M5 (8 : Int32) (5 : Int32) (1 : Int32) (16 : Int32) (0 : Int32) (0 : Int32) hT hc) hT zo_11 cv_SunnyPansModel_131 ⟨rfl, rfl, Nat.le_of_ble_eq_true rfl, Nat.le_of_ble_eq_true rfl⟩ rfl rfl ⟨Nat.zero_le _, Nat.zero_le _⟩ (Nat.le_of_ble_eq_true rfl) d_X10_kindHere_63 ?_
        refine z_if_eq cx 73 d_X10_kindHere_66 (by decide) hF (fun hF => ?_) (fun hF => ?_)
        · refine z_iconst (v := -1) cx d_X10_kindHere_73 ki_m1 ?_
          exact z_iret cx hr rfl hF d_X10_kindHere_74
        refine z_iconst (v := 3) cx d_X10_kindHere_69 ki_3 ?_
        refine z_goto cx 74 d_X10_kindHere_70 (by decide) ?_
        exact z_iret cx hr rfl hF d_X10_kindHere_74
      refine z_iconst (v := 2) cx d_X10_kindHere_52 ki_2 ?_
      exact z_iret cx hr rfl hF d_X10_kindHere_53
    refine z_iconst (v := 1) cx d_X10_kindHere_35 ki_1 ?_
    exact z_iret cx hr rfl hF d_X10_kindHere_36
  refine z_iconst (v := 0) cx d_X10_kindHere_16 ki_0 ?_
  exact z_iret cx hr rfl hF d_X10_kindHere_17
/-! SunnyPansModel.clause -/
theorem d_X10_clause_0 : decode cX10_clause 0 = .ok (.aload_n 0, 1) := by decide +kernel
theorem d_X10_clause_1 : decode cX10_clause 1 = .ok (.invokevirtual 144, 3) := by decide +kernel
theorem d_X10_clause_4 : decode cX10_clause 4 = .ok (.istore_n 1, 1) := by decide +kernel
theorem d_X10_clause_5 : decode cX10_clause 5 = .ok (.iload_n 1, 1) := by decide +kernel
theorem d_X10_clause_6 : decode cX10_clause 6 = .ok (.iconst (-1), 1) := by decide +kernel
theorem d_X10_clause_7 : decode cX10_clause 7 = .ok (.if_icmp .ne 15, 3) := by decide +kernel
theorem d_X10_clause_10 : decode cX10_clause 10 = .ok (.aload_n 0, 1) := by decide +kernel
theorem d_X10_clause_11 : decode cX10_clause 11 = .ok (.iconst 1, 1) := by decide +kernel
theorem d_X10_clause_12 : decode cX10_clause 12 = .ok (.aload_n 0, 1) := by decide +kernel
theorem d_X10_clause_13 : decode cX10_clause 13 = .ok (.getfield 91, 3) := by decide +kernel
theorem d_X10_clause_16 : decode cX10_clause 16 = .ok (.invokevirtual 111, 3) := by decide +kernel
theorem d_X10_clause_19 : decode cX10_clause 19 = .ok (.goto 37, 3) := by decide +kernel
theorem d_X10_clause_22 : decode cX10_clause 22 = .ok (.aload_n 0, 1) := by decide +kernel
theorem d_X10_clause_23 : decode cX10_clause 23 = .ok (.getfield 138, 3) := by decide +kernel
theorem d_X10_clause_26 : decode cX10_clause 26 = .ok (.bipush 60, 2) := by decide +kernel
theorem d_X10_clause_28 : decode cX10_clause 28 = .ok (.if_icmp .eq 19, 3) := by decide +kernel
theorem d_X10_clause_31 : decode cX10_clause 31 = .ok (.iload_n 1, 1) := by decide +kernel
theorem d_X10_clause_32 : decode cX10_clause 32 = .ok (.iconst 1, 1) := by decide +kernel
theorem d_X10_clause_33 : decode cX10_clause 33 = .ok (.if_icmp .ne 23, 3) := by decide +kernel
theorem d_X10_clause_36 : decode cX10_clause 36 = .ok (.aload_n 0, 1) := by decide +kernel
theorem d_X10_clause_37 : decode cX10_clause 37 = .ok (.getfield 20, 3) := by decide +kernel
theorem d_X10_clause_40 : decode cX10_clause 40 = .ok (.iconst 2, 1) := by decide +kernel
theorem d_X10_clause_41 : decode cX10_clause 41 = .ok (.iaload, 1) := by decide +kernel
theorem d_X10_clause_42 : decode cX10_clause 42 = .ok (.bipush 10, 2) := by decide +kernel
theorem d_X10_clause_44 : decode cX10_clause 44 = .ok (.if_icmp .ne 12, 3) := by decide +kernel
theorem d_X10_clause_47 : decode cX10_clause 47 = .ok (.aload_n 0, 1) := by decide +kernel
theorem d_X10_clause_48 : decode cX10_clause 48 = .ok (.iconst 3, 1) := by decide +kernel
theorem d_X10_clause_49 : decode cX10_clause 49 = .ok (.aload_n 0, 1) := by decide +kernel
theorem d_X10_clause_50 : decode cX10_clause 50 = .ok (.getfield 91, 3) := by decide +kernel
theorem d_X10_clause_53 : decode cX10_clause 53 = .ok (.invokevirtual 111, 3) := by decide +kernel
theorem d_X10_clause_56 : decode cX10_clause 56 = .ok (.aload_n 0, 1) := by decide +kernel
theorem d_X10_clause_57 : decode cX10_clause 57 = .ok (.getfield 98, 3) := by decide +kernel
theorem d_X10_clause_60 : decode cX10_clause 60 = .ok (.ifCond .eq 4, 3) := by decide +kernel
theorem d_X10_clause_63 : decode cX10_clause 63 = .ok (.return_, 1) := by decide +kernel
theorem d_X10_clause_64 : decode cX10_clause 64 = .ok (.aload_n 0, 1) := by decide +kernel
theorem d_X10_clause_65 : decode cX10_clause 65 = .ok (.invokevirtual 135, 3) := by decide +kernel
theorem d_X10_clause_68 : decode cX10_clause 68 = .ok (.aload_n 0, 1) := by decide +kernel
theorem d_X10_clause_69 : decode cX10_clause 69 = .ok (.dup, 1) := by decide +kernel
theorem d_X10_clause_70 : decode cX10_clause 70 = .ok (.getfield 138, 3) := by decide +kernel
theorem d_X10_clause_73 : decode cX10_clause 73 = .ok (.iconst 1, 1) := by decide +kernel
theorem d_X10_clause_74 : decode cX10_clause 74 = .ok (.iadd, 1) := by decide +kernel
theorem d_X10_clause_75 : decode cX10_clause 75 = .ok (.putfield 138, 3) := by decide +kernel
theorem d_X10_clause_78 : decode cX10_clause 78 = .ok (.iload_n 1, 1) := by decide +kernel
theorem d_X10_clause_79 : decode cX10_clause 79 = .ok (.ifCond .ne 29, 3) := by decide +kernel
theorem d_X10_clause_82 : decode cX10_clause 82 = .ok (.aload_n 0, 1) := by decide +kernel
theorem d_X10_clause_83 : decode cX10_clause 83 = .ok (.getfield 20, 3) := by decide +kernel
theorem d_X10_clause_86 : decode cX10_clause 86 = .ok (.iconst 0, 1) := by decide +kernel
theorem d_X10_clause_87 : decode cX10_clause 87 = .ok (.aload_n 0, 1) := by decide +kernel
theorem d_X10_clause_88 : decode cX10_clause 88 = .ok (.iconst 1, 1) := by decide +kernel
theorem d_X10_clause_89 : decode cX10_clause 89 = .ok (.bipush 8, 2) := by decide +kernel
theorem d_X10_clause_91 : decode cX10_clause 91 = .ok (.invokevirtual 147, 3) := by decide +kernel
theorem d_X10_clause_94 : decode cX10_clause 94 = .ok (.iastore, 1) := by decide +kernel
theorem d_X10_clause_95 : decode cX10_clause 95 = .ok (.aload_n 0, 1) := by decide +kernel
theorem d_X10_clause_96 : decode cX10_clause 96 = .ok (.getfield 20, 3) := by decide +kernel
theorem d_X10_clause_99 : decode cX10_clause 99 = .ok (.iconst 1, 1) := by decide +kernel
theorem d_X10_clause_100 : decode cX10_clause 100 = .ok (.aload_n 0, 1) := by decide +kernel
theorem d_X10_clause_101 : decode cX10_clause 101 = .ok (.iconst 1, 1) := by decide +kernel
theorem d_X10_clause_102 : decode cX10_clause 102 = .ok (.bipush 8, 2) := by decide +kernel
theorem d_X10_clause_104 : decode cX10_clause 104 = .ok (.invokevirtual 147, 3) := by decide +kernel
theorem d_X10_clause_107 : decode cX10_clause 107 = .ok (.iastore, 1) := by decide +kernel
theorem d_X10_clause_108 : decode cX10_clause 108 = .ok (.iload_n 1, 1) := by decide +kernel
theorem d_X10_clause_109 : decode cX10_clause 109 = .ok (.iconst 1, 1) := by decide +kernel
theorem d_X10_clause_110 : decode cX10_clause 110 = .ok (.if_icmp .ne 43, 3) := by decide +kernel
theorem d_X10_clause_113 : decode cX10_clause 113 = .ok (.aload_n 0, 1) := by decide +kernel
theorem d_X10_clause_114 : decode cX10_clause 114 = .ok (.getfield 31, 3) := by decide +kernel
theorem d_X10_clause_117 : decode cX10_clause 117 = .ok (.aload_n 0, 1) := by decide +kernel
theorem d_X10_clause_118 : decode cX10_clause 118 = .ok (.getfield 20, 3) := by decide +kernel
theorem d_X10_clause_121 : decode cX10_clause 121 = .ok (.iconst 2, 1) := by decide +kernel
theorem d_X10_clause_122 : decode cX10_clause 122 = .ok (.iaload, 1) := by decide +kernel
theorem d_X10_clause_123 : decode cX10_clause 123 = .ok (.aaload, 1) := by decide +kernel
theorem d_X10_clause_124 : decode cX10_clause 124 = .ok (.iconst 0, 1) := by decide +kernel
theorem d_X10_clause_125 : decode cX10_clause 125 = .ok (.aload_n 0, 1) := by decide +kernel
theorem d_X10_clause_126 : decode cX10_clause 126 = .ok (.iconst 0, 1) := by decide +kernel
theorem d_X10_clause_127 : decode cX10_clause 127 = .ok (.bipush 7, 2) := by decide +kernel
theorem d_X10_clause_129 : decode cX10_clause 129 = .ok (.invokevirtual 147, 3) := by decide +kernel
theorem d_X10_clause_132 : decode cX10_clause 132 = .ok (.iastore, 1) := by decide +kernel
theorem d_X10_clause_133 : decode cX10_clause 133 = .ok (.aload_n 0, 1) := by decide +kernel
theorem d_X10_clause_134 : decode cX10_clause 134 = .ok (.getfield 31, 3) := by decide +kernel
theorem d_X10_clause_137 : decode cX10_clause 137 = .ok (.aload_n 0, 1) := by decide +kernel
theorem d_X10_clause_138 : decode cX10_clause 138 = .ok (.getfield 20, 3) := by decide +kernel
theorem d_X10_clause_141 : decode cX10_clause 141 = .ok (.iconst 2, 1) := by decide +kernel
theorem d_X10_clause_142 : decode cX10_clause 142 = .ok (.iaload, 1) := by decide +kernel
theorem d_X10_clause_143 : decode cX10_clause 143 = .ok (.aaload, 1) := by decide +kernel
theorem d_X10_clause_144 : decode cX10_clause 144 = .ok (.iconst 1, 1) := by decide +kernel
theorem d_X10_clause_145 : decode cX10_clause 145 = .ok (.aload_n 0, 1) := by decide +kernel
theorem d_X10_clause_146 : decode cX10_clause 146 = .ok (.iconst 0, 1) := by decide +kernel
theorem d_X10_clause_147 : decode cX10_clause 147 = .ok (.bipush 40, 2) := by decide +kernel
theorem d_X10_clause_149 : decode cX10_clause 149 = .ok (.invokevirtual 147, 3) := by decide +kernel
theorem d_X10_clause_152 : decode cX10_clause 152 = .ok (.iastore, 1) := by decide +kernel
theorem d_X10_clause_153 : decode cX10_clause 153 = .ok (.iload_n 1, 1) := by decide +kernel
theorem d_X10_clause_154 : decode cX10_clause 154 = .ok (.iconst 1, 1) := by decide +kernel
theorem d_X10_clause_155 : decode cX10_clause 155 = .ok (.if_icmp .le 112, 3) := by decide +kernel
theorem d_X10_clause_158 : decode cX10_clause 158 = .ok (.aload_n 0, 1) := by decide +kernel
theorem d_X10_clause_159 : decode cX10_clause 159 = .ok (.iconst 0, 1) := by decide +kernel
theorem d_X10_clause_160 : decode cX10_clause 160 = .ok (.bipush 7, 2) := by decide +kernel
theorem d_X10_clause_162 : decode cX10_clause 162 = .ok (.invokevirtual 147, 3) := by decide +kernel
theorem d_X10_clause_165 : decode cX10_clause 165 = .ok (.istore_n 2, 1) := by decide +kernel
theorem d_X10_clause_166 : decode cX10_clause 166 = .ok (.aload_n 0, 1) := by decide +kernel
theorem d_X10_clause_167 : decode cX10_clause 167 = .ok (.iconst 0, 1) := by decide +kernel
theorem d_X10_clause_168 : decode cX10_clause 168 = .ok (.bipush 7, 2) := by decide +kernel
theorem d_X10_clause_170 : decode cX10_clause 170 = .ok (.invokevirtual 147, 3) := by decide +kernel
theorem d_X10_clause_173 : decode cX10_clause 173 = .ok (.istore_n 3, 1) := by decide +kernel
theorem d_X10_clause_174 : decode cX10_clause 174 = .ok (.aload_n 0, 1) := by decide +kernel
theorem d_X10_clause_175 : decode cX10_clause 175 = .ok (.iload_n 1, 1) := by decide +kernel
theorem d_X10_clause_176 : decode cX10_clause 176 = .ok (.iconst 2, 1) := by decide +kernel
theorem d_X10_clause_177 : decode cX10_clause 177 = .ok (.isub, 1) := by decide +kernel
theorem d_X10_clause_178 : decode cX10_clause 178 = .ok (.ifCond .ne 7, 3) := by decide +kernel
theorem d_X10_clause_181 : decode cX10_clause 181 = .ok (.iconst 0, 1) := by decide +kernel
theorem d_X10_clause_182 : decode cX10_clause 182 = .ok (.goto 4, 3) := by decide +kernel
theorem d_X10_clause_185 : decode cX10_clause 185 = .ok (.iconst 1, 1) := by decide +kernel
theorem d_X10_clause_186 : decode cX10_clause 186 = .ok (.sipush 999, 3) := by decide +kernel
theorem d_X10_clause_189 : decode cX10_clause 189 = .ok (.invokevirtual 147, 3) := by decide +kernel
theorem d_X10_clause_192 : decode cX10_clause 192 = .ok (.istore 4, 2) := by decide +kernel
theorem d_X10_clause_194 : decode cX10_clause 194 = .ok (.iload_n 1, 1) := by decide +kernel
theorem d_X10_clause_195 : decode cX10_clause 195 = .ok (.iconst 2, 1) := by decide +kernel
theorem d_X10_clause_196 : decode cX10_clause 196 = .ok (.if_icmp .ne 14, 3) := by decide +kernel
theorem d_X10_clause_199 : decode cX10_clause 199 = .ok (.aload_n 0, 1) := by decide +kernel
theorem d_X10_clause_200 : decode cX10_clause 200 = .ok (.iconst 0, 1) := by decide +kernel
theorem d_X10_clause_201 : decode cX10_clause 201 = .ok (.sipush 999, 3) := by decide +kernel
theorem d_X10_clause_204 : decode cX10_clause 204 = .ok (.invokevirtual 147, 3) := by decide +kernel
theorem d_X10_clause_207 : decode cX10_clause 207 = .ok (.goto 4, 3) := by decide +kernel
theorem d_X10_clause_210 : decode cX10_clause 210 = .ok (.iconst 0, 1) := by decide +kernel
theorem d_X10_clause_211 : decode cX10_clause 211 = .ok (.istore 5, 2) := by decide +kernel
theorem d_X10_clause_213 : decode cX10_clause 213 = .ok (.aload_n 0, 1) := by decide +kernel
theorem d_X10_clause_214 : decode cX10_clause 214 = .ok (.getfield 98, 3) := by decide +kernel
theorem d_X10_clause_217 : decode cX10_clause 217 = .ok (.ifCond .ne 50, 3) := by decide +kernel
theorem d_X10_clause_220 : decode cX10_clause 220 = .ok (.bipush 8, 2) := by decide +kernel
theorem d_X10_clause_222 : decode cX10_clause 222 = .ok (.iload_n 3, 1) := by decide +kernel
theorem d_X10_clause_223 : decode cX10_clause 223 = .ok (.imul, 1) := by decide +kernel
theorem d_X10_clause_224 : decode cX10_clause 224 = .ok (.iload_n 2, 1) := by decide +kernel
theorem d_X10_clause_225 : decode cX10_clause 225 = .ok (.iadd, 1) := by decide +kernel
theorem d_X10_clause_226 : decode cX10_clause 226 = .ok (.istore 6, 2) := by decide +kernel
theorem d_X10_clause_228 : decode cX10_clause 228 = .ok (.aload_n 0, 1) := by decide +kernel
theorem d_X10_clause_229 : decode cX10_clause 229 = .ok (.getfield 26, 3) := by decide +kernel
theorem d_X10_clause_232 : decode cX10_clause 232 = .ok (.iload_n 1, 1) := by decide +kernel
theorem d_X10_clause_233 : decode cX10_clause 233 = .ok (.iconst 2, 1) := by decide +kernel
theorem d_X10_clause_234 : decode cX10_clause 234 = .ok (.if_icmp .ne 7, 3) := by decide +kernel
theorem d_X10_clause_237 : decode cX10_clause 237 = .ok (.iconst 0, 1) := by decide +kernel
theorem d_X10_clause_238 : decode cX10_clause 238 = .ok (.goto 6, 3) := by decide +kernel
theorem d_X10_clause_241 : decode cX10_clause 241 = .ok (.sipush 128, 3) := by decide +kernel
theorem d_X10_clause_244 : decode cX10_clause 244 = .ok (.iload 6, 2) := by decide +kernel
theorem d_X10_clause_246 : decode cX10_clause 246 = .ok (.iadd, 1) := by decide +kernel
theorem d_X10_clause_247 : decode cX10_clause 247 = .ok (.iload 4, 2) := by decide +kernel
theorem d_X10_clause_249 : decode cX10_clause 249 = .ok (.iastore, 1) := by decide +kernel
theorem d_X10_clause_250 : decode cX10_clause 250 = .ok (.iload_n 1, 1) := by decide +kernel
theorem d_X10_clause_251 : decode cX10_clause 251 = .ok (.iconst 2, 1) := by decide +kernel
theorem d_X10_clause_252 : decode cX10_clause 252 = .ok (.if_icmp .ne 15, 3) := by decide +kernel
theorem d_X10_clause_255 : decode cX10_clause 255 = .ok (.aload_n 0, 1) := by decide +kernel
theorem d_X10_clause_256 : decode cX10_clause 256 = .ok (.getfield 26, 3) := by decide +kernel
theorem d_X10_clause_259 : decode cX10_clause 259 = .ok (.bipush 64, 2) := by decide +kernel
theorem d_X10_clause_261 : decode cX10_clause 261 = .ok (.iload 6, 2) := by decide +kernel
theorem d_X10_clause_263 : decode cX10_clause 263 = .ok (.iadd, 1) := by decide +kernel
theorem d_X10_clause_264 : decode cX10_clause 264 = .ok (.iload 5, 2) := by decide +kernel
theorem d_X10_clause_266 : decode cX10_clause 266 = .ok (.iastore, 1) := by decide +kernel
theorem d_X10_clause_267 : decode cX10_clause 267 = .ok (.aload_n 0, 1) := by decide +kernel
theorem d_X10_clause_268 : decode cX10_clause 268 = .ok (.bipush 59, 2) := by decide +kernel
theorem d_X10_clause_270 : decode cX10_clause 270 = .ok (.invokevirtual 151, 3) := by decide +kernel
theorem d_X10_clause_273 : decode cX10_clause 273 = .ok (.aload_n 0, 1) := by decide +kernel
theorem d_X10_clause_274 : decode cX10_clause 274 = .ok (.getfield 20, 3) := by decide +kernel
theorem d_X10_clause_277 : decode cX10_clause 277 = .ok (.iconst 2, 1) := by decide +kernel
theorem d_X10_clause_278 : decode cX10_clause 278 = .ok (.dup2, 1) := by decide +kernel
theorem d_X10_clause_279 : decode cX10_clause 279 = .ok (.iaload, 1) := by decide +kernel
theorem d_X10_clause_280 : decode cX10_clause 280 = .ok (.aload_n 0, 1) := by decide +kernel
theorem d_X10_clause_281 : decode cX10_clause 281 = .ok (.getfield 98, 3) := by decide +kernel
theorem d_X10_clause_284 : decode cX10_clause 284 = .ok (.ifCond .ne 12, 3) := by decide +kernel
theorem d_X10_clause_287 : decode cX10_clause 287 = .ok (.iload_n 1, 1) := by decide +kernel
theorem d_X10_clause_288 : decode cX10_clause 288 = .ok (.iconst 1, 1) := by decide +kernel
theorem d_X10_clause_289 : decode cX10_clause 289 = .ok (.if_icmp .ne 7, 3) := by decide +kernel
theorem d_X10_clause_292 : decode cX10_clause 292 = .ok (.iconst 1, 1) := by decide +kernel
theorem d_X10_clause_293 : decode cX10_clause 293 = .ok (.goto 4, 3) := by decide +kernel
theorem d_X10_clause_296 : decode cX10_clause 296 = .ok (.iconst 0, 1) := by decide +kernel
theorem d_X10_clause_297 : decode cX10_clause 297 = .ok (.iadd, 1) := by decide +kernel
theorem d_X10_clause_298 : decode cX10_clause 298 = .ok (.iastore, 1) := by decide +kernel
theorem d_X10_clause_299 : decode cX10_clause 299 = .ok (.return_, 1) := by decide +kernel
def F_X10_clause_296 (b296_S1 : Int32) (b296_S2 : Int32) (M : zMem) : Option (zMem) :=
  gin b296_S1 3 <|
  zl (zI M 3 b296_S1.toNatClampNeg (b296_S2 + (0 : Int32))) fun M2 =>
  some M2
def F_X10_clause_267 (b267_L1 : Int32) (M : zMem) : Option (zMem) :=
  zbv (F_X10_sign M (59 : Int32)) fun M3 =>
  if (M3.1 0 5) = 0 then
    if b267_L1 = (1 : Int32) then
      zl (zI M3 3 2 ((M3.1 3 2) + (1 : Int32))) fun M4 =>
      some M4
    else
      F_X10_clause_296 (2 : Int32) (M3.1 3 2) M3
  else
    F_X10_clause_296 (2 : Int32) (M3.1 3 2) M3
def F_X10_clause_244 (b244_L1 : Int32) (b244_L4 : Int32) (b244_L5 : Int32) (b244_L6 : Int32) (b244_S1 : Int32) (M : zMem) : Option (zMem) :=
  gin (b244_S1 + b244_L6) 192 <|
  zl (zI M 5 ((b244_S1 + b244_L6).toNatClampNeg) b244_L4) fun M6 =>
  if b244_L1 = (2 : Int32) then
    gin ((64 : Int32) + b244_L6) 192 <|
    zl (zI M6 5 (((64 : Int32) + b244_L6).toNatClampNeg) b244_L5) fun M8 =>
    F_X10_clause_267 b244_L1 M8
  else
    F_X10_clause_267 b244_L1 M6
def F_X10_clause_211 (b211_L1 : Int32) (b211_L2 : Int32) (b211_L3 : Int32) (b211_L4 : Int32) (b211_S0 : Int32) (M : zMem) : Option (zMem) :=
  if (M.1 0 5) = 0 then
    zl (((8 : Int32) * b211_L3) + b211_L2) fun v9 =>
    if b211_L1 = (2 : Int32) then
      F_X10_clause_244 b211_L1 b211_L4 b211_S0 v9 (0 : Int32) M
    else
      F_X10_clause_244 b211_L1 b211_L4 b211_S0 v9 (128 : Int32) M
  else
    F_X10_clause_267 b211_L1 M
def F_X10_clause_186 (b186_L1 : Int32) (b186_L2 : Int32) (b186_L3 : Int32) (b186_S1 : Int32) (M : zMem) : Option (zMem) :=
  zb (F_X10_number M b186_S1 (999 : Int32)) fun v11 M10 =>
  if b186_L1 = (2 : Int32) then
    zb (F_X10_number M10 (0 : Int32) (999 : Int32)) fun v13 M12 =>
    F_X10_clause_211 b186_L1 b186_L2 b186_L3 v11 v13 M12
  else
    F_X10_clause_211 b186_L1 b186_L2 b186_L3 v11 (0 : Int32) M10
def F_X10_clause_153 (b153_L1 : Int32) (M : zMem) : Option (zMem) :=
  if b153_L1 ≤ (1 : Int32) then
    F_X10_clause_267 b153_L1 M
  else
    zb (F_X10_number M (0 : Int32) (7 : Int32)) fun v15 M14 =>
    zb (F_X10_number M14 (0 : Int32) (7 : Int32)) fun v17 M16 =>
    if (b153_L1 - (2 : Int32)) = 0 then
      F_X10_clause_186 b153_L1 v15 v17 (0 : Int32) M16
    else
      F_X10_clause_186 b153_L1 v15 v17 (1 : Int32) M16
def F_X10_clause_108 (b108_L1 : Int32) (M : zMem) : Option (zMem) :=
  if b108_L1 = (1 : Int32) then
    gin (M.1 3 2) 10 <|
    zb (F_X10_number M (0 : Int32) (7 : Int32)) fun v20 M19 =>
    zl (zI M19 (6 + (1 + 1 * (M.1 3 2).toNatClampNeg)) 0 v20) fun M21 =>
    gin (M21.1 3 2) 10 <|
    zb (F_X10_number M21 (0 : Int32) (40 : Int32)) fun v24 M23 =>
    zl (zI M23 (6 + (1 + 1 * (M21.1 3 2).toNatClampNeg)) 1 v24) fun M25 =>
    F_X10_clause_153 b108_L1 M25
  else
    F_X10_clause_153 b108_L1 M
def F_X10_clause_56 (b56_L1 : Int32) (M : zMem) : Option (zMem) :=
  if (M.1 0 5) = 0 then
    zbv (F_X10_skipWord M) fun M26 =>
    zl (zI M26 0 7 ((M26.1 0 7) + (1 : Int32))) fun M27 =>
    if b56_L1 = 0 then
      zb (F_X10_number M27 (1 : Int32) (8 : Int32)) fun v29 M28 =>
      zl (zI M28 3 0 v29) fun M30 =>
      zb (F_X10_number M30 (1 : Int32) (8 : Int32)) fun v32 M31 =>
      zl (zI M31 3 1 v32) fun M33 =>
      F_X10_clause_108 b56_L1 M33
    else
      F_X10_clause_108 b56_L1 M27
  else
    some M
def F_X10_clause_47 (b47_L1 : Int32) (M : zMem) : Option (zMem) :=
  zbv (F_X10_wrong M (3 : Int32) (M.1 0 4)) fun M34 =>
  F_X10_clause_56 b47_L1 M34
def F_X10_clause (M : zMem)  : Option (zMem) :=
  zb (F_X10_kindHere M) fun v36 M35 =>
  if v36 = (-1 : Int32) then
    zbv (F_X10_wrong M35 (1 : Int32) (M35.1 0 4)) fun M37 =>
    F_X10_clause_56 v36 M37
  else
    if (M35.1 0 7) = (60 : Int32) then
      F_X10_clause_47 v36 M35
    else
      if v36 = (1 : Int32) then
        if (M35.1 3 2) = (10 : Int32) then
          F_X10_clause_47 v36 M35
        else
          F_X10_clause_56 v36 M35
      else
        F_X10_clause_56 v36 M35
def rm_X10_clause : Room := { frames := 7, cells := 0, slots := 0, locals := 189 }
set_option maxHeartbeats 4000000 in
set_option maxRecDepth 100000 in
theorem c_X10_clause (l : Launch) {G : zG} {ad : Nat → Nat} {n : Nat} (hA : zInj ad n) (M : zMem)  (hT : zT shM n 0 11) {M9 : zMem} (hF : F_X10_clause M  = some M9) : zM l yX10_clause cX10_clause 7 none rm_X10_clause G shM ad n M [.ref (ad 0)] none M9 := by
  refine zM_of hA (by decide +kernel) (lv := [(0, .ref (ad 0))]) (Nat.le_of_ble_eq_true rfl) rfl (fun p e s m args below meth c A cx hr => ?_)
  have hb296 : ∀ (b296_S1 : Int32) (b296_S2 : Int32) (M : zMem), F_X10_clause_296 b296_S1 b296_S2 M = some M9 → zJ p l e rm_X10_clause s m args below meth c G shM ad n A 7 (MQ below (zQ G shM ad n M9 none A) args s 0 0 A) 0 0 M 296 [] [.int b296_S2, .int b296_S1, .ref (ad 3)] := by
    intro b296_S1 b296_S2 M hF
    unfold F_X10_clause_296 at hF
    refine z_iconst (v := 0) cx d_X10_clause_296 ki_0 ?_
    refine z_iadd cx d_X10_clause_297 ?_
    obtain ⟨hi1, hF⟩ := gin_inv hF
    refine z_iast cx ? za_28 hi1 b296_S1.toNatClampNeg rfl d_X10_clause_298 ?_
    refine z_nmM hF (fun M2 hF => ?_)
    exact z_vret cx hr hF d_X10_clause_299
  have hb267 : ∀ (b267_L1 : Int32) (M : zMem), F_X10_clause_267 b267_L1 M = some M9 → zJ p l e rm_X10_clause s m args below meth c G shM ad n A 7 (MQ below (zQ G shM ad n M9 none A) args s 0 0 A) 0 0 M 267 [(0, .ref (ad 0)), (1, .int b267_L1)] [] := by
    intro b267_L1 M hF
    unfold F_X10_clause_267 at hF
    refine z_aload_n cx d_X10_clause_267 0 rfl ?_
    refine z_bipush (v := 59) cx d_X10_clause_268 kb_59 ?_
    obtain ⟨M3, hc, hF⟩ := zbv_inv hF
    refine z_callV cx (As := [.int (59 : Int32)]) (rest := []) (c_X10_sign l cx.2.2.2.1.1 M (59 : Int32) hT hc) hT zo_11 cv_SunnyPansModel_151 ⟨rfl, rfl, Nat.le_of_ble_eq_true rfl, Nat.le_of_ble_eq_true rfl⟩ rfl rfl ⟨Nat.zero_le _, Nat.zero_le _⟩ (Nat.le_of_ble_eq_true rfl) d_X10_clause_270 ?_
    refine z_aload_n cx d_X10_clause_273 0 rfl ?_
    refine z_getR cx hT fg_SunnyPansModel_20 3 rfl d_X10_clause_274 ?_
    refine z_iconst (v := 2) cx d_X10_clause_277 ki_2 ?_
    refine z_dup2 cx d_X10_clause_278 rfl rfl ?_
    refine z_iald cx (tfM_11_3 hT) za_28 (zvp (by decide +kernel)) 2 rfl d_X10_clause_279 ?_
    refine z_aload_n cx d_X10_clause_280 0 rfl ?_
    refine z_getI cx hT fg_SunnyPansModel_98 d_X10_clause_281 ?_
    refine z_if_ne cx 296 d_X10_clause_284 (by decide) hF (fun hF => ?_) (fun hF => ?_)
    · exact z_lv [] _ rfl (hb296 (2 : Int32) (M3.1 3 2) M3 hF)
    refine z_iload_n cx d_X10_clause_287 1 rfl ?_
    refine z_iconst (v := 1) cx d_X10_clause_288 ki_1 ?_
    refine z_icmp_ne cx 296 d_X10_clause_289 (by decide) hF (fun hF => ?_) (fun hF => ?_)
    · exact z_lv [] _ rfl (hb296 (2 : Int32) (M3.1 3 2) M3 hF)
    refine z_iconst (v := 1) cx d_X10_clause_292 ki_1 ?_
    refine z_goto cx 297 d_X10_clause_293 (by decide) ?_
    refine z_iadd cx d_X10_clause_297 ?_
    refine z_iast cx (tfM_11_3 hT) za_28 (zvp (by decide +kernel)) 2 rfl d_X10_clause_298 ?_
    refine z_nmM hF (fun M4 hF => ?_)
    exact z_vret cx hr hF d_X10_clause_299
  have hb244 : ∀ (b244_L1 : Int32) (b244_L4 : Int32) (b244_L5 : Int32) (b244_L6 : Int32) (b244_S1 : Int32) (M : zMem), F_X10_clause_244 b244_L1 b244_L4 b244_L5 b244_L6 b244_S1 M = some M9 → zJ p l e rm_X10_clause s m args below meth c G shM ad n A 7 (MQ below (zQ G shM ad n M9 none A) args s 0 0 A) 0 0 M 244 [(0, .ref (ad 0)), (1, .int b244_L1), (4, .int b244_L4), (5, .int b244_L5), (6, .int b244_L6)] [.int b244_S1, .ref (ad 5)] := by
    intro b244_L1 b244_L4 b244_L5 b244_L6 b244_S1 M hF
    unfold F_X10_clause_244 at hF
    refine z_iload cx d_X10_clause_244 4 rfl ?_
    refine z_iadd cx d_X10_clause_246 ?_
    refine z_iload cx d_X10_clause_247 2 rfl ?_
    obtain ⟨hi5, hF⟩ := gin_inv hF
    refine z_iast cx ? za_29 hi5 ((b244_S1 + b244_L6).toNatClampNeg) rfl d_X10_clause_249 ?_
    refine z_nmM hF (fun M6 hF => ?_)
    refine z_iload_n cx d_X10_clause_250 1 rfl ?_
    refine z_iconst (v := 2) cx d_X10_clause_251 ki_2 ?_
    refine z_icmp_ne cx 267 d_X10_clause_252 (by decide) hF (fun hF => ?_) (fun hF => ?_)
    · exact z_lv [0, 1] _ rfl (hb267 b244_L1 M6 hF)
    refine z_aload_n cx d_X10_clause_255 0 rfl ?_
    refine z_getR cx hT fg_SunnyPansModel_26 5 rfl d_X10_clause_256 ?_
    refine z_bipush (v := 64) cx d_X10_clause_259 kb_64 ?_
    refine z_iload cx d_X10_clause_261 4 rfl ?_
    refine z_iadd cx d_X10_clause_263 ?_
    refine z_iload cx d_X10_clause_264 3 rfl ?_
    obtain ⟨hi7, hF⟩ := gin_inv hF
    refine z_iast cx (tfM_11_5 hT) za_29 hi7 (((64 : Int32) + b244_L6).toNatClampNeg) rfl d_X10_clause_266 ?_
    refine z_nmM hF (fun M8 hF => ?_)
    exact z_lv [0, 1] _ rfl (hb267 b244_L1 M8 hF)
  have hb211 : ∀ (b211_L1 : Int32) (b211_L2 : Int32) (b211_L3 : Int32) (b211_L4 : Int32) (b211_S0 : Int32) (M : zMem), F_X10_clause_211 b211_L1 b211_L2 b211_L3 b211_L4 b211_S0 M = some M9 → zJ p l e rm_X10_clause s m args below meth c G shM ad n A 7 (MQ below (zQ G shM ad n M9 none A) args s 0 0 A) 0 0 M 211 [(0, .ref (ad 0)), (1, .int b211_L1), (2, .int b211_L2), (3, .int b211_L3), (4, .int b211_L4)] [.int b211_S0] := by
    intro b211_L1 b211_L2 b211_L3 b211_L4 b211_S0 M hF
    unfold F_X10_clause_211 at hF
    refine z_istore cx 5 [(5, .int b211_S0), (0, .ref (ad 0)), (1, .int b211_L1), (2, .int b211_L2), (3, .int b211_L3), (4, .int b211_L4)] d_X10_clause_211 (by decide) rfl ?_
    refine z_aload_n cx d_X10_clause_213 1 rfl ?_
    refine z_getI cx hT fg_SunnyPansModel_98 d_X10_clause_214 ?_
    refine z_if_ne cx 267 d_X10_clause_217 (by decide) hF (fun hF => ?_) (fun hF => ?_)
    · exact z_lv [1, 2] _ rfl (hb267 b211_L1 M hF)
    refine z_bipush (v := 8) cx d_X10_clause_220 kb_8 ?_
    refine z_iload_n cx d_X10_clause_222 4 rfl ?_
    refine z_imul cx d_X10_clause_223 ?_
    refine z_iload_n cx d_X10_clause_224 3 rfl ?_
    refine z_iadd cx d_X10_clause_225 ?_
    refine z_nm hF (fun v9 hF => ?_)
    refine z_istore cx 6 [(6, .int v9), (5, .int b211_S0), (0, .ref (ad 0)), (1, .int b211_L1), (2, .int b211_L2), (3, .int b211_L3), (4, .int b211_L4)] d_X10_clause_226 (by decide) rfl ?_
    refine z_aload_n cx d_X10_clause_228 2 rfl ?_
    refine z_getR cx hT fg_SunnyPansModel_26 5 rfl d_X10_clause_229 ?_
    refine z_iload_n cx d_X10_clause_232 3 rfl ?_
    refine z_iconst (v := 2) cx d_X10_clause_233 ki_2 ?_
    refine z_icmp_ne cx 241 d_X10_clause_234 (by decide) hF (fun hF => ?_) (fun hF => ?_)
    · refine z_sipush (v := 128) cx d_X10_clause_241 ks_128 ?_
      exact z_lv [2, 3, 6, 1, 0] _ rfl (hb244 b211_L1 b211_L4 b211_S0 v9 (128 : Int32) M hF)
    refine z_iconst (v := 0) cx d_X10_clause_237 ki_0 ?_
    refine z_goto cx 244 d_X10_clause_238 (by decide) ?_
    exact z_lv [2, 3, 6, 1, 0] _ rfl (hb244 b211_L1 b211_L4 b211_S0 v9 (0 : Int32) M hF)
  have hb186 : ∀ (b186_L1 : Int32) (b186_L2 : Int32) (b186_L3 : Int32) (b186_S1 : Int32) (M : zMem), F_X10_clause_186 b186_L1 b186_L2 b186_L3 b186_S1 M = some M9 → zJ p l e rm_X10_clause s m args below meth c G shM ad n A 7 (MQ below (zQ G shM ad n M9 none A) args s 0 0 A) 0 0 M 186 [(0, .ref (ad 0)), (1, .int b186_L1), (2, .int b186_L2), (3, .int b186_L3)] [.int b186_S1, .ref (ad 0)] := by
    intro b186_L1 b186_L2 b186_L3 b186_S1 M hF
    unfold F_X10_clause_186 at hF
    refine z_sipush (v := 999) cx d_X10_clause_186 ks_999 ?_
    obtain ⟨v11, M10, hc, hF⟩ := zb_inv hF
    refine z_callV cx (As := [.int b186_S1, .int (999 : Int32)]) (rest := []) (c_X10_number l cx.2.2.2.1.1 M b186_S1 (999 : Int32) hT hc) hT zo_11 cv_SunnyPansModel_147 ⟨rfl, rfl, Nat.le_of_ble_eq_true rfl, Nat.le_of_ble_eq_true rfl⟩ rfl rfl ⟨Nat.zero_le _, Nat.zero_le _⟩ (Nat.le_of_ble_eq_true rfl) d_X10_clause_189 ?_
    refine z_istore cx 4 [(4, .int v11), (0, .ref (ad 0)), (1, .int b186_L1), (2, .int b186_L2), (3, .int b186_L3)] d_X10_clause_192 (by decide) rfl ?_
    refine z_iload_n cx d_X10_clause_194 2 rfl ?_
    refine z_iconst (v := 2) cx d_X10_clause_195 ki_2 ?_
    refine z_icmp_ne cx 210 d_X10_clause_196 (by decide) hF (fun hF => ?_) (fun hF => ?_)
    · refine z_iconst (v := 0) cx d_X10_clause_210 ki_0 ?_
      exact z_lv [1, 2, 3, 4, 0] _ rfl (hb211 b186_L1 b186_L2 b186_L3 v11 (0 : Int32) M10 hF)
    refine z_aload_n cx d_X10_clause_199 1 rfl ?_
    refine z_iconst (v := 0) cx d_X10_clause_200 ki_0 ?_
    refine z_sipush (v := 999) cx d_X10_clause_201 ks_999 ?_
    obtain ⟨v13, M12, hc, hF⟩ := zb_inv hF
    refine z_callV cx (As := [.int (0 : Int32), .int (999 : Int32)]) (rest := []) (c_X10_number l cx.2.2.2.1.1 M10 (0 : Int32) (999 : Int32) hT hc) hT zo_11 cv_SunnyPansModel_147 ⟨rfl, rfl, Nat.le_of_ble_eq_true rfl, Nat.le_of_ble_eq_true rfl⟩ rfl rfl ⟨Nat.zero_le _, Nat.zero_le _⟩ (Nat.le_of_ble_eq_true rfl) d_X10_clause_204 ?_
    refine z_goto cx 211 d_X10_clause_207 (by decide) ?_
    exact z_lv [1, 2, 3, 4, 0] _ rfl (hb211 b186_L1 b186_L2 b186_L3 v11 v13 M12 hF)
  have hb153 : ∀ (b153_L1 : Int32) (M : zMem), F_X10_clause_153 b153_L1 M = some M9 → zJ p l e rm_X10_clause s m args below meth c G shM ad n A 7 (MQ below (zQ G shM ad n M9 none A) args s 0 0 A) 0 0 M 153 [(0, .ref (ad 0)), (1, .int b153_L1)] [] := by
    intro b153_L1 M hF
    unfold F_X10_clause_153 at hF
    refine z_iload_n cx d_X10_clause_153 1 rfl ?_
    refine z_iconst (v := 1) cx d_X10_clause_154 ki_1 ?_
    refine z_icmp_le cx 267 d_X10_clause_155 (by decide) hF (fun hF => ?_) (fun hF => ?_)
    · exact hb267 b153_L1 M hF
    refine z_aload_n cx d_X10_clause_158 0 rfl ?_
    refine z_iconst (v := 0) cx d_X10_clause_159 ki_0 ?_
    refine z_bipush (v := 7) cx d_X10_clause_160 kb_7 ?_
    obtain ⟨v15, M14, hc, hF⟩ := zb_inv hF
    refine z_callV cx (As := [.int (0 : Int32), .int (7 : Int32)]) (rest := []) (c_X10_number l cx.2.2.2.1.1 M (0 : Int32) (7 : Int32) hT hc) hT zo_11 cv_SunnyPansModel_147 ⟨rfl, rfl, Nat.le_of_ble_eq_true rfl, Nat.le_of_ble_eq_true rfl⟩ rfl rfl ⟨Nat.zero_le _, Nat.zero_le _⟩ (Nat.le_of_ble_eq_true rfl) d_X10_clause_162 ?_
    refine z_istore_n cx 2 [(2, .int v15), (0, .ref (ad 0)), (1, .int b153_L1)] d_X10_clause_165 rfl (by decide) rfl ?_
    refine z_aload_n cx d_X10_clause_166 1 rfl ?_
    refine z_iconst (v := 0) cx d_X10_clause_167 ki_0 ?_
    refine z_bipush (v := 7) cx d_X10_clause_168 kb_7 ?_
    obtain ⟨v17, M16, hc, hF⟩ := zb_inv hF
    refine z_callV cx (As := [.int (0 : Int32), .int (7 : Int32)]) (rest := []) (c_X10_number l cx.2.2.2.1.1 M14 (0 : Int32) (7 : Int32) hT hc) hT zo_11 cv_SunnyPansModel_147 ⟨rfl, rfl, Nat.le_of_ble_eq_true rfl, Nat.le_of_ble_eq_true rfl⟩ rfl rfl ⟨Nat.zero_le _, Nat.zero_le _⟩ (Nat.le_of_ble_eq_true rfl) d_X10_clause_170 ?_
    refine z_istore_n cx 3 [(3, .int v17), (2, .int v15), (0, .ref (ad 0)), (1, .int b153_L1)] d_X10_clause_173 rfl (by decide) rfl ?_
    refine z_aload_n cx d_X10_clause_174 2 rfl ?_
    refine z_iload_n cx d_X10_clause_175 3 rfl ?_
    refine z_iconst (v := 2) cx d_X10_clause_176 ki_2 ?_
    refine z_isub cx d_X10_clause_177 ?_
    refine z_if_ne cx 185 d_X10_clause_178 (by decide) hF (fun hF => ?_) (fun hF => ?_)
    · refine z_iconst (v := 1) cx d_X10_clause_185 ki_1 ?_
      exact z_lv [2, 3, 1, 0] _ rfl (hb186 b153_L1 v15 v17 (1 : Int32) M16 hF)
    refine z_iconst (v := 0) cx d_X10_clause_181 ki_0 ?_
    refine z_goto cx 186 d_X10_clause_182 (by decide) ?_
    exact z_lv [2, 3, 1, 0] _ rfl (hb186 b153_L1 v15 v17 (0 : Int32) M16 hF)
  have hb108 : ∀ (b108_L1 : Int32) (M : zMem), F_X10_clause_108 b108_L1 M = some M9 → zJ p l e rm_X10_clause s m args below meth c G shM ad n A 7 (MQ below (zQ G shM ad n M9 none A) args s 0 0 A) 0 0 M 108 [(0, .ref (ad 0)), (1, .int b108_L1)] [] := by
    intro b108_L1 M hF
    unfold F_X10_clause_108 at hF
    refine z_iload_n cx d_X10_clause_108 1 rfl ?_
    refine z_iconst (v := 1) cx d_X10_clause_109 ki_1 ?_
    refine z_icmp_ne cx 153 d_X10_clause_110 (by decide) hF (fun hF => ?_) (fun hF => ?_)
    · exact hb153 b108_L1 M hF
    refine z_aload_n cx d_X10_clause_113 0 rfl ?_
    refine z_getR cx hT fg_SunnyPansModel_31 6 rfl d_X10_clause_114 ?_
    refine z_aload_n cx d_X10_clause_117 0 rfl ?_
    refine z_getR cx hT fg_SunnyPansModel_20 3 rfl d_X10_clause_118 ?_
    refine z_iconst (v := 2) cx d_X10_clause_121 ki_2 ?_
    refine z_iald cx (tfM_11_3 hT) za_28 (zvp (by decide +kernel)) 2 rfl d_X10_clause_122 ?_
    obtain ⟨hi18, hF⟩ := gin_inv hF
    refine z_aald cx (tfM_11_6 hT) za_30 hi18 (6 + (1 + 1 * (M.1 3 2).toNatClampNeg)) rfl d_X10_clause_123 ?_
    refine z_iconst (v := 0) cx d_X10_clause_124 ki_0 ?_
    refine z_aload_n cx d_X10_clause_125 0 rfl ?_
    refine z_iconst (v := 0) cx d_X10_clause_126 ki_0 ?_
    refine z_bipush (v := 7) cx d_X10_clause_127 kb_7 ?_
    obtain ⟨v20, M19, hc, hF⟩ := zb_inv hF
    refine z_callV cx (As := [.int (0 : Int32), .int (7 : Int32)]) (rest := [.int (0 : Int32), .ref (ad (6 + (1 + 1 * (M.1 3 2).toNatClampNeg)))]) (c_X10_number l cx.2.2.2.1.1 M (0 : Int32) (7 : Int32) hT hc) hT zo_11 cv_SunnyPansModel_147 ⟨rfl, rfl, Nat.le_of_ble_eq_true rfl, Nat.le_of_ble_eq_true rfl⟩ rfl rfl ⟨Nat.zero_le _, Nat.zero_le _⟩ (Nat.le_of_ble_eq_true rfl) d_X10_clause_129 ?_
    refine z_iast cx (teM_30 (tfM_11_6 hT) hi18) za_27 (zvp (by decide +kernel)) 0 rfl d_X10_clause_132 ?_
    refine z_nmM hF (fun M21 hF => ?_)
    refine z_aload_n cx d_X10_clause_133 0 rfl ?_
    refine z_getR cx hT fg_SunnyPansModel_31 6 rfl d_X10_clause_134 ?_
    refine z_aload_n cx d_X10_clause_137 0 rfl ?_
    refine z_getR cx hT fg_SunnyPansModel_20 3 rfl d_X10_clause_138 ?_
    refine z_iconst (v := 2) cx d_X10_clause_141 ki_2 ?_
    refine z_iald cx (tfM_11_3 hT) za_28 (zvp (by decide +kernel)) 2 rfl d_X10_clause_142 ?_
    obtain ⟨hi22, hF⟩ := gin_inv hF
    refine z_aald cx (tfM_11_6 hT) za_30 hi22 (6 + (1 + 1 * (M21.1 3 2).toNatClampNeg)) rfl d_X10_clause_143 ?_
    refine z_iconst (v := 1) cx d_X10_clause_144 ki_1 ?_
    refine z_aload_n cx d_X10_clause_145 0 rfl ?_
    refine z_iconst (v := 0) cx d_X10_clause_146 ki_0 ?_
    refine z_bipush (v := 40) cx d_X10_clause_147 kb_40 ?_
    obtain ⟨v24, M23, hc, hF⟩ := zb_inv hF
    refine z_callV cx (As := [.int (0 : Int32), .int (40 : Int32)]) (rest := [.int (1 : Int32), .ref (ad (6 + (1 + 1 * (M21.1 3 2).toNatClampNeg)))]) (c_X10_number l cx.2.2.2.1.1 M21 (0 : Int32) (40 : Int32) hT hc) hT zo_11 cv_SunnyPansModel_147 ⟨rfl, rfl, Nat.le_of_ble_eq_true rfl, Nat.le_of_ble_eq_true rfl⟩ rfl rfl ⟨Nat.zero_le _, Nat.zero_le _⟩ (Nat.le_of_ble_eq_true rfl) d_X10_clause_149 ?_
    refine z_iast cx (teM_30 (tfM_11_6 hT) hi22) za_27 (zvp (by decide +kernel)) 1 rfl d_X10_clause_152 ?_
    refine z_nmM hF (fun M25 hF => ?_)
    exact hb153 b108_L1 M25 hF
  have hb56 : ∀ (b56_L1 : Int32) (M : zMem), F_X10_clause_56 b56_L1 M = some M9 → zJ p l e rm_X10_clause s m args below meth c G shM ad n A 7 (MQ below (zQ G shM ad n M9 none A) args s 0 0 A) 0 0 M 56 [(0, .ref (ad 0)), (1, .int b56_L1)] [] := by
    intro b56_L1 M hF
    unfold F_X10_clause_56 at hF
    refine z_aload_n cx d_X10_clause_56 0 rfl ?_
    refine z_getI cx hT fg_SunnyPansModel_98 d_X10_clause_57 ?_
    refine z_if_eq cx 64 d_X10_clause_60 (by decide) hF (fun hF => ?_) (fun hF => ?_)
    · refine z_aload_n cx d_X10_clause_64 0 rfl ?_
      obtain ⟨M26, hc, hF⟩ := zbv_inv hF
      refine z_callV cx (As := []) (rest := []) (c_X10_skipWord l cx.2.2.2.1.1 M hT hc) hT zo_11 cv_SunnyPansModel_135 ⟨rfl, rfl, Nat.le_of_ble_eq_true rfl, Nat.le_of_ble_eq_true rfl⟩ rfl rfl ⟨Nat.zero_le _, Nat.zero_le _⟩ (Nat.le_of_ble_eq_true rfl) d_X10_clause_65 ?_
      refine z_aload_n cx d_X10_clause_68 0 rfl ?_
      refine z_dup cx d_X10_clause_69 rfl ?_
      refine z_getI cx hT fg_SunnyPansModel_138 d_X10_clause_70 ?_
      refine z_iconst (v := 1) cx d_X10_clause_73 ki_1 ?_
      refine z_iadd cx d_X10_clause_74 ?_
      refine z_putI cx hT fp_SunnyPansModel_138 d_X10_clause_75 ?_
      refine z_nmM hF (fun M27 hF => ?_)
      refine z_iload_n cx d_X10_clause_78 1 rfl ?_
      refine z_if_ne cx 108 d_X10_clause_79 (by decide) hF (fun hF => ?_) (fun hF => ?_)
      · exact hb108 b56_L1 M27 hF
      refine z_aload_n cx d_X10_clause_82 0 rfl ?_
      refine z_getR cx hT fg_SunnyPansModel_20 3 rfl d_X10_clause_83 ?_
      refine z_iconst (v := 0) cx d_X10_clause_86 ki_0 ?_
      refine z_aload_n cx d_X10_clause_87 0 rfl ?_
      refine z_iconst (v := 1) cx d_X10_clause_88 ki_1 ?_
      refine z_bipush (v := 8) cx d_X10_clause_89 kb_8 ?_
      obtain ⟨v29, M28, hc, hF⟩ := zb_inv hF
      refine z_callV cx (As := [.int (1 : Int32), .int (8 : Int32)]) (rest := [.int (0 : Int32), .ref (ad 3)]) (c_X10_number l cx.2.2.2.1.1 M27 (1 : Int32) (8 : Int32) hT hc) hT zo_11 cv_SunnyPansModel_147 ⟨rfl, rfl, Nat.le_of_ble_eq_true rfl, Nat.le_of_ble_eq_true rfl⟩ rfl rfl ⟨Nat.zero_le _, Nat.zero_le _⟩ (Nat.le_of_ble_eq_true rfl) d_X10_clause_91 ?_
      refine z_iast cx (tfM_11_3 hT) za_28 (zvp (by decide +kernel)) 0 rfl d_X10_clause_94 ?_
      refine z_nmM hF (fun M30 hF => ?_)
      refine z_aload_n cx d_X10_clause_95 0 rfl ?_
      refine z_getR cx hT fg_SunnyPansModel_20 3 rfl d_X10_clause_96 ?_
      refine z_iconst (v := 1) cx d_X10_clause_99 ki_1 ?_
      refine z_aload_n cx d_X10_clause_100 0 rfl ?_
      refine z_iconst (v := 1) cx d_X10_clause_101 ki_1 ?_
      refine z_bipush (v := 8) cx d_X10_clause_102 kb_8 ?_
      obtain ⟨v32, M31, hc, hF⟩ := zb_inv hF
      refine z_callV cx (As := [.int (1 : Int32), .int (8 : Int32)]) (rest := [.int (1 : Int32), .ref (ad 3)]) (c_X10_number l cx.2.2.2.1.1 M30 (1 : Int32) (8 : Int32) hT hc) hT zo_11 cv_SunnyPansModel_147 ⟨rfl, rfl, Nat.le_of_ble_eq_true rfl, Nat.le_of_ble_eq_true rfl⟩ rfl rfl ⟨Nat.zero_le _, Nat.zero_le _⟩ (Nat.le_of_ble_eq_true rfl) d_X10_clause_104 ?_
      refine z_iast cx (tfM_11_3 hT) za_28 (zvp (by decide +kernel)) 1 rfl d_X10_clause_107 ?_
      refine z_nmM hF (fun M33 hF => ?_)
      exact hb108 b56_L1 M33 hF
    exact z_vret cx hr hF d_X10_clause_63
  have hb47 : ∀ (b47_L1 : Int32) (M : zMem), F_X10_clause_47 b47_L1 M = some M9 → zJ p l e rm_X10_clause s m args below meth c G shM ad n A 7 (MQ below (zQ G shM ad n M9 none A) args s 0 0 A) 0 0 M 47 [(0, .ref (ad 0)), (1, .int b47_L1)] [] := by
    intro b47_L1 M hF
    unfold F_X10_clause_47 at hF
    refine z_aload_n cx d_X10_clause_47 0 rfl ?_
    refine z_iconst (v := 3) cx d_X10_clause_48 ki_3 ?_
    refine z_aload_n cx d_X10_clause_49 0 rfl ?_
    refine z_getI cx hT fg_SunnyPansModel_91 d_X10_clause_50 ?_
    obtain ⟨M34, hc, hF⟩ := zbv_inv hF
    refine z_callV cx (As := [.int (3 : Int32), .int (M.1 0 4)]) (rest := []) (c_X10_wrong l cx.2.2.2.1.1 M (3 : Int32) (M.1 0 4) hT hc) hT zo_11 cv_SunnyPansModel_111 ⟨rfl, rfl, Nat.le_of_ble_eq_true rfl, Nat.le_of_ble_eq_true rfl⟩ rfl rfl ⟨Nat.zero_le _, Nat.zero_le _⟩ (Nat.le_of_ble_eq_true rfl) d_X10_clause_53 ?_
    exact hb56 b47_L1 M34 hF
  unfold F_X10_clause at hF
  refine z_aload_n cx d_X10_clause_0 0 rfl ?_
  obtain ⟨v36, M35, hc, hF⟩ := zb_inv hF
  refine z_callV cx (As := []) (rest := []) (c_X10_kindHere l cx.2.2.2.1.1 M hT hc) hT zo_11 cv_SunnyPansModel_144 ⟨rfl, rfl, Nat.le_of_ble_eq_true rfl, Nat.le_of_ble_eq_true rfl⟩ rfl rfl ⟨Nat.zero_le _, Nat.zero_le _⟩ (Nat.le_of_ble_eq_true rfl) d_X10_clause_1 ?_
  refine z_istore_n cx 1 [(1, .int v36), (0, .ref (ad 0))] d_X10_clause_4 rfl (by decide) rfl ?_
  refine z_iload_n cx d_X10_clause_5 0 rfl ?_
  refine z_iconst (v := -1) cx d_X10_clause_6 ki_m1 ?_
  refine z_icmp_ne cx 22 d_X10_clause_7 (by decide) hF (fun hF => ?_) (fun hF => ?_)
  · refine z_aload_n cx d_X10_clause_22 1 rfl ?_
    refine z_getI cx hT fg_SunnyPansModel_138 d_X10_clause_23 ?_
    refine z_bipush (v := 60) cx d_X10_clause_26 kb_60 ?_
    refine z_icmp_eq cx 47 d_X10_clause_28 (by decide) hF (fun hF => ?_) (fun hF => ?_)
    · exact z_lv [1, 0] _ rfl (hb47 v36 M35 hF)
    refine z_iload_n cx d_X10_clause_31 0 rfl ?_
    refine z_iconst (v := 1) cx d_X10_clause_32 ki_1 ?_
    refine z_icmp_ne cx 56 d_X10_clause_33 (by decide) hF (fun hF => ?_) (fun hF => ?_)
    · exact z_lv [1, 0] _ rfl (hb56 v36 M35 hF)
    refine z_aload_n cx d_X10_clause_36 1 rfl ?_
    refine z_getR cx hT fg_SunnyPansModel_20 3 rfl d_X10_clause_37 ?_
    refine z_iconst (v := 2) cx d_X10_clause_40 ki_2 ?_
    refine z_iald cx (tfM_11_3 hT) za_28 (zvp (by decide +kernel)) 2 rfl d_X10_clause_41 ?_
    refine z_bipush (v := 10) cx d_X10_clause_42 kb_10 ?_
    refine z_icmp_ne cx 56 d_X10_clause_44 (by decide) hF (fun hF => ?_) (fun hF => ?_)
    · exact z_lv [1, 0] _ rfl (hb56 v36 M35 hF)
    exact z_lv [1, 0] _ rfl (hb47 v36 M35 hF)
  refine z_aload_n cx d_X10_clause_10 1 rfl ?_
  refine z_iconst (v := 1) cx d_X10_clause_11 ki_1 ?_
  refine z_aload_n cx d_X10_clause_12 1 rfl ?_
  refine z_getI cx hT fg_SunnyPansModel_91 d_X10_clause_13 ?_
  obtain ⟨M37, hc, hF⟩ := zbv_inv hF
  refine z_callV cx (As := [.int (1 : Int32), .int (M35.1 0 4)]) (rest := []) (c_X10_wrong l cx.2.2.2.1.1 M35 (1 : Int32) (M35.1 0 4) hT hc) hT zo_11 cv_SunnyPansModel_111 ⟨rfl, rfl, Nat.le_of_ble_eq_true rfl, Nat.le_of_ble_eq_true rfl⟩ rfl rfl ⟨Nat.zero_le _, Nat.zero_le _⟩ (Nat.le_of_ble_eq_true rfl) d_X10_clause_16 ?_
  refine z_goto cx 56 d_X10_clause_19 (by decide) ?_
  exact z_lv [1, 0] _ rfl (hb56 v36 M37 hF)
