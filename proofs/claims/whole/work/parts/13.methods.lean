/-! SunnyPansModel.copies -/
theorem d_X10_copies_0 : decode cX10_copies 0 = .ok (.iconst 0, 1) := by decide +kernel
theorem d_X10_copies_1 : decode cX10_copies 1 = .ok (.istore_n 2, 1) := by decide +kernel
theorem d_X10_copies_2 : decode cX10_copies 2 = .ok (.iload_n 2, 1) := by decide +kernel
theorem d_X10_copies_3 : decode cX10_copies 3 = .ok (.sipush 195, 3) := by decide +kernel
theorem d_X10_copies_6 : decode cX10_copies 6 = .ok (.if_icmp .ge 15, 3) := by decide +kernel
theorem d_X10_copies_9 : decode cX10_copies 9 = .ok (.aload_n 1, 1) := by decide +kernel
theorem d_X10_copies_10 : decode cX10_copies 10 = .ok (.iload_n 2, 1) := by decide +kernel
theorem d_X10_copies_11 : decode cX10_copies 11 = .ok (.aload_n 0, 1) := by decide +kernel
theorem d_X10_copies_12 : decode cX10_copies 12 = .ok (.iload_n 2, 1) := by decide +kernel
theorem d_X10_copies_13 : decode cX10_copies 13 = .ok (.iaload, 1) := by decide +kernel
theorem d_X10_copies_14 : decode cX10_copies 14 = .ok (.iastore, 1) := by decide +kernel
theorem d_X10_copies_15 : decode cX10_copies 15 = .ok (.iinc 2 1, 3) := by decide +kernel
theorem d_X10_copies_18 : decode cX10_copies 18 = .ok (.goto (-16), 3) := by decide +kernel
theorem d_X10_copies_21 : decode cX10_copies 21 = .ok (.return_, 1) := by decide +kernel
def F_X10_copies_2 (p0 : Nat) (p1 : Nat) (self2 : Int32 → zMem → Option (zMem)) (b2_L2 : Int32) (M : zMem) : Option (zMem) :=
  if (195 : Int32) ≤ b2_L2 then
    some M
  else
    gin b2_L2 195 <|
    zl (zI M p1 b2_L2.toNatClampNeg (M.1 p0 b2_L2.toNatClampNeg)) fun M2 =>
    self2 (b2_L2 + 1) M2
def F_X10_copies (M : zMem) (p0 : Nat) (p1 : Nat) : Option (zMem) :=
  itF (fun _ _ => none) (F_X10_copies_2 p0 p1) zFuel (0 : Int32) M
def rm_X10_copies : Room := { frames := 2, cells := 0, slots := 0, locals := 80 }
set_option maxHeartbeats 4000000 in
set_option maxRecDepth 100000 in
theorem c_X10_copies (l : Launch) {G : zG} {ad : Nat → Nat} {n : Nat} (hA : zInj ad n) (M : zMem) (p0 : Nat) (p1 : Nat) (hT_p0 : zT shM n p0 36) (hT_p1 : zT shM n p1 36) {M9 : zMem} (hF : F_X10_copies M p0 p1 = some M9) : zM l yX10_copies cX10_copies 3 none rm_X10_copies G shM ad n M [.ref (ad p0), .ref (ad p1)] none M9 := by
  refine zM_of hA (by decide +kernel) (lv := [(0, .ref (ad p0)), (1, .ref (ad p1))]) (Nat.le_of_ble_eq_true rfl) rfl (fun p e s m args below meth c A cx hr => ?_)
  have hL2 : ∀ (fuel : Nat), ∀ (b2_L2 : Int32) (M : zMem), itF (fun _ _ => none) (F_X10_copies_2 p0 p1) fuel b2_L2 M = some M9 → zJ p l e rm_X10_copies s m args below meth c G shM ad n A 3 (MQ below (zQ G shM ad n M9 none A) args s 0 0 A) 0 0 M 2 [(0, .ref (ad p0)), (1, .ref (ad p1)), (2, .int b2_L2)] [] := by
    intro fuel
    induction fuel with
    | zero => intro b2_L2 M hF; cases hF
    | succ fuel hs2 =>
      intro b2_L2 M hF
      have hF : F_X10_copies_2 p0 p1 (itF (fun _ _ => none) (F_X10_copies_2 p0 p1) fuel) b2_L2 M = some M9 := hF
      generalize itF (fun _ _ => none) (F_X10_copies_2 p0 p1) fuel = self2 at hs2 hF
      unfold F_X10_copies_2 at hF
      refine z_iload_n cx d_X10_copies_2 2 rfl ?_
      refine z_sipush (v := 195) cx d_X10_copies_3 ks_195 ?_
      refine z_icmp_ge cx 21 d_X10_copies_6 (by decide) hF (fun hF => ?_) (fun hF => ?_)
      · exact z_vret cx hr hF d_X10_copies_21
      refine z_aload_n cx d_X10_copies_9 1 rfl ?_
      refine z_iload_n cx d_X10_copies_10 2 rfl ?_
      refine z_aload_n cx d_X10_copies_11 0 rfl ?_
      refine z_iload_n cx d_X10_copies_12 2 rfl ?_
      obtain ⟨hi1, hF⟩ := gin_inv hF
      refine z_iald cx hT_p0 za_36 hi1 b2_L2.toNatClampNeg rfl d_X10_copies_13 ?_
      refine z_iast cx hT_p1 za_36 hi1 b2_L2.toNatClampNeg rfl d_X10_copies_14 ?_
      refine z_nmM hF (fun M2 hF => ?_)
      refine z_iinc cx 2 1 [(2, .int (b2_L2 + 1)), (0, .ref (ad p0)), (1, .ref (ad p1))] d_X10_copies_15 2 rfl ki_1 (by decide) rfl ?_
      refine z_goto cx 2 d_X10_copies_18 (by decide) ?_
      exact z_lv [1, 2, 0] _ rfl (hs2 (b2_L2 + 1) M2 hF)
  unfold F_X10_copies at hF
  refine z_iconst (v := 0) cx d_X10_copies_0 ki_0 ?_
  refine z_istore_n cx 2 [(2, .int (0 : Int32)), (0, .ref (ad p0)), (1, .ref (ad p1))] d_X10_copies_1 rfl (by decide) rfl ?_
  exact z_lv [1, 2, 0] _ rfl (hL2 zFuel (0 : Int32) M hF)
/-! SunnyPansModel.notes -/
theorem d_X10_notes_0 : decode cX10_notes 0 = .ok (.aload_n 0, 1) := by decide +kernel
theorem d_X10_notes_1 : decode cX10_notes 1 = .ok (.getfield 98, 3) := by decide +kernel
theorem d_X10_notes_4 : decode cX10_notes 4 = .ok (.ifCond .eq 4, 3) := by decide +kernel
theorem d_X10_notes_7 : decode cX10_notes 7 = .ok (.return_, 1) := by decide +kernel
theorem d_X10_notes_8 : decode cX10_notes 8 = .ok (.aload_n 0, 1) := by decide +kernel
theorem d_X10_notes_9 : decode cX10_notes 9 = .ok (.getfield 40, 3) := by decide +kernel
theorem d_X10_notes_12 : decode cX10_notes 12 = .ok (.aload_n 0, 1) := by decide +kernel
theorem d_X10_notes_13 : decode cX10_notes 13 = .ok (.getfield 187, 3) := by decide +kernel
theorem d_X10_notes_16 : decode cX10_notes 16 = .ok (.aaload, 1) := by decide +kernel
theorem d_X10_notes_17 : decode cX10_notes 17 = .ok (.iconst 0, 1) := by decide +kernel
theorem d_X10_notes_18 : decode cX10_notes 18 = .ok (.iload_n 1, 1) := by decide +kernel
theorem d_X10_notes_19 : decode cX10_notes 19 = .ok (.iastore, 1) := by decide +kernel
theorem d_X10_notes_20 : decode cX10_notes 20 = .ok (.aload_n 0, 1) := by decide +kernel
theorem d_X10_notes_21 : decode cX10_notes 21 = .ok (.getfield 40, 3) := by decide +kernel
theorem d_X10_notes_24 : decode cX10_notes 24 = .ok (.aload_n 0, 1) := by decide +kernel
theorem d_X10_notes_25 : decode cX10_notes 25 = .ok (.getfield 187, 3) := by decide +kernel
theorem d_X10_notes_28 : decode cX10_notes 28 = .ok (.aaload, 1) := by decide +kernel
theorem d_X10_notes_29 : decode cX10_notes 29 = .ok (.iconst 1, 1) := by decide +kernel
theorem d_X10_notes_30 : decode cX10_notes 30 = .ok (.iload_n 2, 1) := by decide +kernel
theorem d_X10_notes_31 : decode cX10_notes 31 = .ok (.iastore, 1) := by decide +kernel
theorem d_X10_notes_32 : decode cX10_notes 32 = .ok (.aload_n 0, 1) := by decide +kernel
theorem d_X10_notes_33 : decode cX10_notes 33 = .ok (.dup, 1) := by decide +kernel
theorem d_X10_notes_34 : decode cX10_notes 34 = .ok (.getfield 187, 3) := by decide +kernel
theorem d_X10_notes_37 : decode cX10_notes 37 = .ok (.iconst 1, 1) := by decide +kernel
theorem d_X10_notes_38 : decode cX10_notes 38 = .ok (.iadd, 1) := by decide +kernel
theorem d_X10_notes_39 : decode cX10_notes 39 = .ok (.putfield 187, 3) := by decide +kernel
theorem d_X10_notes_42 : decode cX10_notes 42 = .ok (.return_, 1) := by decide +kernel
def F_X10_notes (M : zMem) (p0 : Int32) (p1 : Int32) : Option (zMem) :=
  if (M.1 0 5) = 0 then
    gin (M.1 0 17) 160 <|
    zl (zI M (189 + (1 + 1 * (M.1 0 17).toNatClampNeg)) 0 p0) fun M2 =>
    gin (M2.1 0 17) 160 <|
    zl (zI M2 (189 + (1 + 1 * (M2.1 0 17).toNatClampNeg)) 1 p1) fun M4 =>
    zl (zI M4 0 17 ((M4.1 0 17) + (1 : Int32))) fun M5 =>
    some M5
  else
    some M
def rm_X10_notes : Room := { frames := 2, cells := 0, slots := 0, locals := 80 }
set_option maxHeartbeats 4000000 in
set_option maxRecDepth 100000 in
theorem c_X10_notes (l : Launch) {G : zG} {ad : Nat → Nat} {n : Nat} (hA : zInj ad n) (M : zMem) (p0 : Int32) (p1 : Int32) (hT : zT shM n 0 11) {M9 : zMem} (hF : F_X10_notes M p0 p1 = some M9) : zM l yX10_notes cX10_notes 3 none rm_X10_notes G shM ad n M [.ref (ad 0), .int p0, .int p1] none M9 := by
  refine zM_of hA (by decide +kernel) (lv := [(0, .ref (ad 0)), (1, .int p0), (2, .int p1)]) (Nat.le_of_ble_eq_true rfl) rfl (fun p e s m args below meth c A cx hr => ?_)
  unfold F_X10_notes at hF
  refine z_aload_n cx d_X10_notes_0 0 rfl ?_
  refine z_getI cx hT fg_SunnyPansModel_98 d_X10_notes_1 ?_
  refine z_if_eq cx 8 d_X10_notes_4 (by decide) hF (fun hF => ?_) (fun hF => ?_)
  · refine z_aload_n cx d_X10_notes_8 0 rfl ?_
    refine z_getR cx hT fg_SunnyPansModel_40 189 rfl d_X10_notes_9 ?_
    refine z_aload_n cx d_X10_notes_12 0 rfl ?_
    refine z_getI cx hT fg_SunnyPansModel_187 d_X10_notes_13 ?_
    obtain ⟨hi1, hF⟩ := gin_inv hF
    refine z_aald cx (tfM_11_189 hT) za_31 hi1 (189 + (1 + 1 * (M.1 0 17).toNatClampNeg)) rfl d_X10_notes_16 ?_
    refine z_iconst (v := 0) cx d_X10_notes_17 ki_0 ?_
    refine z_iload_n cx d_X10_notes_18 1 rfl ?_
    refine z_iast cx (teM_31 (tfM_11_189 hT) hi1) za_27 (zvp (by decide +kernel)) 0 rfl d_X10_notes_19 ?_
    refine z_nmM hF (fun M2 hF => ?_)
    refine z_aload_n cx d_X10_notes_20 0 rfl ?_
    refine z_getR cx hT fg_SunnyPansModel_40 189 rfl d_X10_notes_21 ?_
    refine z_aload_n cx d_X10_notes_24 0 rfl ?_
    refine z_getI cx hT fg_SunnyPansModel_187 d_X10_notes_25 ?_
    obtain ⟨hi3, hF⟩ := gin_inv hF
    refine z_aald cx (tfM_11_189 hT) za_31 hi3 (189 + (1 + 1 * (M2.1 0 17).toNatClampNeg)) rfl d_X10_notes_28 ?_
    refine z_iconst (v := 1) cx d_X10_notes_29 ki_1 ?_
    refine z_iload_n cx d_X10_notes_30 2 rfl ?_
    refine z_iast cx (teM_31 (tfM_11_189 hT) hi3) za_27 (zvp (by decide +kernel)) 1 rfl d_X10_notes_31 ?_
    refine z_nmM hF (fun M4 hF => ?_)
    refine z_aload_n cx d_X10_notes_32 0 rfl ?_
    refine z_dup cx d_X10_notes_33 rfl ?_
    refine z_getI cx hT fg_SunnyPansModel_187 d_X10_notes_34 ?_
    refine z_iconst (v := 1) cx d_X10_notes_37 ki_1 ?_
    refine z_iadd cx d_X10_notes_38 ?_
    refine z_putI cx hT fp_SunnyPansModel_187 d_X10_notes_39 ?_
    refine z_nmM hF (fun M5 hF => ?_)
    exact z_vret cx hr hF d_X10_notes_42
  exact z_vret cx hr hF d_X10_notes_7
/-! SunnyPansModel.opensOne -/
theorem d_X10_opensOne_0 : decode cX10_opensOne 0 = .ok (.aload_n 0, 1) := by decide +kernel
theorem d_X10_opensOne_1 : decode cX10_opensOne 1 = .ok (.getfield 98, 3) := by decide +kernel
theorem d_X10_opensOne_4 : decode cX10_opensOne 4 = .ok (.ifCond .ne 24, 3) := by decide +kernel
theorem d_X10_opensOne_7 : decode cX10_opensOne 7 = .ok (.aload_n 0, 1) := by decide +kernel
theorem d_X10_opensOne_8 : decode cX10_opensOne 8 = .ok (.getfield 141, 3) := by decide +kernel
theorem d_X10_opensOne_11 : decode cX10_opensOne 11 = .ok (.bipush 6, 2) := by decide +kernel
theorem d_X10_opensOne_13 : decode cX10_opensOne 13 = .ok (.if_icmp .ne 15, 3) := by decide +kernel
theorem d_X10_opensOne_16 : decode cX10_opensOne 16 = .ok (.aload_n 0, 1) := by decide +kernel
theorem d_X10_opensOne_17 : decode cX10_opensOne 17 = .ok (.iconst 3, 1) := by decide +kernel
theorem d_X10_opensOne_18 : decode cX10_opensOne 18 = .ok (.aload_n 0, 1) := by decide +kernel
theorem d_X10_opensOne_19 : decode cX10_opensOne 19 = .ok (.getfield 91, 3) := by decide +kernel
theorem d_X10_opensOne_22 : decode cX10_opensOne 22 = .ok (.invokevirtual 111, 3) := by decide +kernel
theorem d_X10_opensOne_25 : decode cX10_opensOne 25 = .ok (.goto 20, 3) := by decide +kernel
theorem d_X10_opensOne_28 : decode cX10_opensOne 28 = .ok (.aload_n 0, 1) := by decide +kernel
theorem d_X10_opensOne_29 : decode cX10_opensOne 29 = .ok (.getfield 98, 3) := by decide +kernel
theorem d_X10_opensOne_32 : decode cX10_opensOne 32 = .ok (.ifCond .ne 13, 3) := by decide +kernel
theorem d_X10_opensOne_35 : decode cX10_opensOne 35 = .ok (.aload_n 0, 1) := by decide +kernel
theorem d_X10_opensOne_36 : decode cX10_opensOne 36 = .ok (.dup, 1) := by decide +kernel
theorem d_X10_opensOne_37 : decode cX10_opensOne 37 = .ok (.getfield 141, 3) := by decide +kernel
theorem d_X10_opensOne_40 : decode cX10_opensOne 40 = .ok (.iconst 1, 1) := by decide +kernel
theorem d_X10_opensOne_41 : decode cX10_opensOne 41 = .ok (.iadd, 1) := by decide +kernel
theorem d_X10_opensOne_42 : decode cX10_opensOne 42 = .ok (.putfield 141, 3) := by decide +kernel
theorem d_X10_opensOne_45 : decode cX10_opensOne 45 = .ok (.aload_n 0, 1) := by decide +kernel
theorem d_X10_opensOne_46 : decode cX10_opensOne 46 = .ok (.getfield 98, 3) := by decide +kernel
theorem d_X10_opensOne_49 : decode cX10_opensOne 49 = .ok (.ifCond .ne 7, 3) := by decide +kernel
theorem d_X10_opensOne_52 : decode cX10_opensOne 52 = .ok (.iconst 1, 1) := by decide +kernel
theorem d_X10_opensOne_53 : decode cX10_opensOne 53 = .ok (.goto 4, 3) := by decide +kernel
theorem d_X10_opensOne_56 : decode cX10_opensOne 56 = .ok (.iconst 0, 1) := by decide +kernel
theorem d_X10_opensOne_57 : decode cX10_opensOne 57 = .ok (.ireturn, 1) := by decide +kernel
def F_X10_opensOne_45 (M : zMem) : Option (Int32 × zMem) :=
  if (M.1 0 5) = 0 then
    some ((1 : Int32), M)
  else
    some ((0 : Int32), M)
def F_X10_opensOne_28 (M : zMem) : Option (Int32 × zMem) :=
  if (M.1 0 5) = 0 then
    zl (zI M 0 8 ((M.1 0 8) + (1 : Int32))) fun M1 =>
    F_X10_opensOne_45 M1
  else
    F_X10_opensOne_45 M
def F_X10_opensOne (M : zMem)  : Option (Int32 × zMem) :=
  if (M.1 0 5) = 0 then
    if (M.1 0 8) = (6 : Int32) then
      zbv (F_X10_wrong M (3 : Int32) (M.1 0 4)) fun M2 =>
      F_X10_opensOne_45 M2
    else
      F_X10_opensOne_28 M
  else
    F_X10_opensOne_28 M
def rm_X10_opensOne : Room := { frames := 3, cells := 0, slots := 0, locals := 102 }
set_option maxHeartbeats 4000000 in
set_option maxRecDepth 100000 in
theorem c_X10_opensOne (l : Launch) {G : zG} {ad : Nat → Nat} {n : Nat} (hA : zInj ad n) (M : zMem)  (hT : zT shM n 0 11) {r9 : Int32} {M9 : zMem} (hF : F_X10_opensOne M  = some (r9, M9)) : zM l yX10_opensOne cX10_opensOne 1 (some .boolean) rm_X10_opensOne G shM ad n M [.ref (ad 0)] (some (.int r9)) M9 := by
  refine zM_of hA (by decide +kernel) (lv := [(0, .ref (ad 0))]) (Nat.le_of_ble_eq_true rfl) rfl (fun p e s m args below meth c A cx hr => ?_)
  have hb45 : ∀ (M : zMem), F_X10_opensOne_45 M = some (r9, M9) → zJ p l e rm_X10_opensOne s m args below meth c G shM ad n A 1 (MQ below (zQ G shM ad n M9 (some (.int r9)) A) args s 0 0 A) 0 0 M 45 [(0, .ref (ad 0))] [] := by
    intro M hF
    unfold F_X10_opensOne_45 at hF
    refine z_aload_n cx d_X10_opensOne_45 0 rfl ?_
    refine z_getI cx hT fg_SunnyPansModel_98 d_X10_opensOne_46 ?_
    refine z_if_ne cx 56 d_X10_opensOne_49 (by decide) hF (fun hF => ?_) (fun hF => ?_)
    · refine z_iconst (v := 0) cx d_X10_opensOne_56 ki_0 ?_
      exact z_iret cx hr nb0 hF d_X10_opensOne_57
    refine z_iconst (v := 1) cx d_X10_opensOne_52 ki_1 ?_
    refine z_goto cx 57 d_X10_opensOne_53 (by decide) ?_
    exact z_iret cx hr nb1 hF d_X10_opensOne_57
  have hb28 : ∀ (M : zMem), F_X10_opensOne_28 M = some (r9, M9) → zJ p l e rm_X10_opensOne s m args below meth c G shM ad n A 1 (MQ below (zQ G shM ad n M9 (some (.int r9)) A) args s 0 0 A) 0 0 M 28 [(0, .ref (ad 0))] [] := by
    intro M hF
    unfold F_X10_opensOne_28 at hF
    refine z_aload_n cx d_X10_opensOne_28 0 rfl ?_
    refine z_getI cx hT fg_SunnyPansModel_98 d_X10_opensOne_29 ?_
    refine z_if_ne cx 45 d_X10_opensOne_32 (by decide) hF (fun hF => ?_) (fun hF => ?_)
    · exact hb45 M hF
    refine z_aload_n cx d_X10_opensOne_35 0 rfl ?_
    refine z_dup cx d_X10_opensOne_36 rfl ?_
    refine z_getI cx hT fg_SunnyPansModel_141 d_X10_opensOne_37 ?_
    refine z_iconst (v := 1) cx d_X10_opensOne_40 ki_1 ?_
    refine z_iadd cx d_X10_opensOne_41 ?_
    refine z_putI cx hT fp_SunnyPansModel_141 d_X10_opensOne_42 ?_
    refine z_nmM hF (fun M1 hF => ?_)
    exact hb45 M1 hF
  unfold F_X10_opensOne at hF
  refine z_aload_n cx d_X10_opensOne_0 0 rfl ?_
  refine z_getI cx hT fg_SunnyPansModel_98 d_X10_opensOne_1 ?_
  refine z_if_ne cx 28 d_X10_opensOne_4 (by decide) hF (fun hF => ?_) (fun hF => ?_)
  · exact hb28 M hF
  refine z_aload_n cx d_X10_opensOne_7 0 rfl ?_
  refine z_getI cx hT fg_SunnyPansModel_141 d_X10_opensOne_8 ?_
  refine z_bipush (v := 6) cx d_X10_opensOne_11 kb_6 ?_
  refine z_icmp_ne cx 28 d_X10_opensOne_13 (by decide) hF (fun hF => ?_) (fun hF => ?_)
  · exact hb28 M hF
  refine z_aload_n cx d_X10_opensOne_16 0 rfl ?_
  refine z_iconst (v := 3) cx d_X10_opensOne_17 ki_3 ?_
  refine z_aload_n cx d_X10_opensOne_18 0 rfl ?_
  refine z_getI cx hT fg_SunnyPansModel_91 d_X10_opensOne_19 ?_
  obtain ⟨M2, hc, hF⟩ := zbv_inv hF
  refine z_callV cx (As := [.int (3 : Int32), .int (M.1 0 4)]) (rest := []) (c_X10_wrong l cx.2.2.2.1.1 M (3 : Int32) (M.1 0 4) hT hc) hT zo_11 cv_SunnyPansModel_111 ⟨rfl, rfl, Nat.le_of_ble_eq_true rfl, Nat.le_of_ble_eq_true rfl⟩ rfl rfl ⟨Nat.zero_le _, Nat.zero_le _⟩ (Nat.le_of_ble_eq_true rfl) d_X10_opensOne_22 ?_
  refine z_goto cx 45 d_X10_opensOne_25 (by decide) ?_
  exact hb45 M2 hF
/-! SunnyPansModel.knownHere -/
theorem d_X10_knownHere_0 : decode cX10_knownHere 0 = .ok (.aload_n 0, 1) := by decide +kernel
theorem d_X10_knownHere_1 : decode cX10_knownHere 1 = .ok (.iconst 2, 1) := by decide +kernel
theorem d_X10_knownHere_2 : decode cX10_knownHere 2 = .ok (.bipush 18, 2) := by decide +kernel
theorem d_X10_knownHere_4 : decode cX10_knownHere 4 = .ok (.bipush 9, 2) := by decide +kernel
theorem d_X10_knownHere_6 : decode cX10_knownHere 6 = .ok (.bipush 14, 2) := by decide +kernel
theorem d_X10_knownHere_8 : decode cX10_knownHere 8 = .ok (.iconst 5, 1) := by decide +kernel
theorem d_X10_knownHere_9 : decode cX10_knownHere 9 = .ok (.iconst 0, 1) := by decide +kernel
theorem d_X10_knownHere_10 : decode cX10_knownHere 10 = .ok (.invokevirtual 202, 3) := by decide +kernel
theorem d_X10_knownHere_13 : decode cX10_knownHere 13 = .ok (.ifCond .eq 5, 3) := by decide +kernel
theorem d_X10_knownHere_16 : decode cX10_knownHere 16 = .ok (.iconst 0, 1) := by decide +kernel
theorem d_X10_knownHere_17 : decode cX10_knownHere 17 = .ok (.ireturn, 1) := by decide +kernel
theorem d_X10_knownHere_18 : decode cX10_knownHere 18 = .ok (.aload_n 0, 1) := by decide +kernel
theorem d_X10_knownHere_19 : decode cX10_knownHere 19 = .ok (.bipush 19, 2) := by decide +kernel
theorem d_X10_knownHere_21 : decode cX10_knownHere 21 = .ok (.iconst 1, 1) := by decide +kernel
theorem d_X10_knownHere_22 : decode cX10_knownHere 22 = .ok (.bipush 12, 2) := by decide +kernel
theorem d_X10_knownHere_24 : decode cX10_knownHere 24 = .ok (.bipush 20, 2) := by decide +kernel
theorem d_X10_knownHere_26 : decode cX10_knownHere 26 = .ok (.iconst 0, 1) := by decide +kernel
theorem d_X10_knownHere_27 : decode cX10_knownHere 27 = .ok (.iconst 0, 1) := by decide +kernel
theorem d_X10_knownHere_28 : decode cX10_knownHere 28 = .ok (.invokevirtual 202, 3) := by decide +kernel
theorem d_X10_knownHere_31 : decode cX10_knownHere 31 = .ok (.ifCond .eq 5, 3) := by decide +kernel
theorem d_X10_knownHere_34 : decode cX10_knownHere 34 = .ok (.iconst 1, 1) := by decide +kernel
theorem d_X10_knownHere_35 : decode cX10_knownHere 35 = .ok (.ireturn, 1) := by decide +kernel
theorem d_X10_knownHere_36 : decode cX10_knownHere 36 = .ok (.aload_n 0, 1) := by decide +kernel
theorem d_X10_knownHere_37 : decode cX10_knownHere 37 = .ok (.bipush 18, 2) := by decide +kernel
theorem d_X10_knownHere_39 : decode cX10_knownHere 39 = .ok (.iconst 5, 1) := by decide +kernel
theorem d_X10_knownHere_40 : decode cX10_knownHere 40 = .ok (.iconst 1, 1) := by decide +kernel
theorem d_X10_knownHere_41 : decode cX10_knownHere 41 = .ok (.iconst 3, 1) := by decide +kernel
theorem d_X10_knownHere_42 : decode cX10_knownHere 42 = .ok (.bipush 8, 2) := by decide +kernel
theorem d_X10_knownHere_44 : decode cX10_knownHere 44 = .ok (.iconst 0, 1) := by decide +kernel
theorem d_X10_knownHere_45 : decode cX10_knownHere 45 = .ok (.invokevirtual 202, 3) := by decide +kernel
theorem d_X10_knownHere_48 : decode cX10_knownHere 48 = .ok (.ifCond .eq 5, 3) := by decide +kernel
theorem d_X10_knownHere_51 : decode cX10_knownHere 51 = .ok (.iconst 2, 1) := by decide +kernel
theorem d_X10_knownHere_52 : decode cX10_knownHere 52 = .ok (.ireturn, 1) := by decide +kernel
theorem d_X10_knownHere_53 : decode cX10_knownHere 53 = .ok (.aload_n 0, 1) := by decide +kernel
theorem d_X10_knownHere_54 : decode cX10_knownHere 54 = .ok (.bipush 19, 2) := by decide +kernel
theorem d_X10_knownHere_56 : decode cX10_knownHere 56 = .ok (.bipush 9, 2) := by decide +kernel
theorem d_X10_knownHere_58 : decode cX10_knownHere 58 = .ok (.iconst 4, 1) := by decide +kernel
theorem d_X10_knownHere_59 : decode cX10_knownHere 59 = .ok (.iconst 5, 1) := by decide +kernel
theorem d_X10_knownHere_60 : decode cX10_knownHere 60 = .ok (.iconst 0, 1) := by decide +kernel
theorem d_X10_knownHere_61 : decode cX10_knownHere 61 = .ok (.iconst 0, 1) := by decide +kernel
theorem d_X10_knownHere_62 : decode cX10_knownHere 62 = .ok (.invokevirtual 202, 3) := by decide +kernel
theorem d_X10_knownHere_65 : decode cX10_knownHere 65 = .ok (.ifCond .eq 5, 3) := by decide +kernel
theorem d_X10_knownHere_68 : decode cX10_knownHere 68 = .ok (.iconst 3, 1) := by decide +kernel
theorem d_X10_knownHere_69 : decode cX10_knownHere 69 = .ok (.ireturn, 1) := by decide +kernel
theorem d_X10_knownHere_70 : decode cX10_knownHere 70 = .ok (.aload_n 0, 1) := by decide +kernel
theorem d_X10_knownHere_71 : decode cX10_knownHere 71 = .ok (.bipush 8, 2) := by decide +kernel
theorem d_X10_knownHere_73 : decode cX10_knownHere 73 = .ok (.bipush 15, 2) := by decide +kernel
theorem d_X10_knownHere_75 : decode cX10_knownHere 75 = .ok (.bipush 21, 2) := by decide +kernel
theorem d_X10_knownHere_77 : decode cX10_knownHere 77 = .ok (.bipush 18, 2) := by decide +kernel
theorem d_X10_knownHere_79 : decode cX10_knownHere 79 = .ok (.iconst 0, 1) := by decide +kernel
theorem d_X10_knownHere_80 : decode cX10_knownHere 80 = .ok (.iconst 0, 1) := by decide +kernel
theorem d_X10_knownHere_81 : decode cX10_knownHere 81 = .ok (.invokevirtual 202, 3) := by decide +kernel
theorem d_X10_knownHere_84 : decode cX10_knownHere 84 = .ok (.ifCond .eq 5, 3) := by decide +kernel
theorem d_X10_knownHere_87 : decode cX10_knownHere 87 = .ok (.iconst 4, 1) := by decide +kernel
theorem d_X10_knownHere_88 : decode cX10_knownHere 88 = .ok (.ireturn, 1) := by decide +kernel
theorem d_X10_knownHere_89 : decode cX10_knownHere 89 = .ok (.aload_n 0, 1) := by decide +kernel
theorem d_X10_knownHere_90 : decode cX10_knownHere 90 = .ok (.iconst 4, 1) := by decide +kernel
theorem d_X10_knownHere_91 : decode cX10_knownHere 91 = .ok (.iconst 1, 1) := by decide +kernel
theorem d_X10_knownHere_92 : decode cX10_knownHere 92 = .ok (.bipush 25, 2) := by decide +kernel
theorem d_X10_knownHere_94 : decode cX10_knownHere 94 = .ok (.iconst 0, 1) := by decide +kernel
theorem d_X10_knownHere_95 : decode cX10_knownHere 95 = .ok (.iconst 0, 1) := by decide +kernel
theorem d_X10_knownHere_96 : decode cX10_knownHere 96 = .ok (.iconst 0, 1) := by decide +kernel
theorem d_X10_knownHere_97 : decode cX10_knownHere 97 = .ok (.invokevirtual 202, 3) := by decide +kernel
theorem d_X10_knownHere_100 : decode cX10_knownHere 100 = .ok (.ifCond .eq 5, 3) := by decide +kernel
theorem d_X10_knownHere_103 : decode cX10_knownHere 103 = .ok (.iconst 5, 1) := by decide +kernel
theorem d_X10_knownHere_104 : decode cX10_knownHere 104 = .ok (.ireturn, 1) := by decide +kernel
theorem d_X10_knownHere_105 : decode cX10_knownHere 105 = .ok (.aload_n 0, 1) := by decide +kernel
theorem d_X10_knownHere_106 : decode cX10_knownHere 106 = .ok (.iconst 3, 1) := by decide +kernel
theorem d_X10_knownHere_107 : decode cX10_knownHere 107 = .ok (.bipush 15, 2) := by decide +kernel
theorem d_X10_knownHere_109 : decode cX10_knownHere 109 = .ok (.bipush 12, 2) := by decide +kernel
theorem d_X10_knownHere_111 : decode cX10_knownHere 111 = .ok (.iconst 0, 1) := by decide +kernel
theorem d_X10_knownHere_112 : decode cX10_knownHere 112 = .ok (.iconst 0, 1) := by decide +kernel
theorem d_X10_knownHere_113 : decode cX10_knownHere 113 = .ok (.iconst 0, 1) := by decide +kernel
theorem d_X10_knownHere_114 : decode cX10_knownHere 114 = .ok (.invokevirtual 202, 3) := by decide +kernel
theorem d_X10_knownHere_117 : decode cX10_knownHere 117 = .ok (.ifCond .eq 6, 3) := by decide +kernel
theorem d_X10_knownHere_120 : decode cX10_knownHere 120 = .ok (.bipush 6, 2) := by decide +kernel
theorem d_X10_knownHere_122 : decode cX10_knownHere 122 = .ok (.ireturn, 1) := by decide +kernel
theorem d_X10_knownHere_123 : decode cX10_knownHere 123 = .ok (.aload_n 0, 1) := by decide +kernel
theorem d_X10_knownHere_124 : decode cX10_knownHere 124 = .ok (.bipush 18, 2) := by decide +kernel
theorem d_X10_knownHere_126 : decode cX10_knownHere 126 = .ok (.bipush 15, 2) := by decide +kernel
theorem d_X10_knownHere_128 : decode cX10_knownHere 128 = .ok (.bipush 23, 2) := by decide +kernel
theorem d_X10_knownHere_130 : decode cX10_knownHere 130 = .ok (.iconst 0, 1) := by decide +kernel
theorem d_X10_knownHere_131 : decode cX10_knownHere 131 = .ok (.iconst 0, 1) := by decide +kernel
theorem d_X10_knownHere_132 : decode cX10_knownHere 132 = .ok (.iconst 0, 1) := by decide +kernel
theorem d_X10_knownHere_133 : decode cX10_knownHere 133 = .ok (.invokevirtual 202, 3) := by decide +kernel
theorem d_X10_knownHere_136 : decode cX10_knownHere 136 = .ok (.ifCond .eq 8, 3) := by decide +kernel
theorem d_X10_knownHere_139 : decode cX10_knownHere 139 = .ok (.bipush 7, 2) := by decide +kernel
theorem d_X10_knownHere_141 : decode cX10_knownHere 141 = .ok (.goto 4, 3) := by decide +kernel
theorem d_X10_knownHere_144 : decode cX10_knownHere 144 = .ok (.iconst (-1), 1) := by decide +kernel
theorem d_X10_knownHere_145 : decode cX10_knownHere 145 = .ok (.ireturn, 1) := by decide +kernel
def F_X10_knownHere (M : zMem)  : Option (Int32 × zMem) :=
  zb (F_X10_takes M (2 : Int32) (18 : Int32) (9 : Int32) (14 : Int32) (5 : Int32) (0 : Int32)) fun v2 M1 =>
  if v2 = 0 then
    zb (F_X10_takes M1 (19 : Int32) (1 : Int32) (12 : Int32) (20 : Int32) (0 : Int32) (0 : Int32)) fun v4 M3 =>
    if v4 = 0 then
      zb (F_X10_takes M3 (18 : Int32) (5 : Int32) (1 : Int32) (3 : Int32) (8 : Int32) (0 : Int32)) fun v6 M5 =>
      if v6 = 0 then
        zb (F_X10_takes M5 (19 : Int32) (9 : Int32) (4 : Int32) (5 : Int32) (0 : Int32) (0 : Int32)) fun v8 M7 =>
        if v8 = 0 then
          zb (F_X10_takes M7 (8 : Int32) (15 : Int32) (21 : Int32) (18 : Int32) (0 : Int32) (0 : Int32)) fun v10 M9 =>
          if v10 = 0 then
            zb (F_X10_takes M9 (4 : Int32) (1 : Int32) (25 : Int32) (0 : Int32) (0 : Int32) (0 : Int32)) fun v12 M11 =>
            if v12 = 0 then
              zb (F_X10_takes M11 (3 : Int32) (15 : Int32) (12 : Int32) (0 : Int32) (0 : Int32) (0 : Int32)) fun v14 M13 =>
              if v14 = 0 then
                zb (F_X10_takes M13 (18 : Int32) (15 : Int32) (23 : Int32) (0 : Int32) (0 : Int32) (0 : Int32)) fun v16 M15 =>
                if v16 = 0 then
                  some ((-1 : Int32), M15)
                else
                  some ((7 : Int32), M15)
              else
                some ((6 : Int32), M13)
            else
              some ((5 : Int32), M11)
          else
            some ((4 : Int32), M9)
        else
          some ((3 : Int32), M7)
      else
        some ((2 : Int32), M5)
    else
      some ((1 : Int32), M3)
  else
    some ((0 : Int32), M1)
def rm_X10_knownHere : Room := { frames := 7, cells := 0, slots := 0, locals := 196 }
set_option maxHeartbeats 4000000 in
set_option maxRecDepth 100000 in
theorem c_X10_knownHere (l : Launch) {G : zG} {ad : Nat → Nat} {n : Nat} (hA : zInj ad n) (M : zMem)  (hT : zT shM n 0 11) {r9 : Int32} {M9 : zMem} (hF : F_X10_knownHere M  = some (r9, M9)) : zM l yX10_knownHere cX10_knownHere 1 (some .int) rm_X10_knownHere G shM ad n M [.ref (ad 0)] (some (.int r9)) M9 := by
  refine zM_of hA (by decide +kernel) (lv := [(0, .ref (ad 0))]) (Nat.le_of_ble_eq_true rfl) rfl (fun p e s m args below meth c A cx hr => ?_)
  unfold F_X10_knownHere at hF
  refine z_aload_n cx d_X10_knownHere_0 0 rfl ?_
  refine z_iconst (v := 2) cx d_X10_knownHere_1 ki_2 ?_
  refine z_bipush (v := 18) cx d_X10_knownHere_2 kb_18 ?_
  refine z_bipush (v := 9) cx d_X10_knownHere_4 kb_9 ?_
  refine z_bipush (v := 14) cx d_X10_knownHere_6 kb_14 ?_
  refine z_iconst (v := 5) cx d_X10_knownHere_8 ki_5 ?_
  refine z_iconst (v := 0) cx d_X10_knownHere_9 ki_0 ?_
  obtain ⟨v2, M1, hc, hF⟩ := zb_inv hF
  refine z_callV cx (As := [.int (2 : Int32), .int (18 : Int32), .int (9 : Int32), .int (14 : Int32), .int (5 : Int32), .int (0 : Int32)]) (rest := []) (c_X10_takes l cx.2.2.2.1.1 M (2 : Int32) (18 : Int32) (9 : Int32) (14 : Int32) (5 : Int32) (0 : Int32) hT hc) hT zo_11 cv_SunnyPansModel_202 ⟨rfl, rfl, Nat.le_of_ble_eq_true rfl, Nat.le_of_ble_eq_true rfl⟩ rfl rfl ⟨Nat.zero_le _, Nat.zero_le _⟩ (Nat.le_of_ble_eq_true rfl) d_X10_knownHere_10 ?_
  refine z_if_eq cx 18 d_X10_knownHere_13 (by decide) hF (fun hF => ?_) (fun hF => ?_)
  · refine z_aload_n cx d_X10_knownHere_18 0 rfl ?_
    refine z_bipush (v := 19) cx d_X10_knownHere_19 kb_19 ?_
    refine z_iconst (v := 1) cx d_X10_knownHere_21 ki_1 ?_
    refine z_bipush (v := 12) cx d_X10_knownHere_22 kb_12 ?_
    refine z_bipush (v := 20) cx d_X10_knownHere_24 kb_20 ?_
    refine z_iconst (v := 0) cx d_X10_knownHere_26 ki_0 ?_
    refine z_iconst (v := 0) cx d_X10_knownHere_27 ki_0 ?_
    obtain ⟨v4, M3, hc, hF⟩ := zb_inv hF
    refine z_callV cx (As := [.int (19 : Int32), .int (1 : Int32), .int (12 : Int32), .int (20 : Int32), .int (0 : Int32), .int (0 : Int32)]) (rest := []) (c_X10_takes l cx.2.2.2.1.1 M1 (19 : Int32) (1 : Int32) (12 : Int32) (20 : Int32) (0 : Int32) (0 : Int32) hT hc) hT zo_11 cv_SunnyPansModel_202 ⟨rfl, rfl, Nat.le_of_ble_eq_true rfl, Nat.le_of_ble_eq_true rfl⟩ rfl rfl ⟨Nat.zero_le _, Nat.zero_le _⟩ (Nat.le_of_ble_eq_true rfl) d_X10_knownHere_28 ?_
    refine z_if_eq cx 36 d_X10_knownHere_31 (by decide) hF (fun hF => ?_) (fun hF => ?_)
    · refine z_aload_n cx d_X10_knownHere_36 0 rfl ?_
      refine z_bipush (v := 18) cx d_X10_knownHere_37 kb_18 ?_
      refine z_iconst (v := 5) cx d_X10_knownHere_39 ki_5 ?_
      refine z_iconst (v := 1) cx d_X10_knownHere_40 ki_1 ?_
      refine z_iconst (v := 3) cx d_X10_knownHere_41 ki_3 ?_
      refine z_bipush (v := 8) cx d_X10_knownHere_42 kb_8 ?_
      refine z_iconst (v := 0) cx d_X10_knownHere_44 ki_0 ?_
      obtain ⟨v6, M5, hc, hF⟩ := zb_inv hF
      refine z_callV cx (As := [.int (18 : Int32), .int (5 : Int32), .int (1 : Int32), .int (3 : Int32), .int (8 : Int32), .int (0 : Int32)]) (rest := []) (c_X10_takes l cx.2.2.2.1.1 M3 (18 : Int32) (5 : Int32) (1 : Int32) (3 : Int32) (8 : Int32) (0 : Int32) hT hc) hT zo_11 cv_SunnyPansModel_202 ⟨rfl, rfl, Nat.le_of_ble_eq_true rfl, Nat.le_of_ble_eq_true rfl⟩ rfl rfl ⟨Nat.zero_le _, Nat.zero_le _⟩ (Nat.le_of_ble_eq_true rfl) d_X10_knownHere_45 ?_
      refine z_if_eq cx 53 d_X10_knownHere_48 (by decide) hF (fun hF => ?_) (fun hF => ?_)
      · refine z_aload_n cx d_X10_knownHere_53 0 rfl ?_
        refine z_bipush (v := 19) cx d_X10_knownHere_54 kb_19 ?_
        refine z_bipush (v := 9) cx d_X10_knownHere_56 kb_9 ?_
        refine z_iconst (v := 4) cx d_X10_knownHere_58 ki_4 ?_
        refine z_iconst (v := 5) cx d_X10_knownHere_59 ki_5 ?_
        refine z_iconst (v := 0) cx d_X10_knownHere_60 ki_0 ?_
        refine z_iconst (v := 0) cx d_X10_knownHere_61 ki_0 ?_
        obtain ⟨v8, M7, hc, hF⟩ := zb_inv hF
        refine z_callV cx (As := [.int (19 : Int32), .int (9 : Int32), .int (4 : Int32), .int (5 : Int32), .int (0 : Int32), .int (0 : Int32)]) (rest := []) (c_X10_takes l cx.2.2.2.1.1 M5 (19 : Int32) (9 : Int32) (4 : Int32) (5 : Int32) (0 : Int32) (0 : Int32) hT hc) hT zo_11 cv_SunnyPansModel_202 ⟨rfl, rfl, Nat.le_of_ble_eq_true rfl, Nat.le_of_ble_eq_true rfl⟩ rfl rfl ⟨Nat.zero_le _, Nat.zero_le _⟩ (Nat.le_of_ble_eq_true rfl) d_X10_knownHere_62 ?_
        refine z_if_eq cx 70 d_X10_knownHere_65 (by decide) hF (fun hF => ?_) (fun hF => ?_)
        · refine z_aload_n cx d_X10_knownHere_70 0 rfl ?_
          refine z_bipush (v := 8) cx d_X10_knownHere_71 kb_8 ?_
          refine z_bipush (v := 15) cx d_X10_knownHere_73 kb_15 ?_
          refine z_bipush (v := 21) cx d_X10_knownHere_75 kb_21 ?_
          refine z_bipush (v := 18) cx d_X10_knownHere_77 kb_18 ?_
          refine z_iconst (v := 0) cx d_X10_knownHere_79 ki_0 ?_
          refine z_iconst (v := 0) cx d_X10_knownHere_80 ki_0 ?_
          obtain ⟨v10, M9, hc, hF⟩ := zb_inv hF
          refine z_callV cx (As := [.int (8 : Int32), .int (15 : Int32), .int (21 : Int32), .int (18 : Int32), .int (0 : Int32), .int (0 : Int32)]) (rest := []) (c_X10_takes l cx.2.2.2.1.1 M7 (8 : Int32) (15 : Int32) (21 : Int32) (18 : Int32) (0 : Int32) (0 : Int32) hT hc) hT zo_11 cv_SunnyPansModel_202 ⟨rfl, rfl, Nat.le_of_ble_eq_true rfl, Nat.le_of_ble_eq_true rfl⟩ rfl rfl ⟨Nat.zero_le _, Nat.zero_le _⟩ (Nat.le_of_ble_eq_true rfl) d_X10_knownHere_81 ?_
          refine z_if_eq cx 89 d_X10_knownHere_84 (by decide) hF (fun hF => ?_) (fun hF => ?_)
          · refine z_aload_n cx d_X10_knownHere_89 0 rfl ?_
            refine z_iconst (v := 4) cx d_X10_knownHere_90 ki_4 ?_
            refine z_iconst (v := 1) cx d_X10_knownHere_91 ki_1 ?_
            refine z_bipush (v := 25) cx d_X10_knownHere_92 kb_25 ?_
            refine z_iconst (v := 0) cx d_X10_knownHere_94 ki_0 ?_
            refine z_iconst (v := 0) cx d_X10_knownHere_95 ki_0 ?_
            refine z_iconst (v := 0) cx d_X10_knownHere_96 ki_0 ?_
            obtain ⟨v12, M11, hc, hF⟩ := zb_inv hF
            refine z_callV cx (As := [.int (4 : Int32), .int (1 : Int32), .int (25 : Int32), .int (0 : Int32), .int (0 : Int32), .int (0 : Int32)]) (rest := []) (c_X10_takes l cx.2.2.2.1.1 M9 (4 : Int32) (1 : Int32) (25 : Int32) (0 : Int32) (0 : Int32) (0 : Int32) hT hc) hT zo_11 cv_SunnyPansModel_202 ⟨rfl, rfl, Nat.le_of_ble_eq_true rfl, Nat.le_of_ble_eq_true rfl⟩ rfl rfl ⟨Nat.zero_le _, Nat.zero_le _⟩ (Nat.le_of_ble_eq_true rfl) d_X10_knownHere_97 ?_
            refine z_if_eq cx 105 d_X10_knownHere_100 (by decide) hF (fun hF => ?_) (fun hF => ?_)
            · refine z_aload_n cx d_X10_knownHere_105 0 rfl ?_
              refine z_iconst (v := 3) cx d_X10_knownHere_106 ki_3 ?_
              refine z_bipush (v := 15) cx d_X10_knownHere_107 kb_15 ?_
              refine z_bipush (v := 12) cx d_X10_knownHere_109 kb_12 ?_
              refine z_iconst (v := 0) cx d_X10_knownHere_111 ki_0 ?_
              refine z_iconst (v := 0) cx d_X10_knownHere_112 ki_0 ?_
              refine z_iconst (v := 0) cx d_X10_knownHere_113 ki_0 ?_
              obtain ⟨v14, M13, hc, hF⟩ := zb_inv hF
              refine z_callV cx (As := [.int (3 : Int32), .int (15 : Int32), .int (12 : Int32), .int (0 : Int32), .int (0 : Int32), .int (0 : Int32)]) (rest := []) (c_X10_takes l cx.2.2.2.1.1 M11 (3 : Int32) (15 : Int32) (12 : Int32) (0 : Int32) (0 : Int32) (0 : Int32) hT hc) hT zo_11 cv_SunnyPansModel_202 ⟨rfl, rfl, Nat.le_of_ble_eq_true rfl, Nat.le_of_ble_eq_true rfl⟩ rfl rfl ⟨Nat.zero_le _, Nat.zero_le _⟩ (Nat.le_of_ble_eq_true rfl) d_X10_knownHere_114 ?_
              refine z_if_eq cx 123 d_X10_knownHere_117 (by decide) hF (fun hF => ?_) (fun hF => ?_)
              · refine z_aload_n cx d_X10_knownHere_123 0 rfl ?_
                refine z_bipush (v := 18) cx d_X10_knownHere_124 kb_18 ?_
                refine z_bipush (v := 15) cx d_X10_knownHere_126 kb_15 ?_
                refine z_bipush (v := 23) cx d_X10_knownHere_128 kb_23 ?_
                refine z_iconst (v := 0) cx d_X10_knownHere_130 ki_0 ?_
                refine z_iconst (v := 0) cx d_X10_knownHere_131 ki_0 ?_
                refine z_iconst (v := 0) cx d_X10_knownHere_132 ki_0 ?_
                obtain ⟨v16, M15, hc, hF⟩ := zb_inv hF
                refine z_callV cx (As := [.int (18 : Int32), .int (15 : Int32), .int (23 : Int32), .int (0 : Int32), .int (0 : Int32), .int (0 : Int32)]) (rest := []) (c_X10_takes l cx.2.2.2.1.1 M13 (18 : Int32) (15 : Int32) (23 : Int32) (0 : Int32) (0 : Int32) (0 : Int32) hT hc) hT zo_11 cv_SunnyPansModel_202 ⟨rfl, rfl, Nat.le_of_ble_eq_true rfl, Nat.le_of_ble_eq_true rfl⟩ rfl rfl ⟨Nat.zero_le _, Nat.zero_le _⟩ (Nat.le_of_ble_eq_true rfl) d_X10_knownHere_133 ?_
                refine z_if_eq cx 144 d_X10_knownHere_136 (by decide) hF (fun hF => ?_) (fun hF => ?_)
                · refine z_iconst (v := -1) cx d_X10_knownHere_144 ki_m1 ?_
                  exact z_iret cx hr rfl hF d_X10_knownHere_145
                refine z_bipush (v := 7) cx d_X10_knownHere_139 kb_7 ?_
                refine z_goto cx 145 d_X10_knownHere_141 (by decide) ?_
                exact z_iret cx hr rfl hF d_X10_knownHere_145
              refine z_bipush (v := 6) cx d_X10_knownHere_120 kb_6 ?_
              exact z_iret cx hr rfl hF d_X10_knownHere_122
            refine z_iconst (v := 5) cx d_X10_knownHere_103 ki_5 ?_
            exact z_iret cx hr rfl hF d_X10_knownHere_104
          refine z_iconst (v := 4) cx d_X10_knownHere_87 ki_4 ?_
          exact z_iret cx hr rfl hF d_X10_knownHere_88
        refine z_iconst (v := 3) cx d_X10_knownHere_68 ki_3 ?_
        exact z_iret cx hr rfl hF d_X10_knownHere_69
      refine z_iconst (v := 2) cx d_X10_knownHere_51 ki_2 ?_
      exact z_iret cx hr rfl hF d_X10_knownHere_52
    refine z_iconst (v := 1) cx d_X10_knownHere_34 ki_1 ?_
    exact z_iret cx hr rfl hF d_X10_knownHere_35
  refine z_iconst (v := 0) cx d_X10_knownHere_16 ki_0 ?_
  exact z_iret cx hr rfl hF d_X10_knownHere_17
/-! SunnyPansModel.by -/
theorem d_X10_by_0 : decode cX10_by 0 = .ok (.iload_n 0, 1) := by decide +kernel
theorem d_X10_by_1 : decode cX10_by 1 = .ok (.tableswitch 96 2 7 #[39, 43, 47, 51, 73, 90], 39) := by decide +kernel
theorem d_X10_by_40 : decode cX10_by 40 = .ok (.iload_n 1, 1) := by decide +kernel
theorem d_X10_by_41 : decode cX10_by 41 = .ok (.iload_n 2, 1) := by decide +kernel
theorem d_X10_by_42 : decode cX10_by 42 = .ok (.iadd, 1) := by decide +kernel
theorem d_X10_by_43 : decode cX10_by 43 = .ok (.ireturn, 1) := by decide +kernel
theorem d_X10_by_44 : decode cX10_by 44 = .ok (.iload_n 1, 1) := by decide +kernel
theorem d_X10_by_45 : decode cX10_by 45 = .ok (.iload_n 2, 1) := by decide +kernel
theorem d_X10_by_46 : decode cX10_by 46 = .ok (.isub, 1) := by decide +kernel
theorem d_X10_by_47 : decode cX10_by 47 = .ok (.ireturn, 1) := by decide +kernel
theorem d_X10_by_48 : decode cX10_by 48 = .ok (.iload_n 1, 1) := by decide +kernel
theorem d_X10_by_49 : decode cX10_by 49 = .ok (.iload_n 2, 1) := by decide +kernel
theorem d_X10_by_50 : decode cX10_by 50 = .ok (.imul, 1) := by decide +kernel
theorem d_X10_by_51 : decode cX10_by 51 = .ok (.ireturn, 1) := by decide +kernel
theorem d_X10_by_52 : decode cX10_by 52 = .ok (.iload_n 2, 1) := by decide +kernel
theorem d_X10_by_53 : decode cX10_by 53 = .ok (.ifCond .ne 7, 3) := by decide +kernel
theorem d_X10_by_56 : decode cX10_by 56 = .ok (.iconst 0, 1) := by decide +kernel
theorem d_X10_by_57 : decode cX10_by 57 = .ok (.goto 16, 3) := by decide +kernel
theorem d_X10_by_60 : decode cX10_by 60 = .ok (.iload_n 2, 1) := by decide +kernel
theorem d_X10_by_61 : decode cX10_by 61 = .ok (.iconst (-1), 1) := by decide +kernel
theorem d_X10_by_62 : decode cX10_by 62 = .ok (.if_icmp .ne 8, 3) := by decide +kernel
theorem d_X10_by_65 : decode cX10_by 65 = .ok (.iload_n 1, 1) := by decide +kernel
theorem d_X10_by_66 : decode cX10_by 66 = .ok (.ineg, 1) := by decide +kernel
theorem d_X10_by_67 : decode cX10_by 67 = .ok (.goto 6, 3) := by decide +kernel
theorem d_X10_by_70 : decode cX10_by 70 = .ok (.iload_n 1, 1) := by decide +kernel
theorem d_X10_by_71 : decode cX10_by 71 = .ok (.iload_n 2, 1) := by decide +kernel
theorem d_X10_by_72 : decode cX10_by 72 = .ok (.idiv, 1) := by decide +kernel
theorem d_X10_by_73 : decode cX10_by 73 = .ok (.ireturn, 1) := by decide +kernel
theorem d_X10_by_74 : decode cX10_by 74 = .ok (.iload_n 2, 1) := by decide +kernel
theorem d_X10_by_75 : decode cX10_by 75 = .ok (.ifCond .eq 8, 3) := by decide +kernel
theorem d_X10_by_78 : decode cX10_by 78 = .ok (.iload_n 2, 1) := by decide +kernel
theorem d_X10_by_79 : decode cX10_by 79 = .ok (.iconst (-1), 1) := by decide +kernel
theorem d_X10_by_80 : decode cX10_by 80 = .ok (.if_icmp .ne 7, 3) := by decide +kernel
theorem d_X10_by_83 : decode cX10_by 83 = .ok (.iconst 0, 1) := by decide +kernel
theorem d_X10_by_84 : decode cX10_by 84 = .ok (.goto 6, 3) := by decide +kernel
theorem d_X10_by_87 : decode cX10_by 87 = .ok (.iload_n 1, 1) := by decide +kernel
theorem d_X10_by_88 : decode cX10_by 88 = .ok (.iload_n 2, 1) := by decide +kernel
theorem d_X10_by_89 : decode cX10_by 89 = .ok (.irem, 1) := by decide +kernel
theorem d_X10_by_90 : decode cX10_by 90 = .ok (.ireturn, 1) := by decide +kernel
theorem d_X10_by_91 : decode cX10_by 91 = .ok (.iload_n 1, 1) := by decide +kernel
theorem d_X10_by_92 : decode cX10_by 92 = .ok (.iload_n 2, 1) := by decide +kernel
theorem d_X10_by_93 : decode cX10_by 93 = .ok (.invokestatic 215, 3) := by decide +kernel
theorem d_X10_by_96 : decode cX10_by 96 = .ok (.ireturn, 1) := by decide +kernel
theorem d_X10_by_97 : decode cX10_by 97 = .ok (.iload_n 1, 1) := by decide +kernel
theorem d_X10_by_98 : decode cX10_by 98 = .ok (.iload_n 2, 1) := by decide +kernel
theorem d_X10_by_99 : decode cX10_by 99 = .ok (.invokestatic 218, 3) := by decide +kernel
theorem d_X10_by_102 : decode cX10_by 102 = .ok (.ireturn, 1) := by decide +kernel
def F_X10_by_97 (p0 : Int32) (p1 : Int32) (p2 : Int32) (b97_L1 : Int32) (b97_L2 : Int32) (M : zMem) : Option (Int32 × zMem) :=
  zb (F_X10_more M b97_L1 b97_L2) fun v2 M1 =>
  some (v2, M1)
def F_X10_by_91 (p0 : Int32) (p1 : Int32) (p2 : Int32) (b91_L1 : Int32) (b91_L2 : Int32) (M : zMem) : Option (Int32 × zMem) :=
  zb (F_X10_less M b91_L1 b91_L2) fun v4 M3 =>
  some (v4, M3)
def F_X10_by_74 (p0 : Int32) (p1 : Int32) (p2 : Int32) (b74_L1 : Int32) (b74_L2 : Int32) (M : zMem) : Option (Int32 × zMem) :=
  if b74_L2 = 0 then
    some ((0 : Int32), M)
  else
    if b74_L2 = (-1 : Int32) then
      some ((0 : Int32), M)
    else
      gd (!(b74_L2 == 0)) <|
      some ((b74_L1 - b74_L1 / b74_L2 * b74_L2), M)
def F_X10_by_52 (p0 : Int32) (p1 : Int32) (p2 : Int32) (b52_L1 : Int32) (b52_L2 : Int32) (M : zMem) : Option (Int32 × zMem) :=
  if b52_L2 = 0 then
    some ((0 : Int32), M)
  else
    if b52_L2 = (-1 : Int32) then
      some ((-b52_L1), M)
    else
      gd (!(b52_L2 == 0)) <|
      some ((b52_L1 / b52_L2), M)
def F_X10_by_48 (p0 : Int32) (p1 : Int32) (p2 : Int32) (b48_L1 : Int32) (b48_L2 : Int32) (M : zMem) : Option (Int32 × zMem) :=
  some ((b48_L1 * b48_L2), M)
def F_X10_by_44 (p0 : Int32) (p1 : Int32) (p2 : Int32) (b44_L1 : Int32) (b44_L2 : Int32) (M : zMem) : Option (Int32 × zMem) :=
  some ((b44_L1 - b44_L2), M)
def F_X10_by_40 (p0 : Int32) (p1 : Int32) (p2 : Int32) (b40_L1 : Int32) (b40_L2 : Int32) (M : zMem) : Option (Int32 × zMem) :=
  some ((b40_L1 + b40_L2), M)
def F_X10_by (M : zMem) (p0 : Int32) (p1 : Int32) (p2 : Int32) : Option (Int32 × zMem) :=
  if p0 = 2 then
    F_X10_by_40 p0 p1 p2 p1 p2 M
  else
  if p0 = 3 then
    F_X10_by_44 p0 p1 p2 p1 p2 M
  else
  if p0 = 4 then
    F_X10_by_48 p0 p1 p2 p1 p2 M
  else
  if p0 = 5 then
    F_X10_by_52 p0 p1 p2 p1 p2 M
  else
  if p0 = 6 then
    F_X10_by_74 p0 p1 p2 p1 p2 M
  else
  if p0 = 7 then
    F_X10_by_91 p0 p1 p2 p1 p2 M
  else
  F_X10_by_97 p0 p1 p2 p1 p2 M
def rm_X10_by : Room := { frames := 3, cells := 0, slots := 0, locals := 101 }
set_option maxHeartbeats 4000000 in
set_option maxRecDepth 100000 in
theorem c_X10_by (l : Launch) {G : zG} {ad : Nat → Nat} {n : Nat} (hA : zInj ad n) (M : zMem) (p0 : Int32) (p1 : Int32) (p2 : Int32) {r9 : Int32} {M9 : zMem} (hF : F_X10_by M p0 p1 p2 = some (r9, M9)) : zM l yX10_by cX10_by 3 (some .int) rm_X10_by G shM ad n M [.int p0, .int p1, .int p2] (some (.int r9)) M9 := by
  refine zM_of hA (by decide +kernel) (lv := [(0, .int p0), (1, .int p1), (2, .int p2)]) (Nat.le_of_ble_eq_true rfl) rfl (fun p e s m args below meth c A cx hr => ?_)
  have hb97 : ∀ (b97_L1 : Int32) (b97_L2 : Int32) (M : zMem), F_X10_by_97 p0 p1 p2 b97_L1 b97_L2 M = some (r9, M9) → zJ p l e rm_X10_by s m args below meth c G shM ad n A 3 (MQ below (zQ G shM ad n M9 (some (.int r9)) A) args s 0 0 A) 0 0 M 97 [(1, .int b97_L1), (2, .int b97_L2)] [] := by
    intro b97_L1 b97_L2 M hF
    unfold F_X10_by_97 at hF
    refine z_iload_n cx d_X10_by_97 0 rfl ?_
    refine z_iload_n cx d_X10_by_98 1 rfl ?_
    obtain ⟨v2, M1, hc, hF⟩ := zb_inv hF
    refine z_callS cx (As := [.int b97_L1, .int b97_L2]) (rest := []) (c_X10_more l cx.2.2.2.1.1 M b97_L1 b97_L2  hc) cs_SunnyPansModel_218 ⟨rfl, rfl, Nat.le_of_ble_eq_true rfl, Nat.le_of_ble_eq_true rfl⟩ rfl rfl ⟨Nat.zero_le _, Nat.zero_le _⟩ (Nat.le_of_ble_eq_true rfl) d_X10_by_99 ?_
    exact z_iret cx hr rfl hF d_X10_by_102
  have hb91 : ∀ (b91_L1 : Int32) (b91_L2 : Int32) (M : zMem), F_X10_by_91 p0 p1 p2 b91_L1 b91_L2 M = some (r9, M9) → zJ p l e rm_X10_by s m args below meth c G shM ad n A 3 (MQ below (zQ G shM ad n M9 (some (.int r9)) A) args s 0 0 A) 0 0 M 91 [(1, .int b91_L1), (2, .int b91_L2)] [] := by
    intro b91_L1 b91_L2 M hF
    unfold F_X10_by_91 at hF
    refine z_iload_n cx d_X10_by_91 0 rfl ?_
    refine z_iload_n cx d_X10_by_92 1 rfl ?_
    obtain ⟨v4, M3, hc, hF⟩ := zb_inv hF
    refine z_callS cx (As := [.int b91_L1, .int b91_L2]) (rest := []) (c_X10_less l cx.2.2.2.1.1 M b91_L1 b91_L2  hc) cs_SunnyPansModel_215 ⟨rfl, rfl, Nat.le_of_ble_eq_true rfl, Nat.le_of_ble_eq_true rfl⟩ rfl rfl ⟨Nat.zero_le _, Nat.zero_le _⟩ (Nat.le_of_ble_eq_true rfl) d_X10_by_93 ?_
    exact z_iret cx hr rfl hF d_X10_by_96
  have hb74 : ∀ (b74_L1 : Int32) (b74_L2 : Int32) (M : zMem), F_X10_by_74 p0 p1 p2 b74_L1 b74_L2 M = some (r9, M9) → zJ p l e rm_X10_by s m args below meth c G shM ad n A 3 (MQ below (zQ G shM ad n M9 (some (.int r9)) A) args s 0 0 A) 0 0 M 74 [(1, .int b74_L1), (2, .int b74_L2)] [] := by
    intro b74_L1 b74_L2 M hF
    unfold F_X10_by_74 at hF
    refine z_iload_n cx d_X10_by_74 1 rfl ?_
    refine z_if_eq cx 83 d_X10_by_75 (by decide) hF (fun hF => ?_) (fun hF => ?_)
    · refine z_iconst (v := 0) cx d_X10_by_83 ki_0 ?_
      refine z_goto cx 90 d_X10_by_84 (by decide) ?_
      exact z_iret cx hr rfl hF d_X10_by_90
    refine z_iload_n cx d_X10_by_78 1 rfl ?_
    refine z_iconst (v := -1) cx d_X10_by_79 ki_m1 ?_
    refine z_icmp_ne cx 87 d_X10_by_80 (by decide) hF (fun hF => ?_) (fun hF => ?_)
    · refine z_iload_n cx d_X10_by_87 0 rfl ?_
      refine z_iload_n cx d_X10_by_88 1 rfl ?_
      obtain ⟨hz5, hF⟩ := gd_inv hF
      refine z_irem cx d_X10_by_89 (zne hz5) ?_
      exact z_iret cx hr rfl hF d_X10_by_90
    refine z_iconst (v := 0) cx d_X10_by_83 ki_0 ?_
    refine z_goto cx 90 d_X10_by_84 (by decide) ?_
    exact z_iret cx hr rfl hF d_X10_by_90
  have hb52 : ∀ (b52_L1 : Int32) (b52_L2 : Int32) (M : zMem), F_X10_by_52 p0 p1 p2 b52_L1 b52_L2 M = some (r9, M9) → zJ p l e rm_X10_by s m args below meth c G shM ad n A 3 (MQ below (zQ G shM ad n M9 (some (.int r9)) A) args s 0 0 A) 0 0 M 52 [(1, .int b52_L1), (2, .int b52_L2)] [] := by
    intro b52_L1 b52_L2 M hF
    unfold F_X10_by_52 at hF
    refine z_iload_n cx d_X10_by_52 1 rfl ?_
    refine z_if_ne cx 60 d_X10_by_53 (by decide) hF (fun hF => ?_) (fun hF => ?_)
    · refine z_iload_n cx d_X10_by_60 1 rfl ?_
      refine z_iconst (v := -1) cx d_X10_by_61 ki_m1 ?_
      refine z_icmp_ne cx 70 d_X10_by_62 (by decide) hF (fun hF => ?_) (fun hF => ?_)
      · refine z_iload_n cx d_X10_by_70 0 rfl ?_
        refine z_iload_n cx d_X10_by_71 1 rfl ?_
        obtain ⟨hz6, hF⟩ := gd_inv hF
        refine z_idiv cx d_X10_by_72 (zne hz6) ?_
        exact z_iret cx hr rfl hF d_X10_by_73
      refine z_iload_n cx d_X10_by_65 0 rfl ?_
      refine z_ineg cx d_X10_by_66 ?_
      refine z_goto cx 73 d_X10_by_67 (by decide) ?_
      exact z_iret cx hr rfl hF d_X10_by_73
    refine z_iconst (v := 0) cx d_X10_by_56 ki_0 ?_
    refine z_goto cx 73 d_X10_by_57 (by decide) ?_
    exact z_iret cx hr rfl hF d_X10_by_73
  have hb48 : ∀ (b48_L1 : Int32) (b48_L2 : Int32) (M : zMem), F_X10_by_48 p0 p1 p2 b48_L1 b48_L2 M = some (r9, M9) → zJ p l e rm_X10_by s m args below meth c G shM ad n A 3 (MQ below (zQ G shM ad n M9 (some (.int r9)) A) args s 0 0 A) 0 0 M 48 [(1, .int b48_L1), (2, .int b48_L2)] [] := by
    intro b48_L1 b48_L2 M hF
    unfold F_X10_by_48 at hF
    refine z_iload_n cx d_X10_by_48 0 rfl ?_
    refine z_iload_n cx d_X10_by_49 1 rfl ?_
    refine z_imul cx d_X10_by_50 ?_
    exact z_iret cx hr rfl hF d_X10_by_51
  have hb44 : ∀ (b44_L1 : Int32) (b44_L2 : Int32) (M : zMem), F_X10_by_44 p0 p1 p2 b44_L1 b44_L2 M = some (r9, M9) → zJ p l e rm_X10_by s m args below meth c G shM ad n A 3 (MQ below (zQ G shM ad n M9 (some (.int r9)) A) args s 0 0 A) 0 0 M 44 [(1, .int b44_L1), (2, .int b44_L2)] [] := by
    intro b44_L1 b44_L2 M hF
    unfold F_X10_by_44 at hF
    refine z_iload_n cx d_X10_by_44 0 rfl ?_
    refine z_iload_n cx d_X10_by_45 1 rfl ?_
    refine z_isub cx d_X10_by_46 ?_
    exact z_iret cx hr rfl hF d_X10_by_47
  have hb40 : ∀ (b40_L1 : Int32) (b40_L2 : Int32) (M : zMem), F_X10_by_40 p0 p1 p2 b40_L1 b40_L2 M = some (r9, M9) → zJ p l e rm_X10_by s m args below meth c G shM ad n A 3 (MQ below (zQ G shM ad n M9 (some (.int r9)) A) args s 0 0 A) 0 0 M 40 [(1, .int b40_L1), (2, .int b40_L2)] [] := by
    intro b40_L1 b40_L2 M hF
    unfold F_X10_by_40 at hF
    refine z_iload_n cx d_X10_by_40 0 rfl ?_
    refine z_iload_n cx d_X10_by_41 1 rfl ?_
    refine z_iadd cx d_X10_by_42 ?_
    exact z_iret cx hr rfl hF d_X10_by_43
  unfold F_X10_by at hF
  refine z_iload_n cx d_X10_by_0 0 rfl ?_
  by_cases q0 : p0 = 2
  · rw [if_pos q0] at hF
    refine z_tabIn cx 40 d_X10_by_1 (by rw [q0]; decide +kernel) (by rw [q0]; decide +kernel) (by rw [q0]; rfl) (by decide) ?_
    exact z_lv [1, 2] _ rfl (hb40 p1 p2 M hF)
  rw [if_neg q0] at hF
  by_cases q1 : p0 = 3
  · rw [if_pos q1] at hF
    refine z_tabIn cx 44 d_X10_by_1 (by rw [q1]; decide +kernel) (by rw [q1]; decide +kernel) (by rw [q1]; rfl) (by decide) ?_
    exact z_lv [1, 2] _ rfl (hb44 p1 p2 M hF)
  rw [if_neg q1] at hF
  by_cases q2 : p0 = 4
  · rw [if_pos q2] at hF
    refine z_tabIn cx 48 d_X10_by_1 (by rw [q2]; decide +kernel) (by rw [q2]; decide +kernel) (by rw [q2]; rfl) (by decide) ?_
    exact z_lv [1, 2] _ rfl (hb48 p1 p2 M hF)
  rw [if_neg q2] at hF
  by_cases q3 : p0 = 5
  · rw [if_pos q3] at hF
    refine z_tabIn cx 52 d_X10_by_1 (by rw [q3]; decide +kernel) (by rw [q3]; decide +kernel) (by rw [q3]; rfl) (by decide) ?_
    exact z_lv [1, 2] _ rfl (hb52 p1 p2 M hF)
  rw [if_neg q3] at hF
  by_cases q4 : p0 = 6
  · rw [if_pos q4] at hF
    refine z_tabIn cx 74 d_X10_by_1 (by rw [q4]; decide +kernel) (by rw [q4]; decide +kernel) (by rw [q4]; rfl) (by decide) ?_
    exact z_lv [1, 2] _ rfl (hb74 p1 p2 M hF)
  rw [if_neg q4] at hF
  by_cases q5 : p0 = 7
  · rw [if_pos q5] at hF
    refine z_tabIn cx 91 d_X10_by_1 (by rw [q5]; decide +kernel) (by rw [q5]; decide +kernel) (by rw [q5]; rfl) (by decide) ?_
    exact z_lv [1, 2] _ rfl (hb91 p1 p2 M hF)
  rw [if_neg q5] at hF
  refine z_tabOut cx 97 d_X10_by_1 (by have w0 := lv_neT q0 (a := 2) (by decide +kernel); have w1 := lv_neT q1 (a := 3) (by decide +kernel); have w2 := lv_neT q2 (a := 4) (by decide +kernel); have w3 := lv_neT q3 (a := 5) (by decide +kernel); have w4 := lv_neT q4 (a := 6) (by decide +kernel); have w5 := lv_neT q5 (a := 7) (by decide +kernel); omega) (by decide) ?_
  exact z_lv [1, 2] _ rfl (hb97 p1 p2 M hF)
/-! SunnyPansModel.byLaw -/
theorem d_X10_byLaw_0 : decode cX10_byLaw 0 = .ok (.iconst 0, 1) := by decide +kernel
theorem d_X10_byLaw_1 : decode cX10_byLaw 1 = .ok (.istore_n 1, 1) := by decide +kernel
theorem d_X10_byLaw_2 : decode cX10_byLaw 2 = .ok (.aload_n 0, 1) := by decide +kernel
theorem d_X10_byLaw_3 : decode cX10_byLaw 3 = .ok (.getfield 49, 3) := by decide +kernel
theorem d_X10_byLaw_6 : decode cX10_byLaw 6 = .ok (.iconst 0, 1) := by decide +kernel
theorem d_X10_byLaw_7 : decode cX10_byLaw 7 = .ok (.bipush 10, 2) := by decide +kernel
theorem d_X10_byLaw_9 : decode cX10_byLaw 9 = .ok (.aload_n 0, 1) := by decide +kernel
theorem d_X10_byLaw_10 : decode cX10_byLaw 10 = .ok (.getfield 52, 3) := by decide +kernel
theorem d_X10_byLaw_13 : decode cX10_byLaw 13 = .ok (.iconst 2, 1) := by decide +kernel
theorem d_X10_byLaw_14 : decode cX10_byLaw 14 = .ok (.iaload, 1) := by decide +kernel
theorem d_X10_byLaw_15 : decode cX10_byLaw 15 = .ok (.iconst 4, 1) := by decide +kernel
theorem d_X10_byLaw_16 : decode cX10_byLaw 16 = .ok (.idiv, 1) := by decide +kernel
theorem d_X10_byLaw_17 : decode cX10_byLaw 17 = .ok (.iadd, 1) := by decide +kernel
theorem d_X10_byLaw_18 : decode cX10_byLaw 18 = .ok (.iastore, 1) := by decide +kernel
theorem d_X10_byLaw_19 : decode cX10_byLaw 19 = .ok (.iconst 0, 1) := by decide +kernel
theorem d_X10_byLaw_20 : decode cX10_byLaw 20 = .ok (.istore_n 2, 1) := by decide +kernel
theorem d_X10_byLaw_21 : decode cX10_byLaw 21 = .ok (.iload_n 2, 1) := by decide +kernel
theorem d_X10_byLaw_22 : decode cX10_byLaw 22 = .ok (.aload_n 0, 1) := by decide +kernel
theorem d_X10_byLaw_23 : decode cX10_byLaw 23 = .ok (.getfield 172, 3) := by decide +kernel
theorem d_X10_byLaw_26 : decode cX10_byLaw 26 = .ok (.if_icmp .ge 104, 3) := by decide +kernel
theorem d_X10_byLaw_29 : decode cX10_byLaw 29 = .ok (.aload_n 0, 1) := by decide +kernel
theorem d_X10_byLaw_30 : decode cX10_byLaw 30 = .ok (.getfield 37, 3) := by decide +kernel
theorem d_X10_byLaw_33 : decode cX10_byLaw 33 = .ok (.iload_n 2, 1) := by decide +kernel
theorem d_X10_byLaw_34 : decode cX10_byLaw 34 = .ok (.aaload, 1) := by decide +kernel
theorem d_X10_byLaw_35 : decode cX10_byLaw 35 = .ok (.iconst 0, 1) := by decide +kernel
theorem d_X10_byLaw_36 : decode cX10_byLaw 36 = .ok (.iaload, 1) := by decide +kernel
theorem d_X10_byLaw_37 : decode cX10_byLaw 37 = .ok (.iconst 2, 1) := by decide +kernel
theorem d_X10_byLaw_38 : decode cX10_byLaw 38 = .ok (.if_icmp .ge 50, 3) := by decide +kernel
theorem d_X10_byLaw_41 : decode cX10_byLaw 41 = .ok (.aload_n 0, 1) := by decide +kernel
theorem d_X10_byLaw_42 : decode cX10_byLaw 42 = .ok (.getfield 49, 3) := by decide +kernel
theorem d_X10_byLaw_45 : decode cX10_byLaw 45 = .ok (.iload_n 1, 1) := by decide +kernel
theorem d_X10_byLaw_46 : decode cX10_byLaw 46 = .ok (.aload_n 0, 1) := by decide +kernel
theorem d_X10_byLaw_47 : decode cX10_byLaw 47 = .ok (.getfield 37, 3) := by decide +kernel
theorem d_X10_byLaw_50 : decode cX10_byLaw 50 = .ok (.iload_n 2, 1) := by decide +kernel
theorem d_X10_byLaw_51 : decode cX10_byLaw 51 = .ok (.aaload, 1) := by decide +kernel
theorem d_X10_byLaw_52 : decode cX10_byLaw 52 = .ok (.iconst 0, 1) := by decide +kernel
theorem d_X10_byLaw_53 : decode cX10_byLaw 53 = .ok (.iaload, 1) := by decide +kernel
theorem d_X10_byLaw_54 : decode cX10_byLaw 54 = .ok (.ifCond .ne 14, 3) := by decide +kernel
theorem d_X10_byLaw_57 : decode cX10_byLaw 57 = .ok (.aload_n 0, 1) := by decide +kernel
theorem d_X10_byLaw_58 : decode cX10_byLaw 58 = .ok (.getfield 37, 3) := by decide +kernel
theorem d_X10_byLaw_61 : decode cX10_byLaw 61 = .ok (.iload_n 2, 1) := by decide +kernel
theorem d_X10_byLaw_62 : decode cX10_byLaw 62 = .ok (.aaload, 1) := by decide +kernel
theorem d_X10_byLaw_63 : decode cX10_byLaw 63 = .ok (.iconst 1, 1) := by decide +kernel
theorem d_X10_byLaw_64 : decode cX10_byLaw 64 = .ok (.iaload, 1) := by decide +kernel
theorem d_X10_byLaw_65 : decode cX10_byLaw 65 = .ok (.goto 16, 3) := by decide +kernel
theorem d_X10_byLaw_68 : decode cX10_byLaw 68 = .ok (.aload_n 0, 1) := by decide +kernel
theorem d_X10_byLaw_69 : decode cX10_byLaw 69 = .ok (.getfield 52, 3) := by decide +kernel
theorem d_X10_byLaw_72 : decode cX10_byLaw 72 = .ok (.aload_n 0, 1) := by decide +kernel
theorem d_X10_byLaw_73 : decode cX10_byLaw 73 = .ok (.getfield 37, 3) := by decide +kernel
theorem d_X10_byLaw_76 : decode cX10_byLaw 76 = .ok (.iload_n 2, 1) := by decide +kernel
theorem d_X10_byLaw_77 : decode cX10_byLaw 77 = .ok (.aaload, 1) := by decide +kernel
theorem d_X10_byLaw_78 : decode cX10_byLaw 78 = .ok (.iconst 1, 1) := by decide +kernel
theorem d_X10_byLaw_79 : decode cX10_byLaw 79 = .ok (.iaload, 1) := by decide +kernel
theorem d_X10_byLaw_80 : decode cX10_byLaw 80 = .ok (.iaload, 1) := by decide +kernel
theorem d_X10_byLaw_81 : decode cX10_byLaw 81 = .ok (.iastore, 1) := by decide +kernel
theorem d_X10_byLaw_82 : decode cX10_byLaw 82 = .ok (.iinc 1 1, 3) := by decide +kernel
theorem d_X10_byLaw_85 : decode cX10_byLaw 85 = .ok (.goto 39, 3) := by decide +kernel
theorem d_X10_byLaw_88 : decode cX10_byLaw 88 = .ok (.iinc 1 (-1), 3) := by decide +kernel
theorem d_X10_byLaw_91 : decode cX10_byLaw 91 = .ok (.aload_n 0, 1) := by decide +kernel
theorem d_X10_byLaw_92 : decode cX10_byLaw 92 = .ok (.getfield 49, 3) := by decide +kernel
theorem d_X10_byLaw_95 : decode cX10_byLaw 95 = .ok (.iload_n 1, 1) := by decide +kernel
theorem d_X10_byLaw_96 : decode cX10_byLaw 96 = .ok (.iconst 1, 1) := by decide +kernel
theorem d_X10_byLaw_97 : decode cX10_byLaw 97 = .ok (.isub, 1) := by decide +kernel
theorem d_X10_byLaw_98 : decode cX10_byLaw 98 = .ok (.aload_n 0, 1) := by decide +kernel
theorem d_X10_byLaw_99 : decode cX10_byLaw 99 = .ok (.getfield 37, 3) := by decide +kernel
theorem d_X10_byLaw_102 : decode cX10_byLaw 102 = .ok (.iload_n 2, 1) := by decide +kernel
theorem d_X10_byLaw_103 : decode cX10_byLaw 103 = .ok (.aaload, 1) := by decide +kernel
theorem d_X10_byLaw_104 : decode cX10_byLaw 104 = .ok (.iconst 0, 1) := by decide +kernel
theorem d_X10_byLaw_105 : decode cX10_byLaw 105 = .ok (.iaload, 1) := by decide +kernel
theorem d_X10_byLaw_106 : decode cX10_byLaw 106 = .ok (.aload_n 0, 1) := by decide +kernel
theorem d_X10_byLaw_107 : decode cX10_byLaw 107 = .ok (.getfield 49, 3) := by decide +kernel
theorem d_X10_byLaw_110 : decode cX10_byLaw 110 = .ok (.iload_n 1, 1) := by decide +kernel
theorem d_X10_byLaw_111 : decode cX10_byLaw 111 = .ok (.iconst 1, 1) := by decide +kernel
theorem d_X10_byLaw_112 : decode cX10_byLaw 112 = .ok (.isub, 1) := by decide +kernel
theorem d_X10_byLaw_113 : decode cX10_byLaw 113 = .ok (.iaload, 1) := by decide +kernel
theorem d_X10_byLaw_114 : decode cX10_byLaw 114 = .ok (.aload_n 0, 1) := by decide +kernel
theorem d_X10_byLaw_115 : decode cX10_byLaw 115 = .ok (.getfield 49, 3) := by decide +kernel
theorem d_X10_byLaw_118 : decode cX10_byLaw 118 = .ok (.iload_n 1, 1) := by decide +kernel
theorem d_X10_byLaw_119 : decode cX10_byLaw 119 = .ok (.iaload, 1) := by decide +kernel
theorem d_X10_byLaw_120 : decode cX10_byLaw 120 = .ok (.invokestatic 221, 3) := by decide +kernel
theorem d_X10_byLaw_123 : decode cX10_byLaw 123 = .ok (.iastore, 1) := by decide +kernel
theorem d_X10_byLaw_124 : decode cX10_byLaw 124 = .ok (.iinc 2 1, 3) := by decide +kernel
theorem d_X10_byLaw_127 : decode cX10_byLaw 127 = .ok (.goto (-106), 3) := by decide +kernel
theorem d_X10_byLaw_130 : decode cX10_byLaw 130 = .ok (.bipush 99, 2) := by decide +kernel
theorem d_X10_byLaw_132 : decode cX10_byLaw 132 = .ok (.iconst 0, 1) := by decide +kernel
theorem d_X10_byLaw_133 : decode cX10_byLaw 133 = .ok (.aload_n 0, 1) := by decide +kernel
theorem d_X10_byLaw_134 : decode cX10_byLaw 134 = .ok (.getfield 49, 3) := by decide +kernel
theorem d_X10_byLaw_137 : decode cX10_byLaw 137 = .ok (.iconst 0, 1) := by decide +kernel
theorem d_X10_byLaw_138 : decode cX10_byLaw 138 = .ok (.iaload, 1) := by decide +kernel
theorem d_X10_byLaw_139 : decode cX10_byLaw 139 = .ok (.invokestatic 218, 3) := by decide +kernel
theorem d_X10_byLaw_142 : decode cX10_byLaw 142 = .ok (.invokestatic 215, 3) := by decide +kernel
theorem d_X10_byLaw_145 : decode cX10_byLaw 145 = .ok (.ireturn, 1) := by decide +kernel
def F_X10_byLaw_124 (self21 : Int32 → Int32 → zMem → Option (Int32 × zMem)) (b124_L1 : Int32) (b124_L2 : Int32) (M : zMem) : Option (Int32 × zMem) :=
  self21 b124_L1 (b124_L2 + 1) M
def F_X10_byLaw_21 (self21 : Int32 → Int32 → zMem → Option (Int32 × zMem)) (b21_L1 : Int32) (b21_L2 : Int32) (M : zMem) : Option (Int32 × zMem) :=
  if (M.1 0 16) ≤ b21_L2 then
    zb (F_X10_more M (0 : Int32) (M.1 368 0)) fun v2 M1 =>
    zb (F_X10_less M1 (99 : Int32) v2) fun v4 M3 =>
    some (v4, M3)
  else
    gin b21_L2 160 <|
    if (2 : Int32) ≤ (M.1 (28 + (1 + 1 * b21_L2.toNatClampNeg)) 0) then
      gin ((b21_L1 + (-1)) - (1 : Int32)) 160 <|
      gin (b21_L1 + (-1)) 160 <|
      zb (F_X10_by M (M.1 (28 + (1 + 1 * b21_L2.toNatClampNeg)) 0) (M.1 368 ((b21_L1 + (-1)) - (1 : Int32)).toNatClampNeg) (M.1 368 (b21_L1 + (-1)).toNatClampNeg)) fun v9 M8 =>
      zl (zI M8 368 (((b21_L1 + (-1)) - (1 : Int32)).toNatClampNeg) v9) fun M10 =>
      F_X10_byLaw_124 self21 (b21_L1 + (-1)) b21_L2 M10
    else
      if (M.1 (28 + (1 + 1 * b21_L2.toNatClampNeg)) 0) = 0 then
        gin b21_L1 160 <|
        zl (zI M 368 b21_L1.toNatClampNeg (M.1 (28 + (1 + 1 * b21_L2.toNatClampNeg)) 1)) fun M15 =>
        F_X10_byLaw_124 self21 (b21_L1 + 1) b21_L2 M15
      else
        gin (M.1 (28 + (1 + 1 * b21_L2.toNatClampNeg)) 1) 8 <|
        gin b21_L1 160 <|
        zl (zI M 368 b21_L1.toNatClampNeg (M.1 369 (M.1 (28 + (1 + 1 * b21_L2.toNatClampNeg)) 1).toNatClampNeg)) fun M13 =>
        F_X10_byLaw_124 self21 (b21_L1 + 1) b21_L2 M13
def F_X10_byLaw (M : zMem)  : Option (Int32 × zMem) :=
  zl (zI M 368 0 ((10 : Int32) + ((M.1 369 2) / (4 : Int32)))) fun M16 =>
  itF (fun _ _ _ => none) (F_X10_byLaw_21) zFuel (0 : Int32) (0 : Int32) M16
def rm_X10_byLaw : Room := { frames := 4, cells := 0, slots := 0, locals := 123 }
set_option maxHeartbeats 4000000 in
set_option maxRecDepth 100000 in
theorem c_X10_byLaw (l : Launch) {G : zG} {ad : Nat → Nat} {n : Nat} (hA : zInj ad n) (M : zMem)  (hT : zT shM n 0 11) {r9 : Int32} {M9 : zMem} (hF : F_X10_byLaw M  = some (r9, M9)) : zM l yX10_byLaw cX10_byLaw 3 (some .int) rm_X10_byLaw G shM ad n M [.ref (ad 0)] (some (.int r9)) M9 := by
  refine zM_of hA (by decide +kernel) (lv := [(0, .ref (ad 0))]) (Nat.le_of_ble_eq_true rfl) rfl (fun p e s m args below meth c A cx hr => ?_)
  have hb124 : ∀ (self21 : Int32 → Int32 → zMem → Option (Int32 × zMem)) (hs21 : ∀ (b21_L1 : Int32) (b21_L2 : Int32) (M : zMem), self21 b21_L1 b21_L2 M = some (r9, M9) → zJ p l e rm_X10_byLaw s m args below meth c G shM ad n A 3 (MQ below (zQ G shM ad n M9 (some (.int r9)) A) args s 0 0 A) 0 0 M 21 [(0, .ref (ad 0)), (1, .int b21_L1), (2, .int b21_L2)] []), ∀ (b124_L1 : Int32) (b124_L2 : Int32) (M : zMem), F_X10_byLaw_124 self21 b124_L1 b124_L2 M = some (r9, M9) → zJ p l e rm_X10_byLaw s m args below meth c G shM ad n A 3 (MQ below (zQ G shM ad n M9 (some (.int r9)) A) args s 0 0 A) 0 0 M 124 [(0, .ref (ad 0)), (1, .int b124_L1), (2, .int b124_L2)] [] := by
    intro self21 hs21 b124_L1 b124_L2 M hF
    unfold F_X10_byLaw_124 at hF
    refine z_iinc cx 2 1 [(2, .int (b124_L2 + 1)), (0, .ref (ad 0)), (1, .int b124_L1)] d_X10_byLaw_124 2 rfl ki_1 (by decide) rfl ?_
    refine z_goto cx 21 d_X10_byLaw_127 (by decide) ?_
    exact z_lv [1, 2, 0] _ rfl (hs21 b124_L1 (b124_L2 + 1) M hF)
  have hL21 : ∀ (fuel : Nat), ∀ (b21_L1 : Int32) (b21_L2 : Int32) (M : zMem), itF (fun _ _ _ => none) (F_X10_byLaw_21) fuel b21_L1 b21_L2 M = some (r9, M9) → zJ p l e rm_X10_byLaw s m args below meth c G shM ad n A 3 (MQ below (zQ G shM ad n M9 (some (.int r9)) A) args s 0 0 A) 0 0 M 21 [(0, .ref (ad 0)), (1, .int b21_L1), (2, .int b21_L2)] [] := by
    intro fuel
    induction fuel with
    | zero => intro b21_L1 b21_L2 M hF; cases hF
    | succ fuel hs21 =>
      intro b21_L1 b21_L2 M hF
      have hF : F_X10_byLaw_21 (itF (fun _ _ _ => none) (F_X10_byLaw_21) fuel) b21_L1 b21_L2 M = some (r9, M9) := hF
      generalize itF (fun _ _ _ => none) (F_X10_byLaw_21) fuel = self21 at hs21 hF
      unfold F_X10_byLaw_21 at hF
      refine z_iload_n cx d_X10_byLaw_21 2 rfl ?_
      refine z_aload_n cx d_X10_byLaw_22 0 rfl ?_
      refine z_getI cx hT fg_SunnyPansModel_172 d_X10_byLaw_23 ?_
      refine z_icmp_ge cx 130 d_X10_byLaw_26 (by decide) hF (fun hF => ?_) (fun hF => ?_)
      · refine z_bipush (v := 99) cx d_X10_byLaw_130 kb_99 ?_
        refine z_iconst (v := 0) cx d_X10_byLaw_132 ki_0 ?_
        refine z_aload_n cx d_X10_byLaw_133 0 rfl ?_
        refine z_getR cx hT fg_SunnyPansModel_49 368 rfl d_X10_byLaw_134 ?_
        refine z_iconst (v := 0) cx d_X10_byLaw_137 ki_0 ?_
        refine z_iald cx (tfM_11_368 hT) za_33 (zvp (by decide +kernel)) 0 rfl d_X10_byLaw_138 ?_
        obtain ⟨v2, M1, hc, hF⟩ := zb_inv hF
        refine z_callS cx (As := [.int (0 : Int32), .int (M.1 368 0)]) (rest := [.int (99 : Int32)]) (c_X10_more l cx.2.2.2.1.1 M (0 : Int32) (M.1 368 0)  hc) cs_SunnyPansModel_218 ⟨rfl, rfl, Nat.le_of_ble_eq_true rfl, Nat.le_of_ble_eq_true rfl⟩ rfl rfl ⟨Nat.zero_le _, Nat.zero_le _⟩ (Nat.le_of_ble_eq_true rfl) d_X10_byLaw_139 ?_
        obtain ⟨v4, M3, hc, hF⟩ := zb_inv hF
        refine z_callS cx (As := [.int (99 : Int32), .int v2]) (rest := []) (c_X10_less l cx.2.2.2.1.1 M1 (99 : Int32) v2  hc) cs_SunnyPansModel_215 ⟨rfl, rfl, Nat.le_of_ble_eq_true rfl, Nat.le_of_ble_eq_true rfl⟩ rfl rfl ⟨Nat.zero_le _, Nat.zero_le _⟩ (Nat.le_of_ble_eq_true rfl) d_X10_byLaw_142 ?_
        exact z_iret cx hr rfl hF d_X10_byLaw_145
      refine z_aload_n cx d_X10_byLaw_29 0 rfl ?_
      refine z_getR cx hT fg_SunnyPansModel_37 28 rfl d_X10_byLaw_30 ?_
      refine z_iload_n cx d_X10_byLaw_33 2 rfl ?_
      obtain ⟨hi5, hF⟩ := gin_inv hF
      refine z_aald cx (tfM_11_28 hT) za_31 hi5 (28 + (1 + 1 * b21_L2.toNatClampNeg)) rfl d_X10_byLaw_34 ?_
      refine z_iconst (v := 0) cx d_X10_byLaw_35 ki_0 ?_
      refine z_iald cx (teM_31 (tfM_11_28 hT) hi5) za_27 (zvp (by decide +kernel)) 0 rfl d_X10_byLaw_36 ?_
      refine z_iconst (v := 2) cx d_X10_byLaw_37 ki_2 ?_
      refine z_icmp_ge cx 88 d_X10_byLaw_38 (by decide) hF (fun hF => ?_) (fun hF => ?_)
      · refine z_iinc cx 1 (-1) [(1, .int (b21_L1 + (-1))), (0, .ref (ad 0)), (2, .int b21_L2)] d_X10_byLaw_88 1 rfl ki_m1 (by decide) rfl ?_
        refine z_aload_n cx d_X10_byLaw_91 1 rfl ?_
        refine z_getR cx hT fg_SunnyPansModel_49 368 rfl d_X10_byLaw_92 ?_
        refine z_iload_n cx d_X10_byLaw_95 0 rfl ?_
        refine z_iconst (v := 1) cx d_X10_byLaw_96 ki_1 ?_
        refine z_isub cx d_X10_byLaw_97 ?_
        refine z_aload_n cx d_X10_byLaw_98 1 rfl ?_
        refine z_getR cx hT fg_SunnyPansModel_37 28 rfl d_X10_byLaw_99 ?_
        refine z_iload_n cx d_X10_byLaw_102 2 rfl ?_
        refine z_aald cx (tfM_11_28 hT) za_31 hi5 (28 + (1 + 1 * b21_L2.toNatClampNeg)) rfl d_X10_byLaw_103 ?_
        refine z_iconst (v := 0) cx d_X10_byLaw_104 ki_0 ?_
        refine z_iald cx (teM_31 (tfM_11_28 hT) hi5) za_27 (zvp (by decide +kernel)) 0 rfl d_X10_byLaw_105 ?_
        refine z_aload_n cx d_X10_byLaw_106 1 rfl ?_
        refine z_getR cx hT fg_SunnyPansModel_49 368 rfl d_X10_byLaw_107 ?_
        refine z_iload_n cx d_X10_byLaw_110 0 rfl ?_
        refine z_iconst (v := 1) cx d_X10_byLaw_111 ki_1 ?_
        refine z_isub cx d_X10_byLaw_112 ?_
        obtain ⟨hi6, hF⟩ := gin_inv hF
        refine z_iald cx (tfM_11_368 hT) za_33 hi6 (((b21_L1 + (-1)) - (1 : Int32)).toNatClampNeg) rfl d_X10_byLaw_113 ?_
        refine z_aload_n cx d_X10_byLaw_114 1 rfl ?_
        refine z_getR cx hT fg_SunnyPansModel_49 368 rfl d_X10_byLaw_115 ?_
        refine z_iload_n cx d_X10_byLaw_118 0 rfl ?_
        obtain ⟨hi7, hF⟩ := gin_inv hF
        refine z_iald cx (tfM_11_368 hT) za_33 hi7 ((b21_L1 + (-1)).toNatClampNeg) rfl d_X10_byLaw_119 ?_
        obtain ⟨v9, M8, hc, hF⟩ := zb_inv hF
        refine z_callS cx (As := [.int (M.1 (28 + (1 + 1 * b21_L2.toNatClampNeg)) 0), .int (M.1 368 ((b21_L1 + (-1)) - (1 : Int32)).toNatClampNeg), .int (M.1 368 (b21_L1 + (-1)).toNatClampNeg)]) (rest := [.int ((b21_L1 + (-1)) - (1 : Int32)), .ref (ad 368)]) (c_X10_by l cx.2.2.2.1.1 M (M.1 (28 + (1 + 1 * b21_L2.toNatClampNeg)) 0) (M.1 368 ((b21_L1 + (-1)) - (1 : Int32)).toNatClampNeg) (M.1 368 (b21_L1 + (-1)).toNatClampNeg)  hc) cs_SunnyPansModel_221 ⟨rfl, rfl, Nat.le_of_ble_eq_true rfl, Nat.le_of_ble_eq_true rfl⟩ rfl rfl ⟨Nat.zero_le _, Nat.zero_le _⟩ (Nat.le_of_ble_eq_true rfl) d_X10_byLaw_120 ?_
        refine z_iast cx (tfM_11_368 hT) za_33 hi6 (((b21_L1 + (-1)) - (1 : Int32)).toNatClampNeg) rfl d_X10_byLaw_123 ?_
        refine z_nmM hF (fun M10 hF => ?_)
        exact z_lv [1, 0, 2] _ rfl (hb124 self21 hs21 (b21_L1 + (-1)) b21_L2 M10 hF)
      refine z_aload_n cx d_X10_byLaw_41 0 rfl ?_
      refine z_getR cx hT fg_SunnyPansModel_49 368 rfl d_X10_byLaw_42 ?_
      refine z_iload_n cx d_X10_byLaw_45 1 rfl ?_
      refine z_aload_n cx d_X10_byLaw_46 0 rfl ?_
      refine z_getR cx hT fg_SunnyPansModel_37 28 rfl d_X10_byLaw_47 ?_
      refine z_iload_n cx d_X10_byLaw_50 2 rfl ?_
      refine z_aald cx (tfM_11_28 hT) za_31 hi5 (28 + (1 + 1 * b21_L2.toNatClampNeg)) rfl d_X10_byLaw_51 ?_
      refine z_iconst (v := 0) cx d_X10_byLaw_52 ki_0 ?_
      refine z_iald cx (teM_31 (tfM_11_28 hT) hi5) za_27 (zvp (by decide +kernel)) 0 rfl d_X10_byLaw_53 ?_
      refine z_if_ne cx 68 d_X10_byLaw_54 (by decide) hF (fun hF => ?_) (fun hF => ?_)
      · refine z_aload_n cx d_X10_byLaw_68 0 rfl ?_
        refine z_getR cx hT fg_SunnyPansModel_52 369 rfl d_X10_byLaw_69 ?_
        refine z_aload_n cx d_X10_byLaw_72 0 rfl ?_
        refine z_getR cx hT fg_SunnyPansModel_37 28 rfl d_X10_byLaw_73 ?_
        refine z_iload_n cx d_X10_byLaw_76 2 rfl ?_
        refine z_aald cx (tfM_11_28 hT) za_31 hi5 (28 + (1 + 1 * b21_L2.toNatClampNeg)) rfl d_X10_byLaw_77 ?_
        refine z_iconst (v := 1) cx d_X10_byLaw_78 ki_1 ?_
        refine z_iald cx (teM_31 (tfM_11_28 hT) hi5) za_27 (zvp (by decide +kernel)) 1 rfl d_X10_byLaw_79 ?_
        obtain ⟨hi11, hF⟩ := gin_inv hF
        refine z_iald cx (tfM_11_369 hT) za_26 hi11 ((M.1 (28 + (1 + 1 * b21_L2.toNatClampNeg)) 1).toNatClampNeg) rfl d_X10_byLaw_80 ?_
        obtain ⟨hi12, hF⟩ := gin_inv hF
        refine z_iast cx (tfM_11_368 hT) za_33 hi12 b21_L1.toNatClampNeg rfl d_X10_byLaw_81 ?_
        refine z_nmM hF (fun M13 hF => ?_)
        refine z_iinc cx 1 1 [(1, .int (b21_L1 + 1)), (0, .ref (ad 0)), (2, .int b21_L2)] d_X10_byLaw_82 1 rfl ki_1 (by decide) rfl ?_
        refine z_goto cx 124 d_X10_byLaw_85 (by decide) ?_
        exact z_lv [1, 0, 2] _ rfl (hb124 self21 hs21 (b21_L1 + 1) b21_L2 M13 hF)
      refine z_aload_n cx d_X10_byLaw_57 0 rfl ?_
      refine z_getR cx hT fg_SunnyPansModel_37 28 rfl d_X10_byLaw_58 ?_
      refine z_iload_n cx d_X10_byLaw_61 2 rfl ?_
      refine z_aald cx (tfM_11_28 hT) za_31 hi5 (28 + (1 + 1 * b21_L2.toNatClampNeg)) rfl d_X10_byLaw_62 ?_
      refine z_iconst (v := 1) cx d_X10_byLaw_63 ki_1 ?_
      refine z_iald cx (teM_31 (tfM_11_28 hT) hi5) za_27 (zvp (by decide +kernel)) 1 rfl d_X10_byLaw_64 ?_
      refine z_goto cx 81 d_X10_byLaw_65 (by decide) ?_
      obtain ⟨hi14, hF⟩ := gin_inv hF
      refine z_iast cx (tfM_11_368 hT) za_33 hi14 b21_L1.toNatClampNeg rfl d_X10_byLaw_81 ?_
      refine z_nmM hF (fun M15 hF => ?_)
      refine z_iinc cx 1 1 [(1, .int (b21_L1 + 1)), (0, .ref (ad 0)), (2, .int b21_L2)] d_X10_byLaw_82 1 rfl ki_1 (by decide) rfl ?_
      refine z_goto cx 124 d_X10_byLaw_85 (by decide) ?_
      exact z_lv [1, 0, 2] _ rfl (hb124 self21 hs21 (b21_L1 + 1) b21_L2 M15 hF)
  unfold F_X10_byLaw at hF
  refine z_iconst (v := 0) cx d_X10_byLaw_0 ki_0 ?_
  refine z_istore_n cx 1 [(1, .int (0 : Int32)), (0, .ref (ad 0))] d_X10_byLaw_1 rfl (by decide) rfl ?_
  refine z_aload_n cx d_X10_byLaw_2 1 rfl ?_
  refine z_getR cx hT fg_SunnyPansModel_49 368 rfl d_X10_byLaw_3 ?_
  refine z_iconst (v := 0) cx d_X10_byLaw_6 ki_0 ?_
  refine z_bipush (v := 10) cx d_X10_byLaw_7 kb_10 ?_
  refine z_aload_n cx d_X10_byLaw_9 1 rfl ?_
  refine z_getR cx hT fg_SunnyPansModel_52 369 rfl d_X10_byLaw_10 ?_
  refine z_iconst (v := 2) cx d_X10_byLaw_13 ki_2 ?_
  refine z_iald cx (tfM_11_369 hT) za_26 (zvp (by decide +kernel)) 2 rfl d_X10_byLaw_14 ?_
  refine z_iconst (v := 4) cx d_X10_byLaw_15 ki_4 ?_
  refine z_idiv cx d_X10_byLaw_16 (by decide) ?_
  refine z_iadd cx d_X10_byLaw_17 ?_
  refine z_iast cx (tfM_11_368 hT) za_33 (zvp (by decide +kernel)) 0 rfl d_X10_byLaw_18 ?_
  refine z_nmM hF (fun M16 hF => ?_)
  refine z_iconst (v := 0) cx d_X10_byLaw_19 ki_0 ?_
  refine z_istore_n cx 2 [(2, .int (0 : Int32)), (1, .int (0 : Int32)), (0, .ref (ad 0))] d_X10_byLaw_20 rfl (by decide) rfl ?_
  exact z_lv [2, 1, 0] _ rfl (hL21 zFuel (0 : Int32) (0 : Int32) M16 hF)
/-! SunnyPansModel.stepHere -/
theorem d_X10_stepHere_0 : decode cX10_stepHere 0 = .ok (.aload_n 0, 1) := by decide +kernel
theorem d_X10_stepHere_1 : decode cX10_stepHere 1 = .ok (.bipush 12, 2) := by decide +kernel
theorem d_X10_stepHere_3 : decode cX10_stepHere 3 = .ok (.iconst 5, 1) := by decide +kernel
theorem d_X10_stepHere_4 : decode cX10_stepHere 4 = .ok (.bipush 20, 2) := by decide +kernel
theorem d_X10_stepHere_6 : decode cX10_stepHere 6 = .ok (.iconst 0, 1) := by decide +kernel
theorem d_X10_stepHere_7 : decode cX10_stepHere 7 = .ok (.iconst 0, 1) := by decide +kernel
theorem d_X10_stepHere_8 : decode cX10_stepHere 8 = .ok (.iconst 0, 1) := by decide +kernel
theorem d_X10_stepHere_9 : decode cX10_stepHere 9 = .ok (.invokevirtual 131, 3) := by decide +kernel
theorem d_X10_stepHere_12 : decode cX10_stepHere 12 = .ok (.ifCond .eq 5, 3) := by decide +kernel
theorem d_X10_stepHere_15 : decode cX10_stepHere 15 = .ok (.iconst 0, 1) := by decide +kernel
theorem d_X10_stepHere_16 : decode cX10_stepHere 16 = .ok (.ireturn, 1) := by decide +kernel
theorem d_X10_stepHere_17 : decode cX10_stepHere 17 = .ok (.aload_n 0, 1) := by decide +kernel
theorem d_X10_stepHere_18 : decode cX10_stepHere 18 = .ok (.bipush 18, 2) := by decide +kernel
theorem d_X10_stepHere_20 : decode cX10_stepHere 20 = .ok (.iconst 1, 1) := by decide +kernel
theorem d_X10_stepHere_21 : decode cX10_stepHere 21 = .ok (.bipush 11, 2) := by decide +kernel
theorem d_X10_stepHere_23 : decode cX10_stepHere 23 = .ok (.iconst 5, 1) := by decide +kernel
theorem d_X10_stepHere_24 : decode cX10_stepHere 24 = .ok (.iconst 0, 1) := by decide +kernel
theorem d_X10_stepHere_25 : decode cX10_stepHere 25 = .ok (.iconst 0, 1) := by decide +kernel
theorem d_X10_stepHere_26 : decode cX10_stepHere 26 = .ok (.invokevirtual 131, 3) := by decide +kernel
theorem d_X10_stepHere_29 : decode cX10_stepHere 29 = .ok (.ifCond .eq 5, 3) := by decide +kernel
theorem d_X10_stepHere_32 : decode cX10_stepHere 32 = .ok (.iconst 1, 1) := by decide +kernel
theorem d_X10_stepHere_33 : decode cX10_stepHere 33 = .ok (.ireturn, 1) := by decide +kernel
theorem d_X10_stepHere_34 : decode cX10_stepHere 34 = .ok (.aload_n 0, 1) := by decide +kernel
theorem d_X10_stepHere_35 : decode cX10_stepHere 35 = .ok (.iconst 3, 1) := by decide +kernel
theorem d_X10_stepHere_36 : decode cX10_stepHere 36 = .ok (.iconst 1, 1) := by decide +kernel
theorem d_X10_stepHere_37 : decode cX10_stepHere 37 = .ok (.bipush 18, 2) := by decide +kernel
theorem d_X10_stepHere_39 : decode cX10_stepHere 39 = .ok (.bipush 20, 2) := by decide +kernel
theorem d_X10_stepHere_41 : decode cX10_stepHere 41 = .ok (.iconst 0, 1) := by decide +kernel
theorem d_X10_stepHere_42 : decode cX10_stepHere 42 = .ok (.iconst 0, 1) := by decide +kernel
theorem d_X10_stepHere_43 : decode cX10_stepHere 43 = .ok (.invokevirtual 131, 3) := by decide +kernel
theorem d_X10_stepHere_46 : decode cX10_stepHere 46 = .ok (.ifCond .eq 5, 3) := by decide +kernel
theorem d_X10_stepHere_49 : decode cX10_stepHere 49 = .ok (.iconst 2, 1) := by decide +kernel
theorem d_X10_stepHere_50 : decode cX10_stepHere 50 = .ok (.ireturn, 1) := by decide +kernel
theorem d_X10_stepHere_51 : decode cX10_stepHere 51 = .ok (.aload_n 0, 1) := by decide +kernel
theorem d_X10_stepHere_52 : decode cX10_stepHere 52 = .ok (.bipush 18, 2) := by decide +kernel
theorem d_X10_stepHere_54 : decode cX10_stepHere 54 = .ok (.iconst 1, 1) := by decide +kernel
theorem d_X10_stepHere_55 : decode cX10_stepHere 55 = .ok (.bipush 9, 2) := by decide +kernel
theorem d_X10_stepHere_57 : decode cX10_stepHere 57 = .ok (.bipush 14, 2) := by decide +kernel
theorem d_X10_stepHere_59 : decode cX10_stepHere 59 = .ok (.iconst 0, 1) := by decide +kernel
theorem d_X10_stepHere_60 : decode cX10_stepHere 60 = .ok (.iconst 0, 1) := by decide +kernel
theorem d_X10_stepHere_61 : decode cX10_stepHere 61 = .ok (.invokevirtual 131, 3) := by decide +kernel
theorem d_X10_stepHere_64 : decode cX10_stepHere 64 = .ok (.ifCond .eq 5, 3) := by decide +kernel
theorem d_X10_stepHere_67 : decode cX10_stepHere 67 = .ok (.iconst 3, 1) := by decide +kernel
theorem d_X10_stepHere_68 : decode cX10_stepHere 68 = .ok (.ireturn, 1) := by decide +kernel
theorem d_X10_stepHere_69 : decode cX10_stepHere 69 = .ok (.aload_n 0, 1) := by decide +kernel
theorem d_X10_stepHere_70 : decode cX10_stepHere 70 = .ok (.bipush 8, 2) := by decide +kernel
theorem d_X10_stepHere_72 : decode cX10_stepHere 72 = .ok (.bipush 15, 2) := by decide +kernel
theorem d_X10_stepHere_74 : decode cX10_stepHere 74 = .ok (.bipush 21, 2) := by decide +kernel
theorem d_X10_stepHere_76 : decode cX10_stepHere 76 = .ok (.bipush 18, 2) := by decide +kernel
theorem d_X10_stepHere_78 : decode cX10_stepHere 78 = .ok (.iconst 0, 1) := by decide +kernel
theorem d_X10_stepHere_79 : decode cX10_stepHere 79 = .ok (.iconst 0, 1) := by decide +kernel
theorem d_X10_stepHere_80 : decode cX10_stepHere 80 = .ok (.invokevirtual 131, 3) := by decide +kernel
theorem d_X10_stepHere_83 : decode cX10_stepHere 83 = .ok (.ifCond .eq 5, 3) := by decide +kernel
theorem d_X10_stepHere_86 : decode cX10_stepHere 86 = .ok (.iconst 4, 1) := by decide +kernel
theorem d_X10_stepHere_87 : decode cX10_stepHere 87 = .ok (.ireturn, 1) := by decide +kernel
theorem d_X10_stepHere_88 : decode cX10_stepHere 88 = .ok (.aload_n 0, 1) := by decide +kernel
theorem d_X10_stepHere_89 : decode cX10_stepHere 89 = .ok (.iconst 1, 1) := by decide +kernel
theorem d_X10_stepHere_90 : decode cX10_stepHere 90 = .ok (.bipush 7, 2) := by decide +kernel
theorem d_X10_stepHere_92 : decode cX10_stepHere 92 = .ok (.iconst 1, 1) := by decide +kernel
theorem d_X10_stepHere_93 : decode cX10_stepHere 93 = .ok (.bipush 9, 2) := by decide +kernel
theorem d_X10_stepHere_95 : decode cX10_stepHere 95 = .ok (.bipush 14, 2) := by decide +kernel
theorem d_X10_stepHere_97 : decode cX10_stepHere 97 = .ok (.iconst 0, 1) := by decide +kernel
theorem d_X10_stepHere_98 : decode cX10_stepHere 98 = .ok (.invokevirtual 131, 3) := by decide +kernel
theorem d_X10_stepHere_101 : decode cX10_stepHere 101 = .ok (.ifCond .eq 7, 3) := by decide +kernel
theorem d_X10_stepHere_104 : decode cX10_stepHere 104 = .ok (.iconst 5, 1) := by decide +kernel
theorem d_X10_stepHere_105 : decode cX10_stepHere 105 = .ok (.goto 4, 3) := by decide +kernel
theorem d_X10_stepHere_108 : decode cX10_stepHere 108 = .ok (.iconst (-1), 1) := by decide +kernel
theorem d_X10_stepHere_109 : decode cX10_stepHere 109 = .ok (.ireturn, 1) := by decide +kernel
def F_X10_stepHere (M : zMem)  : Option (Int32 × zMem) :=
  zb (F_X10_isWord M (12 : Int32) (5 : Int32) (20 : Int32) (0 : Int32) (0 : Int32) (0 : Int32)) fun v2 M1 =>
  if v2 = 0 then
    zb (F_X10_isWord M1 (18 : Int32) (1 : Int32) (11 : Int32) (5 : Int32) (0 : Int32) (0 : Int32)) fun v4 M3 =>
    if v4 = 0 then
      zb (F_X10_isWord M3 (3 : Int32) (1 : Int32) (18 : Int32) (20 : Int32) (0 : Int32) (0 : Int32)) fun v6 M5 =>
      if v6 = 0 then
        zb (F_X10_isWord M5 (18 : Int32) (1 : Int32) (9 : Int32) (14 : Int32) (0 : Int32) (0 : Int32)) fun v8 M7 =>
        if v8 = 0 then
          zb (F_X10_isWord M7 (8 : Int32) (15 : Int32) (21 : Int32) (18 : Int32) (0 : Int32) (0 : Int32)) fun v10 M9 =>
          if v10 = 0 then
            zb (F_X10_isWord M9 (1 : Int32) (7 : Int32) (1 : Int32) (9 : Int32) (14 : Int32) (0 : Int32)) fun v12 M11 =>
            if v12 = 0 then
              some ((-1 : Int32), M11)
            else
              some ((5 : Int32), M11)
          else
            some ((4 : Int32), M9)
        else
          some ((3 : Int32), M7)
      else
        some ((2 : Int32), M5)
    else
      some ((1 : Int32), M3)
  else
    some ((0 : Int32), M1)
def rm_X10_stepHere : Room := { frames := 6, cells := 0, slots := 0, locals := 169 }
set_option maxHeartbeats 4000000 in
set_option maxRecDepth 100000 in
theorem c_X10_stepHere (l : Launch) {G : zG} {ad : Nat → Nat} {n : Nat} (hA : zInj ad n) (M : zMem)  (hT : zT shM n 0 11) {r9 : Int32} {M9 : zMem} (hF : F_X10_stepHere M  = some (r9, M9)) : zM l yX10_stepHere cX10_stepHere 1 (some .int) rm_X10_stepHere G shM ad n M [.ref (ad 0)] (some (.int r9)) M9 := by
  refine zM_of hA (by decide +kernel) (lv := [(0, .ref (ad 0))]) (Nat.le_of_ble_eq_true rfl) rfl (fun p e s m args below meth c A cx hr => ?_)
  unfold F_X10_stepHere at hF
  refine z_aload_n cx d_X10_stepHere_0 0 rfl ?_
  refine z_bipush (v := 12) cx d_X10_stepHere_1 kb_12 ?_
  refine z_iconst (v := 5) cx d_X10_stepHere_3 ki_5 ?_
  refine z_bipush (v := 20) cx d_X10_stepHere_4 kb_20 ?_
  refine z_iconst (v := 0) cx d_X10_stepHere_6 ki_0 ?_
  refine z_iconst (v := 0) cx d_X10_stepHere_7 ki_0 ?_
  refine z_iconst (v := 0) cx d_X10_stepHere_8 ki_0 ?_
  obtain ⟨v2, M1, hc, hF⟩ := zb_inv hF
  refine z_callV cx (As := [.int (12 : Int32), .int (5 : Int32), .int (20 : Int32), .int (0 : Int32), .int (0 : Int32), .int (0 : Int32)]) (rest := []) (c_X10_isWord l cx.2.2.2.1.1 M (12 : Int32) (5 : Int32) (20 : Int32) (0 : Int32) (0 : Int32) (0 : Int32) hT hc) hT zo_11 cv_SunnyPansModel_131 ⟨rfl, rfl, Nat.le_of_ble_eq_true rfl, Nat.le_of_ble_eq_true rfl⟩ rfl rfl ⟨Nat.zero_le _, Nat.zero_le _⟩ (Nat.le_of_ble_eq_true rfl) d_X10_stepHere_9 ?_
  refine z_if_eq cx 17 d_X10_stepHere_12 (by decide) hF (fun hF => ?_) (fun hF => ?_)
  · refine z_aload_n cx d_X10_stepHere_17 0 rfl ?_
    refine z_bipush (v := 18) cx d_X10_stepHere_18 kb_18 ?_
    refine z_iconst (v := 1) cx d_X10_stepHere_20 ki_1 ?_
    refine z_bipush (v := 11) cx d_X10_stepHere_21 kb_11 ?_
    refine z_iconst (v := 5) cx d_X10_stepHere_23 ki_5 ?_
    refine z_iconst (v := 0) cx d_X10_stepHere_24 ki_0 ?_
    refine z_iconst (v := 0) cx d_X10_stepHere_25 ki_0 ?_
    obtain ⟨v4, M3, hc, hF⟩ := zb_inv hF
    refine z_callV cx (As := [.int (18 : Int32), .int (1 : Int32), .int (11 : Int32), .int (5 : Int32), .int (0 : Int32), .int (0 : Int32)]) (rest := []) (c_X10_isWord l cx.2.2.2.1.1 M1 (18 : Int32) (1 : Int32) (11 : Int32) (5 : Int32) (0 : Int32) (0 : Int32) hT hc) hT zo_11 cv_SunnyPansModel_131 ⟨rfl, rfl, Nat.le_of_ble_eq_true rfl, Nat.le_of_ble_eq_true rfl⟩ rfl rfl ⟨Nat.zero_le _, Nat.zero_le _⟩ (Nat.le_of_ble_eq_true rfl) d_X10_stepHere_26 ?_
    refine z_if_eq cx 34 d_X10_stepHere_29 (by decide) hF (fun hF => ?_) (fun hF => ?_)
    · refine z_aload_n cx d_X10_stepHere_34 0 rfl ?_
      refine z_iconst (v := 3) cx d_X10_stepHere_35 ki_3 ?_
      refine z_iconst (v := 1) cx d_X10_stepHere_36 ki_1 ?_
      refine z_bipush (v := 18) cx d_X10_stepHere_37 kb_18 ?_
      refine z_bipush (v := 20) cx d_X10_stepHere_39 kb_20 ?_
      refine z_iconst (v := 0) cx d_X10_stepHere_41 ki_0 ?_
      refine z_iconst (v := 0) cx d_X10_stepHere_42 ki_0 ?_
      obtain ⟨v6, M5, hc, hF⟩ := zb_inv hF
      refine z_callV cx (As := [.int (3 : Int32), .int (1 : Int32), .int (18 : Int32), .int (20 : Int32), .int (0 : Int32), .int (0 : Int32)]) (rest := []) (c_X10_isWord l cx.2.2.2.1.1 M3 (3 : Int32) (1 : Int32) (18 : Int32) (20 : Int32) (0 : Int32) (0 : Int32) hT hc) hT zo_11 cv_SunnyPansModel_131 ⟨rfl, rfl, Nat.le_of_ble_eq_true rfl, Nat.le_of_ble_eq_true rfl⟩ rfl rfl ⟨Nat.zero_le _, Nat.zero_le _⟩ (Nat.le_of_ble_eq_true rfl) d_X10_stepHere_43 ?_
      refine z_if_eq cx 51 d_X10_stepHere_46 (by decide) hF (fun hF => ?_) (fun hF => ?_)
      · refine z_aload_n cx d_X10_stepHere_51 0 rfl ?_
        refine z_bipush (v := 18) cx d_X10_stepHere_52 kb_18 ?_
        refine z_iconst (v := 1) cx d_X10_stepHere_54 ki_1 ?_
        refine z_bipush (v := 9) cx d_X10_stepHere_55 kb_9 ?_
        refine z_bipush (v := 14) cx d_X10_stepHere_57 kb_14 ?_
        refine z_iconst (v := 0) cx d_X10_stepHere_59 ki_0 ?_
        refine z_iconst (v := 0) cx d_X10_stepHere_60 ki_0 ?_
        obtain ⟨v8, M7, hc, hF⟩ := zb_inv hF
        refine z_callV cx (As := [.int (18 : Int32), .int (1 : Int32), .int (9 : Int32), .int (14 : Int32), .int (0 : Int32), .int (0 : Int32)]) (rest := []) (c_X10_isWord l cx.2.2.2.1.1 M5 (18 : Int32) (1 : Int32) (9 : Int32) (14 : Int32) (0 : Int32) (0 : Int32) hT hc) hT zo_11 cv_SunnyPansModel_131 ⟨rfl, rfl, Nat.le_of_ble_eq_true rfl, Nat.le_of_ble_eq_true rfl⟩ rfl rfl ⟨Nat.zero_le _, Nat.zero_le _⟩ (Nat.le_of_ble_eq_true rfl) d_X10_stepHere_61 ?_
        refine z_if_eq cx 69 d_X10_stepHere_64 (by decide) hF (fun hF => ?_) (fun hF => ?_)
        · refine z_aload_n cx d_X10_stepHere_69 0 rfl ?_
          refine z_bipush (v := 8) cx d_X10_stepHere_70 kb_8 ?_
          refine z_bipush (v := 15) cx d_X10_stepHere_72 kb_15 ?_
          refine z_bipush (v := 21) cx d_X10_stepHere_74 kb_21 ?_
          refine z_bipush (v := 18) cx d_X10_stepHere_76 kb_18 ?_
          refine z_iconst (v := 0) cx d_X10_stepHere_78 ki_0 ?_
          refine z_iconst (v := 0) cx d_X10_stepHere_79 ki_0 ?_
          obtain ⟨v10, M9, hc, hF⟩ := zb_inv hF
          refine z_callV cx (As := [.int (8 : Int32), .int (15 : Int32), .int (21 : Int32), .int (18 : Int32), .int (0 : Int32), .int (0 : Int32)]) (rest := []) (c_X10_isWord l cx.2.2.2.1.1 M7 (8 : Int32) (15 : Int32) (21 : Int32) (18 : Int32) (0 : Int32) (0 : Int32) hT hc) hT zo_11 cv_SunnyPansModel_131 ⟨rfl, rfl, Nat.le_of_ble_eq_true rfl, Nat.le_of_ble_eq_true rfl⟩ rfl rfl ⟨Nat.zero_le _, Nat.zero_le _⟩ (Nat.le_of_ble_eq_true rfl) d_X10_stepHere_80 ?_
          refine z_if_eq cx 88 d_X10_stepHere_83 (by decide) hF (fun hF => ?_) (fun hF => ?_)
          · refine z_aload_n cx d_X10_stepHere_88 0 rfl ?_
            refine z_iconst (v := 1) cx d_X10_stepHere_89 ki_1 ?_
            refine z_bipush (v := 7) cx d_X10_stepHere_90 kb_7 ?_
            refine z_iconst (v := 1) cx d_X10_stepHere_92 ki_1 ?_
            refine z_bipush (v := 9) cx d_X10_stepHere_93 kb_9 ?_
            refine z_bipush (v := 14) cx d_X10_stepHere_95 kb_14 ?_
            refine z_iconst (v := 0) cx d_X10_stepHere_97 ki_0 ?_
            obtain ⟨v12, M11, hc, hF⟩ := zb_inv hF
            refine z_callV cx (As := [.int (1 : Int32), .int (7 : Int32), .int (1 : Int32), .int (9 : Int32), .int (14 : Int32), .int (0 : Int32)]) (rest := []) (c_X10_isWord l cx.2.2.2.1.1 M9 (1 : Int32) (7 : Int32) (1 : Int32) (9 : Int32) (14 : Int32) (0 : Int32) hT hc) hT zo_11 cv_SunnyPansModel_131 ⟨rfl, rfl, Nat.le_of_ble_eq_true rfl, Nat.le_of_ble_eq_true rfl⟩ rfl rfl ⟨Nat.zero_le _, Nat.zero_le _⟩ (Nat.le_of_ble_eq_true rfl) d_X10_stepHere_98 ?_
            refine z_if_eq cx 108 d_X10_stepHere_101 (by decide) hF (fun hF => ?_) (fun hF => ?_)
            · refine z_iconst (v := -1) cx d_X10_stepHere_108 ki_m1 ?_
              exact z_iret cx hr rfl hF d_X10_stepHere_109
            refine z_iconst (v := 5) cx d_X10_stepHere_104 ki_5 ?_
            refine z_goto cx 109 d_X10_stepHere_105 (by decide) ?_
            exact z_iret cx hr rfl hF d_X10_stepHere_109
          refine z_iconst (v := 4) cx d_X10_stepHere_86 ki_4 ?_
          exact z_iret cx hr rfl hF d_X10_stepHere_87
        refine z_iconst (v := 3) cx d_X10_stepHere_67 ki_3 ?_
        exact z_iret cx hr rfl hF d_X10_stepHere_68
      refine z_iconst (v := 2) cx d_X10_stepHere_49 ki_2 ?_
      exact z_iret cx hr rfl hF d_X10_stepHere_50
    refine z_iconst (v := 1) cx d_X10_stepHere_32 ki_1 ?_
    exact z_iret cx hr rfl hF d_X10_stepHere_33
  refine z_iconst (v := 0) cx d_X10_stepHere_15 ki_0 ?_
  exact z_iret cx hr rfl hF d_X10_stepHere_16
/-! SunnyPansModel.placeHere -/
theorem d_X10_placeHere_0 : decode cX10_placeHere 0 = .ok (.aload_n 0, 1) := by decide +kernel
theorem d_X10_placeHere_1 : decode cX10_placeHere 1 = .ok (.iconst 0, 1) := by decide +kernel
theorem d_X10_placeHere_2 : decode cX10_placeHere 2 = .ok (.aload_n 0, 1) := by decide +kernel
theorem d_X10_placeHere_3 : decode cX10_placeHere 3 = .ok (.getfield 23, 3) := by decide +kernel
theorem d_X10_placeHere_6 : decode cX10_placeHere 6 = .ok (.iconst 0, 1) := by decide +kernel
theorem d_X10_placeHere_7 : decode cX10_placeHere 7 = .ok (.iaload, 1) := by decide +kernel
theorem d_X10_placeHere_8 : decode cX10_placeHere 8 = .ok (.iconst 1, 1) := by decide +kernel
theorem d_X10_placeHere_9 : decode cX10_placeHere 9 = .ok (.isub, 1) := by decide +kernel
theorem d_X10_placeHere_10 : decode cX10_placeHere 10 = .ok (.invokevirtual 147, 3) := by decide +kernel
theorem d_X10_placeHere_13 : decode cX10_placeHere 13 = .ok (.istore_n 1, 1) := by decide +kernel
theorem d_X10_placeHere_14 : decode cX10_placeHere 14 = .ok (.aload_n 0, 1) := by decide +kernel
theorem d_X10_placeHere_15 : decode cX10_placeHere 15 = .ok (.iconst 0, 1) := by decide +kernel
theorem d_X10_placeHere_16 : decode cX10_placeHere 16 = .ok (.aload_n 0, 1) := by decide +kernel
theorem d_X10_placeHere_17 : decode cX10_placeHere 17 = .ok (.getfield 23, 3) := by decide +kernel
theorem d_X10_placeHere_20 : decode cX10_placeHere 20 = .ok (.iconst 1, 1) := by decide +kernel
theorem d_X10_placeHere_21 : decode cX10_placeHere 21 = .ok (.iaload, 1) := by decide +kernel
theorem d_X10_placeHere_22 : decode cX10_placeHere 22 = .ok (.iconst 1, 1) := by decide +kernel
theorem d_X10_placeHere_23 : decode cX10_placeHere 23 = .ok (.isub, 1) := by decide +kernel
theorem d_X10_placeHere_24 : decode cX10_placeHere 24 = .ok (.invokevirtual 147, 3) := by decide +kernel
theorem d_X10_placeHere_27 : decode cX10_placeHere 27 = .ok (.istore_n 2, 1) := by decide +kernel
theorem d_X10_placeHere_28 : decode cX10_placeHere 28 = .ok (.bipush 8, 2) := by decide +kernel
theorem d_X10_placeHere_30 : decode cX10_placeHere 30 = .ok (.iload_n 2, 1) := by decide +kernel
theorem d_X10_placeHere_31 : decode cX10_placeHere 31 = .ok (.imul, 1) := by decide +kernel
theorem d_X10_placeHere_32 : decode cX10_placeHere 32 = .ok (.iload_n 1, 1) := by decide +kernel
theorem d_X10_placeHere_33 : decode cX10_placeHere 33 = .ok (.iadd, 1) := by decide +kernel
theorem d_X10_placeHere_34 : decode cX10_placeHere 34 = .ok (.ireturn, 1) := by decide +kernel
def F_X10_placeHere (M : zMem)  : Option (Int32 × zMem) :=
  zb (F_X10_number M (0 : Int32) ((M.1 4 0) - (1 : Int32))) fun v2 M1 =>
  zb (F_X10_number M1 (0 : Int32) ((M1.1 4 1) - (1 : Int32))) fun v4 M3 =>
  some ((((8 : Int32) * v4) + v2), M3)
def rm_X10_placeHere : Room := { frames := 5, cells := 0, slots := 0, locals := 145 }
set_option maxHeartbeats 4000000 in
set_option maxRecDepth 100000 in
theorem c_X10_placeHere (l : Launch) {G : zG} {ad : Nat → Nat} {n : Nat} (hA : zInj ad n) (M : zMem)  (hT : zT shM n 0 11) {r9 : Int32} {M9 : zMem} (hF : F_X10_placeHere M  = some (r9, M9)) : zM l yX10_placeHere cX10_placeHere 3 (some .int) rm_X10_placeHere G shM ad n M [.ref (ad 0)] (some (.int r9)) M9 := by
  refine zM_of hA (by decide +kernel) (lv := [(0, .ref (ad 0))]) (Nat.le_of_ble_eq_true rfl) rfl (fun p e s m args below meth c A cx hr => ?_)
  unfold F_X10_placeHere at hF
  refine z_aload_n cx d_X10_placeHere_0 0 rfl ?_
  refine z_iconst (v := 0) cx d_X10_placeHere_1 ki_0 ?_
  refine z_aload_n cx d_X10_placeHere_2 0 rfl ?_
  refine z_getR cx hT fg_SunnyPansModel_23 4 rfl d_X10_placeHere_3 ?_
  refine z_iconst (v := 0) cx d_X10_placeHere_6 ki_0 ?_
  refine z_iald cx (tfM_11_4 hT) za_28 (zvp (by decide +kernel)) 0 rfl d_X10_placeHere_7 ?_
  refine z_iconst (v := 1) cx d_X10_placeHere_8 ki_1 ?_
  refine z_isub cx d_X10_placeHere_9 ?_
  obtain ⟨v2, M1, hc, hF⟩ := zb_inv hF
  refine z_callV cx (As := [.int (0 : Int32), .int ((M.1 4 0) - (1 : Int32))]) (rest := []) (c_X10_number l cx.2.2.2.1.1 M (0 : Int32) ((M.1 4 0) - (1 : Int32)) hT hc) hT zo_11 cv_SunnyPansModel_147 ⟨rfl, rfl, Nat.le_of_ble_eq_true rfl, Nat.le_of_ble_eq_true rfl⟩ rfl rfl ⟨Nat.zero_le _, Nat.zero_le _⟩ (Nat.le_of_ble_eq_true rfl) d_X10_placeHere_10 ?_
  refine z_istore_n cx 1 [(1, .int v2), (0, .ref (ad 0))] d_X10_placeHere_13 rfl (by decide) rfl ?_
  refine z_aload_n cx d_X10_placeHere_14 1 rfl ?_
  refine z_iconst (v := 0) cx d_X10_placeHere_15 ki_0 ?_
  refine z_aload_n cx d_X10_placeHere_16 1 rfl ?_
  refine z_getR cx hT fg_SunnyPansModel_23 4 rfl d_X10_placeHere_17 ?_
  refine z_iconst (v := 1) cx d_X10_placeHere_20 ki_1 ?_
  refine z_iald cx (tfM_11_4 hT) za_28 (zvp (by decide +kernel)) 1 rfl d_X10_placeHere_21 ?_
  refine z_iconst (v := 1) cx d_X10_placeHere_22 ki_1 ?_
  refine z_isub cx d_X10_placeHere_23 ?_
  obtain ⟨v4, M3, hc, hF⟩ := zb_inv hF
  refine z_callV cx (As := [.int (0 : Int32), .int ((M1.1 4 1) - (1 : Int32))]) (rest := []) (c_X10_number l cx.2.2.2.1.1 M1 (0 : Int32) ((M1.1 4 1) - (1 : Int32)) hT hc) hT zo_11 cv_SunnyPansModel_147 ⟨rfl, rfl, Nat.le_of_ble_eq_true rfl, Nat.le_of_ble_eq_true rfl⟩ rfl rfl ⟨Nat.zero_le _, Nat.zero_le _⟩ (Nat.le_of_ble_eq_true rfl) d_X10_placeHere_24 ?_
  refine z_istore_n cx 2 [(2, .int v4), (1, .int v2), (0, .ref (ad 0))] d_X10_placeHere_27 rfl (by decide) rfl ?_
  refine z_bipush (v := 8) cx d_X10_placeHere_28 kb_8 ?_
  refine z_iload_n cx d_X10_placeHere_30 0 rfl ?_
  refine z_imul cx d_X10_placeHere_31 ?_
  refine z_iload_n cx d_X10_placeHere_32 1 rfl ?_
  refine z_iadd cx d_X10_placeHere_33 ?_
  exact z_iret cx hr rfl hF d_X10_placeHere_34
/-! SunnyPansModel.fault -/
theorem d_X10_fault_0 : decode cX10_fault 0 = .ok (.aload_n 0, 1) := by decide +kernel
theorem d_X10_fault_1 : decode cX10_fault 1 = .ok (.iconst 0, 1) := by decide +kernel
theorem d_X10_fault_2 : decode cX10_fault 2 = .ok (.putfield 82, 3) := by decide +kernel
theorem d_X10_fault_5 : decode cX10_fault 5 = .ok (.aload_n 0, 1) := by decide +kernel
theorem d_X10_fault_6 : decode cX10_fault 6 = .ok (.getfield 9, 3) := by decide +kernel
theorem d_X10_fault_9 : decode cX10_fault 9 = .ok (.ireturn, 1) := by decide +kernel
def F_X10_fault (M : zMem)  : Option (Int32 × zMem) :=
  zl (zI M 0 0 (0 : Int32)) fun M1 =>
  some ((M1.1 0 3), M1)
def rm_X10_fault : Room := { frames := 2, cells := 0, slots := 0, locals := 80 }
set_option maxHeartbeats 4000000 in
set_option maxRecDepth 100000 in
theorem c_X10_fault (l : Launch) {G : zG} {ad : Nat → Nat} {n : Nat} (hA : zInj ad n) (M : zMem)  (hT : zT shM n 0 11) {r9 : Int32} {M9 : zMem} (hF : F_X10_fault M  = some (r9, M9)) : zM l yX10_fault cX10_fault 1 (some .int) rm_X10_fault G shM ad n M [.ref (ad 0)] (some (.int r9)) M9 := by
  refine zM_of hA (by decide +kernel) (lv := [(0, .ref (ad 0))]) (Nat.le_of_ble_eq_true rfl) rfl (fun p e s m args below meth c A cx hr => ?_)
  unfold F_X10_fault at hF
  refine z_aload_n cx d_X10_fault_0 0 rfl ?_
  refine z_iconst (v := 0) cx d_X10_fault_1 ki_0 ?_
  refine z_putI cx hT fp_SunnyPansModel_82 d_X10_fault_2 ?_
  refine z_nmM hF (fun M1 hF => ?_)
  refine z_aload_n cx d_X10_fault_5 0 rfl ?_
  refine z_getI cx hT fg_SunnyPansModel_9 d_X10_fault_6 ?_
  exact z_iret cx hr rfl hF d_X10_fault_9
/-! SunnyPansModel.isWithin -/
theorem d_X10_isWithin_0 : decode cX10_isWithin 0 = .ok (.iload_n 1, 1) := by decide +kernel
theorem d_X10_isWithin_1 : decode cX10_isWithin 1 = .ok (.iconst 0, 1) := by decide +kernel
theorem d_X10_isWithin_2 : decode cX10_isWithin 2 = .ok (.aload_n 0, 1) := by decide +kernel
theorem d_X10_isWithin_3 : decode cX10_isWithin 3 = .ok (.getfield 23, 3) := by decide +kernel
theorem d_X10_isWithin_6 : decode cX10_isWithin 6 = .ok (.iconst 0, 1) := by decide +kernel
theorem d_X10_isWithin_7 : decode cX10_isWithin 7 = .ok (.iaload, 1) := by decide +kernel
theorem d_X10_isWithin_8 : decode cX10_isWithin 8 = .ok (.iconst 1, 1) := by decide +kernel
theorem d_X10_isWithin_9 : decode cX10_isWithin 9 = .ok (.isub, 1) := by decide +kernel
theorem d_X10_isWithin_10 : decode cX10_isWithin 10 = .ok (.invokestatic 116, 3) := by decide +kernel
theorem d_X10_isWithin_13 : decode cX10_isWithin 13 = .ok (.ifCond .eq 23, 3) := by decide +kernel
theorem d_X10_isWithin_16 : decode cX10_isWithin 16 = .ok (.iload_n 2, 1) := by decide +kernel
theorem d_X10_isWithin_17 : decode cX10_isWithin 17 = .ok (.iconst 0, 1) := by decide +kernel
theorem d_X10_isWithin_18 : decode cX10_isWithin 18 = .ok (.aload_n 0, 1) := by decide +kernel
theorem d_X10_isWithin_19 : decode cX10_isWithin 19 = .ok (.getfield 23, 3) := by decide +kernel
theorem d_X10_isWithin_22 : decode cX10_isWithin 22 = .ok (.iconst 1, 1) := by decide +kernel
theorem d_X10_isWithin_23 : decode cX10_isWithin 23 = .ok (.iaload, 1) := by decide +kernel
theorem d_X10_isWithin_24 : decode cX10_isWithin 24 = .ok (.iconst 1, 1) := by decide +kernel
theorem d_X10_isWithin_25 : decode cX10_isWithin 25 = .ok (.isub, 1) := by decide +kernel
theorem d_X10_isWithin_26 : decode cX10_isWithin 26 = .ok (.invokestatic 116, 3) := by decide +kernel
theorem d_X10_isWithin_29 : decode cX10_isWithin 29 = .ok (.ifCond .eq 7, 3) := by decide +kernel
theorem d_X10_isWithin_32 : decode cX10_isWithin 32 = .ok (.iconst 1, 1) := by decide +kernel
theorem d_X10_isWithin_33 : decode cX10_isWithin 33 = .ok (.goto 4, 3) := by decide +kernel
theorem d_X10_isWithin_36 : decode cX10_isWithin 36 = .ok (.iconst 0, 1) := by decide +kernel
theorem d_X10_isWithin_37 : decode cX10_isWithin 37 = .ok (.ireturn, 1) := by decide +kernel
def F_X10_isWithin (M : zMem) (p0 : Int32) (p1 : Int32) : Option (Int32 × zMem) :=
  zb (F_X10_in M p0 (0 : Int32) ((M.1 4 0) - (1 : Int32))) fun v2 M1 =>
  if v2 = 0 then
    some ((0 : Int32), M1)
  else
    zb (F_X10_in M1 p1 (0 : Int32) ((M1.1 4 1) - (1 : Int32))) fun v4 M3 =>
    if v4 = 0 then
      some ((0 : Int32), M3)
    else
      some ((1 : Int32), M3)
def rm_X10_isWithin : Room := { frames := 3, cells := 0, slots := 0, locals := 102 }
set_option maxHeartbeats 4000000 in
set_option maxRecDepth 100000 in
theorem c_X10_isWithin (l : Launch) {G : zG} {ad : Nat → Nat} {n : Nat} (hA : zInj ad n) (M : zMem) (p0 : Int32) (p1 : Int32) (hT : zT shM n 0 11) {r9 : Int32} {M9 : zMem} (hF : F_X10_isWithin M p0 p1 = some (r9, M9)) : zM l yX10_isWithin cX10_isWithin 3 (some .boolean) rm_X10_isWithin G shM ad n M [.ref (ad 0), .int p0, .int p1] (some (.int r9)) M9 := by
  refine zM_of hA (by decide +kernel) (lv := [(0, .ref (ad 0)), (1, .int p0), (2, .int p1)]) (Nat.le_of_ble_eq_true rfl) rfl (fun p e s m args below meth c A cx hr => ?_)
  unfold F_X10_isWithin at hF
  refine z_iload_n cx d_X10_isWithin_0 1 rfl ?_
  refine z_iconst (v := 0) cx d_X10_isWithin_1 ki_0 ?_
  refine z_aload_n cx d_X10_isWithin_2 0 rfl ?_
  refine z_getR cx hT fg_SunnyPansModel_23 4 rfl d_X10_isWithin_3 ?_
  refine z_iconst (v := 0) cx d_X10_isWithin_6 ki_0 ?_
  refine z_iald cx (tfM_11_4 hT) za_28 (zvp (by decide +kernel)) 0 rfl d_X10_isWithin_7 ?_
  refine z_iconst (v := 1) cx d_X10_isWithin_8 ki_1 ?_
  refine z_isub cx d_X10_isWithin_9 ?_
  obtain ⟨v2, M1, hc, hF⟩ := zb_inv hF
  refine z_callS cx (As := [.int p0, .int (0 : Int32), .int ((M.1 4 0) - (1 : Int32))]) (rest := []) (c_X10_in l cx.2.2.2.1.1 M p0 (0 : Int32) ((M.1 4 0) - (1 : Int32))  hc) cs_SunnyPansModel_116 ⟨rfl, rfl, Nat.le_of_ble_eq_true rfl, Nat.le_of_ble_eq_true rfl⟩ rfl rfl ⟨Nat.zero_le _, Nat.zero_le _⟩ (Nat.le_of_ble_eq_true rfl) d_X10_isWithin_10 ?_
  refine z_if_eq cx 36 d_X10_isWithin_13 (by decide) hF (fun hF => ?_) (fun hF => ?_)
  · refine z_iconst (v := 0) cx d_X10_isWithin_36 ki_0 ?_
    exact z_iret cx hr nb0 hF d_X10_isWithin_37
  refine z_iload_n cx d_X10_isWithin_16 2 rfl ?_
  refine z_iconst (v := 0) cx d_X10_isWithin_17 ki_0 ?_
  refine z_aload_n cx d_X10_isWithin_18 0 rfl ?_
  refine z_getR cx hT fg_SunnyPansModel_23 4 rfl d_X10_isWithin_19 ?_
  refine z_iconst (v := 1) cx d_X10_isWithin_22 ki_1 ?_
  refine z_iald cx (tfM_11_4 hT) za_28 (zvp (by decide +kernel)) 1 rfl d_X10_isWithin_23 ?_
  refine z_iconst (v := 1) cx d_X10_isWithin_24 ki_1 ?_
  refine z_isub cx d_X10_isWithin_25 ?_
  obtain ⟨v4, M3, hc, hF⟩ := zb_inv hF
  refine z_callS cx (As := [.int p1, .int (0 : Int32), .int ((M1.1 4 1) - (1 : Int32))]) (rest := []) (c_X10_in l cx.2.2.2.1.1 M1 p1 (0 : Int32) ((M1.1 4 1) - (1 : Int32))  hc) cs_SunnyPansModel_116 ⟨rfl, rfl, Nat.le_of_ble_eq_true rfl, Nat.le_of_ble_eq_true rfl⟩ rfl rfl ⟨Nat.zero_le _, Nat.zero_le _⟩ (Nat.le_of_ble_eq_true rfl) d_X10_isWithin_26 ?_
  refine z_if_eq cx 36 d_X10_isWithin_29 (by decide) hF (fun hF => ?_) (fun hF => ?_)
  · refine z_iconst (v := 0) cx d_X10_isWithin_36 ki_0 ?_
    exact z_iret cx hr nb0 hF d_X10_isWithin_37
  refine z_iconst (v := 1) cx d_X10_isWithin_32 ki_1 ?_
  refine z_goto cx 37 d_X10_isWithin_33 (by decide) ?_
  exact z_iret cx hr nb1 hF d_X10_isWithin_37
/-! SunnyPansModel.isHere -/
theorem d_X10_isHere_0 : decode cX10_isHere 0 = .ok (.aload_n 0, 1) := by decide +kernel
theorem d_X10_isHere_1 : decode cX10_isHere 1 = .ok (.iload_n 1, 1) := by decide +kernel
theorem d_X10_isHere_2 : decode cX10_isHere 2 = .ok (.bipush 8, 2) := by decide +kernel
theorem d_X10_isHere_4 : decode cX10_isHere 4 = .ok (.irem, 1) := by decide +kernel
theorem d_X10_isHere_5 : decode cX10_isHere 5 = .ok (.iload_n 1, 1) := by decide +kernel
theorem d_X10_isHere_6 : decode cX10_isHere 6 = .ok (.bipush 8, 2) := by decide +kernel
theorem d_X10_isHere_8 : decode cX10_isHere 8 = .ok (.idiv, 1) := by decide +kernel
theorem d_X10_isHere_9 : decode cX10_isHere 9 = .ok (.invokevirtual 237, 3) := by decide +kernel
theorem d_X10_isHere_12 : decode cX10_isHere 12 = .ok (.ireturn, 1) := by decide +kernel
def F_X10_isHere (M : zMem) (p0 : Int32) : Option (Int32 × zMem) :=
  zb (F_X10_isWithin M (p0 - p0 / (8 : Int32) * (8 : Int32)) (p0 / (8 : Int32))) fun v2 M1 =>
  gd (v2 == 0 || v2 == 1) <|
  some (v2, M1)
def rm_X10_isHere : Room := { frames := 4, cells := 0, slots := 0, locals := 124 }
set_option maxHeartbeats 4000000 in
set_option maxRecDepth 100000 in
theorem c_X10_isHere (l : Launch) {G : zG} {ad : Nat → Nat} {n : Nat} (hA : zInj ad n) (M : zMem) (p0 : Int32) (hT : zT shM n 0 11) {r9 : Int32} {M9 : zMem} (hF : F_X10_isHere M p0 = some (r9, M9)) : zM l yX10_isHere cX10_isHere 2 (some .boolean) rm_X10_isHere G shM ad n M [.ref (ad 0), .int p0] (some (.int r9)) M9 := by
  refine zM_of hA (by decide +kernel) (lv := [(0, .ref (ad 0)), (1, .int p0)]) (Nat.le_of_ble_eq_true rfl) rfl (fun p e s m args below meth c A cx hr => ?_)
  unfold F_X10_isHere at hF
  refine z_aload_n cx d_X10_isHere_0 0 rfl ?_
  refine z_iload_n cx d_X10_isHere_1 1 rfl ?_
  refine z_bipush (v := 8) cx d_X10_isHere_2 kb_8 ?_
  refine z_irem cx d_X10_isHere_4 (by decide) ?_
  refine z_iload_n cx d_X10_isHere_5 1 rfl ?_
  refine z_bipush (v := 8) cx d_X10_isHere_6 kb_8 ?_
  refine z_idiv cx d_X10_isHere_8 (by decide) ?_
  obtain ⟨v2, M1, hc, hF⟩ := zb_inv hF
  refine z_callV cx (As := [.int (p0 - p0 / (8 : Int32) * (8 : Int32)), .int (p0 / (8 : Int32))]) (rest := []) (c_X10_isWithin l cx.2.2.2.1.1 M (p0 - p0 / (8 : Int32) * (8 : Int32)) (p0 / (8 : Int32)) hT hc) hT zo_11 cv_SunnyPansModel_237 ⟨rfl, rfl, Nat.le_of_ble_eq_true rfl, Nat.le_of_ble_eq_true rfl⟩ rfl rfl ⟨Nat.zero_le _, Nat.zero_le _⟩ (Nat.le_of_ble_eq_true rfl) d_X10_isHere_9 ?_
  obtain ⟨hn3, hF⟩ := gd_inv hF
  exact z_iret cx hr (nbx hn3) hF d_X10_isHere_12
/-! SunnyPansModel.eastOf -/
theorem d_X10_eastOf_0 : decode cX10_eastOf 0 = .ok (.iload_n 0, 1) := by decide +kernel
theorem d_X10_eastOf_1 : decode cX10_eastOf 1 = .ok (.ifCond .eq 8, 3) := by decide +kernel
theorem d_X10_eastOf_4 : decode cX10_eastOf 4 = .ok (.iload_n 0, 1) := by decide +kernel
theorem d_X10_eastOf_5 : decode cX10_eastOf 5 = .ok (.iconst 4, 1) := by decide +kernel
theorem d_X10_eastOf_6 : decode cX10_eastOf 6 = .ok (.if_icmp .ne 7, 3) := by decide +kernel
theorem d_X10_eastOf_9 : decode cX10_eastOf 9 = .ok (.iconst 0, 1) := by decide +kernel
theorem d_X10_eastOf_10 : decode cX10_eastOf 10 = .ok (.goto 13, 3) := by decide +kernel
theorem d_X10_eastOf_13 : decode cX10_eastOf 13 = .ok (.iload_n 0, 1) := by decide +kernel
theorem d_X10_eastOf_14 : decode cX10_eastOf 14 = .ok (.iconst 4, 1) := by decide +kernel
theorem d_X10_eastOf_15 : decode cX10_eastOf 15 = .ok (.if_icmp .ge 7, 3) := by decide +kernel
theorem d_X10_eastOf_18 : decode cX10_eastOf 18 = .ok (.iconst (-1), 1) := by decide +kernel
theorem d_X10_eastOf_19 : decode cX10_eastOf 19 = .ok (.goto 4, 3) := by decide +kernel
theorem d_X10_eastOf_22 : decode cX10_eastOf 22 = .ok (.iconst 1, 1) := by decide +kernel
theorem d_X10_eastOf_23 : decode cX10_eastOf 23 = .ok (.ireturn, 1) := by decide +kernel
def F_X10_eastOf (M : zMem) (p0 : Int32) : Option (Int32 × zMem) :=
  if p0 = 0 then
    some ((0 : Int32), M)
  else
    if p0 = (4 : Int32) then
      some ((0 : Int32), M)
    else
      if (4 : Int32) ≤ p0 then
        some ((1 : Int32), M)
      else
        some ((-1 : Int32), M)
def rm_X10_eastOf : Room := { frames := 2, cells := 0, slots := 0, locals := 80 }
set_option maxHeartbeats 4000000 in
set_option maxRecDepth 100000 in
theorem c_X10_eastOf (l : Launch) {G : zG} {ad : Nat → Nat} {n : Nat} (hA : zInj ad n) (M : zMem) (p0 : Int32) {r9 : Int32} {M9 : zMem} (hF : F_X10_eastOf M p0 = some (r9, M9)) : zM l yX10_eastOf cX10_eastOf 1 (some .int) rm_X10_eastOf G shM ad n M [.int p0] (some (.int r9)) M9 := by
  refine zM_of hA (by decide +kernel) (lv := [(0, .int p0)]) (Nat.le_of_ble_eq_true rfl) rfl (fun p e s m args below meth c A cx hr => ?_)
  unfold F_X10_eastOf at hF
  refine z_iload_n cx d_X10_eastOf_0 0 rfl ?_
  refine z_if_eq cx 9 d_X10_eastOf_1 (by decide) hF (fun hF => ?_) (fun hF => ?_)
  · refine z_iconst (v := 0) cx d_X10_eastOf_9 ki_0 ?_
    refine z_goto cx 23 d_X10_eastOf_10 (by decide) ?_
    exact z_iret cx hr rfl hF d_X10_eastOf_23
  refine z_iload_n cx d_X10_eastOf_4 0 rfl ?_
  refine z_iconst (v := 4) cx d_X10_eastOf_5 ki_4 ?_
  refine z_icmp_ne cx 13 d_X10_eastOf_6 (by decide) hF (fun hF => ?_) (fun hF => ?_)
  · refine z_iload_n cx d_X10_eastOf_13 0 rfl ?_
    refine z_iconst (v := 4) cx d_X10_eastOf_14 ki_4 ?_
    refine z_icmp_ge cx 22 d_X10_eastOf_15 (by decide) hF (fun hF => ?_) (fun hF => ?_)
    · refine z_iconst (v := 1) cx d_X10_eastOf_22 ki_1 ?_
      exact z_iret cx hr rfl hF d_X10_eastOf_23
    refine z_iconst (v := -1) cx d_X10_eastOf_18 ki_m1 ?_
    refine z_goto cx 23 d_X10_eastOf_19 (by decide) ?_
    exact z_iret cx hr rfl hF d_X10_eastOf_23
  refine z_iconst (v := 0) cx d_X10_eastOf_9 ki_0 ?_
  refine z_goto cx 23 d_X10_eastOf_10 (by decide) ?_
  exact z_iret cx hr rfl hF d_X10_eastOf_23
/-! SunnyPansModel.southOf -/
theorem d_X10_southOf_0 : decode cX10_southOf 0 = .ok (.iload_n 0, 1) := by decide +kernel
theorem d_X10_southOf_1 : decode cX10_southOf 1 = .ok (.iconst 2, 1) := by decide +kernel
theorem d_X10_southOf_2 : decode cX10_southOf 2 = .ok (.if_icmp .eq 9, 3) := by decide +kernel
theorem d_X10_southOf_5 : decode cX10_southOf 5 = .ok (.iload_n 0, 1) := by decide +kernel
theorem d_X10_southOf_6 : decode cX10_southOf 6 = .ok (.bipush 6, 2) := by decide +kernel
theorem d_X10_southOf_8 : decode cX10_southOf 8 = .ok (.if_icmp .ne 7, 3) := by decide +kernel
theorem d_X10_southOf_11 : decode cX10_southOf 11 = .ok (.iconst 0, 1) := by decide +kernel
theorem d_X10_southOf_12 : decode cX10_southOf 12 = .ok (.goto 19, 3) := by decide +kernel
theorem d_X10_southOf_15 : decode cX10_southOf 15 = .ok (.iload_n 0, 1) := by decide +kernel
theorem d_X10_southOf_16 : decode cX10_southOf 16 = .ok (.iconst 2, 1) := by decide +kernel
theorem d_X10_southOf_17 : decode cX10_southOf 17 = .ok (.if_icmp .le 13, 3) := by decide +kernel
theorem d_X10_southOf_20 : decode cX10_southOf 20 = .ok (.iload_n 0, 1) := by decide +kernel
theorem d_X10_southOf_21 : decode cX10_southOf 21 = .ok (.bipush 6, 2) := by decide +kernel
theorem d_X10_southOf_23 : decode cX10_southOf 23 = .ok (.if_icmp .ge 7, 3) := by decide +kernel
theorem d_X10_southOf_26 : decode cX10_southOf 26 = .ok (.iconst (-1), 1) := by decide +kernel
theorem d_X10_southOf_27 : decode cX10_southOf 27 = .ok (.goto 4, 3) := by decide +kernel
theorem d_X10_southOf_30 : decode cX10_southOf 30 = .ok (.iconst 1, 1) := by decide +kernel
theorem d_X10_southOf_31 : decode cX10_southOf 31 = .ok (.ireturn, 1) := by decide +kernel
def F_X10_southOf (M : zMem) (p0 : Int32) : Option (Int32 × zMem) :=
  if p0 = (2 : Int32) then
    some ((0 : Int32), M)
  else
    if p0 = (6 : Int32) then
      some ((0 : Int32), M)
    else
      if p0 ≤ (2 : Int32) then
        some ((1 : Int32), M)
      else
        if (6 : Int32) ≤ p0 then
          some ((1 : Int32), M)
        else
          some ((-1 : Int32), M)
def rm_X10_southOf : Room := { frames := 2, cells := 0, slots := 0, locals := 80 }
set_option maxHeartbeats 4000000 in
set_option maxRecDepth 100000 in
theorem c_X10_southOf (l : Launch) {G : zG} {ad : Nat → Nat} {n : Nat} (hA : zInj ad n) (M : zMem) (p0 : Int32) {r9 : Int32} {M9 : zMem} (hF : F_X10_southOf M p0 = some (r9, M9)) : zM l yX10_southOf cX10_southOf 1 (some .int) rm_X10_southOf G shM ad n M [.int p0] (some (.int r9)) M9 := by
  refine zM_of hA (by decide +kernel) (lv := [(0, .int p0)]) (Nat.le_of_ble_eq_true rfl) rfl (fun p e s m args below meth c A cx hr => ?_)
  unfold F_X10_southOf at hF
  refine z_iload_n cx d_X10_southOf_0 0 rfl ?_
  refine z_iconst (v := 2) cx d_X10_southOf_1 ki_2 ?_
  refine z_icmp_eq cx 11 d_X10_southOf_2 (by decide) hF (fun hF => ?_) (fun hF => ?_)
  · refine z_iconst (v := 0) cx d_X10_southOf_11 ki_0 ?_
    refine z_goto cx 31 d_X10_southOf_12 (by decide) ?_
    exact z_iret cx hr rfl hF d_X10_southOf_31
  refine z_iload_n cx d_X10_southOf_5 0 rfl ?_
  refine z_bipush (v := 6) cx d_X10_southOf_6 kb_6 ?_
  refine z_icmp_ne cx 15 d_X10_southOf_8 (by decide) hF (fun hF => ?_) (fun hF => ?_)
  · refine z_iload_n cx d_X10_southOf_15 0 rfl ?_
    refine z_iconst (v := 2) cx d_X10_southOf_16 ki_2 ?_
    refine z_icmp_le cx 30 d_X10_southOf_17 (by decide) hF (fun hF => ?_) (fun hF => ?_)
    · refine z_iconst (v := 1) cx d_X10_southOf_30 ki_1 ?_
      exact z_iret cx hr rfl hF d_X10_southOf_31
    refine z_iload_n cx d_X10_southOf_20 0 rfl ?_
    refine z_bipush (v := 6) cx d_X10_southOf_21 kb_6 ?_
    refine z_icmp_ge cx 30 d_X10_southOf_23 (by decide) hF (fun hF => ?_) (fun hF => ?_)
    · refine z_iconst (v := 1) cx d_X10_southOf_30 ki_1 ?_
      exact z_iret cx hr rfl hF d_X10_southOf_31
    refine z_iconst (v := -1) cx d_X10_southOf_26 ki_m1 ?_
    refine z_goto cx 31 d_X10_southOf_27 (by decide) ?_
    exact z_iret cx hr rfl hF d_X10_southOf_31
  refine z_iconst (v := 0) cx d_X10_southOf_11 ki_0 ?_
  refine z_goto cx 31 d_X10_southOf_12 (by decide) ?_
  exact z_iret cx hr rfl hF d_X10_southOf_31
/-! SunnyPansModel.high -/
theorem d_X10_high_0 : decode cX10_high 0 = .ok (.iload_n 0, 1) := by decide +kernel
theorem d_X10_high_1 : decode cX10_high 1 = .ok (.ifCond .ne 7, 3) := by decide +kernel
theorem d_X10_high_4 : decode cX10_high 4 = .ok (.iconst 0, 1) := by decide +kernel
theorem d_X10_high_5 : decode cX10_high 5 = .ok (.goto 9, 3) := by decide +kernel
theorem d_X10_high_8 : decode cX10_high 8 = .ok (.iload_n 0, 1) := by decide +kernel
theorem d_X10_high_9 : decode cX10_high 9 = .ok (.bipush 50, 2) := by decide +kernel
theorem d_X10_high_11 : decode cX10_high 11 = .ok (.idiv, 1) := by decide +kernel
theorem d_X10_high_12 : decode cX10_high 12 = .ok (.iconst 1, 1) := by decide +kernel
theorem d_X10_high_13 : decode cX10_high 13 = .ok (.iadd, 1) := by decide +kernel
theorem d_X10_high_14 : decode cX10_high 14 = .ok (.ireturn, 1) := by decide +kernel
def F_X10_high (M : zMem) (p0 : Int32) : Option (Int32 × zMem) :=
  if p0 = 0 then
    some ((0 : Int32), M)
  else
    some (((p0 / (50 : Int32)) + (1 : Int32)), M)
def rm_X10_high : Room := { frames := 2, cells := 0, slots := 0, locals := 80 }
set_option maxHeartbeats 4000000 in
set_option maxRecDepth 100000 in
theorem c_X10_high (l : Launch) {G : zG} {ad : Nat → Nat} {n : Nat} (hA : zInj ad n) (M : zMem) (p0 : Int32) {r9 : Int32} {M9 : zMem} (hF : F_X10_high M p0 = some (r9, M9)) : zM l yX10_high cX10_high 1 (some .int) rm_X10_high G shM ad n M [.int p0] (some (.int r9)) M9 := by
  refine zM_of hA (by decide +kernel) (lv := [(0, .int p0)]) (Nat.le_of_ble_eq_true rfl) rfl (fun p e s m args below meth c A cx hr => ?_)
  unfold F_X10_high at hF
  refine z_iload_n cx d_X10_high_0 0 rfl ?_
  refine z_if_ne cx 8 d_X10_high_1 (by decide) hF (fun hF => ?_) (fun hF => ?_)
  · refine z_iload_n cx d_X10_high_8 0 rfl ?_
    refine z_bipush (v := 50) cx d_X10_high_9 kb_50 ?_
    refine z_idiv cx d_X10_high_11 (by decide) ?_
    refine z_iconst (v := 1) cx d_X10_high_12 ki_1 ?_
    refine z_iadd cx d_X10_high_13 ?_
    exact z_iret cx hr rfl hF d_X10_high_14
  refine z_iconst (v := 0) cx d_X10_high_4 ki_0 ?_
  refine z_goto cx 14 d_X10_high_5 (by decide) ?_
  exact z_iret cx hr rfl hF d_X10_high_14
/-! SunnyPansModel.lengthOf -/
theorem d_X10_lengthOf_0 : decode cX10_lengthOf 0 = .ok (.iload_n 1, 1) := by decide +kernel
theorem d_X10_lengthOf_1 : decode cX10_lengthOf 1 = .ok (.invokestatic 241, 3) := by decide +kernel
theorem d_X10_lengthOf_4 : decode cX10_lengthOf 4 = .ok (.aload_n 0, 1) := by decide +kernel
theorem d_X10_lengthOf_5 : decode cX10_lengthOf 5 = .ok (.getfield 34, 3) := by decide +kernel
theorem d_X10_lengthOf_8 : decode cX10_lengthOf 8 = .ok (.iload_n 2, 1) := by decide +kernel
theorem d_X10_lengthOf_9 : decode cX10_lengthOf 9 = .ok (.aaload, 1) := by decide +kernel
theorem d_X10_lengthOf_10 : decode cX10_lengthOf 10 = .ok (.iconst 1, 1) := by decide +kernel
theorem d_X10_lengthOf_11 : decode cX10_lengthOf 11 = .ok (.iaload, 1) := by decide +kernel
theorem d_X10_lengthOf_12 : decode cX10_lengthOf 12 = .ok (.imul, 1) := by decide +kernel
theorem d_X10_lengthOf_13 : decode cX10_lengthOf 13 = .ok (.bipush 10, 2) := by decide +kernel
theorem d_X10_lengthOf_15 : decode cX10_lengthOf 15 = .ok (.idiv, 1) := by decide +kernel
theorem d_X10_lengthOf_16 : decode cX10_lengthOf 16 = .ok (.ireturn, 1) := by decide +kernel
def F_X10_lengthOf (M : zMem) (p0 : Int32) (p1 : Int32) : Option (Int32 × zMem) :=
  zb (F_X10_high M p0) fun v2 M1 =>
  gin p1 10 <|
  some (((v2 * (M1.1 (17 + (1 + 1 * p1.toNatClampNeg)) 1)) / (10 : Int32)), M1)
def rm_X10_lengthOf : Room := { frames := 3, cells := 0, slots := 0, locals := 100 }
set_option maxHeartbeats 4000000 in
set_option maxRecDepth 100000 in
theorem c_X10_lengthOf (l : Launch) {G : zG} {ad : Nat → Nat} {n : Nat} (hA : zInj ad n) (M : zMem) (p0 : Int32) (p1 : Int32) (hT : zT shM n 0 11) {r9 : Int32} {M9 : zMem} (hF : F_X10_lengthOf M p0 p1 = some (r9, M9)) : zM l yX10_lengthOf cX10_lengthOf 3 (some .int) rm_X10_lengthOf G shM ad n M [.ref (ad 0), .int p0, .int p1] (some (.int r9)) M9 := by
  refine zM_of hA (by decide +kernel) (lv := [(0, .ref (ad 0)), (1, .int p0), (2, .int p1)]) (Nat.le_of_ble_eq_true rfl) rfl (fun p e s m args below meth c A cx hr => ?_)
  unfold F_X10_lengthOf at hF
  refine z_iload_n cx d_X10_lengthOf_0 1 rfl ?_
  obtain ⟨v2, M1, hc, hF⟩ := zb_inv hF
  refine z_callS cx (As := [.int p0]) (rest := []) (c_X10_high l cx.2.2.2.1.1 M p0  hc) cs_SunnyPansModel_241 ⟨rfl, rfl, Nat.le_of_ble_eq_true rfl, Nat.le_of_ble_eq_true rfl⟩ rfl rfl ⟨Nat.zero_le _, Nat.zero_le _⟩ (Nat.le_of_ble_eq_true rfl) d_X10_lengthOf_1 ?_
  refine z_aload_n cx d_X10_lengthOf_4 0 rfl ?_
  refine z_getR cx hT fg_SunnyPansModel_34 17 rfl d_X10_lengthOf_5 ?_
  refine z_iload_n cx d_X10_lengthOf_8 2 rfl ?_
  obtain ⟨hi3, hF⟩ := gin_inv hF
  refine z_aald cx (tfM_11_17 hT) za_30 hi3 (17 + (1 + 1 * p1.toNatClampNeg)) rfl d_X10_lengthOf_9 ?_
  refine z_iconst (v := 1) cx d_X10_lengthOf_10 ki_1 ?_
  refine z_iald cx (teM_30 (tfM_11_17 hT) hi3) za_27 (zvp (by decide +kernel)) 1 rfl d_X10_lengthOf_11 ?_
  refine z_imul cx d_X10_lengthOf_12 ?_
  refine z_bipush (v := 10) cx d_X10_lengthOf_13 kb_10 ?_
  refine z_idiv cx d_X10_lengthOf_15 (by decide) ?_
  exact z_iret cx hr rfl hF d_X10_lengthOf_16
/-! SunnyPansModel.covers -/
theorem d_X10_covers_0 : decode cX10_covers 0 = .ok (.iload_n 2, 1) := by decide +kernel
theorem d_X10_covers_1 : decode cX10_covers 1 = .ok (.ifCond .ne 5, 3) := by decide +kernel
theorem d_X10_covers_4 : decode cX10_covers 4 = .ok (.iconst 0, 1) := by decide +kernel
theorem d_X10_covers_5 : decode cX10_covers 5 = .ok (.ireturn, 1) := by decide +kernel
theorem d_X10_covers_6 : decode cX10_covers 6 = .ok (.iload_n 1, 1) := by decide +kernel
theorem d_X10_covers_7 : decode cX10_covers 7 = .ok (.iload_n 3, 1) := by decide +kernel
theorem d_X10_covers_8 : decode cX10_covers 8 = .ok (.if_icmp .ne 5, 3) := by decide +kernel
theorem d_X10_covers_11 : decode cX10_covers 11 = .ok (.iconst 1, 1) := by decide +kernel
theorem d_X10_covers_12 : decode cX10_covers 12 = .ok (.ireturn, 1) := by decide +kernel
theorem d_X10_covers_13 : decode cX10_covers 13 = .ok (.iload_n 3, 1) := by decide +kernel
theorem d_X10_covers_14 : decode cX10_covers 14 = .ok (.bipush 8, 2) := by decide +kernel
theorem d_X10_covers_16 : decode cX10_covers 16 = .ok (.irem, 1) := by decide +kernel
theorem d_X10_covers_17 : decode cX10_covers 17 = .ok (.iload_n 1, 1) := by decide +kernel
theorem d_X10_covers_18 : decode cX10_covers 18 = .ok (.bipush 8, 2) := by decide +kernel
theorem d_X10_covers_20 : decode cX10_covers 20 = .ok (.irem, 1) := by decide +kernel
theorem d_X10_covers_21 : decode cX10_covers 21 = .ok (.isub, 1) := by decide +kernel
theorem d_X10_covers_22 : decode cX10_covers 22 = .ok (.istore 5, 2) := by decide +kernel
theorem d_X10_covers_24 : decode cX10_covers 24 = .ok (.iload_n 3, 1) := by decide +kernel
theorem d_X10_covers_25 : decode cX10_covers 25 = .ok (.bipush 8, 2) := by decide +kernel
theorem d_X10_covers_27 : decode cX10_covers 27 = .ok (.idiv, 1) := by decide +kernel
theorem d_X10_covers_28 : decode cX10_covers 28 = .ok (.iload_n 1, 1) := by decide +kernel
theorem d_X10_covers_29 : decode cX10_covers 29 = .ok (.bipush 8, 2) := by decide +kernel
theorem d_X10_covers_31 : decode cX10_covers 31 = .ok (.idiv, 1) := by decide +kernel
theorem d_X10_covers_32 : decode cX10_covers 32 = .ok (.isub, 1) := by decide +kernel
theorem d_X10_covers_33 : decode cX10_covers 33 = .ok (.istore 6, 2) := by decide +kernel
theorem d_X10_covers_35 : decode cX10_covers 35 = .ok (.iload 5, 2) := by decide +kernel
theorem d_X10_covers_37 : decode cX10_covers 37 = .ok (.iload 5, 2) := by decide +kernel
theorem d_X10_covers_39 : decode cX10_covers 39 = .ok (.ineg, 1) := by decide +kernel
theorem d_X10_covers_40 : decode cX10_covers 40 = .ok (.invokestatic 218, 3) := by decide +kernel
theorem d_X10_covers_43 : decode cX10_covers 43 = .ok (.iload 6, 2) := by decide +kernel
theorem d_X10_covers_45 : decode cX10_covers 45 = .ok (.iload 6, 2) := by decide +kernel
theorem d_X10_covers_47 : decode cX10_covers 47 = .ok (.ineg, 1) := by decide +kernel
theorem d_X10_covers_48 : decode cX10_covers 48 = .ok (.invokestatic 218, 3) := by decide +kernel
theorem d_X10_covers_51 : decode cX10_covers 51 = .ok (.invokestatic 218, 3) := by decide +kernel
theorem d_X10_covers_54 : decode cX10_covers 54 = .ok (.istore 7, 2) := by decide +kernel
theorem d_X10_covers_56 : decode cX10_covers 56 = .ok (.iload 7, 2) := by decide +kernel
theorem d_X10_covers_58 : decode cX10_covers 58 = .ok (.aload_n 0, 1) := by decide +kernel
theorem d_X10_covers_59 : decode cX10_covers 59 = .ok (.iload_n 2, 1) := by decide +kernel
theorem d_X10_covers_60 : decode cX10_covers 60 = .ok (.iload 4, 2) := by decide +kernel
theorem d_X10_covers_62 : decode cX10_covers 62 = .ok (.invokevirtual 244, 3) := by decide +kernel
theorem d_X10_covers_65 : decode cX10_covers 65 = .ok (.if_icmp .gt 47, 3) := by decide +kernel
theorem d_X10_covers_68 : decode cX10_covers 68 = .ok (.iload 5, 2) := by decide +kernel
theorem d_X10_covers_70 : decode cX10_covers 70 = .ok (.iload 7, 2) := by decide +kernel
theorem d_X10_covers_72 : decode cX10_covers 72 = .ok (.aload_n 0, 1) := by decide +kernel
theorem d_X10_covers_73 : decode cX10_covers 73 = .ok (.getfield 34, 3) := by decide +kernel
theorem d_X10_covers_76 : decode cX10_covers 76 = .ok (.iload 4, 2) := by decide +kernel
theorem d_X10_covers_78 : decode cX10_covers 78 = .ok (.aaload, 1) := by decide +kernel
theorem d_X10_covers_79 : decode cX10_covers 79 = .ok (.iconst 0, 1) := by decide +kernel
theorem d_X10_covers_80 : decode cX10_covers 80 = .ok (.iaload, 1) := by decide +kernel
theorem d_X10_covers_81 : decode cX10_covers 81 = .ok (.invokestatic 247, 3) := by decide +kernel
theorem d_X10_covers_84 : decode cX10_covers 84 = .ok (.imul, 1) := by decide +kernel
theorem d_X10_covers_85 : decode cX10_covers 85 = .ok (.if_icmp .ne 27, 3) := by decide +kernel
theorem d_X10_covers_88 : decode cX10_covers 88 = .ok (.iload 6, 2) := by decide +kernel
theorem d_X10_covers_90 : decode cX10_covers 90 = .ok (.iload 7, 2) := by decide +kernel
theorem d_X10_covers_92 : decode cX10_covers 92 = .ok (.aload_n 0, 1) := by decide +kernel
theorem d_X10_covers_93 : decode cX10_covers 93 = .ok (.getfield 34, 3) := by decide +kernel
theorem d_X10_covers_96 : decode cX10_covers 96 = .ok (.iload 4, 2) := by decide +kernel
theorem d_X10_covers_98 : decode cX10_covers 98 = .ok (.aaload, 1) := by decide +kernel
theorem d_X10_covers_99 : decode cX10_covers 99 = .ok (.iconst 0, 1) := by decide +kernel
theorem d_X10_covers_100 : decode cX10_covers 100 = .ok (.iaload, 1) := by decide +kernel
theorem d_X10_covers_101 : decode cX10_covers 101 = .ok (.invokestatic 250, 3) := by decide +kernel
theorem d_X10_covers_104 : decode cX10_covers 104 = .ok (.imul, 1) := by decide +kernel
theorem d_X10_covers_105 : decode cX10_covers 105 = .ok (.if_icmp .ne 7, 3) := by decide +kernel
theorem d_X10_covers_108 : decode cX10_covers 108 = .ok (.iconst 1, 1) := by decide +kernel
theorem d_X10_covers_109 : decode cX10_covers 109 = .ok (.goto 4, 3) := by decide +kernel
theorem d_X10_covers_112 : decode cX10_covers 112 = .ok (.iconst 0, 1) := by decide +kernel
theorem d_X10_covers_113 : decode cX10_covers 113 = .ok (.ireturn, 1) := by decide +kernel
def F_X10_covers (M : zMem) (p0 : Int32) (p1 : Int32) (p2 : Int32) (p3 : Int32) : Option (Int32 × zMem) :=
  if p1 = 0 then
    some ((0 : Int32), M)
  else
    if p0 = p2 then
      some ((1 : Int32), M)
    else
      zl ((p2 - p2 / (8 : Int32) * (8 : Int32)) - (p0 - p0 / (8 : Int32) * (8 : Int32))) fun v1 =>
      zl ((p2 / (8 : Int32)) - (p0 / (8 : Int32))) fun v2 =>
      zb (F_X10_more M v1 (-v1)) fun v4 M3 =>
      zb (F_X10_more M3 v2 (-v2)) fun v6 M5 =>
      zb (F_X10_more M5 v4 v6) fun v8 M7 =>
      zb (F_X10_lengthOf M7 p1 p3) fun v10 M9 =>
      if v10 < v8 then
        some ((0 : Int32), M9)
      else
        gin p3 10 <|
        zb (F_X10_eastOf M9 (M9.1 (17 + (1 + 1 * p3.toNatClampNeg)) 0)) fun v13 M12 =>
        if v1 = (v8 * v13) then
          zb (F_X10_southOf M12 (M12.1 (17 + (1 + 1 * p3.toNatClampNeg)) 0)) fun v15 M14 =>
          if v2 = (v8 * v15) then
            some ((1 : Int32), M14)
          else
            some ((0 : Int32), M14)
        else
          some ((0 : Int32), M12)
def rm_X10_covers : Room := { frames := 4, cells := 0, slots := 0, locals := 122 }
set_option maxHeartbeats 4000000 in
set_option maxRecDepth 100000 in
theorem c_X10_covers (l : Launch) {G : zG} {ad : Nat → Nat} {n : Nat} (hA : zInj ad n) (M : zMem) (p0 : Int32) (p1 : Int32) (p2 : Int32) (p3 : Int32) (hT : zT shM n 0 11) {r9 : Int32} {M9 : zMem} (hF : F_X10_covers M p0 p1 p2 p3 = some (r9, M9)) : zM l yX10_covers cX10_covers 8 (some .boolean) rm_X10_covers G shM ad n M [.ref (ad 0), .int p0, .int p1, .int p2, .int p3] (some (.int r9)) M9 := by
  refine zM_of hA (by decide +kernel) (lv := [(0, .ref (ad 0)), (1, .int p0), (2, .int p1), (3, .int p2), (4, .int p3)]) (Nat.le_of_ble_eq_true rfl) rfl (fun p e s m args below meth c A cx hr => ?_)
  unfold F_X10_covers at hF
  refine z_iload_n cx d_X10_covers_0 2 rfl ?_
  refine z_if_ne cx 6 d_X10_covers_1 (by decide) hF (fun hF => ?_) (fun hF => ?_)
  · refine z_iload_n cx d_X10_covers_6 1 rfl ?_
    refine z_iload_n cx d_X10_covers_7 3 rfl ?_
    refine z_icmp_ne cx 13 d_X10_covers_8 (by decide) hF (fun hF => ?_) (fun hF => ?_)
    · refine z_iload_n cx d_X10_covers_13 3 rfl ?_
      refine z_bipush (v := 8) cx d_X10_covers_14 kb_8 ?_
      refine z_irem cx d_X10_covers_16 (by decide) ?_
      refine z_iload_n cx d_X10_covers_17 1 rfl ?_
      refine z_bipush (v := 8) cx d_X10_covers_18 kb_8 ?_
      refine z_irem cx d_X10_covers_20 (by decide) ?_
      refine z_isub cx d_X10_covers_21 ?_
      refine z_nm hF (fun v1 hF => ?_)
      refine z_istore cx 5 [(5, .int v1), (0, .ref (ad 0)), (1, .int p0), (2, .int p1), (3, .int p2), (4, .int p3)] d_X10_covers_22 (by decide) rfl ?_
      refine z_iload_n cx d_X10_covers_24 4 rfl ?_
      refine z_bipush (v := 8) cx d_X10_covers_25 kb_8 ?_
      refine z_idiv cx d_X10_covers_27 (by decide) ?_
      refine z_iload_n cx d_X10_covers_28 2 rfl ?_
      refine z_bipush (v := 8) cx d_X10_covers_29 kb_8 ?_
      refine z_idiv cx d_X10_covers_31 (by decide) ?_
      refine z_isub cx d_X10_covers_32 ?_
      refine z_nm hF (fun v2 hF => ?_)
      refine z_istore cx 6 [(6, .int v2), (5, .int v1), (0, .ref (ad 0)), (1, .int p0), (2, .int p1), (3, .int p2), (4, .int p3)] d_X10_covers_33 (by decide) rfl ?_
      refine z_iload cx d_X10_covers_35 1 rfl ?_
      refine z_iload cx d_X10_covers_37 1 rfl ?_
      refine z_ineg cx d_X10_covers_39 ?_
      obtain ⟨v4, M3, hc, hF⟩ := zb_inv hF
      refine z_callS cx (As := [.int v1, .int (-v1)]) (rest := []) (c_X10_more l cx.2.2.2.1.1 M v1 (-v1)  hc) cs_SunnyPansModel_218 ⟨rfl, rfl, Nat.le_of_ble_eq_true rfl, Nat.le_of_ble_eq_true rfl⟩ rfl rfl ⟨Nat.zero_le _, Nat.zero_le _⟩ (Nat.le_of_ble_eq_true rfl) d_X10_covers_40 ?_
      refine z_iload cx d_X10_covers_43 0 rfl ?_
      refine z_iload cx d_X10_covers_45 0 rfl ?_
      refine z_ineg cx d_X10_covers_47 ?_
      obtain ⟨v6, M5, hc, hF⟩ := zb_inv hF
      refine z_callS cx (As := [.int v2, .int (-v2)]) (rest := [.int v4]) (c_X10_more l cx.2.2.2.1.1 M3 v2 (-v2)  hc) cs_SunnyPansModel_218 ⟨rfl, rfl, Nat.le_of_ble_eq_true rfl, Nat.le_of_ble_eq_true rfl⟩ rfl rfl ⟨Nat.zero_le _, Nat.zero_le _⟩ (Nat.le_of_ble_eq_true rfl) d_X10_covers_48 ?_
      obtain ⟨v8, M7, hc, hF⟩ := zb_inv hF
      refine z_callS cx (As := [.int v4, .int v6]) (rest := []) (c_X10_more l cx.2.2.2.1.1 M5 v4 v6  hc) cs_SunnyPansModel_218 ⟨rfl, rfl, Nat.le_of_ble_eq_true rfl, Nat.le_of_ble_eq_true rfl⟩ rfl rfl ⟨Nat.zero_le _, Nat.zero_le _⟩ (Nat.le_of_ble_eq_true rfl) d_X10_covers_51 ?_
      refine z_istore cx 7 [(7, .int v8), (6, .int v2), (5, .int v1), (0, .ref (ad 0)), (1, .int p0), (2, .int p1), (3, .int p2), (4, .int p3)] d_X10_covers_54 (by decide) rfl ?_
      refine z_iload cx d_X10_covers_56 0 rfl ?_
      refine z_aload_n cx d_X10_covers_58 3 rfl ?_
      refine z_iload_n cx d_X10_covers_59 5 rfl ?_
      refine z_iload cx d_X10_covers_60 7 rfl ?_
      obtain ⟨v10, M9, hc, hF⟩ := zb_inv hF
      refine z_callV cx (As := [.int p1, .int p3]) (rest := [.int v8]) (c_X10_lengthOf l cx.2.2.2.1.1 M7 p1 p3 hT hc) hT zo_11 cv_SunnyPansModel_244 ⟨rfl, rfl, Nat.le_of_ble_eq_true rfl, Nat.le_of_ble_eq_true rfl⟩ rfl rfl ⟨Nat.zero_le _, Nat.zero_le _⟩ (Nat.le_of_ble_eq_true rfl) d_X10_covers_62 ?_
      refine z_icmp_gt cx 112 d_X10_covers_65 (by decide) hF (fun hF => ?_) (fun hF => ?_)
      · refine z_iconst (v := 0) cx d_X10_covers_112 ki_0 ?_
        exact z_iret cx hr nb0 hF d_X10_covers_113
      refine z_iload cx d_X10_covers_68 2 rfl ?_
      refine z_iload cx d_X10_covers_70 0 rfl ?_
      refine z_aload_n cx d_X10_covers_72 3 rfl ?_
      refine z_getR cx hT fg_SunnyPansModel_34 17 rfl d_X10_covers_73 ?_
      refine z_iload cx d_X10_covers_76 7 rfl ?_
      obtain ⟨hi11, hF⟩ := gin_inv hF
      refine z_aald cx (tfM_11_17 hT) za_30 hi11 (17 + (1 + 1 * p3.toNatClampNeg)) rfl d_X10_covers_78 ?_
      refine z_iconst (v := 0) cx d_X10_covers_79 ki_0 ?_
      refine z_iald cx (teM_30 (tfM_11_17 hT) hi11) za_27 (zvp (by decide +kernel)) 0 rfl d_X10_covers_80 ?_
      obtain ⟨v13, M12, hc, hF⟩ := zb_inv hF
      refine z_callS cx (As := [.int (M9.1 (17 + (1 + 1 * p3.toNatClampNeg)) 0)]) (rest := [.int v8, .int v1]) (c_X10_eastOf l cx.2.2.2.1.1 M9 (M9.1 (17 + (1 + 1 * p3.toNatClampNeg)) 0)  hc) cs_SunnyPansModel_247 ⟨rfl, rfl, Nat.le_of_ble_eq_true rfl, Nat.le_of_ble_eq_true rfl⟩ rfl rfl ⟨Nat.zero_le _, Nat.zero_le _⟩ (Nat.le_of_ble_eq_true rfl) d_X10_covers_81 ?_
      refine z_imul cx d_X10_covers_84 ?_
      refine z_icmp_ne cx 112 d_X10_covers_85 (by decide) hF (fun hF => ?_) (fun hF => ?_)
      · refine z_iconst (v := 0) cx d_X10_covers_112 ki_0 ?_
        exact z_iret cx hr nb0 hF d_X10_covers_113
      refine z_iload cx d_X10_covers_88 1 rfl ?_
      refine z_iload cx d_X10_covers_90 0 rfl ?_
      refine z_aload_n cx d_X10_covers_92 3 rfl ?_
      refine z_getR cx hT fg_SunnyPansModel_34 17 rfl d_X10_covers_93 ?_
      refine z_iload cx d_X10_covers_96 7 rfl ?_
      refine z_aald cx (tfM_11_17 hT) za_30 hi11 (17 + (1 + 1 * p3.toNatClampNeg)) rfl d_X10_covers_98 ?_
      refine z_iconst (v := 0) cx d_X10_covers_99 ki_0 ?_
      refine z_iald cx (teM_30 (tfM_11_17 hT) hi11) za_27 (zvp (by decide +kernel)) 0 rfl d_X10_covers_100 ?_
      obtain ⟨v15, M14, hc, hF⟩ := zb_inv hF
      refine z_callS cx (As := [.int (M12.1 (17 + (1 + 1 * p3.toNatClampNeg)) 0)]) (rest := [.int v8, .int v2]) (c_X10_southOf l cx.2.2.2.1.1 M12 (M12.1 (17 + (1 + 1 * p3.toNatClampNeg)) 0)  hc) cs_SunnyPansModel_250 ⟨rfl, rfl, Nat.le_of_ble_eq_true rfl, Nat.le_of_ble_eq_true rfl⟩ rfl rfl ⟨Nat.zero_le _, Nat.zero_le _⟩ (Nat.le_of_ble_eq_true rfl) d_X10_covers_101 ?_
      refine z_imul cx d_X10_covers_104 ?_
      refine z_icmp_ne cx 112 d_X10_covers_105 (by decide) hF (fun hF => ?_) (fun hF => ?_)
      · refine z_iconst (v := 0) cx d_X10_covers_112 ki_0 ?_
        exact z_iret cx hr nb0 hF d_X10_covers_113
      refine z_iconst (v := 1) cx d_X10_covers_108 ki_1 ?_
      refine z_goto cx 113 d_X10_covers_109 (by decide) ?_
      exact z_iret cx hr nb1 hF d_X10_covers_113
    refine z_iconst (v := 1) cx d_X10_covers_11 ki_1 ?_
    exact z_iret cx hr nb1 hF d_X10_covers_12
  refine z_iconst (v := 0) cx d_X10_covers_4 ki_0 ?_
  exact z_iret cx hr nb0 hF d_X10_covers_5
/-! SunnyPansModel.isShade -/
theorem d_X10_isShade_0 : decode cX10_isShade 0 = .ok (.iconst 0, 1) := by decide +kernel
theorem d_X10_isShade_1 : decode cX10_isShade 1 = .ok (.istore 4, 2) := by decide +kernel
theorem d_X10_isShade_3 : decode cX10_isShade 3 = .ok (.iload 4, 2) := by decide +kernel
theorem d_X10_isShade_5 : decode cX10_isShade 5 = .ok (.bipush 64, 2) := by decide +kernel
theorem d_X10_isShade_7 : decode cX10_isShade 7 = .ok (.if_icmp .ge 30, 3) := by decide +kernel
theorem d_X10_isShade_10 : decode cX10_isShade 10 = .ok (.aload_n 0, 1) := by decide +kernel
theorem d_X10_isShade_11 : decode cX10_isShade 11 = .ok (.iload 4, 2) := by decide +kernel
theorem d_X10_isShade_13 : decode cX10_isShade 13 = .ok (.aload_n 1, 1) := by decide +kernel
theorem d_X10_isShade_14 : decode cX10_isShade 14 = .ok (.sipush 128, 3) := by decide +kernel
theorem d_X10_isShade_17 : decode cX10_isShade 17 = .ok (.iload 4, 2) := by decide +kernel
theorem d_X10_isShade_19 : decode cX10_isShade 19 = .ok (.iadd, 1) := by decide +kernel
theorem d_X10_isShade_20 : decode cX10_isShade 20 = .ok (.iaload, 1) := by decide +kernel
theorem d_X10_isShade_21 : decode cX10_isShade 21 = .ok (.iload_n 2, 1) := by decide +kernel
theorem d_X10_isShade_22 : decode cX10_isShade 22 = .ok (.iload_n 3, 1) := by decide +kernel
theorem d_X10_isShade_23 : decode cX10_isShade 23 = .ok (.invokevirtual 253, 3) := by decide +kernel
theorem d_X10_isShade_26 : decode cX10_isShade 26 = .ok (.ifCond .eq 5, 3) := by decide +kernel
theorem d_X10_isShade_29 : decode cX10_isShade 29 = .ok (.iconst 1, 1) := by decide +kernel
theorem d_X10_isShade_30 : decode cX10_isShade 30 = .ok (.ireturn, 1) := by decide +kernel
theorem d_X10_isShade_31 : decode cX10_isShade 31 = .ok (.iinc 4 1, 3) := by decide +kernel
theorem d_X10_isShade_34 : decode cX10_isShade 34 = .ok (.goto (-31), 3) := by decide +kernel
theorem d_X10_isShade_37 : decode cX10_isShade 37 = .ok (.iconst 0, 1) := by decide +kernel
theorem d_X10_isShade_38 : decode cX10_isShade 38 = .ok (.ireturn, 1) := by decide +kernel
def F_X10_isShade_3 (p0 : Nat) (p1 : Int32) (p2 : Int32) (self3 : Int32 → Int32 → Int32 → zMem → Option (Int32 × zMem)) (b3_L2 : Int32) (b3_L3 : Int32) (b3_L4 : Int32) (M : zMem) : Option (Int32 × zMem) :=
  if (64 : Int32) ≤ b3_L4 then
    some ((0 : Int32), M)
  else
    gin ((128 : Int32) + b3_L4) 195 <|
    zb (F_X10_covers M b3_L4 (M.1 p0 ((128 : Int32) + b3_L4).toNatClampNeg) b3_L2 b3_L3) fun v3 M2 =>
    if v3 = 0 then
      self3 b3_L2 b3_L3 (b3_L4 + 1) M2
    else
      some ((1 : Int32), M2)
def F_X10_isShade (M : zMem) (p0 : Nat) (p1 : Int32) (p2 : Int32) : Option (Int32 × zMem) :=
  itF (fun _ _ _ _ => none) (F_X10_isShade_3 p0 p1 p2) zFuel p1 p2 (0 : Int32) M
def rm_X10_isShade : Room := { frames := 5, cells := 0, slots := 0, locals := 149 }
set_option maxHeartbeats 4000000 in
set_option maxRecDepth 100000 in
theorem c_X10_isShade (l : Launch) {G : zG} {ad : Nat → Nat} {n : Nat} (hA : zInj ad n) (M : zMem) (p0 : Nat) (p1 : Int32) (p2 : Int32) (hT : zT shM n 0 11) (hT_p0 : zT shM n p0 36) {r9 : Int32} {M9 : zMem} (hF : F_X10_isShade M p0 p1 p2 = some (r9, M9)) : zM l yX10_isShade cX10_isShade 5 (some .boolean) rm_X10_isShade G shM ad n M [.ref (ad 0), .ref (ad p0), .int p1, .int p2] (some (.int r9)) M9 := by
  refine zM_of hA (by decide +kernel) (lv := [(0, .ref (ad 0)), (1, .ref (ad p0)), (2, .int p1), (3, .int p2)]) (Nat.le_of_ble_eq_true rfl) rfl (fun p e s m args below meth c A cx hr => ?_)
  have hL3 : ∀ (fuel : Nat), ∀ (b3_L2 : Int32) (b3_L3 : Int32) (b3_L4 : Int32) (M : zMem), itF (fun _ _ _ _ => none) (F_X10_isShade_3 p0 p1 p2) fuel b3_L2 b3_L3 b3_L4 M = some (r9, M9) → zJ p l e rm_X10_isShade s m args below meth c G shM ad n A 5 (MQ below (zQ G shM ad n M9 (some (.int r9)) A) args s 0 0 A) 0 0 M 3 [(0, .ref (ad 0)), (1, .ref (ad p0)), (2, .int b3_L2), (3, .int b3_L3), (4, .int b3_L4)] [] := by
    intro fuel
    induction fuel with
    | zero => intro b3_L2 b3_L3 b3_L4 M hF; cases hF
    | succ fuel hs3 =>
      intro b3_L2 b3_L3 b3_L4 M hF
      have hF : F_X10_isShade_3 p0 p1 p2 (itF (fun _ _ _ _ => none) (F_X10_isShade_3 p0 p1 p2) fuel) b3_L2 b3_L3 b3_L4 M = some (r9, M9) := hF
      generalize itF (fun _ _ _ _ => none) (F_X10_isShade_3 p0 p1 p2) fuel = self3 at hs3 hF
      unfold F_X10_isShade_3 at hF
      refine z_iload cx d_X10_isShade_3 4 rfl ?_
      refine z_bipush (v := 64) cx d_X10_isShade_5 kb_64 ?_
      refine z_icmp_ge cx 37 d_X10_isShade_7 (by decide) hF (fun hF => ?_) (fun hF => ?_)
      · refine z_iconst (v := 0) cx d_X10_isShade_37 ki_0 ?_
        exact z_iret cx hr nb0 hF d_X10_isShade_38
      refine z_aload_n cx d_X10_isShade_10 0 rfl ?_
      refine z_iload cx d_X10_isShade_11 4 rfl ?_
      refine z_aload_n cx d_X10_isShade_13 1 rfl ?_
      refine z_sipush (v := 128) cx d_X10_isShade_14 ks_128 ?_
      refine z_iload cx d_X10_isShade_17 4 rfl ?_
      refine z_iadd cx d_X10_isShade_19 ?_
      obtain ⟨hi1, hF⟩ := gin_inv hF
      refine z_iald cx hT_p0 za_36 hi1 (((128 : Int32) + b3_L4).toNatClampNeg) rfl d_X10_isShade_20 ?_
      refine z_iload_n cx d_X10_isShade_21 2 rfl ?_
      refine z_iload_n cx d_X10_isShade_22 3 rfl ?_
      obtain ⟨v3, M2, hc, hF⟩ := zb_inv hF
      refine z_callV cx (As := [.int b3_L4, .int (M.1 p0 ((128 : Int32) + b3_L4).toNatClampNeg), .int b3_L2, .int b3_L3]) (rest := []) (c_X10_covers l cx.2.2.2.1.1 M b3_L4 (M.1 p0 ((128 : Int32) + b3_L4).toNatClampNeg) b3_L2 b3_L3 hT hc) hT zo_11 cv_SunnyPansModel_253 ⟨rfl, rfl, Nat.le_of_ble_eq_true rfl, Nat.le_of_ble_eq_true rfl⟩ rfl rfl ⟨Nat.zero_le _, Nat.zero_le _⟩ (Nat.le_of_ble_eq_true rfl) d_X10_isShade_23 ?_
      refine z_if_eq cx 31 d_X10_isShade_26 (by decide) hF (fun hF => ?_) (fun hF => ?_)
      · refine z_iinc cx 4 1 [(4, .int (b3_L4 + 1)), (0, .ref (ad 0)), (1, .ref (ad p0)), (2, .int b3_L2), (3, .int b3_L3)] d_X10_isShade_31 4 rfl ki_1 (by decide) rfl ?_
        refine z_goto cx 3 d_X10_isShade_34 (by decide) ?_
        exact z_lv [1, 2, 3, 4, 0] _ rfl (hs3 b3_L2 b3_L3 (b3_L4 + 1) M2 hF)
      refine z_iconst (v := 1) cx d_X10_isShade_29 ki_1 ?_
      exact z_iret cx hr nb1 hF d_X10_isShade_30
  unfold F_X10_isShade at hF
  refine z_iconst (v := 0) cx d_X10_isShade_0 ki_0 ?_
  refine z_istore cx 4 [(4, .int (0 : Int32)), (0, .ref (ad 0)), (1, .ref (ad p0)), (2, .int p1), (3, .int p2)] d_X10_isShade_1 (by decide) rfl ?_
  exact z_lv [1, 2, 3, 4, 0] _ rfl (hL3 zFuel p1 p2 (0 : Int32) M hF)
/-! SunnyPansModel.driesBy -/
theorem d_X10_driesBy_0 : decode cX10_driesBy 0 = .ok (.aload_n 0, 1) := by decide +kernel
theorem d_X10_driesBy_1 : decode cX10_driesBy 1 = .ok (.getfield 52, 3) := by decide +kernel
theorem d_X10_driesBy_4 : decode cX10_driesBy 4 = .ok (.iconst 0, 1) := by decide +kernel
theorem d_X10_driesBy_5 : decode cX10_driesBy 5 = .ok (.iload_n 1, 1) := by decide +kernel
theorem d_X10_driesBy_6 : decode cX10_driesBy 6 = .ok (.iastore, 1) := by decide +kernel
theorem d_X10_driesBy_7 : decode cX10_driesBy 7 = .ok (.aload_n 0, 1) := by decide +kernel
theorem d_X10_driesBy_8 : decode cX10_driesBy 8 = .ok (.getfield 52, 3) := by decide +kernel
theorem d_X10_driesBy_11 : decode cX10_driesBy 11 = .ok (.iconst 1, 1) := by decide +kernel
theorem d_X10_driesBy_12 : decode cX10_driesBy 12 = .ok (.iload_n 2, 1) := by decide +kernel
theorem d_X10_driesBy_13 : decode cX10_driesBy 13 = .ok (.iastore, 1) := by decide +kernel
theorem d_X10_driesBy_14 : decode cX10_driesBy 14 = .ok (.aload_n 0, 1) := by decide +kernel
theorem d_X10_driesBy_15 : decode cX10_driesBy 15 = .ok (.getfield 52, 3) := by decide +kernel
theorem d_X10_driesBy_18 : decode cX10_driesBy 18 = .ok (.iconst 2, 1) := by decide +kernel
theorem d_X10_driesBy_19 : decode cX10_driesBy 19 = .ok (.iload_n 3, 1) := by decide +kernel
theorem d_X10_driesBy_20 : decode cX10_driesBy 20 = .ok (.iastore, 1) := by decide +kernel
theorem d_X10_driesBy_21 : decode cX10_driesBy 21 = .ok (.aload_n 0, 1) := by decide +kernel
theorem d_X10_driesBy_22 : decode cX10_driesBy 22 = .ok (.getfield 52, 3) := by decide +kernel
theorem d_X10_driesBy_25 : decode cX10_driesBy 25 = .ok (.iconst 3, 1) := by decide +kernel
theorem d_X10_driesBy_26 : decode cX10_driesBy 26 = .ok (.iload 4, 2) := by decide +kernel
theorem d_X10_driesBy_28 : decode cX10_driesBy 28 = .ok (.iastore, 1) := by decide +kernel
theorem d_X10_driesBy_29 : decode cX10_driesBy 29 = .ok (.aload_n 0, 1) := by decide +kernel
theorem d_X10_driesBy_30 : decode cX10_driesBy 30 = .ok (.getfield 52, 3) := by decide +kernel
theorem d_X10_driesBy_33 : decode cX10_driesBy 33 = .ok (.iconst 4, 1) := by decide +kernel
theorem d_X10_driesBy_34 : decode cX10_driesBy 34 = .ok (.iload 5, 2) := by decide +kernel
theorem d_X10_driesBy_36 : decode cX10_driesBy 36 = .ok (.iastore, 1) := by decide +kernel
theorem d_X10_driesBy_37 : decode cX10_driesBy 37 = .ok (.aload_n 0, 1) := by decide +kernel
theorem d_X10_driesBy_38 : decode cX10_driesBy 38 = .ok (.getfield 52, 3) := by decide +kernel
theorem d_X10_driesBy_41 : decode cX10_driesBy 41 = .ok (.iconst 5, 1) := by decide +kernel
theorem d_X10_driesBy_42 : decode cX10_driesBy 42 = .ok (.iload 6, 2) := by decide +kernel
theorem d_X10_driesBy_44 : decode cX10_driesBy 44 = .ok (.iastore, 1) := by decide +kernel
theorem d_X10_driesBy_45 : decode cX10_driesBy 45 = .ok (.aload_n 0, 1) := by decide +kernel
theorem d_X10_driesBy_46 : decode cX10_driesBy 46 = .ok (.getfield 52, 3) := by decide +kernel
theorem d_X10_driesBy_49 : decode cX10_driesBy 49 = .ok (.bipush 6, 2) := by decide +kernel
theorem d_X10_driesBy_51 : decode cX10_driesBy 51 = .ok (.iload 7, 2) := by decide +kernel
theorem d_X10_driesBy_53 : decode cX10_driesBy 53 = .ok (.iastore, 1) := by decide +kernel
theorem d_X10_driesBy_54 : decode cX10_driesBy 54 = .ok (.aload_n 0, 1) := by decide +kernel
theorem d_X10_driesBy_55 : decode cX10_driesBy 55 = .ok (.getfield 52, 3) := by decide +kernel
theorem d_X10_driesBy_58 : decode cX10_driesBy 58 = .ok (.bipush 7, 2) := by decide +kernel
theorem d_X10_driesBy_60 : decode cX10_driesBy 60 = .ok (.iload 8, 2) := by decide +kernel
theorem d_X10_driesBy_62 : decode cX10_driesBy 62 = .ok (.iastore, 1) := by decide +kernel
theorem d_X10_driesBy_63 : decode cX10_driesBy 63 = .ok (.aload_n 0, 1) := by decide +kernel
theorem d_X10_driesBy_64 : decode cX10_driesBy 64 = .ok (.invokevirtual 257, 3) := by decide +kernel
theorem d_X10_driesBy_67 : decode cX10_driesBy 67 = .ok (.ireturn, 1) := by decide +kernel
def F_X10_driesBy (M : zMem) (p0 : Int32) (p1 : Int32) (p2 : Int32) (p3 : Int32) (p4 : Int32) (p5 : Int32) (p6 : Int32) (p7 : Int32) : Option (Int32 × zMem) :=
  zl (zI M 369 0 p0) fun M1 =>
  zl (zI M1 369 1 p1) fun M2 =>
  zl (zI M2 369 2 p2) fun M3 =>
  zl (zI M3 369 3 p3) fun M4 =>
  zl (zI M4 369 4 p4) fun M5 =>
  zl (zI M5 369 5 p5) fun M6 =>
  zl (zI M6 369 6 p6) fun M7 =>
  zl (zI M7 369 7 p7) fun M8 =>
  zb (F_X10_byLaw M8) fun v10 M9 =>
  some (v10, M9)
def rm_X10_driesBy : Room := { frames := 5, cells := 0, slots := 0, locals := 145 }
set_option maxHeartbeats 4000000 in
set_option maxRecDepth 100000 in
theorem c_X10_driesBy (l : Launch) {G : zG} {ad : Nat → Nat} {n : Nat} (hA : zInj ad n) (M : zMem) (p0 : Int32) (p1 : Int32) (p2 : Int32) (p3 : Int32) (p4 : Int32) (p5 : Int32) (p6 : Int32) (p7 : Int32) (hT : zT shM n 0 11) {r9 : Int32} {M9 : zMem} (hF : F_X10_driesBy M p0 p1 p2 p3 p4 p5 p6 p7 = some (r9, M9)) : zM l yX10_driesBy cX10_driesBy 9 (some .int) rm_X10_driesBy G shM ad n M [.ref (ad 0), .int p0, .int p1, .int p2, .int p3, .int p4, .int p5, .int p6, .int p7] (some (.int r9)) M9 := by
  refine zM_of hA (by decide +kernel) (lv := [(0, .ref (ad 0)), (1, .int p0), (2, .int p1), (3, .int p2), (4, .int p3), (5, .int p4), (6, .int p5), (7, .int p6), (8, .int p7)]) (Nat.le_of_ble_eq_true rfl) rfl (fun p e s m args below meth c A cx hr => ?_)
  unfold F_X10_driesBy at hF
  refine z_aload_n cx d_X10_driesBy_0 0 rfl ?_
  refine z_getR cx hT fg_SunnyPansModel_52 369 rfl d_X10_driesBy_1 ?_
  refine z_iconst (v := 0) cx d_X10_driesBy_4 ki_0 ?_
  refine z_iload_n cx d_X10_driesBy_5 1 rfl ?_
  refine z_iast cx (tfM_11_369 hT) za_26 (zvp (by decide +kernel)) 0 rfl d_X10_driesBy_6 ?_
  refine z_nmM hF (fun M1 hF => ?_)
  refine z_aload_n cx d_X10_driesBy_7 0 rfl ?_
  refine z_getR cx hT fg_SunnyPansModel_52 369 rfl d_X10_driesBy_8 ?_
  refine z_iconst (v := 1) cx d_X10_driesBy_11 ki_1 ?_
  refine z_iload_n cx d_X10_driesBy_12 2 rfl ?_
  refine z_iast cx (tfM_11_369 hT) za_26 (zvp (by decide +kernel)) 1 rfl d_X10_driesBy_13 ?_
  refine z_nmM hF (fun M2 hF => ?_)
  refine z_aload_n cx d_X10_driesBy_14 0 rfl ?_
  refine z_getR cx hT fg_SunnyPansModel_52 369 rfl d_X10_driesBy_15 ?_
  refine z_iconst (v := 2) cx d_X10_driesBy_18 ki_2 ?_
  refine z_iload_n cx d_X10_driesBy_19 3 rfl ?_
  refine z_iast cx (tfM_11_369 hT) za_26 (zvp (by decide +kernel)) 2 rfl d_X10_driesBy_20 ?_
  refine z_nmM hF (fun M3 hF => ?_)
  refine z_aload_n cx d_X10_driesBy_21 0 rfl ?_
  refine z_getR cx hT fg_SunnyPansModel_52 369 rfl d_X10_driesBy_22 ?_
  refine z_iconst (v := 3) cx d_X10_driesBy_25 ki_3 ?_
  refine z_iload cx d_X10_driesBy_26 4 rfl ?_
  refine z_iast cx (tfM_11_369 hT) za_26 (zvp (by decide +kernel)) 3 rfl d_X10_driesBy_28 ?_
  refine z_nmM hF (fun M4 hF => ?_)
  refine z_aload_n cx d_X10_driesBy_29 0 rfl ?_
  refine z_getR cx hT fg_SunnyPansModel_52 369 rfl d_X10_driesBy_30 ?_
  refine z_iconst (v := 4) cx d_X10_driesBy_33 ki_4 ?_
  refine z_iload cx d_X10_driesBy_34 5 rfl ?_
  refine z_iast cx (tfM_11_369 hT) za_26 (zvp (by decide +kernel)) 4 rfl d_X10_driesBy_36 ?_
  refine z_nmM hF (fun M5 hF => ?_)
  refine z_aload_n cx d_X10_driesBy_37 0 rfl ?_
  refine z_getR cx hT fg_SunnyPansModel_52 369 rfl d_X10_driesBy_38 ?_
  refine z_iconst (v := 5) cx d_X10_driesBy_41 ki_5 ?_
  refine z_iload cx d_X10_driesBy_42 6 rfl ?_
  refine z_iast cx (tfM_11_369 hT) za_26 (zvp (by decide +kernel)) 5 rfl d_X10_driesBy_44 ?_
  refine z_nmM hF (fun M6 hF => ?_)
  refine z_aload_n cx d_X10_driesBy_45 0 rfl ?_
  refine z_getR cx hT fg_SunnyPansModel_52 369 rfl d_X10_driesBy_46 ?_
  refine z_bipush (v := 6) cx d_X10_driesBy_49 kb_6 ?_
  refine z_iload cx d_X10_driesBy_51 7 rfl ?_
  refine z_iast cx (tfM_11_369 hT) za_26 (zvp (by decide +kernel)) 6 rfl d_X10_driesBy_53 ?_
  refine z_nmM hF (fun M7 hF => ?_)
  refine z_aload_n cx d_X10_driesBy_54 0 rfl ?_
  refine z_getR cx hT fg_SunnyPansModel_52 369 rfl d_X10_driesBy_55 ?_
  refine z_bipush (v := 7) cx d_X10_driesBy_58 kb_7 ?_
  refine z_iload cx d_X10_driesBy_60 8 rfl ?_
  refine z_iast cx (tfM_11_369 hT) za_26 (zvp (by decide +kernel)) 7 rfl d_X10_driesBy_62 ?_
  refine z_nmM hF (fun M8 hF => ?_)
  refine z_aload_n cx d_X10_driesBy_63 0 rfl ?_
  obtain ⟨v10, M9, hc, hF⟩ := zb_inv hF
  refine z_callV cx (As := []) (rest := []) (c_X10_byLaw l cx.2.2.2.1.1 M8 hT hc) hT zo_11 cv_SunnyPansModel_257 ⟨rfl, rfl, Nat.le_of_ble_eq_true rfl, Nat.le_of_ble_eq_true rfl⟩ rfl rfl ⟨Nat.zero_le _, Nat.zero_le _⟩ (Nat.le_of_ble_eq_true rfl) d_X10_driesBy_64 ?_
  exact z_iret cx hr rfl hF d_X10_driesBy_67
/-! SunnyPansModel.driesOf -/
theorem d_X10_driesOf_0 : decode cX10_driesOf 0 = .ok (.aload_n 0, 1) := by decide +kernel
theorem d_X10_driesOf_1 : decode cX10_driesOf 1 = .ok (.aload_n 1, 1) := by decide +kernel
theorem d_X10_driesOf_2 : decode cX10_driesOf 2 = .ok (.iconst 0, 1) := by decide +kernel
theorem d_X10_driesOf_3 : decode cX10_driesOf 3 = .ok (.iload_n 2, 1) := by decide +kernel
theorem d_X10_driesOf_4 : decode cX10_driesOf 4 = .ok (.iadd, 1) := by decide +kernel
theorem d_X10_driesOf_5 : decode cX10_driesOf 5 = .ok (.iaload, 1) := by decide +kernel
theorem d_X10_driesOf_6 : decode cX10_driesOf 6 = .ok (.aload_n 1, 1) := by decide +kernel
theorem d_X10_driesOf_7 : decode cX10_driesOf 7 = .ok (.bipush 64, 2) := by decide +kernel
theorem d_X10_driesOf_9 : decode cX10_driesOf 9 = .ok (.iload_n 2, 1) := by decide +kernel
theorem d_X10_driesOf_10 : decode cX10_driesOf 10 = .ok (.iadd, 1) := by decide +kernel
theorem d_X10_driesOf_11 : decode cX10_driesOf 11 = .ok (.iaload, 1) := by decide +kernel
theorem d_X10_driesOf_12 : decode cX10_driesOf 12 = .ok (.aload_n 0, 1) := by decide +kernel
theorem d_X10_driesOf_13 : decode cX10_driesOf 13 = .ok (.getfield 34, 3) := by decide +kernel
theorem d_X10_driesOf_16 : decode cX10_driesOf 16 = .ok (.iload_n 3, 1) := by decide +kernel
theorem d_X10_driesOf_17 : decode cX10_driesOf 17 = .ok (.aaload, 1) := by decide +kernel
theorem d_X10_driesOf_18 : decode cX10_driesOf 18 = .ok (.iconst 1, 1) := by decide +kernel
theorem d_X10_driesOf_19 : decode cX10_driesOf 19 = .ok (.iaload, 1) := by decide +kernel
theorem d_X10_driesOf_20 : decode cX10_driesOf 20 = .ok (.aload_n 0, 1) := by decide +kernel
theorem d_X10_driesOf_21 : decode cX10_driesOf 21 = .ok (.getfield 34, 3) := by decide +kernel
theorem d_X10_driesOf_24 : decode cX10_driesOf 24 = .ok (.iload_n 3, 1) := by decide +kernel
theorem d_X10_driesOf_25 : decode cX10_driesOf 25 = .ok (.aaload, 1) := by decide +kernel
theorem d_X10_driesOf_26 : decode cX10_driesOf 26 = .ok (.iconst 0, 1) := by decide +kernel
theorem d_X10_driesOf_27 : decode cX10_driesOf 27 = .ok (.iaload, 1) := by decide +kernel
theorem d_X10_driesOf_28 : decode cX10_driesOf 28 = .ok (.iload_n 3, 1) := by decide +kernel
theorem d_X10_driesOf_29 : decode cX10_driesOf 29 = .ok (.aload_n 1, 1) := by decide +kernel
theorem d_X10_driesOf_30 : decode cX10_driesOf 30 = .ok (.sipush 192, 3) := by decide +kernel
theorem d_X10_driesOf_33 : decode cX10_driesOf 33 = .ok (.iaload, 1) := by decide +kernel
theorem d_X10_driesOf_34 : decode cX10_driesOf 34 = .ok (.iload_n 2, 1) := by decide +kernel
theorem d_X10_driesOf_35 : decode cX10_driesOf 35 = .ok (.bipush 8, 2) := by decide +kernel
theorem d_X10_driesOf_37 : decode cX10_driesOf 37 = .ok (.irem, 1) := by decide +kernel
theorem d_X10_driesOf_38 : decode cX10_driesOf 38 = .ok (.iload_n 2, 1) := by decide +kernel
theorem d_X10_driesOf_39 : decode cX10_driesOf 39 = .ok (.bipush 8, 2) := by decide +kernel
theorem d_X10_driesOf_41 : decode cX10_driesOf 41 = .ok (.idiv, 1) := by decide +kernel
theorem d_X10_driesOf_42 : decode cX10_driesOf 42 = .ok (.invokevirtual 260, 3) := by decide +kernel
theorem d_X10_driesOf_45 : decode cX10_driesOf 45 = .ok (.ireturn, 1) := by decide +kernel
def F_X10_driesOf (M : zMem) (p0 : Nat) (p1 : Int32) (p2 : Int32) : Option (Int32 × zMem) :=
  gin ((0 : Int32) + p1) 195 <|
  gin ((64 : Int32) + p1) 195 <|
  gin p2 10 <|
  zb (F_X10_driesBy M (M.1 p0 ((0 : Int32) + p1).toNatClampNeg) (M.1 p0 ((64 : Int32) + p1).toNatClampNeg) (M.1 (17 + (1 + 1 * p2.toNatClampNeg)) 1) (M.1 (17 + (1 + 1 * p2.toNatClampNeg)) 0) p2 (M.1 p0 192) (p1 - p1 / (8 : Int32) * (8 : Int32)) (p1 / (8 : Int32))) fun v5 M4 =>
  some (v5, M4)
def rm_X10_driesOf : Room := { frames := 6, cells := 0, slots := 0, locals := 173 }
set_option maxHeartbeats 4000000 in
set_option maxRecDepth 100000 in
theorem c_X10_driesOf (l : Launch) {G : zG} {ad : Nat → Nat} {n : Nat} (hA : zInj ad n) (M : zMem) (p0 : Nat) (p1 : Int32) (p2 : Int32) (hT : zT shM n 0 11) (hT_p0 : zT shM n p0 36) {r9 : Int32} {M9 : zMem} (hF : F_X10_driesOf M p0 p1 p2 = some (r9, M9)) : zM l yX10_driesOf cX10_driesOf 4 (some .int) rm_X10_driesOf G shM ad n M [.ref (ad 0), .ref (ad p0), .int p1, .int p2] (some (.int r9)) M9 := by
  refine zM_of hA (by decide +kernel) (lv := [(0, .ref (ad 0)), (1, .ref (ad p0)), (2, .int p1), (3, .int p2)]) (Nat.le_of_ble_eq_true rfl) rfl (fun p e s m args below meth c A cx hr => ?_)
  unfold F_X10_driesOf at hF
  refine z_aload_n cx d_X10_driesOf_0 0 rfl ?_
  refine z_aload_n cx d_X10_driesOf_1 1 rfl ?_
  refine z_iconst (v := 0) cx d_X10_driesOf_2 ki_0 ?_
  refine z_iload_n cx d_X10_driesOf_3 2 rfl ?_
  refine z_iadd cx d_X10_driesOf_4 ?_
  obtain ⟨hi1, hF⟩ := gin_inv hF
  refine z_iald cx hT_p0 za_36 hi1 (((0 : Int32) + p1).toNatClampNeg) rfl d_X10_driesOf_5 ?_
  refine z_aload_n cx d_X10_driesOf_6 1 rfl ?_
  refine z_bipush (v := 64) cx d_X10_driesOf_7 kb_64 ?_
  refine z_iload_n cx d_X10_driesOf_9 2 rfl ?_
  refine z_iadd cx d_X10_driesOf_10 ?_
  obtain ⟨hi2, hF⟩ := gin_inv hF
  refine z_iald cx hT_p0 za_36 hi2 (((64 : Int32) + p1).toNatClampNeg) rfl d_X10_driesOf_11 ?_
  refine z_aload_n cx d_X10_driesOf_12 0 rfl ?_
  refine z_getR cx hT fg_SunnyPansModel_34 17 rfl d_X10_driesOf_13 ?_
  refine z_iload_n cx d_X10_driesOf_16 3 rfl ?_
  obtain ⟨hi3, hF⟩ := gin_inv hF
  refine z_aald cx (tfM_11_17 hT) za_30 hi3 (17 + (1 + 1 * p2.toNatClampNeg)) rfl d_X10_driesOf_17 ?_
  refine z_iconst (v := 1) cx d_X10_driesOf_18 ki_1 ?_
  refine z_iald cx (teM_30 (tfM_11_17 hT) hi3) za_27 (zvp (by decide +kernel)) 1 rfl d_X10_driesOf_19 ?_
  refine z_aload_n cx d_X10_driesOf_20 0 rfl ?_
  refine z_getR cx hT fg_SunnyPansModel_34 17 rfl d_X10_driesOf_21 ?_
  refine z_iload_n cx d_X10_driesOf_24 3 rfl ?_
  refine z_aald cx (tfM_11_17 hT) za_30 hi3 (17 + (1 + 1 * p2.toNatClampNeg)) rfl d_X10_driesOf_25 ?_
  refine z_iconst (v := 0) cx d_X10_driesOf_26 ki_0 ?_
  refine z_iald cx (teM_30 (tfM_11_17 hT) hi3) za_27 (zvp (by decide +kernel)) 0 rfl d_X10_driesOf_27 ?_
  refine z_iload_n cx d_X10_driesOf_28 3 rfl ?_
  refine z_aload_n cx d_X10_driesOf_29 1 rfl ?_
  refine z_sipush (v := 192) cx d_X10_driesOf_30 ks_192 ?_
  refine z_iald cx hT_p0 za_36 (zvp (by decide +kernel)) 192 rfl d_X10_driesOf_33 ?_
  refine z_iload_n cx d_X10_driesOf_34 2 rfl ?_
  refine z_bipush (v := 8) cx d_X10_driesOf_35 kb_8 ?_
  refine z_irem cx d_X10_driesOf_37 (by decide) ?_
  refine z_iload_n cx d_X10_driesOf_38 2 rfl ?_
  refine z_bipush (v := 8) cx d_X10_driesOf_39 kb_8 ?_
  refine z_idiv cx d_X10_driesOf_41 (by decide) ?_
  obtain ⟨v5, M4, hc, hF⟩ := zb_inv hF
  refine z_callV cx (As := [.int (M.1 p0 ((0 : Int32) + p1).toNatClampNeg), .int (M.1 p0 ((64 : Int32) + p1).toNatClampNeg), .int (M.1 (17 + (1 + 1 * p2.toNatClampNeg)) 1), .int (M.1 (17 + (1 + 1 * p2.toNatClampNeg)) 0), .int p2, .int (M.1 p0 192), .int (p1 - p1 / (8 : Int32) * (8 : Int32)), .int (p1 / (8 : Int32))]) (rest := []) (c_X10_driesBy l cx.2.2.2.1.1 M (M.1 p0 ((0 : Int32) + p1).toNatClampNeg) (M.1 p0 ((64 : Int32) + p1).toNatClampNeg) (M.1 (17 + (1 + 1 * p2.toNatClampNeg)) 1) (M.1 (17 + (1 + 1 * p2.toNatClampNeg)) 0) p2 (M.1 p0 192) (p1 - p1 / (8 : Int32) * (8 : Int32)) (p1 / (8 : Int32)) hT hc) hT zo_11 cv_SunnyPansModel_260 ⟨rfl, rfl, Nat.le_of_ble_eq_true rfl, Nat.le_of_ble_eq_true rfl⟩ rfl rfl ⟨Nat.zero_le _, Nat.zero_le _⟩ (Nat.le_of_ble_eq_true rfl) d_X10_driesOf_42 ?_
  exact z_iret cx hr rfl hF d_X10_driesOf_45
/-! SunnyPansModel.nextHour -/
theorem d_X10_nextHour_0 : decode cX10_nextHour 0 = .ok (.aload_n 1, 1) := by decide +kernel
theorem d_X10_nextHour_1 : decode cX10_nextHour 1 = .ok (.sipush 193, 3) := by decide +kernel
theorem d_X10_nextHour_4 : decode cX10_nextHour 4 = .ok (.dup2, 1) := by decide +kernel
theorem d_X10_nextHour_5 : decode cX10_nextHour 5 = .ok (.iaload, 1) := by decide +kernel
theorem d_X10_nextHour_6 : decode cX10_nextHour 6 = .ok (.iconst 1, 1) := by decide +kernel
theorem d_X10_nextHour_7 : decode cX10_nextHour 7 = .ok (.iadd, 1) := by decide +kernel
theorem d_X10_nextHour_8 : decode cX10_nextHour 8 = .ok (.iastore, 1) := by decide +kernel
theorem d_X10_nextHour_9 : decode cX10_nextHour 9 = .ok (.aload_n 1, 1) := by decide +kernel
theorem d_X10_nextHour_10 : decode cX10_nextHour 10 = .ok (.sipush 193, 3) := by decide +kernel
theorem d_X10_nextHour_13 : decode cX10_nextHour 13 = .ok (.iaload, 1) := by decide +kernel
theorem d_X10_nextHour_14 : decode cX10_nextHour 14 = .ok (.aload_n 0, 1) := by decide +kernel
theorem d_X10_nextHour_15 : decode cX10_nextHour 15 = .ok (.getfield 23, 3) := by decide +kernel
theorem d_X10_nextHour_18 : decode cX10_nextHour 18 = .ok (.iconst 2, 1) := by decide +kernel
theorem d_X10_nextHour_19 : decode cX10_nextHour 19 = .ok (.iaload, 1) := by decide +kernel
theorem d_X10_nextHour_20 : decode cX10_nextHour 20 = .ok (.if_icmp .ge 4, 3) := by decide +kernel
theorem d_X10_nextHour_23 : decode cX10_nextHour 23 = .ok (.return_, 1) := by decide +kernel
theorem d_X10_nextHour_24 : decode cX10_nextHour 24 = .ok (.aload_n 1, 1) := by decide +kernel
theorem d_X10_nextHour_25 : decode cX10_nextHour 25 = .ok (.sipush 193, 3) := by decide +kernel
theorem d_X10_nextHour_28 : decode cX10_nextHour 28 = .ok (.iconst 0, 1) := by decide +kernel
theorem d_X10_nextHour_29 : decode cX10_nextHour 29 = .ok (.iastore, 1) := by decide +kernel
theorem d_X10_nextHour_30 : decode cX10_nextHour 30 = .ok (.aload_n 1, 1) := by decide +kernel
theorem d_X10_nextHour_31 : decode cX10_nextHour 31 = .ok (.sipush 192, 3) := by decide +kernel
theorem d_X10_nextHour_34 : decode cX10_nextHour 34 = .ok (.dup2, 1) := by decide +kernel
theorem d_X10_nextHour_35 : decode cX10_nextHour 35 = .ok (.iaload, 1) := by decide +kernel
theorem d_X10_nextHour_36 : decode cX10_nextHour 36 = .ok (.iconst 1, 1) := by decide +kernel
theorem d_X10_nextHour_37 : decode cX10_nextHour 37 = .ok (.iadd, 1) := by decide +kernel
theorem d_X10_nextHour_38 : decode cX10_nextHour 38 = .ok (.iastore, 1) := by decide +kernel
theorem d_X10_nextHour_39 : decode cX10_nextHour 39 = .ok (.return_, 1) := by decide +kernel
def F_X10_nextHour (M : zMem) (p0 : Nat) : Option (zMem) :=
  zl (zI M p0 193 ((M.1 p0 193) + (1 : Int32))) fun M1 =>
  if (M1.1 4 2) ≤ (M1.1 p0 193) then
    zl (zI M1 p0 193 (0 : Int32)) fun M2 =>
    zl (zI M2 p0 192 ((M2.1 p0 192) + (1 : Int32))) fun M3 =>
    some M3
  else
    some M1
def rm_X10_nextHour : Room := { frames := 2, cells := 0, slots := 0, locals := 80 }
set_option maxHeartbeats 4000000 in
set_option maxRecDepth 100000 in
theorem c_X10_nextHour (l : Launch) {G : zG} {ad : Nat → Nat} {n : Nat} (hA : zInj ad n) (M : zMem) (p0 : Nat) (hT : zT shM n 0 11) (hT_p0 : zT shM n p0 36) {M9 : zMem} (hF : F_X10_nextHour M p0 = some M9) : zM l yX10_nextHour cX10_nextHour 2 none rm_X10_nextHour G shM ad n M [.ref (ad 0), .ref (ad p0)] none M9 := by
  refine zM_of hA (by decide +kernel) (lv := [(0, .ref (ad 0)), (1, .ref (ad p0))]) (Nat.le_of_ble_eq_true rfl) rfl (fun p e s m args below meth c A cx hr => ?_)
  unfold F_X10_nextHour at hF
  refine z_aload_n cx d_X10_nextHour_0 1 rfl ?_
  refine z_sipush (v := 193) cx d_X10_nextHour_1 ks_193 ?_
  refine z_dup2 cx d_X10_nextHour_4 rfl rfl ?_
  refine z_iald cx hT_p0 za_36 (zvp (by decide +kernel)) 193 rfl d_X10_nextHour_5 ?_
  refine z_iconst (v := 1) cx d_X10_nextHour_6 ki_1 ?_
  refine z_iadd cx d_X10_nextHour_7 ?_
  refine z_iast cx hT_p0 za_36 (zvp (by decide +kernel)) 193 rfl d_X10_nextHour_8 ?_
  refine z_nmM hF (fun M1 hF => ?_)
  refine z_aload_n cx d_X10_nextHour_9 1 rfl ?_
  refine z_sipush (v := 193) cx d_X10_nextHour_10 ks_193 ?_
  refine z_iald cx hT_p0 za_36 (zvp (by decide +kernel)) 193 rfl d_X10_nextHour_13 ?_
  refine z_aload_n cx d_X10_nextHour_14 0 rfl ?_
  refine z_getR cx hT fg_SunnyPansModel_23 4 rfl d_X10_nextHour_15 ?_
  refine z_iconst (v := 2) cx d_X10_nextHour_18 ki_2 ?_
  refine z_iald cx (tfM_11_4 hT) za_28 (zvp (by decide +kernel)) 2 rfl d_X10_nextHour_19 ?_
  refine z_icmp_ge cx 24 d_X10_nextHour_20 (by decide) hF (fun hF => ?_) (fun hF => ?_)
  · refine z_aload_n cx d_X10_nextHour_24 1 rfl ?_
    refine z_sipush (v := 193) cx d_X10_nextHour_25 ks_193 ?_
    refine z_iconst (v := 0) cx d_X10_nextHour_28 ki_0 ?_
    refine z_iast cx hT_p0 za_36 (zvp (by decide +kernel)) 193 rfl d_X10_nextHour_29 ?_
    refine z_nmM hF (fun M2 hF => ?_)
    refine z_aload_n cx d_X10_nextHour_30 1 rfl ?_
    refine z_sipush (v := 192) cx d_X10_nextHour_31 ks_192 ?_
    refine z_dup2 cx d_X10_nextHour_34 rfl rfl ?_
    refine z_iald cx hT_p0 za_36 (zvp (by decide +kernel)) 192 rfl d_X10_nextHour_35 ?_
    refine z_iconst (v := 1) cx d_X10_nextHour_36 ki_1 ?_
    refine z_iadd cx d_X10_nextHour_37 ?_
    refine z_iast cx hT_p0 za_36 (zvp (by decide +kernel)) 192 rfl d_X10_nextHour_38 ?_
    refine z_nmM hF (fun M3 hF => ?_)
    exact z_vret cx hr hF d_X10_nextHour_39
  exact z_vret cx hr hF d_X10_nextHour_23
/-! SunnyPansModel.driesOne -/
theorem d_X10_driesOne_0 : decode cX10_driesOne 0 = .ok (.aload_n 1, 1) := by decide +kernel
theorem d_X10_driesOne_1 : decode cX10_driesOne 1 = .ok (.iconst 0, 1) := by decide +kernel
theorem d_X10_driesOne_2 : decode cX10_driesOne 2 = .ok (.iload_n 2, 1) := by decide +kernel
theorem d_X10_driesOne_3 : decode cX10_driesOne 3 = .ok (.iadd, 1) := by decide +kernel
theorem d_X10_driesOne_4 : decode cX10_driesOne 4 = .ok (.iaload, 1) := by decide +kernel
theorem d_X10_driesOne_5 : decode cX10_driesOne 5 = .ok (.ifCond .le 43, 3) := by decide +kernel
theorem d_X10_driesOne_8 : decode cX10_driesOne 8 = .ok (.aload_n 0, 1) := by decide +kernel
theorem d_X10_driesOne_9 : decode cX10_driesOne 9 = .ok (.aload_n 1, 1) := by decide +kernel
theorem d_X10_driesOne_10 : decode cX10_driesOne 10 = .ok (.iload_n 2, 1) := by decide +kernel
theorem d_X10_driesOne_11 : decode cX10_driesOne 11 = .ok (.aload_n 1, 1) := by decide +kernel
theorem d_X10_driesOne_12 : decode cX10_driesOne 12 = .ok (.sipush 193, 3) := by decide +kernel
theorem d_X10_driesOne_15 : decode cX10_driesOne 15 = .ok (.iaload, 1) := by decide +kernel
theorem d_X10_driesOne_16 : decode cX10_driesOne 16 = .ok (.invokevirtual 264, 3) := by decide +kernel
theorem d_X10_driesOne_19 : decode cX10_driesOne 19 = .ok (.ifCond .ne 29, 3) := by decide +kernel
theorem d_X10_driesOne_22 : decode cX10_driesOne 22 = .ok (.aload_n 1, 1) := by decide +kernel
theorem d_X10_driesOne_23 : decode cX10_driesOne 23 = .ok (.iconst 0, 1) := by decide +kernel
theorem d_X10_driesOne_24 : decode cX10_driesOne 24 = .ok (.iload_n 2, 1) := by decide +kernel
theorem d_X10_driesOne_25 : decode cX10_driesOne 25 = .ok (.iadd, 1) := by decide +kernel
theorem d_X10_driesOne_26 : decode cX10_driesOne 26 = .ok (.iconst 0, 1) := by decide +kernel
theorem d_X10_driesOne_27 : decode cX10_driesOne 27 = .ok (.aload_n 1, 1) := by decide +kernel
theorem d_X10_driesOne_28 : decode cX10_driesOne 28 = .ok (.iconst 0, 1) := by decide +kernel
theorem d_X10_driesOne_29 : decode cX10_driesOne 29 = .ok (.iload_n 2, 1) := by decide +kernel
theorem d_X10_driesOne_30 : decode cX10_driesOne 30 = .ok (.iadd, 1) := by decide +kernel
theorem d_X10_driesOne_31 : decode cX10_driesOne 31 = .ok (.iaload, 1) := by decide +kernel
theorem d_X10_driesOne_32 : decode cX10_driesOne 32 = .ok (.aload_n 0, 1) := by decide +kernel
theorem d_X10_driesOne_33 : decode cX10_driesOne 33 = .ok (.aload_n 1, 1) := by decide +kernel
theorem d_X10_driesOne_34 : decode cX10_driesOne 34 = .ok (.iload_n 2, 1) := by decide +kernel
theorem d_X10_driesOne_35 : decode cX10_driesOne 35 = .ok (.aload_n 1, 1) := by decide +kernel
theorem d_X10_driesOne_36 : decode cX10_driesOne 36 = .ok (.sipush 193, 3) := by decide +kernel
theorem d_X10_driesOne_39 : decode cX10_driesOne 39 = .ok (.iaload, 1) := by decide +kernel
theorem d_X10_driesOne_40 : decode cX10_driesOne 40 = .ok (.invokevirtual 268, 3) := by decide +kernel
theorem d_X10_driesOne_43 : decode cX10_driesOne 43 = .ok (.isub, 1) := by decide +kernel
theorem d_X10_driesOne_44 : decode cX10_driesOne 44 = .ok (.invokestatic 218, 3) := by decide +kernel
theorem d_X10_driesOne_47 : decode cX10_driesOne 47 = .ok (.iastore, 1) := by decide +kernel
theorem d_X10_driesOne_48 : decode cX10_driesOne 48 = .ok (.return_, 1) := by decide +kernel
def F_X10_driesOne (M : zMem) (p0 : Nat) (p1 : Int32) : Option (zMem) :=
  gin ((0 : Int32) + p1) 195 <|
  if (M.1 p0 ((0 : Int32) + p1).toNatClampNeg) ≤ 0 then
    some M
  else
    zb (F_X10_isShade M p0 p1 (M.1 p0 193)) fun v3 M2 =>
    if v3 = 0 then
      zb (F_X10_driesOf M2 p0 p1 (M2.1 p0 193)) fun v5 M4 =>
      zb (F_X10_more M4 (0 : Int32) ((M2.1 p0 ((0 : Int32) + p1).toNatClampNeg) - v5)) fun v7 M6 =>
      zl (zI M6 p0 (((0 : Int32) + p1).toNatClampNeg) v7) fun M8 =>
      some M8
    else
      some M2
def rm_X10_driesOne : Room := { frames := 7, cells := 0, slots := 0, locals := 196 }
set_option maxHeartbeats 4000000 in
set_option maxRecDepth 100000 in
theorem c_X10_driesOne (l : Launch) {G : zG} {ad : Nat → Nat} {n : Nat} (hA : zInj ad n) (M : zMem) (p0 : Nat) (p1 : Int32) (hT : zT shM n 0 11) (hT_p0 : zT shM n p0 36) {M9 : zMem} (hF : F_X10_driesOne M p0 p1 = some M9) : zM l yX10_driesOne cX10_driesOne 3 none rm_X10_driesOne G shM ad n M [.ref (ad 0), .ref (ad p0), .int p1] none M9 := by
  refine zM_of hA (by decide +kernel) (lv := [(0, .ref (ad 0)), (1, .ref (ad p0)), (2, .int p1)]) (Nat.le_of_ble_eq_true rfl) rfl (fun p e s m args below meth c A cx hr => ?_)
  unfold F_X10_driesOne at hF
  refine z_aload_n cx d_X10_driesOne_0 1 rfl ?_
  refine z_iconst (v := 0) cx d_X10_driesOne_1 ki_0 ?_
  refine z_iload_n cx d_X10_driesOne_2 2 rfl ?_
  refine z_iadd cx d_X10_driesOne_3 ?_
  obtain ⟨hi1, hF⟩ := gin_inv hF
  refine z_iald cx hT_p0 za_36 hi1 (((0 : Int32) + p1).toNatClampNeg) rfl d_X10_driesOne_4 ?_
  refine z_if_le cx 48 d_X10_driesOne_5 (by decide) hF (fun hF => ?_) (fun hF => ?_)
  · exact z_vret cx hr hF d_X10_driesOne_48
  refine z_aload_n cx d_X10_driesOne_8 0 rfl ?_
  refine z_aload_n cx d_X10_driesOne_9 1 rfl ?_
  refine z_iload_n cx d_X10_driesOne_10 2 rfl ?_
  refine z_aload_n cx d_X10_driesOne_11 1 rfl ?_
  refine z_sipush (v := 193) cx d_X10_driesOne_12 ks_193 ?_
  refine z_iald cx hT_p0 za_36 (zvp (by decide +kernel)) 193 rfl d_X10_driesOne_15 ?_
  obtain ⟨v3, M2, hc, hF⟩ := zb_inv hF
  refine z_callV cx (As := [.ref (ad p0), .int p1, .int (M.1 p0 193)]) (rest := []) (c_X10_isShade l cx.2.2.2.1.1 M p0 p1 (M.1 p0 193) hT hT_p0 hc) hT zo_11 cv_SunnyPansModel_264 ⟨rfl, rfl, Nat.le_of_ble_eq_true rfl, Nat.le_of_ble_eq_true rfl⟩ rfl rfl ⟨Nat.zero_le _, Nat.zero_le _⟩ (Nat.le_of_ble_eq_true rfl) d_X10_driesOne_16 ?_
  refine z_if_ne cx 48 d_X10_driesOne_19 (by decide) hF (fun hF => ?_) (fun hF => ?_)
  · exact z_vret cx hr hF d_X10_driesOne_48
  refine z_aload_n cx d_X10_driesOne_22 1 rfl ?_
  refine z_iconst (v := 0) cx d_X10_driesOne_23 ki_0 ?_
  refine z_iload_n cx d_X10_driesOne_24 2 rfl ?_
  refine z_iadd cx d_X10_driesOne_25 ?_
  refine z_iconst (v := 0) cx d_X10_driesOne_26 ki_0 ?_
  refine z_aload_n cx d_X10_driesOne_27 1 rfl ?_
  refine z_iconst (v := 0) cx d_X10_driesOne_28 ki_0 ?_
  refine z_iload_n cx d_X10_driesOne_29 2 rfl ?_
  refine z_iadd cx d_X10_driesOne_30 ?_
  refine z_iald cx hT_p0 za_36 hi1 (((0 : Int32) + p1).toNatClampNeg) rfl d_X10_driesOne_31 ?_
  refine z_aload_n cx d_X10_driesOne_32 0 rfl ?_
  refine z_aload_n cx d_X10_driesOne_33 1 rfl ?_
  refine z_iload_n cx d_X10_driesOne_34 2 rfl ?_
  refine z_aload_n cx d_X10_driesOne_35 1 rfl ?_
  refine z_sipush (v := 193) cx d_X10_driesOne_36 ks_193 ?_
  refine z_iald cx hT_p0 za_36 (zvp (by decide +kernel)) 193 rfl d_X10_driesOne_39 ?_
  obtain ⟨v5, M4, hc, hF⟩ := zb_inv hF
  refine z_callV cx (As := [.ref (ad p0), .int p1, .int (M2.1 p0 193)]) (rest := [.int (M2.1 p0 ((0 : Int32) + p1).toNatClampNeg), .int (0 : Int32), .int ((0 : Int32) + p1), .ref (ad p0)]) (c_X10_driesOf l cx.2.2.2.1.1 M2 p0 p1 (M2.1 p0 193) hT hT_p0 hc) hT zo_11 cv_SunnyPansModel_268 ⟨rfl, rfl, Nat.le_of_ble_eq_true rfl, Nat.le_of_ble_eq_true rfl⟩ rfl rfl ⟨Nat.zero_le _, Nat.zero_le _⟩ (Nat.le_of_ble_eq_true rfl) d_X10_driesOne_40 ?_
  refine z_isub cx d_X10_driesOne_43 ?_
  obtain ⟨v7, M6, hc, hF⟩ := zb_inv hF
  refine z_callS cx (As := [.int (0 : Int32), .int ((M2.1 p0 ((0 : Int32) + p1).toNatClampNeg) - v5)]) (rest := [.int ((0 : Int32) + p1), .ref (ad p0)]) (c_X10_more l cx.2.2.2.1.1 M4 (0 : Int32) ((M2.1 p0 ((0 : Int32) + p1).toNatClampNeg) - v5)  hc) cs_SunnyPansModel_218 ⟨rfl, rfl, Nat.le_of_ble_eq_true rfl, Nat.le_of_ble_eq_true rfl⟩ rfl rfl ⟨Nat.zero_le _, Nat.zero_le _⟩ (Nat.le_of_ble_eq_true rfl) d_X10_driesOne_44 ?_
  refine z_iast cx hT_p0 za_36 hi1 (((0 : Int32) + p1).toNatClampNeg) rfl d_X10_driesOne_47 ?_
  refine z_nmM hF (fun M8 hF => ?_)
  exact z_vret cx hr hF d_X10_driesOne_48
/-! SunnyPansModel.hourEnds -/
theorem d_X10_hourEnds_0 : decode cX10_hourEnds 0 = .ok (.iconst 0, 1) := by decide +kernel
theorem d_X10_hourEnds_1 : decode cX10_hourEnds 1 = .ok (.istore_n 2, 1) := by decide +kernel
theorem d_X10_hourEnds_2 : decode cX10_hourEnds 2 = .ok (.iload_n 2, 1) := by decide +kernel
theorem d_X10_hourEnds_3 : decode cX10_hourEnds 3 = .ok (.bipush 64, 2) := by decide +kernel
theorem d_X10_hourEnds_5 : decode cX10_hourEnds 5 = .ok (.if_icmp .ge 15, 3) := by decide +kernel
theorem d_X10_hourEnds_8 : decode cX10_hourEnds 8 = .ok (.aload_n 0, 1) := by decide +kernel
theorem d_X10_hourEnds_9 : decode cX10_hourEnds 9 = .ok (.aload_n 1, 1) := by decide +kernel
theorem d_X10_hourEnds_10 : decode cX10_hourEnds 10 = .ok (.iload_n 2, 1) := by decide +kernel
theorem d_X10_hourEnds_11 : decode cX10_hourEnds 11 = .ok (.invokevirtual 272, 3) := by decide +kernel
theorem d_X10_hourEnds_14 : decode cX10_hourEnds 14 = .ok (.iinc 2 1, 3) := by decide +kernel
theorem d_X10_hourEnds_17 : decode cX10_hourEnds 17 = .ok (.goto (-15), 3) := by decide +kernel
theorem d_X10_hourEnds_20 : decode cX10_hourEnds 20 = .ok (.aload_n 0, 1) := by decide +kernel
theorem d_X10_hourEnds_21 : decode cX10_hourEnds 21 = .ok (.aload_n 1, 1) := by decide +kernel
theorem d_X10_hourEnds_22 : decode cX10_hourEnds 22 = .ok (.invokevirtual 276, 3) := by decide +kernel
theorem d_X10_hourEnds_25 : decode cX10_hourEnds 25 = .ok (.return_, 1) := by decide +kernel
def F_X10_hourEnds_2 (p0 : Nat) (self2 : Int32 → zMem → Option (zMem)) (b2_L2 : Int32) (M : zMem) : Option (zMem) :=
  if (64 : Int32) ≤ b2_L2 then
    zbv (F_X10_nextHour M p0) fun M1 =>
    some M1
  else
    zbv (F_X10_driesOne M p0 b2_L2) fun M2 =>
    self2 (b2_L2 + 1) M2
def F_X10_hourEnds (M : zMem) (p0 : Nat) : Option (zMem) :=
  itF (fun _ _ => none) (F_X10_hourEnds_2 p0) zFuel (0 : Int32) M
def rm_X10_hourEnds : Room := { frames := 8, cells := 0, slots := 0, locals := 218 }
set_option maxHeartbeats 4000000 in
set_option maxRecDepth 100000 in
theorem c_X10_hourEnds (l : Launch) {G : zG} {ad : Nat → Nat} {n : Nat} (hA : zInj ad n) (M : zMem) (p0 : Nat) (hT : zT shM n 0 11) (hT_p0 : zT shM n p0 36) {M9 : zMem} (hF : F_X10_hourEnds M p0 = some M9) : zM l yX10_hourEnds cX10_hourEnds 3 none rm_X10_hourEnds G shM ad n M [.ref (ad 0), .ref (ad p0)] none M9 := by
  refine zM_of hA (by decide +kernel) (lv := [(0, .ref (ad 0)), (1, .ref (ad p0))]) (Nat.le_of_ble_eq_true rfl) rfl (fun p e s m args below meth c A cx hr => ?_)
  have hL2 : ∀ (fuel : Nat), ∀ (b2_L2 : Int32) (M : zMem), itF (fun _ _ => none) (F_X10_hourEnds_2 p0) fuel b2_L2 M = some M9 → zJ p l e rm_X10_hourEnds s m args below meth c G shM ad n A 3 (MQ below (zQ G shM ad n M9 none A) args s 0 0 A) 0 0 M 2 [(0, .ref (ad 0)), (1, .ref (ad p0)), (2, .int b2_L2)] [] := by
    intro fuel
    induction fuel with
    | zero => intro b2_L2 M hF; cases hF
    | succ fuel hs2 =>
      intro b2_L2 M hF
      have hF : F_X10_hourEnds_2 p0 (itF (fun _ _ => none) (F_X10_hourEnds_2 p0) fuel) b2_L2 M = some M9 := hF
      generalize itF (fun _ _ => none) (F_X10_hourEnds_2 p0) fuel = self2 at hs2 hF
      unfold F_X10_hourEnds_2 at hF
      refine z_iload_n cx d_X10_hourEnds_2 2 rfl ?_
      refine z_bipush (v := 64) cx d_X10_hourEnds_3 kb_64 ?_
      refine z_icmp_ge cx 20 d_X10_hourEnds_5 (by decide) hF (fun hF => ?_) (fun hF => ?_)
      · refine z_aload_n cx d_X10_hourEnds_20 0 rfl ?_
        refine z_aload_n cx d_X10_hourEnds_21 1 rfl ?_
        obtain ⟨M1, hc, hF⟩ := zbv_inv hF
        refine z_callV cx (As := [.ref (ad p0)]) (rest := []) (c_X10_nextHour l cx.2.2.2.1.1 M p0 hT hT_p0 hc) hT zo_11 cv_SunnyPansModel_276 ⟨rfl, rfl, Nat.le_of_ble_eq_true rfl, Nat.le_of_ble_eq_true rfl⟩ rfl rfl ⟨Nat.zero_le _, Nat.zero_le _⟩ (Nat.le_of_ble_eq_true rfl) d_X10_hourEnds_22 ?_
        exact z_vret cx hr hF d_X10_hourEnds_25
      refine z_aload_n cx d_X10_hourEnds_8 0 rfl ?_
      refine z_aload_n cx d_X10_hourEnds_9 1 rfl ?_
      refine z_iload_n cx d_X10_hourEnds_10 2 rfl ?_
      obtain ⟨M2, hc, hF⟩ := zbv_inv hF
      refine z_callV cx (As := [.ref (ad p0), .int b2_L2]) (rest := []) (c_X10_driesOne l cx.2.2.2.1.1 M p0 b2_L2 hT hT_p0 hc) hT zo_11 cv_SunnyPansModel_272 ⟨rfl, rfl, Nat.le_of_ble_eq_true rfl, Nat.le_of_ble_eq_true rfl⟩ rfl rfl ⟨Nat.zero_le _, Nat.zero_le _⟩ (Nat.le_of_ble_eq_true rfl) d_X10_hourEnds_11 ?_
      refine z_iinc cx 2 1 [(2, .int (b2_L2 + 1)), (0, .ref (ad 0)), (1, .ref (ad p0))] d_X10_hourEnds_14 2 rfl ki_1 (by decide) rfl ?_
      refine z_goto cx 2 d_X10_hourEnds_17 (by decide) ?_
      exact z_lv [1, 2, 0] _ rfl (hs2 (b2_L2 + 1) M2 hF)
  unfold F_X10_hourEnds at hF
  refine z_iconst (v := 0) cx d_X10_hourEnds_0 ki_0 ?_
  refine z_istore_n cx 2 [(2, .int (0 : Int32)), (0, .ref (ad 0)), (1, .ref (ad p0))] d_X10_hourEnds_1 rfl (by decide) rfl ?_
  exact z_lv [1, 2, 0] _ rfl (hL2 zFuel (0 : Int32) M hF)
/-! SunnyPansModel.isDry -/
theorem d_X10_isDry_0 : decode cX10_isDry 0 = .ok (.aload_n 0, 1) := by decide +kernel
theorem d_X10_isDry_1 : decode cX10_isDry 1 = .ok (.iconst 0, 1) := by decide +kernel
theorem d_X10_isDry_2 : decode cX10_isDry 2 = .ok (.iload_n 1, 1) := by decide +kernel
theorem d_X10_isDry_3 : decode cX10_isDry 3 = .ok (.iadd, 1) := by decide +kernel
theorem d_X10_isDry_4 : decode cX10_isDry 4 = .ok (.iaload, 1) := by decide +kernel
theorem d_X10_isDry_5 : decode cX10_isDry 5 = .ok (.ifCond .ne 17, 3) := by decide +kernel
theorem d_X10_isDry_8 : decode cX10_isDry 8 = .ok (.aload_n 0, 1) := by decide +kernel
theorem d_X10_isDry_9 : decode cX10_isDry 9 = .ok (.sipush 128, 3) := by decide +kernel
theorem d_X10_isDry_12 : decode cX10_isDry 12 = .ok (.iload_n 1, 1) := by decide +kernel
theorem d_X10_isDry_13 : decode cX10_isDry 13 = .ok (.iadd, 1) := by decide +kernel
theorem d_X10_isDry_14 : decode cX10_isDry 14 = .ok (.iaload, 1) := by decide +kernel
theorem d_X10_isDry_15 : decode cX10_isDry 15 = .ok (.ifCond .ne 7, 3) := by decide +kernel
theorem d_X10_isDry_18 : decode cX10_isDry 18 = .ok (.iconst 1, 1) := by decide +kernel
theorem d_X10_isDry_19 : decode cX10_isDry 19 = .ok (.goto 4, 3) := by decide +kernel
theorem d_X10_isDry_22 : decode cX10_isDry 22 = .ok (.iconst 0, 1) := by decide +kernel
theorem d_X10_isDry_23 : decode cX10_isDry 23 = .ok (.ireturn, 1) := by decide +kernel
def F_X10_isDry (M : zMem) (p0 : Nat) (p1 : Int32) : Option (Int32 × zMem) :=
  gin ((0 : Int32) + p1) 195 <|
  if (M.1 p0 ((0 : Int32) + p1).toNatClampNeg) = 0 then
    gin ((128 : Int32) + p1) 195 <|
    if (M.1 p0 ((128 : Int32) + p1).toNatClampNeg) = 0 then
      some ((1 : Int32), M)
    else
      some ((0 : Int32), M)
  else
    some ((0 : Int32), M)
def rm_X10_isDry : Room := { frames := 2, cells := 0, slots := 0, locals := 80 }
set_option maxHeartbeats 4000000 in
set_option maxRecDepth 100000 in
theorem c_X10_isDry (l : Launch) {G : zG} {ad : Nat → Nat} {n : Nat} (hA : zInj ad n) (M : zMem) (p0 : Nat) (p1 : Int32) (hT_p0 : zT shM n p0 36) {r9 : Int32} {M9 : zMem} (hF : F_X10_isDry M p0 p1 = some (r9, M9)) : zM l yX10_isDry cX10_isDry 2 (some .boolean) rm_X10_isDry G shM ad n M [.ref (ad p0), .int p1] (some (.int r9)) M9 := by
  refine zM_of hA (by decide +kernel) (lv := [(0, .ref (ad p0)), (1, .int p1)]) (Nat.le_of_ble_eq_true rfl) rfl (fun p e s m args below meth c A cx hr => ?_)
  unfold F_X10_isDry at hF
  refine z_aload_n cx d_X10_isDry_0 0 rfl ?_
  refine z_iconst (v := 0) cx d_X10_isDry_1 ki_0 ?_
  refine z_iload_n cx d_X10_isDry_2 1 rfl ?_
  refine z_iadd cx d_X10_isDry_3 ?_
  obtain ⟨hi1, hF⟩ := gin_inv hF
  refine z_iald cx hT_p0 za_36 hi1 (((0 : Int32) + p1).toNatClampNeg) rfl d_X10_isDry_4 ?_
  refine z_if_ne cx 22 d_X10_isDry_5 (by decide) hF (fun hF => ?_) (fun hF => ?_)
  · refine z_iconst (v := 0) cx d_X10_isDry_22 ki_0 ?_
    exact z_iret cx hr nb0 hF d_X10_isDry_23
  refine z_aload_n cx d_X10_isDry_8 0 rfl ?_
  refine z_sipush (v := 128) cx d_X10_isDry_9 ks_128 ?_
  refine z_iload_n cx d_X10_isDry_12 1 rfl ?_
  refine z_iadd cx d_X10_isDry_13 ?_
  obtain ⟨hi2, hF⟩ := gin_inv hF
  refine z_iald cx hT_p0 za_36 hi2 (((128 : Int32) + p1).toNatClampNeg) rfl d_X10_isDry_14 ?_
  refine z_if_ne cx 22 d_X10_isDry_15 (by decide) hF (fun hF => ?_) (fun hF => ?_)
  · refine z_iconst (v := 0) cx d_X10_isDry_22 ki_0 ?_
    exact z_iret cx hr nb0 hF d_X10_isDry_23
  refine z_iconst (v := 1) cx d_X10_isDry_18 ki_1 ?_
  refine z_goto cx 23 d_X10_isDry_19 (by decide) ?_
  exact z_iret cx hr nb1 hF d_X10_isDry_23
/-! SunnyPansModel.canRake -/
theorem d_X10_canRake_0 : decode cX10_canRake 0 = .ok (.aload_n 1, 1) := by decide +kernel
theorem d_X10_canRake_1 : decode cX10_canRake 1 = .ok (.iload_n 2, 1) := by decide +kernel
theorem d_X10_canRake_2 : decode cX10_canRake 2 = .ok (.invokestatic 280, 3) := by decide +kernel
theorem d_X10_canRake_5 : decode cX10_canRake 5 = .ok (.ifCond .eq 58, 3) := by decide +kernel
theorem d_X10_canRake_8 : decode cX10_canRake 8 = .ok (.aload_n 1, 1) := by decide +kernel
theorem d_X10_canRake_9 : decode cX10_canRake 9 = .ok (.bipush 64, 2) := by decide +kernel
theorem d_X10_canRake_11 : decode cX10_canRake 11 = .ok (.iload_n 2, 1) := by decide +kernel
theorem d_X10_canRake_12 : decode cX10_canRake 12 = .ok (.iadd, 1) := by decide +kernel
theorem d_X10_canRake_13 : decode cX10_canRake 13 = .ok (.iaload, 1) := by decide +kernel
theorem d_X10_canRake_14 : decode cX10_canRake 14 = .ok (.ifCond .le 49, 3) := by decide +kernel
theorem d_X10_canRake_17 : decode cX10_canRake 17 = .ok (.iload_n 2, 1) := by decide +kernel
theorem d_X10_canRake_18 : decode cX10_canRake 18 = .ok (.iload_n 3, 1) := by decide +kernel
theorem d_X10_canRake_19 : decode cX10_canRake 19 = .ok (.if_icmp .eq 44, 3) := by decide +kernel
theorem d_X10_canRake_22 : decode cX10_canRake 22 = .ok (.aload_n 1, 1) := by decide +kernel
theorem d_X10_canRake_23 : decode cX10_canRake 23 = .ok (.iconst 0, 1) := by decide +kernel
theorem d_X10_canRake_24 : decode cX10_canRake 24 = .ok (.iload_n 3, 1) := by decide +kernel
theorem d_X10_canRake_25 : decode cX10_canRake 25 = .ok (.iadd, 1) := by decide +kernel
theorem d_X10_canRake_26 : decode cX10_canRake 26 = .ok (.iaload, 1) := by decide +kernel
theorem d_X10_canRake_27 : decode cX10_canRake 27 = .ok (.ifCond .ne 36, 3) := by decide +kernel
theorem d_X10_canRake_30 : decode cX10_canRake 30 = .ok (.aload_n 1, 1) := by decide +kernel
theorem d_X10_canRake_31 : decode cX10_canRake 31 = .ok (.bipush 64, 2) := by decide +kernel
theorem d_X10_canRake_33 : decode cX10_canRake 33 = .ok (.iload_n 3, 1) := by decide +kernel
theorem d_X10_canRake_34 : decode cX10_canRake 34 = .ok (.iadd, 1) := by decide +kernel
theorem d_X10_canRake_35 : decode cX10_canRake 35 = .ok (.iaload, 1) := by decide +kernel
theorem d_X10_canRake_36 : decode cX10_canRake 36 = .ok (.ifCond .ne 27, 3) := by decide +kernel
theorem d_X10_canRake_39 : decode cX10_canRake 39 = .ok (.aload_n 1, 1) := by decide +kernel
theorem d_X10_canRake_40 : decode cX10_canRake 40 = .ok (.sipush 128, 3) := by decide +kernel
theorem d_X10_canRake_43 : decode cX10_canRake 43 = .ok (.iload_n 3, 1) := by decide +kernel
theorem d_X10_canRake_44 : decode cX10_canRake 44 = .ok (.iadd, 1) := by decide +kernel
theorem d_X10_canRake_45 : decode cX10_canRake 45 = .ok (.iaload, 1) := by decide +kernel
theorem d_X10_canRake_46 : decode cX10_canRake 46 = .ok (.aload_n 1, 1) := by decide +kernel
theorem d_X10_canRake_47 : decode cX10_canRake 47 = .ok (.bipush 64, 2) := by decide +kernel
theorem d_X10_canRake_49 : decode cX10_canRake 49 = .ok (.iload_n 2, 1) := by decide +kernel
theorem d_X10_canRake_50 : decode cX10_canRake 50 = .ok (.iadd, 1) := by decide +kernel
theorem d_X10_canRake_51 : decode cX10_canRake 51 = .ok (.iaload, 1) := by decide +kernel
theorem d_X10_canRake_52 : decode cX10_canRake 52 = .ok (.iadd, 1) := by decide +kernel
theorem d_X10_canRake_53 : decode cX10_canRake 53 = .ok (.sipush 9999, 3) := by decide +kernel
theorem d_X10_canRake_56 : decode cX10_canRake 56 = .ok (.if_icmp .gt 7, 3) := by decide +kernel
theorem d_X10_canRake_59 : decode cX10_canRake 59 = .ok (.iconst 1, 1) := by decide +kernel
theorem d_X10_canRake_60 : decode cX10_canRake 60 = .ok (.goto 4, 3) := by decide +kernel
theorem d_X10_canRake_63 : decode cX10_canRake 63 = .ok (.iconst 0, 1) := by decide +kernel
theorem d_X10_canRake_64 : decode cX10_canRake 64 = .ok (.ireturn, 1) := by decide +kernel
def F_X10_canRake (M : zMem) (p0 : Nat) (p1 : Int32) (p2 : Int32) : Option (Int32 × zMem) :=
  zb (F_X10_isDry M p0 p1) fun v2 M1 =>
  if v2 = 0 then
    some ((0 : Int32), M1)
  else
    gin ((64 : Int32) + p1) 195 <|
    if (M1.1 p0 ((64 : Int32) + p1).toNatClampNeg) ≤ 0 then
      some ((0 : Int32), M1)
    else
      if p1 = p2 then
        some ((0 : Int32), M1)
      else
        gin ((0 : Int32) + p2) 195 <|
        if (M1.1 p0 ((0 : Int32) + p2).toNatClampNeg) = 0 then
          gin ((64 : Int32) + p2) 195 <|
          if (M1.1 p0 ((64 : Int32) + p2).toNatClampNeg) = 0 then
            gin ((128 : Int32) + p2) 195 <|
            if (9999 : Int32) < ((M1.1 p0 ((128 : Int32) + p2).toNatClampNeg) + (M1.1 p0 ((64 : Int32) + p1).toNatClampNeg)) then
              some ((0 : Int32), M1)
            else
              some ((1 : Int32), M1)
          else
            some ((0 : Int32), M1)
        else
          some ((0 : Int32), M1)
def rm_X10_canRake : Room := { frames := 3, cells := 0, slots := 0, locals := 101 }
set_option maxHeartbeats 4000000 in
set_option maxRecDepth 100000 in
theorem c_X10_canRake (l : Launch) {G : zG} {ad : Nat → Nat} {n : Nat} (hA : zInj ad n) (M : zMem) (p0 : Nat) (p1 : Int32) (p2 : Int32) (hT : zT shM n 0 11) (hT_p0 : zT shM n p0 36) {r9 : Int32} {M9 : zMem} (hF : F_X10_canRake M p0 p1 p2 = some (r9, M9)) : zM l yX10_canRake cX10_canRake 4 (some .boolean) rm_X10_canRake G shM ad n M [.ref (ad 0), .ref (ad p0), .int p1, .int p2] (some (.int r9)) M9 := by
  refine zM_of hA (by decide +kernel) (lv := [(0, .ref (ad 0)), (1, .ref (ad p0)), (2, .int p1), (3, .int p2)]) (Nat.le_of_ble_eq_true rfl) rfl (fun p e s m args below meth c A cx hr => ?_)
  unfold F_X10_canRake at hF
  refine z_aload_n cx d_X10_canRake_0 1 rfl ?_
  refine z_iload_n cx d_X10_canRake_1 2 rfl ?_
  obtain ⟨v2, M1, hc, hF⟩ := zb_inv hF
  refine z_callS cx (As := [.ref (ad p0), .int p1]) (rest := []) (c_X10_isDry l cx.2.2.2.1.1 M p0 p1 hT_p0 hc) cs_SunnyPansModel_280 ⟨rfl, rfl, Nat.le_of_ble_eq_true rfl, Nat.le_of_ble_eq_true rfl⟩ rfl rfl ⟨Nat.zero_le _, Nat.zero_le _⟩ (Nat.le_of_ble_eq_true rfl) d_X10_canRake_2 ?_
  refine z_if_eq cx 63 d_X10_canRake_5 (by decide) hF (fun hF => ?_) (fun hF => ?_)
  · refine z_iconst (v := 0) cx d_X10_canRake_63 ki_0 ?_
    exact z_iret cx hr nb0 hF d_X10_canRake_64
  refine z_aload_n cx d_X10_canRake_8 1 rfl ?_
  refine z_bipush (v := 64) cx d_X10_canRake_9 kb_64 ?_
  refine z_iload_n cx d_X10_canRake_11 2 rfl ?_
  refine z_iadd cx d_X10_canRake_12 ?_
  obtain ⟨hi3, hF⟩ := gin_inv hF
  refine z_iald cx hT_p0 za_36 hi3 (((64 : Int32) + p1).toNatClampNeg) rfl d_X10_canRake_13 ?_
  refine z_if_le cx 63 d_X10_canRake_14 (by decide) hF (fun hF => ?_) (fun hF => ?_)
  · refine z_iconst (v := 0) cx d_X10_canRake_63 ki_0 ?_
    exact z_iret cx hr nb0 hF d_X10_canRake_64
  refine z_iload_n cx d_X10_canRake_17 2 rfl ?_
  refine z_iload_n cx d_X10_canRake_18 3 rfl ?_
  refine z_icmp_eq cx 63 d_X10_canRake_19 (by decide) hF (fun hF => ?_) (fun hF => ?_)
  · refine z_iconst (v := 0) cx d_X10_canRake_63 ki_0 ?_
    exact z_iret cx hr nb0 hF d_X10_canRake_64
  refine z_aload_n cx d_X10_canRake_22 1 rfl ?_
  refine z_iconst (v := 0) cx d_X10_canRake_23 ki_0 ?_
  refine z_iload_n cx d_X10_canRake_24 3 rfl ?_
  refine z_iadd cx d_X10_canRake_25 ?_
  obtain ⟨hi4, hF⟩ := gin_inv hF
  refine z_iald cx hT_p0 za_36 hi4 (((0 : Int32) + p2).toNatClampNeg) rfl d_X10_canRake_26 ?_
  refine z_if_ne cx 63 d_X10_canRake_27 (by decide) hF (fun hF => ?_) (fun hF => ?_)
  · refine z_iconst (v := 0) cx d_X10_canRake_63 ki_0 ?_
    exact z_iret cx hr nb0 hF d_X10_canRake_64
  refine z_aload_n cx d_X10_canRake_30 1 rfl ?_
  refine z_bipush (v := 64) cx d_X10_canRake_31 kb_64 ?_
  refine z_iload_n cx d_X10_canRake_33 3 rfl ?_
  refine z_iadd cx d_X10_canRake_34 ?_
  obtain ⟨hi5, hF⟩ := gin_inv hF
  refine z_iald cx hT_p0 za_36 hi5 (((64 : Int32) + p2).toNatClampNeg) rfl d_X10_canRake_35 ?_
  refine z_if_ne cx 63 d_X10_canRake_36 (by decide) hF (fun hF => ?_) (fun hF => ?_)
  · refine z_iconst (v := 0) cx d_X10_canRake_63 ki_0 ?_
    exact z_iret cx hr nb0 hF d_X10_canRake_64
  refine z_aload_n cx d_X10_canRake_39 1 rfl ?_
  refine z_sipush (v := 128) cx d_X10_canRake_40 ks_128 ?_
  refine z_iload_n cx d_X10_canRake_43 3 rfl ?_
  refine z_iadd cx d_X10_canRake_44 ?_
  obtain ⟨hi6, hF⟩ := gin_inv hF
  refine z_iald cx hT_p0 za_36 hi6 (((128 : Int32) + p2).toNatClampNeg) rfl d_X10_canRake_45 ?_
  refine z_aload_n cx d_X10_canRake_46 1 rfl ?_
  refine z_bipush (v := 64) cx d_X10_canRake_47 kb_64 ?_
  refine z_iload_n cx d_X10_canRake_49 2 rfl ?_
  refine z_iadd cx d_X10_canRake_50 ?_
  refine z_iald cx hT_p0 za_36 hi3 (((64 : Int32) + p1).toNatClampNeg) rfl d_X10_canRake_51 ?_
  refine z_iadd cx d_X10_canRake_52 ?_
  refine z_sipush (v := 9999) cx d_X10_canRake_53 ks_9999 ?_
  refine z_icmp_gt cx 63 d_X10_canRake_56 (by decide) hF (fun hF => ?_) (fun hF => ?_)
  · refine z_iconst (v := 0) cx d_X10_canRake_63 ki_0 ?_
    exact z_iret cx hr nb0 hF d_X10_canRake_64
  refine z_iconst (v := 1) cx d_X10_canRake_59 ki_1 ?_
  refine z_goto cx 64 d_X10_canRake_60 (by decide) ?_
  exact z_iret cx hr nb1 hF d_X10_canRake_64
/-! SunnyPansModel.rains -/
theorem d_X10_rains_0 : decode cX10_rains 0 = .ok (.iconst 0, 1) := by decide +kernel
theorem d_X10_rains_1 : decode cX10_rains 1 = .ok (.istore_n 3, 1) := by decide +kernel
theorem d_X10_rains_2 : decode cX10_rains 2 = .ok (.iload_n 3, 1) := by decide +kernel
theorem d_X10_rains_3 : decode cX10_rains 3 = .ok (.bipush 64, 2) := by decide +kernel
theorem d_X10_rains_5 : decode cX10_rains 5 = .ok (.if_icmp .ge 71, 3) := by decide +kernel
theorem d_X10_rains_8 : decode cX10_rains 8 = .ok (.aload_n 0, 1) := by decide +kernel
theorem d_X10_rains_9 : decode cX10_rains 9 = .ok (.iload_n 3, 1) := by decide +kernel
theorem d_X10_rains_10 : decode cX10_rains 10 = .ok (.invokevirtual 284, 3) := by decide +kernel
theorem d_X10_rains_13 : decode cX10_rains 13 = .ok (.ifCond .ne 6, 3) := by decide +kernel
theorem d_X10_rains_16 : decode cX10_rains 16 = .ok (.goto 54, 3) := by decide +kernel
theorem d_X10_rains_19 : decode cX10_rains 19 = .ok (.aload_n 1, 1) := by decide +kernel
theorem d_X10_rains_20 : decode cX10_rains 20 = .ok (.sipush 128, 3) := by decide +kernel
theorem d_X10_rains_23 : decode cX10_rains 23 = .ok (.iload_n 3, 1) := by decide +kernel
theorem d_X10_rains_24 : decode cX10_rains 24 = .ok (.iadd, 1) := by decide +kernel
theorem d_X10_rains_25 : decode cX10_rains 25 = .ok (.iaload, 1) := by decide +kernel
theorem d_X10_rains_26 : decode cX10_rains 26 = .ok (.ifCond .le 26, 3) := by decide +kernel
theorem d_X10_rains_29 : decode cX10_rains 29 = .ok (.aload_n 1, 1) := by decide +kernel
theorem d_X10_rains_30 : decode cX10_rains 30 = .ok (.sipush 128, 3) := by decide +kernel
theorem d_X10_rains_33 : decode cX10_rains 33 = .ok (.iload_n 3, 1) := by decide +kernel
theorem d_X10_rains_34 : decode cX10_rains 34 = .ok (.iadd, 1) := by decide +kernel
theorem d_X10_rains_35 : decode cX10_rains 35 = .ok (.iconst 0, 1) := by decide +kernel
theorem d_X10_rains_36 : decode cX10_rains 36 = .ok (.aload_n 1, 1) := by decide +kernel
theorem d_X10_rains_37 : decode cX10_rains 37 = .ok (.sipush 128, 3) := by decide +kernel
theorem d_X10_rains_40 : decode cX10_rains 40 = .ok (.iload_n 3, 1) := by decide +kernel
theorem d_X10_rains_41 : decode cX10_rains 41 = .ok (.iadd, 1) := by decide +kernel
theorem d_X10_rains_42 : decode cX10_rains 42 = .ok (.iaload, 1) := by decide +kernel
theorem d_X10_rains_43 : decode cX10_rains 43 = .ok (.iload_n 2, 1) := by decide +kernel
theorem d_X10_rains_44 : decode cX10_rains 44 = .ok (.isub, 1) := by decide +kernel
theorem d_X10_rains_45 : decode cX10_rains 45 = .ok (.invokestatic 218, 3) := by decide +kernel
theorem d_X10_rains_48 : decode cX10_rains 48 = .ok (.iastore, 1) := by decide +kernel
theorem d_X10_rains_49 : decode cX10_rains 49 = .ok (.goto 21, 3) := by decide +kernel
theorem d_X10_rains_52 : decode cX10_rains 52 = .ok (.aload_n 1, 1) := by decide +kernel
theorem d_X10_rains_53 : decode cX10_rains 53 = .ok (.iconst 0, 1) := by decide +kernel
theorem d_X10_rains_54 : decode cX10_rains 54 = .ok (.iload_n 3, 1) := by decide +kernel
theorem d_X10_rains_55 : decode cX10_rains 55 = .ok (.iadd, 1) := by decide +kernel
theorem d_X10_rains_56 : decode cX10_rains 56 = .ok (.sipush 9999, 3) := by decide +kernel
theorem d_X10_rains_59 : decode cX10_rains 59 = .ok (.aload_n 1, 1) := by decide +kernel
theorem d_X10_rains_60 : decode cX10_rains 60 = .ok (.iconst 0, 1) := by decide +kernel
theorem d_X10_rains_61 : decode cX10_rains 61 = .ok (.iload_n 3, 1) := by decide +kernel
theorem d_X10_rains_62 : decode cX10_rains 62 = .ok (.iadd, 1) := by decide +kernel
theorem d_X10_rains_63 : decode cX10_rains 63 = .ok (.iaload, 1) := by decide +kernel
theorem d_X10_rains_64 : decode cX10_rains 64 = .ok (.iload_n 2, 1) := by decide +kernel
theorem d_X10_rains_65 : decode cX10_rains 65 = .ok (.iadd, 1) := by decide +kernel
theorem d_X10_rains_66 : decode cX10_rains 66 = .ok (.invokestatic 215, 3) := by decide +kernel
theorem d_X10_rains_69 : decode cX10_rains 69 = .ok (.iastore, 1) := by decide +kernel
theorem d_X10_rains_70 : decode cX10_rains 70 = .ok (.iinc 3 1, 3) := by decide +kernel
theorem d_X10_rains_73 : decode cX10_rains 73 = .ok (.goto (-71), 3) := by decide +kernel
theorem d_X10_rains_76 : decode cX10_rains 76 = .ok (.return_, 1) := by decide +kernel
def F_X10_rains_70 (p0 : Nat) (p1 : Int32) (self2 : Int32 → Int32 → zMem → Option (zMem)) (b70_L2 : Int32) (b70_L3 : Int32) (M : zMem) : Option (zMem) :=
  self2 b70_L2 (b70_L3 + 1) M
def F_X10_rains_2 (p0 : Nat) (p1 : Int32) (self2 : Int32 → Int32 → zMem → Option (zMem)) (b2_L2 : Int32) (b2_L3 : Int32) (M : zMem) : Option (zMem) :=
  if (64 : Int32) ≤ b2_L3 then
    some M
  else
    zb (F_X10_isHere M b2_L3) fun v2 M1 =>
    if v2 = 0 then
      F_X10_rains_70 p0 p1 self2 b2_L2 b2_L3 M1
    else
      gin ((128 : Int32) + b2_L3) 195 <|
      if (M1.1 p0 ((128 : Int32) + b2_L3).toNatClampNeg) ≤ 0 then
        gin ((0 : Int32) + b2_L3) 195 <|
        zb (F_X10_less M1 (9999 : Int32) ((M1.1 p0 ((0 : Int32) + b2_L3).toNatClampNeg) + b2_L2)) fun v6 M5 =>
        zl (zI M5 p0 (((0 : Int32) + b2_L3).toNatClampNeg) v6) fun M7 =>
        F_X10_rains_70 p0 p1 self2 b2_L2 b2_L3 M7
      else
        zb (F_X10_more M1 (0 : Int32) ((M1.1 p0 ((128 : Int32) + b2_L3).toNatClampNeg) - b2_L2)) fun v9 M8 =>
        zl (zI M8 p0 (((128 : Int32) + b2_L3).toNatClampNeg) v9) fun M10 =>
        F_X10_rains_70 p0 p1 self2 b2_L2 b2_L3 M10
def F_X10_rains (M : zMem) (p0 : Nat) (p1 : Int32) : Option (zMem) :=
  itF (fun _ _ _ => none) (F_X10_rains_2 p0 p1) zFuel p1 (0 : Int32) M
def rm_X10_rains : Room := { frames := 5, cells := 0, slots := 0, locals := 145 }
set_option maxHeartbeats 4000000 in
set_option maxRecDepth 100000 in
theorem c_X10_rains (l : Launch) {G : zG} {ad : Nat → Nat} {n : Nat} (hA : zInj ad n) (M : zMem) (p0 : Nat) (p1 : Int32) (hT : zT shM n 0 11) (hT_p0 : zT shM n p0 36) {M9 : zMem} (hF : F_X10_rains M p0 p1 = some M9) : zM l yX10_rains cX10_rains 4 none rm_X10_rains G shM ad n M [.ref (ad 0), .ref (ad p0), .int p1] none M9 := by
  refine zM_of hA (by decide +kernel) (lv := [(0, .ref (ad 0)), (1, .ref (ad p0)), (2, .int p1)]) (Nat.le_of_ble_eq_true rfl) rfl (fun p e s m args below meth c A cx hr => ?_)
  have hb70 : ∀ (self2 : Int32 → Int32 → zMem → Option (zMem)) (hs2 : ∀ (b2_L2 : Int32) (b2_L3 : Int32) (M : zMem), self2 b2_L2 b2_L3 M = some M9 → zJ p l e rm_X10_rains s m args below meth c G shM ad n A 4 (MQ below (zQ G shM ad n M9 none A) args s 0 0 A) 0 0 M 2 [(0, .ref (ad 0)), (1, .ref (ad p0)), (2, .int b2_L2), (3, .int b2_L3)] []), ∀ (b70_L2 : Int32) (b70_L3 : Int32) (M : zMem), F_X10_rains_70 p0 p1 self2 b70_L2 b70_L3 M = some M9 → zJ p l e rm_X10_rains s m args below meth c G shM ad n A 4 (MQ below (zQ G shM ad n M9 none A) args s 0 0 A) 0 0 M 70 [(0, .ref (ad 0)), (1, .ref (ad p0)), (2, .int b70_L2), (3, .int b70_L3)] [] := by
    intro self2 hs2 b70_L2 b70_L3 M hF
    unfold F_X10_rains_70 at hF
    refine z_iinc cx 3 1 [(3, .int (b70_L3 + 1)), (0, .ref (ad 0)), (1, .ref (ad p0)), (2, .int b70_L2)] d_X10_rains_70 3 rfl ki_1 (by decide) rfl ?_
    refine z_goto cx 2 d_X10_rains_73 (by decide) ?_
    exact z_lv [1, 2, 3, 0] _ rfl (hs2 b70_L2 (b70_L3 + 1) M hF)
  have hL2 : ∀ (fuel : Nat), ∀ (b2_L2 : Int32) (b2_L3 : Int32) (M : zMem), itF (fun _ _ _ => none) (F_X10_rains_2 p0 p1) fuel b2_L2 b2_L3 M = some M9 → zJ p l e rm_X10_rains s m args below meth c G shM ad n A 4 (MQ below (zQ G shM ad n M9 none A) args s 0 0 A) 0 0 M 2 [(0, .ref (ad 0)), (1, .ref (ad p0)), (2, .int b2_L2), (3, .int b2_L3)] [] := by
    intro fuel
    induction fuel with
    | zero => intro b2_L2 b2_L3 M hF; cases hF
    | succ fuel hs2 =>
      intro b2_L2 b2_L3 M hF
      have hF : F_X10_rains_2 p0 p1 (itF (fun _ _ _ => none) (F_X10_rains_2 p0 p1) fuel) b2_L2 b2_L3 M = some M9 := hF
      generalize itF (fun _ _ _ => none) (F_X10_rains_2 p0 p1) fuel = self2 at hs2 hF
      unfold F_X10_rains_2 at hF
      refine z_iload_n cx d_X10_rains_2 3 rfl ?_
      refine z_bipush (v := 64) cx d_X10_rains_3 kb_64 ?_
      refine z_icmp_ge cx 76 d_X10_rains_5 (by decide) hF (fun hF => ?_) (fun hF => ?_)
      · exact z_vret cx hr hF d_X10_rains_76
      refine z_aload_n cx d_X10_rains_8 0 rfl ?_
      refine z_iload_n cx d_X10_rains_9 3 rfl ?_
      obtain ⟨v2, M1, hc, hF⟩ := zb_inv hF
      refine z_callV cx (As := [.int b2_L3]) (rest := []) (c_X10_isHere l cx.2.2.2.1.1 M b2_L3 hT hc) hT zo_11 cv_SunnyPansModel_284 ⟨rfl, rfl, Nat.le_of_ble_eq_true rfl, Nat.le_of_ble_eq_true rfl⟩ rfl rfl ⟨Nat.zero_le _, Nat.zero_le _⟩ (Nat.le_of_ble_eq_true rfl) d_X10_rains_10 ?_
      refine z_if_ne cx 19 d_X10_rains_13 (by decide) hF (fun hF => ?_) (fun hF => ?_)
      · refine z_aload_n cx d_X10_rains_19 1 rfl ?_
        refine z_sipush (v := 128) cx d_X10_rains_20 ks_128 ?_
        refine z_iload_n cx d_X10_rains_23 3 rfl ?_
        refine z_iadd cx d_X10_rains_24 ?_
        obtain ⟨hi3, hF⟩ := gin_inv hF
        refine z_iald cx hT_p0 za_36 hi3 (((128 : Int32) + b2_L3).toNatClampNeg) rfl d_X10_rains_25 ?_
        refine z_if_le cx 52 d_X10_rains_26 (by decide) hF (fun hF => ?_) (fun hF => ?_)
        · refine z_aload_n cx d_X10_rains_52 1 rfl ?_
          refine z_iconst (v := 0) cx d_X10_rains_53 ki_0 ?_
          refine z_iload_n cx d_X10_rains_54 3 rfl ?_
          refine z_iadd cx d_X10_rains_55 ?_
          refine z_sipush (v := 9999) cx d_X10_rains_56 ks_9999 ?_
          refine z_aload_n cx d_X10_rains_59 1 rfl ?_
          refine z_iconst (v := 0) cx d_X10_rains_60 ki_0 ?_
          refine z_iload_n cx d_X10_rains_61 3 rfl ?_
          refine z_iadd cx d_X10_rains_62 ?_
          obtain ⟨hi4, hF⟩ := gin_inv hF
          refine z_iald cx hT_p0 za_36 hi4 (((0 : Int32) + b2_L3).toNatClampNeg) rfl d_X10_rains_63 ?_
          refine z_iload_n cx d_X10_rains_64 2 rfl ?_
          refine z_iadd cx d_X10_rains_65 ?_
          obtain ⟨v6, M5, hc, hF⟩ := zb_inv hF
          refine z_callS cx (As := [.int (9999 : Int32), .int ((M1.1 p0 ((0 : Int32) + b2_L3).toNatClampNeg) + b2_L2)]) (rest := [.int ((0 : Int32) + b2_L3), .ref (ad p0)]) (c_X10_less l cx.2.2.2.1.1 M1 (9999 : Int32) ((M1.1 p0 ((0 : Int32) + b2_L3).toNatClampNeg) + b2_L2)  hc) cs_SunnyPansModel_215 ⟨rfl, rfl, Nat.le_of_ble_eq_true rfl, Nat.le_of_ble_eq_true rfl⟩ rfl rfl ⟨Nat.zero_le _, Nat.zero_le _⟩ (Nat.le_of_ble_eq_true rfl) d_X10_rains_66 ?_
          refine z_iast cx hT_p0 za_36 hi4 (((0 : Int32) + b2_L3).toNatClampNeg) rfl d_X10_rains_69 ?_
          refine z_nmM hF (fun M7 hF => ?_)
          exact hb70 self2 hs2 b2_L2 b2_L3 M7 hF
        refine z_aload_n cx d_X10_rains_29 1 rfl ?_
        refine z_sipush (v := 128) cx d_X10_rains_30 ks_128 ?_
        refine z_iload_n cx d_X10_rains_33 3 rfl ?_
        refine z_iadd cx d_X10_rains_34 ?_
        refine z_iconst (v := 0) cx d_X10_rains_35 ki_0 ?_
        refine z_aload_n cx d_X10_rains_36 1 rfl ?_
        refine z_sipush (v := 128) cx d_X10_rains_37 ks_128 ?_
        refine z_iload_n cx d_X10_rains_40 3 rfl ?_
        refine z_iadd cx d_X10_rains_41 ?_
        refine z_iald cx hT_p0 za_36 hi3 (((128 : Int32) + b2_L3).toNatClampNeg) rfl d_X10_rains_42 ?_
        refine z_iload_n cx d_X10_rains_43 2 rfl ?_
        refine z_isub cx d_X10_rains_44 ?_
        obtain ⟨v9, M8, hc, hF⟩ := zb_inv hF
        refine z_callS cx (As := [.int (0 : Int32), .int ((M1.1 p0 ((128 : Int32) + b2_L3).toNatClampNeg) - b2_L2)]) (rest := [.int ((128 : Int32) + b2_L3), .ref (ad p0)]) (c_X10_more l cx.2.2.2.1.1 M1 (0 : Int32) ((M1.1 p0 ((128 : Int32) + b2_L3).toNatClampNeg) - b2_L2)  hc) cs_SunnyPansModel_218 ⟨rfl, rfl, Nat.le_of_ble_eq_true rfl, Nat.le_of_ble_eq_true rfl⟩ rfl rfl ⟨Nat.zero_le _, Nat.zero_le _⟩ (Nat.le_of_ble_eq_true rfl) d_X10_rains_45 ?_
        refine z_iast cx hT_p0 za_36 hi3 (((128 : Int32) + b2_L3).toNatClampNeg) rfl d_X10_rains_48 ?_
        refine z_nmM hF (fun M10 hF => ?_)
        refine z_goto cx 70 d_X10_rains_49 (by decide) ?_
        exact hb70 self2 hs2 b2_L2 b2_L3 M10 hF
      refine z_goto cx 70 d_X10_rains_16 (by decide) ?_
      exact hb70 self2 hs2 b2_L2 b2_L3 M1 hF
  unfold F_X10_rains at hF
  refine z_iconst (v := 0) cx d_X10_rains_0 ki_0 ?_
  refine z_istore_n cx 3 [(3, .int (0 : Int32)), (0, .ref (ad 0)), (1, .ref (ad p0)), (2, .int p1)] d_X10_rains_1 rfl (by decide) rfl ?_
  exact z_lv [1, 2, 3, 0] _ rfl (hL2 zFuel p1 (0 : Int32) M hF)
/-! SunnyPansModel.lets -/
theorem d_X10_lets_0 : decode cX10_lets 0 = .ok (.aload_n 0, 1) := by decide +kernel
theorem d_X10_lets_1 : decode cX10_lets 1 = .ok (.sipush 128, 3) := by decide +kernel
theorem d_X10_lets_4 : decode cX10_lets 4 = .ok (.iload_n 1, 1) := by decide +kernel
theorem d_X10_lets_5 : decode cX10_lets 5 = .ok (.iadd, 1) := by decide +kernel
theorem d_X10_lets_6 : decode cX10_lets 6 = .ok (.iaload, 1) := by decide +kernel
theorem d_X10_lets_7 : decode cX10_lets 7 = .ok (.ifCond .gt 33, 3) := by decide +kernel
theorem d_X10_lets_10 : decode cX10_lets 10 = .ok (.aload_n 0, 1) := by decide +kernel
theorem d_X10_lets_11 : decode cX10_lets 11 = .ok (.iconst 0, 1) := by decide +kernel
theorem d_X10_lets_12 : decode cX10_lets 12 = .ok (.iload_n 1, 1) := by decide +kernel
theorem d_X10_lets_13 : decode cX10_lets 13 = .ok (.iadd, 1) := by decide +kernel
theorem d_X10_lets_14 : decode cX10_lets 14 = .ok (.iaload, 1) := by decide +kernel
theorem d_X10_lets_15 : decode cX10_lets 15 = .ok (.iload_n 2, 1) := by decide +kernel
theorem d_X10_lets_16 : decode cX10_lets 16 = .ok (.iadd, 1) := by decide +kernel
theorem d_X10_lets_17 : decode cX10_lets 17 = .ok (.sipush 9999, 3) := by decide +kernel
theorem d_X10_lets_20 : decode cX10_lets 20 = .ok (.if_icmp .gt 20, 3) := by decide +kernel
theorem d_X10_lets_23 : decode cX10_lets 23 = .ok (.aload_n 0, 1) := by decide +kernel
theorem d_X10_lets_24 : decode cX10_lets 24 = .ok (.bipush 64, 2) := by decide +kernel
theorem d_X10_lets_26 : decode cX10_lets 26 = .ok (.iload_n 1, 1) := by decide +kernel
theorem d_X10_lets_27 : decode cX10_lets 27 = .ok (.iadd, 1) := by decide +kernel
theorem d_X10_lets_28 : decode cX10_lets 28 = .ok (.iaload, 1) := by decide +kernel
theorem d_X10_lets_29 : decode cX10_lets 29 = .ok (.iload_n 2, 1) := by decide +kernel
theorem d_X10_lets_30 : decode cX10_lets 30 = .ok (.bipush 8, 2) := by decide +kernel
theorem d_X10_lets_32 : decode cX10_lets 32 = .ok (.idiv, 1) := by decide +kernel
theorem d_X10_lets_33 : decode cX10_lets 33 = .ok (.iadd, 1) := by decide +kernel
theorem d_X10_lets_34 : decode cX10_lets 34 = .ok (.sipush 9999, 3) := by decide +kernel
theorem d_X10_lets_37 : decode cX10_lets 37 = .ok (.if_icmp .le 5, 3) := by decide +kernel
theorem d_X10_lets_40 : decode cX10_lets 40 = .ok (.iconst 0, 1) := by decide +kernel
theorem d_X10_lets_41 : decode cX10_lets 41 = .ok (.ireturn, 1) := by decide +kernel
theorem d_X10_lets_42 : decode cX10_lets 42 = .ok (.aload_n 0, 1) := by decide +kernel
theorem d_X10_lets_43 : decode cX10_lets 43 = .ok (.iconst 0, 1) := by decide +kernel
theorem d_X10_lets_44 : decode cX10_lets 44 = .ok (.iload_n 1, 1) := by decide +kernel
theorem d_X10_lets_45 : decode cX10_lets 45 = .ok (.iadd, 1) := by decide +kernel
theorem d_X10_lets_46 : decode cX10_lets 46 = .ok (.dup2, 1) := by decide +kernel
theorem d_X10_lets_47 : decode cX10_lets 47 = .ok (.iaload, 1) := by decide +kernel
theorem d_X10_lets_48 : decode cX10_lets 48 = .ok (.iload_n 2, 1) := by decide +kernel
theorem d_X10_lets_49 : decode cX10_lets 49 = .ok (.iadd, 1) := by decide +kernel
theorem d_X10_lets_50 : decode cX10_lets 50 = .ok (.iastore, 1) := by decide +kernel
theorem d_X10_lets_51 : decode cX10_lets 51 = .ok (.aload_n 0, 1) := by decide +kernel
theorem d_X10_lets_52 : decode cX10_lets 52 = .ok (.bipush 64, 2) := by decide +kernel
theorem d_X10_lets_54 : decode cX10_lets 54 = .ok (.iload_n 1, 1) := by decide +kernel
theorem d_X10_lets_55 : decode cX10_lets 55 = .ok (.iadd, 1) := by decide +kernel
theorem d_X10_lets_56 : decode cX10_lets 56 = .ok (.dup2, 1) := by decide +kernel
theorem d_X10_lets_57 : decode cX10_lets 57 = .ok (.iaload, 1) := by decide +kernel
theorem d_X10_lets_58 : decode cX10_lets 58 = .ok (.iload_n 2, 1) := by decide +kernel
theorem d_X10_lets_59 : decode cX10_lets 59 = .ok (.bipush 8, 2) := by decide +kernel
theorem d_X10_lets_61 : decode cX10_lets 61 = .ok (.idiv, 1) := by decide +kernel
theorem d_X10_lets_62 : decode cX10_lets 62 = .ok (.iadd, 1) := by decide +kernel
theorem d_X10_lets_63 : decode cX10_lets 63 = .ok (.iastore, 1) := by decide +kernel
theorem d_X10_lets_64 : decode cX10_lets 64 = .ok (.iconst 1, 1) := by decide +kernel
theorem d_X10_lets_65 : decode cX10_lets 65 = .ok (.ireturn, 1) := by decide +kernel
def F_X10_lets (M : zMem) (p0 : Nat) (p1 : Int32) (p2 : Int32) : Option (Int32 × zMem) :=
  gin ((128 : Int32) + p1) 195 <|
  if 0 < (M.1 p0 ((128 : Int32) + p1).toNatClampNeg) then
    some ((0 : Int32), M)
  else
    gin ((0 : Int32) + p1) 195 <|
    if (9999 : Int32) < ((M.1 p0 ((0 : Int32) + p1).toNatClampNeg) + p2) then
      some ((0 : Int32), M)
    else
      gin ((64 : Int32) + p1) 195 <|
      if ((M.1 p0 ((64 : Int32) + p1).toNatClampNeg) + (p2 / (8 : Int32))) ≤ (9999 : Int32) then
        zl (zI M p0 (((0 : Int32) + p1).toNatClampNeg) ((M.1 p0 ((0 : Int32) + p1).toNatClampNeg) + p2)) fun M4 =>
        zl (zI M4 p0 (((64 : Int32) + p1).toNatClampNeg) ((M4.1 p0 ((64 : Int32) + p1).toNatClampNeg) + (p2 / (8 : Int32)))) fun M5 =>
        some ((1 : Int32), M5)
      else
        some ((0 : Int32), M)
def rm_X10_lets : Room := { frames := 2, cells := 0, slots := 0, locals := 80 }
set_option maxHeartbeats 4000000 in
set_option maxRecDepth 100000 in
theorem c_X10_lets (l : Launch) {G : zG} {ad : Nat → Nat} {n : Nat} (hA : zInj ad n) (M : zMem) (p0 : Nat) (p1 : Int32) (p2 : Int32) (hT_p0 : zT shM n p0 36) {r9 : Int32} {M9 : zMem} (hF : F_X10_lets M p0 p1 p2 = some (r9, M9)) : zM l yX10_lets cX10_lets 3 (some .boolean) rm_X10_lets G shM ad n M [.ref (ad p0), .int p1, .int p2] (some (.int r9)) M9 := by
  refine zM_of hA (by decide +kernel) (lv := [(0, .ref (ad p0)), (1, .int p1), (2, .int p2)]) (Nat.le_of_ble_eq_true rfl) rfl (fun p e s m args below meth c A cx hr => ?_)
  unfold F_X10_lets at hF
  refine z_aload_n cx d_X10_lets_0 0 rfl ?_
  refine z_sipush (v := 128) cx d_X10_lets_1 ks_128 ?_
  refine z_iload_n cx d_X10_lets_4 1 rfl ?_
  refine z_iadd cx d_X10_lets_5 ?_
  obtain ⟨hi1, hF⟩ := gin_inv hF
  refine z_iald cx hT_p0 za_36 hi1 (((128 : Int32) + p1).toNatClampNeg) rfl d_X10_lets_6 ?_
  refine z_if_gt cx 40 d_X10_lets_7 (by decide) hF (fun hF => ?_) (fun hF => ?_)
  · refine z_iconst (v := 0) cx d_X10_lets_40 ki_0 ?_
    exact z_iret cx hr nb0 hF d_X10_lets_41
  refine z_aload_n cx d_X10_lets_10 0 rfl ?_
  refine z_iconst (v := 0) cx d_X10_lets_11 ki_0 ?_
  refine z_iload_n cx d_X10_lets_12 1 rfl ?_
  refine z_iadd cx d_X10_lets_13 ?_
  obtain ⟨hi2, hF⟩ := gin_inv hF
  refine z_iald cx hT_p0 za_36 hi2 (((0 : Int32) + p1).toNatClampNeg) rfl d_X10_lets_14 ?_
  refine z_iload_n cx d_X10_lets_15 2 rfl ?_
  refine z_iadd cx d_X10_lets_16 ?_
  refine z_sipush (v := 9999) cx d_X10_lets_17 ks_9999 ?_
  refine z_icmp_gt cx 40 d_X10_lets_20 (by decide) hF (fun hF => ?_) (fun hF => ?_)
  · refine z_iconst (v := 0) cx d_X10_lets_40 ki_0 ?_
    exact z_iret cx hr nb0 hF d_X10_lets_41
  refine z_aload_n cx d_X10_lets_23 0 rfl ?_
  refine z_bipush (v := 64) cx d_X10_lets_24 kb_64 ?_
  refine z_iload_n cx d_X10_lets_26 1 rfl ?_
  refine z_iadd cx d_X10_lets_27 ?_
  obtain ⟨hi3, hF⟩ := gin_inv hF
  refine z_iald cx hT_p0 za_36 hi3 (((64 : Int32) + p1).toNatClampNeg) rfl d_X10_lets_28 ?_
  refine z_iload_n cx d_X10_lets_29 2 rfl ?_
  refine z_bipush (v := 8) cx d_X10_lets_30 kb_8 ?_
  refine z_idiv cx d_X10_lets_32 (by decide) ?_
  refine z_iadd cx d_X10_lets_33 ?_
  refine z_sipush (v := 9999) cx d_X10_lets_34 ks_9999 ?_
  refine z_icmp_le cx 42 d_X10_lets_37 (by decide) hF (fun hF => ?_) (fun hF => ?_)
  · refine z_aload_n cx d_X10_lets_42 0 rfl ?_
    refine z_iconst (v := 0) cx d_X10_lets_43 ki_0 ?_
    refine z_iload_n cx d_X10_lets_44 1 rfl ?_
    refine z_iadd cx d_X10_lets_45 ?_
    refine z_dup2 cx d_X10_lets_46 rfl rfl ?_
    refine z_iald cx hT_p0 za_36 hi2 (((0 : Int32) + p1).toNatClampNeg) rfl d_X10_lets_47 ?_
    refine z_iload_n cx d_X10_lets_48 2 rfl ?_
    refine z_iadd cx d_X10_lets_49 ?_
    refine z_iast cx hT_p0 za_36 hi2 (((0 : Int32) + p1).toNatClampNeg) rfl d_X10_lets_50 ?_
    refine z_nmM hF (fun M4 hF => ?_)
    refine z_aload_n cx d_X10_lets_51 0 rfl ?_
    refine z_bipush (v := 64) cx d_X10_lets_52 kb_64 ?_
    refine z_iload_n cx d_X10_lets_54 1 rfl ?_
    refine z_iadd cx d_X10_lets_55 ?_
    refine z_dup2 cx d_X10_lets_56 rfl rfl ?_
    refine z_iald cx hT_p0 za_36 hi3 (((64 : Int32) + p1).toNatClampNeg) rfl d_X10_lets_57 ?_
    refine z_iload_n cx d_X10_lets_58 2 rfl ?_
    refine z_bipush (v := 8) cx d_X10_lets_59 kb_8 ?_
    refine z_idiv cx d_X10_lets_61 (by decide) ?_
    refine z_iadd cx d_X10_lets_62 ?_
    refine z_iast cx hT_p0 za_36 hi3 (((64 : Int32) + p1).toNatClampNeg) rfl d_X10_lets_63 ?_
    refine z_nmM hF (fun M5 hF => ?_)
    refine z_iconst (v := 1) cx d_X10_lets_64 ki_1 ?_
    exact z_iret cx hr nb1 hF d_X10_lets_65
  refine z_iconst (v := 0) cx d_X10_lets_40 ki_0 ?_
  exact z_iret cx hr nb0 hF d_X10_lets_41
/-! SunnyPansModel.carts -/
theorem d_X10_carts_0 : decode cX10_carts 0 = .ok (.aload_n 0, 1) := by decide +kernel
theorem d_X10_carts_1 : decode cX10_carts 1 = .ok (.sipush 128, 3) := by decide +kernel
theorem d_X10_carts_4 : decode cX10_carts 4 = .ok (.iload_n 1, 1) := by decide +kernel
theorem d_X10_carts_5 : decode cX10_carts 5 = .ok (.iadd, 1) := by decide +kernel
theorem d_X10_carts_6 : decode cX10_carts 6 = .ok (.iaload, 1) := by decide +kernel
theorem d_X10_carts_7 : decode cX10_carts 7 = .ok (.ifCond .ne 5, 3) := by decide +kernel
theorem d_X10_carts_10 : decode cX10_carts 10 = .ok (.iconst 0, 1) := by decide +kernel
theorem d_X10_carts_11 : decode cX10_carts 11 = .ok (.ireturn, 1) := by decide +kernel
theorem d_X10_carts_12 : decode cX10_carts 12 = .ok (.aload_n 0, 1) := by decide +kernel
theorem d_X10_carts_13 : decode cX10_carts 13 = .ok (.sipush 194, 3) := by decide +kernel
theorem d_X10_carts_16 : decode cX10_carts 16 = .ok (.dup2, 1) := by decide +kernel
theorem d_X10_carts_17 : decode cX10_carts 17 = .ok (.iaload, 1) := by decide +kernel
theorem d_X10_carts_18 : decode cX10_carts 18 = .ok (.aload_n 0, 1) := by decide +kernel
theorem d_X10_carts_19 : decode cX10_carts 19 = .ok (.sipush 128, 3) := by decide +kernel
theorem d_X10_carts_22 : decode cX10_carts 22 = .ok (.iload_n 1, 1) := by decide +kernel
theorem d_X10_carts_23 : decode cX10_carts 23 = .ok (.iadd, 1) := by decide +kernel
theorem d_X10_carts_24 : decode cX10_carts 24 = .ok (.iaload, 1) := by decide +kernel
theorem d_X10_carts_25 : decode cX10_carts 25 = .ok (.iadd, 1) := by decide +kernel
theorem d_X10_carts_26 : decode cX10_carts 26 = .ok (.iastore, 1) := by decide +kernel
theorem d_X10_carts_27 : decode cX10_carts 27 = .ok (.aload_n 0, 1) := by decide +kernel
theorem d_X10_carts_28 : decode cX10_carts 28 = .ok (.sipush 128, 3) := by decide +kernel
theorem d_X10_carts_31 : decode cX10_carts 31 = .ok (.iload_n 1, 1) := by decide +kernel
theorem d_X10_carts_32 : decode cX10_carts 32 = .ok (.iadd, 1) := by decide +kernel
theorem d_X10_carts_33 : decode cX10_carts 33 = .ok (.iconst 0, 1) := by decide +kernel
theorem d_X10_carts_34 : decode cX10_carts 34 = .ok (.iastore, 1) := by decide +kernel
theorem d_X10_carts_35 : decode cX10_carts 35 = .ok (.iconst 1, 1) := by decide +kernel
theorem d_X10_carts_36 : decode cX10_carts 36 = .ok (.ireturn, 1) := by decide +kernel
def F_X10_carts (M : zMem) (p0 : Nat) (p1 : Int32) : Option (Int32 × zMem) :=
  gin ((128 : Int32) + p1) 195 <|
  if (M.1 p0 ((128 : Int32) + p1).toNatClampNeg) = 0 then
    some ((0 : Int32), M)
  else
    zl (zI M p0 194 ((M.1 p0 194) + (M.1 p0 ((128 : Int32) + p1).toNatClampNeg))) fun M2 =>
    zl (zI M2 p0 (((128 : Int32) + p1).toNatClampNeg) (0 : Int32)) fun M3 =>
    some ((1 : Int32), M3)
def rm_X10_carts : Room := { frames := 2, cells := 0, slots := 0, locals := 80 }
set_option maxHeartbeats 4000000 in
set_option maxRecDepth 100000 in
theorem c_X10_carts (l : Launch) {G : zG} {ad : Nat → Nat} {n : Nat} (hA : zInj ad n) (M : zMem) (p0 : Nat) (p1 : Int32) (hT_p0 : zT shM n p0 36) {r9 : Int32} {M9 : zMem} (hF : F_X10_carts M p0 p1 = some (r9, M9)) : zM l yX10_carts cX10_carts 2 (some .boolean) rm_X10_carts G shM ad n M [.ref (ad p0), .int p1] (some (.int r9)) M9 := by
  refine zM_of hA (by decide +kernel) (lv := [(0, .ref (ad p0)), (1, .int p1)]) (Nat.le_of_ble_eq_true rfl) rfl (fun p e s m args below meth c A cx hr => ?_)
  unfold F_X10_carts at hF
  refine z_aload_n cx d_X10_carts_0 0 rfl ?_
  refine z_sipush (v := 128) cx d_X10_carts_1 ks_128 ?_
  refine z_iload_n cx d_X10_carts_4 1 rfl ?_
  refine z_iadd cx d_X10_carts_5 ?_
  obtain ⟨hi1, hF⟩ := gin_inv hF
  refine z_iald cx hT_p0 za_36 hi1 (((128 : Int32) + p1).toNatClampNeg) rfl d_X10_carts_6 ?_
  refine z_if_ne cx 12 d_X10_carts_7 (by decide) hF (fun hF => ?_) (fun hF => ?_)
  · refine z_aload_n cx d_X10_carts_12 0 rfl ?_
    refine z_sipush (v := 194) cx d_X10_carts_13 ks_194 ?_
    refine z_dup2 cx d_X10_carts_16 rfl rfl ?_
    refine z_iald cx hT_p0 za_36 (zvp (by decide +kernel)) 194 rfl d_X10_carts_17 ?_
    refine z_aload_n cx d_X10_carts_18 0 rfl ?_
    refine z_sipush (v := 128) cx d_X10_carts_19 ks_128 ?_
    refine z_iload_n cx d_X10_carts_22 1 rfl ?_
    refine z_iadd cx d_X10_carts_23 ?_
    refine z_iald cx hT_p0 za_36 hi1 (((128 : Int32) + p1).toNatClampNeg) rfl d_X10_carts_24 ?_
    refine z_iadd cx d_X10_carts_25 ?_
    refine z_iast cx hT_p0 za_36 (zvp (by decide +kernel)) 194 rfl d_X10_carts_26 ?_
    refine z_nmM hF (fun M2 hF => ?_)
    refine z_aload_n cx d_X10_carts_27 0 rfl ?_
    refine z_sipush (v := 128) cx d_X10_carts_28 ks_128 ?_
    refine z_iload_n cx d_X10_carts_31 1 rfl ?_
    refine z_iadd cx d_X10_carts_32 ?_
    refine z_iconst (v := 0) cx d_X10_carts_33 ki_0 ?_
    refine z_iast cx hT_p0 za_36 hi1 (((128 : Int32) + p1).toNatClampNeg) rfl d_X10_carts_34 ?_
    refine z_nmM hF (fun M3 hF => ?_)
    refine z_iconst (v := 1) cx d_X10_carts_35 ki_1 ?_
    exact z_iret cx hr nb1 hF d_X10_carts_36
  refine z_iconst (v := 0) cx d_X10_carts_10 ki_0 ?_
  exact z_iret cx hr nb0 hF d_X10_carts_11
/-! SunnyPansModel.does -/
theorem d_X10_does_0 : decode cX10_does 0 = .ok (.aload_n 2, 1) := by decide +kernel
theorem d_X10_does_1 : decode cX10_does 1 = .ok (.iconst 1, 1) := by decide +kernel
theorem d_X10_does_2 : decode cX10_does 2 = .ok (.iaload, 1) := by decide +kernel
theorem d_X10_does_3 : decode cX10_does 3 = .ok (.istore_n 3, 1) := by decide +kernel
theorem d_X10_does_4 : decode cX10_does 4 = .ok (.aload_n 2, 1) := by decide +kernel
theorem d_X10_does_5 : decode cX10_does 5 = .ok (.iconst 0, 1) := by decide +kernel
theorem d_X10_does_6 : decode cX10_does 6 = .ok (.iaload, 1) := by decide +kernel
theorem d_X10_does_7 : decode cX10_does 7 = .ok (.tableswitch 93 0 3 #[29, 38, 79, 85], 29) := by decide +kernel
theorem d_X10_does_36 : decode cX10_does 36 = .ok (.aload_n 1, 1) := by decide +kernel
theorem d_X10_does_37 : decode cX10_does 37 = .ok (.iload_n 3, 1) := by decide +kernel
theorem d_X10_does_38 : decode cX10_does 38 = .ok (.aload_n 2, 1) := by decide +kernel
theorem d_X10_does_39 : decode cX10_does 39 = .ok (.iconst 2, 1) := by decide +kernel
theorem d_X10_does_40 : decode cX10_does 40 = .ok (.iaload, 1) := by decide +kernel
theorem d_X10_does_41 : decode cX10_does 41 = .ok (.invokestatic 287, 3) := by decide +kernel
theorem d_X10_does_44 : decode cX10_does 44 = .ok (.ireturn, 1) := by decide +kernel
theorem d_X10_does_45 : decode cX10_does 45 = .ok (.aload_n 0, 1) := by decide +kernel
theorem d_X10_does_46 : decode cX10_does 46 = .ok (.aload_n 1, 1) := by decide +kernel
theorem d_X10_does_47 : decode cX10_does 47 = .ok (.iload_n 3, 1) := by decide +kernel
theorem d_X10_does_48 : decode cX10_does 48 = .ok (.aload_n 2, 1) := by decide +kernel
theorem d_X10_does_49 : decode cX10_does 49 = .ok (.iconst 2, 1) := by decide +kernel
theorem d_X10_does_50 : decode cX10_does 50 = .ok (.iaload, 1) := by decide +kernel
theorem d_X10_does_51 : decode cX10_does 51 = .ok (.invokevirtual 290, 3) := by decide +kernel
theorem d_X10_does_54 : decode cX10_does 54 = .ok (.ifCond .ne 5, 3) := by decide +kernel
theorem d_X10_does_57 : decode cX10_does 57 = .ok (.iconst 0, 1) := by decide +kernel
theorem d_X10_does_58 : decode cX10_does 58 = .ok (.ireturn, 1) := by decide +kernel
theorem d_X10_does_59 : decode cX10_does 59 = .ok (.aload_n 1, 1) := by decide +kernel
theorem d_X10_does_60 : decode cX10_does 60 = .ok (.sipush 128, 3) := by decide +kernel
theorem d_X10_does_63 : decode cX10_does 63 = .ok (.aload_n 2, 1) := by decide +kernel
theorem d_X10_does_64 : decode cX10_does 64 = .ok (.iconst 2, 1) := by decide +kernel
theorem d_X10_does_65 : decode cX10_does 65 = .ok (.iaload, 1) := by decide +kernel
theorem d_X10_does_66 : decode cX10_does 66 = .ok (.iadd, 1) := by decide +kernel
theorem d_X10_does_67 : decode cX10_does 67 = .ok (.dup2, 1) := by decide +kernel
theorem d_X10_does_68 : decode cX10_does 68 = .ok (.iaload, 1) := by decide +kernel
theorem d_X10_does_69 : decode cX10_does 69 = .ok (.aload_n 1, 1) := by decide +kernel
theorem d_X10_does_70 : decode cX10_does 70 = .ok (.bipush 64, 2) := by decide +kernel
theorem d_X10_does_72 : decode cX10_does 72 = .ok (.iload_n 3, 1) := by decide +kernel
theorem d_X10_does_73 : decode cX10_does 73 = .ok (.iadd, 1) := by decide +kernel
theorem d_X10_does_74 : decode cX10_does 74 = .ok (.iaload, 1) := by decide +kernel
theorem d_X10_does_75 : decode cX10_does 75 = .ok (.iadd, 1) := by decide +kernel
theorem d_X10_does_76 : decode cX10_does 76 = .ok (.iastore, 1) := by decide +kernel
theorem d_X10_does_77 : decode cX10_does 77 = .ok (.aload_n 1, 1) := by decide +kernel
theorem d_X10_does_78 : decode cX10_does 78 = .ok (.bipush 64, 2) := by decide +kernel
theorem d_X10_does_80 : decode cX10_does 80 = .ok (.iload_n 3, 1) := by decide +kernel
theorem d_X10_does_81 : decode cX10_does 81 = .ok (.iadd, 1) := by decide +kernel
theorem d_X10_does_82 : decode cX10_does 82 = .ok (.iconst 0, 1) := by decide +kernel
theorem d_X10_does_83 : decode cX10_does 83 = .ok (.iastore, 1) := by decide +kernel
theorem d_X10_does_84 : decode cX10_does 84 = .ok (.iconst 1, 1) := by decide +kernel
theorem d_X10_does_85 : decode cX10_does 85 = .ok (.ireturn, 1) := by decide +kernel
theorem d_X10_does_86 : decode cX10_does 86 = .ok (.aload_n 1, 1) := by decide +kernel
theorem d_X10_does_87 : decode cX10_does 87 = .ok (.iload_n 3, 1) := by decide +kernel
theorem d_X10_does_88 : decode cX10_does 88 = .ok (.invokestatic 293, 3) := by decide +kernel
theorem d_X10_does_91 : decode cX10_does 91 = .ok (.ireturn, 1) := by decide +kernel
theorem d_X10_does_92 : decode cX10_does 92 = .ok (.aload_n 0, 1) := by decide +kernel
theorem d_X10_does_93 : decode cX10_does 93 = .ok (.aload_n 1, 1) := by decide +kernel
theorem d_X10_does_94 : decode cX10_does 94 = .ok (.iload_n 3, 1) := by decide +kernel
theorem d_X10_does_95 : decode cX10_does 95 = .ok (.invokevirtual 296, 3) := by decide +kernel
theorem d_X10_does_98 : decode cX10_does 98 = .ok (.iconst 1, 1) := by decide +kernel
theorem d_X10_does_99 : decode cX10_does 99 = .ok (.ireturn, 1) := by decide +kernel
theorem d_X10_does_100 : decode cX10_does 100 = .ok (.aload_n 0, 1) := by decide +kernel
theorem d_X10_does_101 : decode cX10_does 101 = .ok (.getfield 23, 3) := by decide +kernel
theorem d_X10_does_104 : decode cX10_does 104 = .ok (.iconst 2, 1) := by decide +kernel
theorem d_X10_does_105 : decode cX10_does 105 = .ok (.iaload, 1) := by decide +kernel
theorem d_X10_does_106 : decode cX10_does 106 = .ok (.ifCond .eq 14, 3) := by decide +kernel
theorem d_X10_does_109 : decode cX10_does 109 = .ok (.aload_n 1, 1) := by decide +kernel
theorem d_X10_does_110 : decode cX10_does 110 = .ok (.sipush 192, 3) := by decide +kernel
theorem d_X10_does_113 : decode cX10_does 113 = .ok (.iaload, 1) := by decide +kernel
theorem d_X10_does_114 : decode cX10_does 114 = .ok (.sipush 400, 3) := by decide +kernel
theorem d_X10_does_117 : decode cX10_does 117 = .ok (.if_icmp .lt 5, 3) := by decide +kernel
theorem d_X10_does_120 : decode cX10_does 120 = .ok (.iconst 0, 1) := by decide +kernel
theorem d_X10_does_121 : decode cX10_does 121 = .ok (.ireturn, 1) := by decide +kernel
theorem d_X10_does_122 : decode cX10_does 122 = .ok (.aload_n 0, 1) := by decide +kernel
theorem d_X10_does_123 : decode cX10_does 123 = .ok (.aload_n 1, 1) := by decide +kernel
theorem d_X10_does_124 : decode cX10_does 124 = .ok (.invokevirtual 299, 3) := by decide +kernel
theorem d_X10_does_127 : decode cX10_does 127 = .ok (.iconst 1, 1) := by decide +kernel
theorem d_X10_does_128 : decode cX10_does 128 = .ok (.ireturn, 1) := by decide +kernel
def F_X10_does_100 (p0 : Nat) (p1 : Nat) (M : zMem) : Option (Int32 × zMem) :=
  if (M.1 4 2) = 0 then
    some ((0 : Int32), M)
  else
    if (M.1 p0 192) < (400 : Int32) then
      zbv (F_X10_hourEnds M p0) fun M1 =>
      some ((1 : Int32), M1)
    else
      some ((0 : Int32), M)
def F_X10_does_92 (p0 : Nat) (p1 : Nat) (b92_L3 : Int32) (M : zMem) : Option (Int32 × zMem) :=
  zbv (F_X10_rains M p0 b92_L3) fun M2 =>
  some ((1 : Int32), M2)
def F_X10_does_86 (p0 : Nat) (p1 : Nat) (b86_L3 : Int32) (M : zMem) : Option (Int32 × zMem) :=
  zb (F_X10_carts M p0 b86_L3) fun v4 M3 =>
  gd (v4 == 0 || v4 == 1) <|
  some (v4, M3)
def F_X10_does_45 (p0 : Nat) (p1 : Nat) (b45_L3 : Int32) (M : zMem) : Option (Int32 × zMem) :=
  zb (F_X10_canRake M p0 b45_L3 (M.1 p1 2)) fun v7 M6 =>
  if v7 = 0 then
    some ((0 : Int32), M6)
  else
    gin ((128 : Int32) + (M6.1 p1 2)) 195 <|
    gin ((64 : Int32) + b45_L3) 195 <|
    zl (zI M6 p0 (((128 : Int32) + (M6.1 p1 2)).toNatClampNeg) ((M6.1 p0 ((128 : Int32) + (M6.1 p1 2)).toNatClampNeg) + (M6.1 p0 ((64 : Int32) + b45_L3).toNatClampNeg))) fun M10 =>
    zl (zI M10 p0 (((64 : Int32) + b45_L3).toNatClampNeg) (0 : Int32)) fun M11 =>
    some ((1 : Int32), M11)
def F_X10_does_36 (p0 : Nat) (p1 : Nat) (b36_L3 : Int32) (M : zMem) : Option (Int32 × zMem) :=
  zb (F_X10_lets M p0 b36_L3 (M.1 p1 2)) fun v13 M12 =>
  gd (v13 == 0 || v13 == 1) <|
  some (v13, M12)
def F_X10_does (M : zMem) (p0 : Nat) (p1 : Nat) : Option (Int32 × zMem) :=
  zl (M.1 p1 1) fun v15 =>
  if (M.1 p1 0) = 0 then
    F_X10_does_36 p0 p1 v15 M
  else
  if (M.1 p1 0) = 1 then
    F_X10_does_45 p0 p1 v15 M
  else
  if (M.1 p1 0) = 2 then
    F_X10_does_86 p0 p1 v15 M
  else
  if (M.1 p1 0) = 3 then
    F_X10_does_92 p0 p1 v15 M
  else
  F_X10_does_100 p0 p1 M
def rm_X10_does : Room := { frames := 9, cells := 0, slots := 0, locals := 240 }
set_option maxHeartbeats 4000000 in
set_option maxRecDepth 100000 in
theorem c_X10_does (l : Launch) {G : zG} {ad : Nat → Nat} {n : Nat} (hA : zInj ad n) (M : zMem) (p0 : Nat) (p1 : Nat) (hT : zT shM n 0 11) (hT_p0 : zT shM n p0 36) (hT_p1 : zT shM n p1 35) {r9 : Int32} {M9 : zMem} (hF : F_X10_does M p0 p1 = some (r9, M9)) : zM l yX10_does cX10_does 4 (some .boolean) rm_X10_does G shM ad n M [.ref (ad 0), .ref (ad p0), .ref (ad p1)] (some (.int r9)) M9 := by
  refine zM_of hA (by decide +kernel) (lv := [(0, .ref (ad 0)), (1, .ref (ad p0)), (2, .ref (ad p1))]) (Nat.le_of_ble_eq_true rfl) rfl (fun p e s m args below meth c A cx hr => ?_)
  have hb100 : ∀ (M : zMem), F_X10_does_100 p0 p1 M = some (r9, M9) → zJ p l e rm_X10_does s m args below meth c G shM ad n A 4 (MQ below (zQ G shM ad n M9 (some (.int r9)) A) args s 0 0 A) 0 0 M 100 [(0, .ref (ad 0)), (1, .ref (ad p0))] [] := by
    intro M hF
    unfold F_X10_does_100 at hF
    refine z_aload_n cx d_X10_does_100 0 rfl ?_
    refine z_getR cx hT fg_SunnyPansModel_23 4 rfl d_X10_does_101 ?_
    refine z_iconst (v := 2) cx d_X10_does_104 ki_2 ?_
    refine z_iald cx (tfM_11_4 hT) za_28 (zvp (by decide +kernel)) 2 rfl d_X10_does_105 ?_
    refine z_if_eq cx 120 d_X10_does_106 (by decide) hF (fun hF => ?_) (fun hF => ?_)
    · refine z_iconst (v := 0) cx d_X10_does_120 ki_0 ?_
      exact z_iret cx hr nb0 hF d_X10_does_121
    refine z_aload_n cx d_X10_does_109 1 rfl ?_
    refine z_sipush (v := 192) cx d_X10_does_110 ks_192 ?_
    refine z_iald cx hT_p0 za_36 (zvp (by decide +kernel)) 192 rfl d_X10_does_113 ?_
    refine z_sipush (v := 400) cx d_X10_does_114 ks_400 ?_
    refine z_icmp_lt cx 122 d_X10_does_117 (by decide) hF (fun hF => ?_) (fun hF => ?_)
    · refine z_aload_n cx d_X10_does_122 0 rfl ?_
      refine z_aload_n cx d_X10_does_123 1 rfl ?_
      obtain ⟨M1, hc, hF⟩ := zbv_inv hF
      refine z_callV cx (As := [.ref (ad p0)]) (rest := []) (c_X10_hourEnds l cx.2.2.2.1.1 M p0 hT hT_p0 hc) hT zo_11 cv_SunnyPansModel_299 ⟨rfl, rfl, Nat.le_of_ble_eq_true rfl, Nat.le_of_ble_eq_true rfl⟩ rfl rfl ⟨Nat.zero_le _, Nat.zero_le _⟩ (Nat.le_of_ble_eq_true rfl) d_X10_does_124 ?_
      refine z_iconst (v := 1) cx d_X10_does_127 ki_1 ?_
      exact z_iret cx hr nb1 hF d_X10_does_128
    refine z_iconst (v := 0) cx d_X10_does_120 ki_0 ?_
    exact z_iret cx hr nb0 hF d_X10_does_121
  have hb92 : ∀ (b92_L3 : Int32) (M : zMem), F_X10_does_92 p0 p1 b92_L3 M = some (r9, M9) → zJ p l e rm_X10_does s m args below meth c G shM ad n A 4 (MQ below (zQ G shM ad n M9 (some (.int r9)) A) args s 0 0 A) 0 0 M 92 [(0, .ref (ad 0)), (1, .ref (ad p0)), (3, .int b92_L3)] [] := by
    intro b92_L3 M hF
    unfold F_X10_does_92 at hF
    refine z_aload_n cx d_X10_does_92 0 rfl ?_
    refine z_aload_n cx d_X10_does_93 1 rfl ?_
    refine z_iload_n cx d_X10_does_94 2 rfl ?_
    obtain ⟨M2, hc, hF⟩ := zbv_inv hF
    refine z_callV cx (As := [.ref (ad p0), .int b92_L3]) (rest := []) (c_X10_rains l cx.2.2.2.1.1 M p0 b92_L3 hT hT_p0 hc) hT zo_11 cv_SunnyPansModel_296 ⟨rfl, rfl, Nat.le_of_ble_eq_true rfl, Nat.le_of_ble_eq_true rfl⟩ rfl rfl ⟨Nat.zero_le _, Nat.zero_le _⟩ (Nat.le_of_ble_eq_true rfl) d_X10_does_95 ?_
    refine z_iconst (v := 1) cx d_X10_does_98 ki_1 ?_
    exact z_iret cx hr nb1 hF d_X10_does_99
  have hb86 : ∀ (b86_L3 : Int32) (M : zMem), F_X10_does_86 p0 p1 b86_L3 M = some (r9, M9) → zJ p l e rm_X10_does s m args below meth c G shM ad n A 4 (MQ below (zQ G shM ad n M9 (some (.int r9)) A) args s 0 0 A) 0 0 M 86 [(1, .ref (ad p0)), (3, .int b86_L3)] [] := by
    intro b86_L3 M hF
    unfold F_X10_does_86 at hF
    refine z_aload_n cx d_X10_does_86 0 rfl ?_
    refine z_iload_n cx d_X10_does_87 1 rfl ?_
    obtain ⟨v4, M3, hc, hF⟩ := zb_inv hF
    refine z_callS cx (As := [.ref (ad p0), .int b86_L3]) (rest := []) (c_X10_carts l cx.2.2.2.1.1 M p0 b86_L3 hT_p0 hc) cs_SunnyPansModel_293 ⟨rfl, rfl, Nat.le_of_ble_eq_true rfl, Nat.le_of_ble_eq_true rfl⟩ rfl rfl ⟨Nat.zero_le _, Nat.zero_le _⟩ (Nat.le_of_ble_eq_true rfl) d_X10_does_88 ?_
    obtain ⟨hn5, hF⟩ := gd_inv hF
    exact z_iret cx hr (nbx hn5) hF d_X10_does_91
  have hb45 : ∀ (b45_L3 : Int32) (M : zMem), F_X10_does_45 p0 p1 b45_L3 M = some (r9, M9) → zJ p l e rm_X10_does s m args below meth c G shM ad n A 4 (MQ below (zQ G shM ad n M9 (some (.int r9)) A) args s 0 0 A) 0 0 M 45 [(0, .ref (ad 0)), (1, .ref (ad p0)), (2, .ref (ad p1)), (3, .int b45_L3)] [] := by
    intro b45_L3 M hF
    unfold F_X10_does_45 at hF
    refine z_aload_n cx d_X10_does_45 0 rfl ?_
    refine z_aload_n cx d_X10_does_46 1 rfl ?_
    refine z_iload_n cx d_X10_does_47 3 rfl ?_
    refine z_aload_n cx d_X10_does_48 2 rfl ?_
    refine z_iconst (v := 2) cx d_X10_does_49 ki_2 ?_
    refine z_iald cx hT_p1 za_35 (zvp (by decide +kernel)) 2 rfl d_X10_does_50 ?_
    obtain ⟨v7, M6, hc, hF⟩ := zb_inv hF
    refine z_callV cx (As := [.ref (ad p0), .int b45_L3, .int (M.1 p1 2)]) (rest := []) (c_X10_canRake l cx.2.2.2.1.1 M p0 b45_L3 (M.1 p1 2) hT hT_p0 hc) hT zo_11 cv_SunnyPansModel_290 ⟨rfl, rfl, Nat.le_of_ble_eq_true rfl, Nat.le_of_ble_eq_true rfl⟩ rfl rfl ⟨Nat.zero_le _, Nat.zero_le _⟩ (Nat.le_of_ble_eq_true rfl) d_X10_does_51 ?_
    refine z_if_ne cx 59 d_X10_does_54 (by decide) hF (fun hF => ?_) (fun hF => ?_)
    · refine z_aload_n cx d_X10_does_59 1 rfl ?_
      refine z_sipush (v := 128) cx d_X10_does_60 ks_128 ?_
      refine z_aload_n cx d_X10_does_63 2 rfl ?_
      refine z_iconst (v := 2) cx d_X10_does_64 ki_2 ?_
      refine z_iald cx hT_p1 za_35 (zvp (by decide +kernel)) 2 rfl d_X10_does_65 ?_
      refine z_iadd cx d_X10_does_66 ?_
      refine z_dup2 cx d_X10_does_67 rfl rfl ?_
      obtain ⟨hi8, hF⟩ := gin_inv hF
      refine z_iald cx hT_p0 za_36 hi8 (((128 : Int32) + (M6.1 p1 2)).toNatClampNeg) rfl d_X10_does_68 ?_
      refine z_aload_n cx d_X10_does_69 1 rfl ?_
      refine z_bipush (v := 64) cx d_X10_does_70 kb_64 ?_
      refine z_iload_n cx d_X10_does_72 3 rfl ?_
      refine z_iadd cx d_X10_does_73 ?_
      obtain ⟨hi9, hF⟩ := gin_inv hF
      refine z_iald cx hT_p0 za_36 hi9 (((64 : Int32) + b45_L3).toNatClampNeg) rfl d_X10_does_74 ?_
      refine z_iadd cx d_X10_does_75 ?_
      refine z_iast cx hT_p0 za_36 hi8 (((128 : Int32) + (M6.1 p1 2)).toNatClampNeg) rfl d_X10_does_76 ?_
      refine z_nmM hF (fun M10 hF => ?_)
      refine z_aload_n cx d_X10_does_77 1 rfl ?_
      refine z_bipush (v := 64) cx d_X10_does_78 kb_64 ?_
      refine z_iload_n cx d_X10_does_80 3 rfl ?_
      refine z_iadd cx d_X10_does_81 ?_
      refine z_iconst (v := 0) cx d_X10_does_82 ki_0 ?_
      refine z_iast cx hT_p0 za_36 hi9 (((64 : Int32) + b45_L3).toNatClampNeg) rfl d_X10_does_83 ?_
      refine z_nmM hF (fun M11 hF => ?_)
      refine z_iconst (v := 1) cx d_X10_does_84 ki_1 ?_
      exact z_iret cx hr nb1 hF d_X10_does_85
    refine z_iconst (v := 0) cx d_X10_does_57 ki_0 ?_
    exact z_iret cx hr nb0 hF d_X10_does_58
  have hb36 : ∀ (b36_L3 : Int32) (M : zMem), F_X10_does_36 p0 p1 b36_L3 M = some (r9, M9) → zJ p l e rm_X10_does s m args below meth c G shM ad n A 4 (MQ below (zQ G shM ad n M9 (some (.int r9)) A) args s 0 0 A) 0 0 M 36 [(1, .ref (ad p0)), (2, .ref (ad p1)), (3, .int b36_L3)] [] := by
    intro b36_L3 M hF
    unfold F_X10_does_36 at hF
    refine z_aload_n cx d_X10_does_36 0 rfl ?_
    refine z_iload_n cx d_X10_does_37 2 rfl ?_
    refine z_aload_n cx d_X10_does_38 1 rfl ?_
    refine z_iconst (v := 2) cx d_X10_does_39 ki_2 ?_
    refine z_iald cx hT_p1 za_35 (zvp (by decide +kernel)) 2 rfl d_X10_does_40 ?_
    obtain ⟨v13, M12, hc, hF⟩ := zb_inv hF
    refine z_callS cx (As := [.ref (ad p0), .int b36_L3, .int (M.1 p1 2)]) (rest := []) (c_X10_lets l cx.2.2.2.1.1 M p0 b36_L3 (M.1 p1 2) hT_p0 hc) cs_SunnyPansModel_287 ⟨rfl, rfl, Nat.le_of_ble_eq_true rfl, Nat.le_of_ble_eq_true rfl⟩ rfl rfl ⟨Nat.zero_le _, Nat.zero_le _⟩ (Nat.le_of_ble_eq_true rfl) d_X10_does_41 ?_
    obtain ⟨hn14, hF⟩ := gd_inv hF
    exact z_iret cx hr (nbx hn14) hF d_X10_does_44
  unfold F_X10_does at hF
  refine z_aload_n cx d_X10_does_0 2 rfl ?_
  refine z_iconst (v := 1) cx d_X10_does_1 ki_1 ?_
  refine z_iald cx hT_p1 za_35 (zvp (by decide +kernel)) 1 rfl d_X10_does_2 ?_
  refine z_nm hF (fun v15 hF => ?_)
  refine z_istore_n cx 3 [(3, .int v15), (0, .ref (ad 0)), (1, .ref (ad p0)), (2, .ref (ad p1))] d_X10_does_3 rfl (by decide) rfl ?_
  refine z_aload_n cx d_X10_does_4 3 rfl ?_
  refine z_iconst (v := 0) cx d_X10_does_5 ki_0 ?_
  refine z_iald cx hT_p1 za_35 (zvp (by decide +kernel)) 0 rfl d_X10_does_6 ?_
  by_cases q0 : (M.1 p1 0) = 0
  · rw [if_pos q0] at hF
    refine z_tabIn cx 36 d_X10_does_7 (by rw [q0]; decide +kernel) (by rw [q0]; decide +kernel) (by rw [q0]; rfl) (by decide) ?_
    exact z_lv [2, 3, 0] _ rfl (hb36 v15 M hF)
  rw [if_neg q0] at hF
  by_cases q1 : (M.1 p1 0) = 1
  · rw [if_pos q1] at hF
    refine z_tabIn cx 45 d_X10_does_7 (by rw [q1]; decide +kernel) (by rw [q1]; decide +kernel) (by rw [q1]; rfl) (by decide) ?_
    exact z_lv [1, 2, 3, 0] _ rfl (hb45 v15 M hF)
  rw [if_neg q1] at hF
  by_cases q2 : (M.1 p1 0) = 2
  · rw [if_pos q2] at hF
    refine z_tabIn cx 86 d_X10_does_7 (by rw [q2]; decide +kernel) (by rw [q2]; decide +kernel) (by rw [q2]; rfl) (by decide) ?_
    exact z_lv [2, 0] _ rfl (hb86 v15 M hF)
  rw [if_neg q2] at hF
  by_cases q3 : (M.1 p1 0) = 3
  · rw [if_pos q3] at hF
    refine z_tabIn cx 92 d_X10_does_7 (by rw [q3]; decide +kernel) (by rw [q3]; decide +kernel) (by rw [q3]; rfl) (by decide) ?_
    exact z_lv [1, 2, 0] _ rfl (hb92 v15 M hF)
  rw [if_neg q3] at hF
  refine z_tabOut cx 100 d_X10_does_7 (by have w0 := lv_neT q0 (a := 0) (by decide +kernel); have w1 := lv_neT q1 (a := 1) (by decide +kernel); have w2 := lv_neT q2 (a := 2) (by decide +kernel); have w3 := lv_neT q3 (a := 3) (by decide +kernel); omega) (by decide) ?_
  exact z_lv [1, 2] _ rfl (hb100 M hF)
/-! SunnyPansModel.undo -/
theorem d_X10_undo_0 : decode cX10_undo 0 = .ok (.aload_n 0, 1) := by decide +kernel
theorem d_X10_undo_1 : decode cX10_undo 1 = .ok (.iconst 0, 1) := by decide +kernel
theorem d_X10_undo_2 : decode cX10_undo 2 = .ok (.putfield 82, 3) := by decide +kernel
theorem d_X10_undo_5 : decode cX10_undo 5 = .ok (.aload_n 0, 1) := by decide +kernel
theorem d_X10_undo_6 : decode cX10_undo 6 = .ok (.getfield 178, 3) := by decide +kernel
theorem d_X10_undo_9 : decode cX10_undo 9 = .ok (.ifCond .ne 5, 3) := by decide +kernel
theorem d_X10_undo_12 : decode cX10_undo 12 = .ok (.iconst (-1), 1) := by decide +kernel
theorem d_X10_undo_13 : decode cX10_undo 13 = .ok (.ireturn, 1) := by decide +kernel
theorem d_X10_undo_14 : decode cX10_undo 14 = .ok (.aload_n 0, 1) := by decide +kernel
theorem d_X10_undo_15 : decode cX10_undo 15 = .ok (.dup, 1) := by decide +kernel
theorem d_X10_undo_16 : decode cX10_undo 16 = .ok (.getfield 178, 3) := by decide +kernel
theorem d_X10_undo_19 : decode cX10_undo 19 = .ok (.iconst 1, 1) := by decide +kernel
theorem d_X10_undo_20 : decode cX10_undo 20 = .ok (.isub, 1) := by decide +kernel
theorem d_X10_undo_21 : decode cX10_undo 21 = .ok (.putfield 178, 3) := by decide +kernel
theorem d_X10_undo_24 : decode cX10_undo 24 = .ok (.aload_n 0, 1) := by decide +kernel
theorem d_X10_undo_25 : decode cX10_undo 25 = .ok (.getfield 64, 3) := by decide +kernel
theorem d_X10_undo_28 : decode cX10_undo 28 = .ok (.aload_n 0, 1) := by decide +kernel
theorem d_X10_undo_29 : decode cX10_undo 29 = .ok (.getfield 178, 3) := by decide +kernel
theorem d_X10_undo_32 : decode cX10_undo 32 = .ok (.aaload, 1) := by decide +kernel
theorem d_X10_undo_33 : decode cX10_undo 33 = .ok (.aload_n 0, 1) := by decide +kernel
theorem d_X10_undo_34 : decode cX10_undo 34 = .ok (.getfield 58, 3) := by decide +kernel
theorem d_X10_undo_37 : decode cX10_undo 37 = .ok (.invokestatic 315, 3) := by decide +kernel
theorem d_X10_undo_40 : decode cX10_undo 40 = .ok (.aload_n 0, 1) := by decide +kernel
theorem d_X10_undo_41 : decode cX10_undo 41 = .ok (.iconst 0, 1) := by decide +kernel
theorem d_X10_undo_42 : decode cX10_undo 42 = .ok (.putfield 181, 3) := by decide +kernel
theorem d_X10_undo_45 : decode cX10_undo 45 = .ok (.aload_n 0, 1) := by decide +kernel
theorem d_X10_undo_46 : decode cX10_undo 46 = .ok (.getfield 178, 3) := by decide +kernel
theorem d_X10_undo_49 : decode cX10_undo 49 = .ok (.ireturn, 1) := by decide +kernel
def F_X10_undo (M : zMem)  : Option (Int32 × zMem) :=
  zl (zI M 0 0 (0 : Int32)) fun M1 =>
  if (M1.1 0 31) = 0 then
    some ((-1 : Int32), M1)
  else
    zl (zI M1 0 31 ((M1.1 0 31) - (1 : Int32))) fun M2 =>
    gin (M2.1 0 31) 16 <|
    zbv (F_X10_copies M2 (453 + (1 + 1 * (M2.1 0 31).toNatClampNeg)) 451) fun M4 =>
    zl (zI M4 0 32 (0 : Int32)) fun M5 =>
    some ((M5.1 0 31), M5)
def rm_X10_undo : Room := { frames := 3, cells := 0, slots := 0, locals := 102 }
set_option maxHeartbeats 4000000 in
set_option maxRecDepth 100000 in
theorem c_X10_undo (l : Launch) {G : zG} {ad : Nat → Nat} {n : Nat} (hA : zInj ad n) (M : zMem)  (hT : zT shM n 0 11) {r9 : Int32} {M9 : zMem} (hF : F_X10_undo M  = some (r9, M9)) : zM l yX10_undo cX10_undo 1 (some .int) rm_X10_undo G shM ad n M [.ref (ad 0)] (some (.int r9)) M9 := by
  refine zM_of hA (by decide +kernel) (lv := [(0, .ref (ad 0))]) (Nat.le_of_ble_eq_true rfl) rfl (fun p e s m args below meth c A cx hr => ?_)
  unfold F_X10_undo at hF
  refine z_aload_n cx d_X10_undo_0 0 rfl ?_
  refine z_iconst (v := 0) cx d_X10_undo_1 ki_0 ?_
  refine z_putI cx hT fp_SunnyPansModel_82 d_X10_undo_2 ?_
  refine z_nmM hF (fun M1 hF => ?_)
  refine z_aload_n cx d_X10_undo_5 0 rfl ?_
  refine z_getI cx hT fg_SunnyPansModel_178 d_X10_undo_6 ?_
  refine z_if_ne cx 14 d_X10_undo_9 (by decide) hF (fun hF => ?_) (fun hF => ?_)
  · refine z_aload_n cx d_X10_undo_14 0 rfl ?_
    refine z_dup cx d_X10_undo_15 rfl ?_
    refine z_getI cx hT fg_SunnyPansModel_178 d_X10_undo_16 ?_
    refine z_iconst (v := 1) cx d_X10_undo_19 ki_1 ?_
    refine z_isub cx d_X10_undo_20 ?_
    refine z_putI cx hT fp_SunnyPansModel_178 d_X10_undo_21 ?_
    refine z_nmM hF (fun M2 hF => ?_)
    refine z_aload_n cx d_X10_undo_24 0 rfl ?_
    refine z_getR cx hT fg_SunnyPansModel_64 453 rfl d_X10_undo_25 ?_
    refine z_aload_n cx d_X10_undo_28 0 rfl ?_
    refine z_getI cx hT fg_SunnyPansModel_178 d_X10_undo_29 ?_
    obtain ⟨hi3, hF⟩ := gin_inv hF
    refine z_aald cx (tfM_11_453 hT) za_37 hi3 (453 + (1 + 1 * (M2.1 0 31).toNatClampNeg)) rfl d_X10_undo_32 ?_
    refine z_aload_n cx d_X10_undo_33 0 rfl ?_
    refine z_getR cx hT fg_SunnyPansModel_58 451 rfl d_X10_undo_34 ?_
    obtain ⟨M4, hc, hF⟩ := zbv_inv hF
    refine z_callS cx (As := [.ref (ad (453 + (1 + 1 * (M2.1 0 31).toNatClampNeg))), .ref (ad 451)]) (rest := []) (c_X10_copies l cx.2.2.2.1.1 M2 (453 + (1 + 1 * (M2.1 0 31).toNatClampNeg)) 451 (teM_37 (tfM_11_453 hT) hi3) (tfM_11_451 hT) hc) cs_SunnyPansModel_315 ⟨rfl, rfl, Nat.le_of_ble_eq_true rfl, Nat.le_of_ble_eq_true rfl⟩ rfl rfl ⟨Nat.zero_le _, Nat.zero_le _⟩ (Nat.le_of_ble_eq_true rfl) d_X10_undo_37 ?_
    refine z_aload_n cx d_X10_undo_40 0 rfl ?_
    refine z_iconst (v := 0) cx d_X10_undo_41 ki_0 ?_
    refine z_putI cx hT fp_SunnyPansModel_181 d_X10_undo_42 ?_
    refine z_nmM hF (fun M5 hF => ?_)
    refine z_aload_n cx d_X10_undo_45 0 rfl ?_
    refine z_getI cx hT fg_SunnyPansModel_178 d_X10_undo_46 ?_
    exact z_iret cx hr rfl hF d_X10_undo_49
  refine z_iconst (v := -1) cx d_X10_undo_12 ki_m1 ?_
  exact z_iret cx hr rfl hF d_X10_undo_13
/-! SunnyPansModel.together -/
theorem d_X10_together_0 : decode cX10_together 0 = .ok (.iconst 0, 1) := by decide +kernel
theorem d_X10_together_1 : decode cX10_together 1 = .ok (.istore_n 2, 1) := by decide +kernel
theorem d_X10_together_2 : decode cX10_together 2 = .ok (.iconst 0, 1) := by decide +kernel
theorem d_X10_together_3 : decode cX10_together 3 = .ok (.istore_n 3, 1) := by decide +kernel
theorem d_X10_together_4 : decode cX10_together 4 = .ok (.iload_n 3, 1) := by decide +kernel
theorem d_X10_together_5 : decode cX10_together 5 = .ok (.bipush 64, 2) := by decide +kernel
theorem d_X10_together_7 : decode cX10_together 7 = .ok (.if_icmp .ge 17, 3) := by decide +kernel
theorem d_X10_together_10 : decode cX10_together 10 = .ok (.iload_n 2, 1) := by decide +kernel
theorem d_X10_together_11 : decode cX10_together 11 = .ok (.aload_n 0, 1) := by decide +kernel
theorem d_X10_together_12 : decode cX10_together 12 = .ok (.iload_n 1, 1) := by decide +kernel
theorem d_X10_together_13 : decode cX10_together 13 = .ok (.iload_n 3, 1) := by decide +kernel
theorem d_X10_together_14 : decode cX10_together 14 = .ok (.iadd, 1) := by decide +kernel
theorem d_X10_together_15 : decode cX10_together 15 = .ok (.iaload, 1) := by decide +kernel
theorem d_X10_together_16 : decode cX10_together 16 = .ok (.iadd, 1) := by decide +kernel
theorem d_X10_together_17 : decode cX10_together 17 = .ok (.istore_n 2, 1) := by decide +kernel
theorem d_X10_together_18 : decode cX10_together 18 = .ok (.iinc 3 1, 3) := by decide +kernel
theorem d_X10_together_21 : decode cX10_together 21 = .ok (.goto (-17), 3) := by decide +kernel
theorem d_X10_together_24 : decode cX10_together 24 = .ok (.iload_n 2, 1) := by decide +kernel
theorem d_X10_together_25 : decode cX10_together 25 = .ok (.ireturn, 1) := by decide +kernel
def F_X10_together_4 (p0 : Nat) (p1 : Int32) (self4 : Int32 → Int32 → Int32 → zMem → Option (Int32 × zMem)) (b4_L1 : Int32) (b4_L2 : Int32) (b4_L3 : Int32) (M : zMem) : Option (Int32 × zMem) :=
  if (64 : Int32) ≤ b4_L3 then
    some (b4_L2, M)
  else
    gin (b4_L1 + b4_L3) 195 <|
    zl (b4_L2 + (M.1 p0 (b4_L1 + b4_L3).toNatClampNeg)) fun v2 =>
    self4 b4_L1 v2 (b4_L3 + 1) M
def F_X10_together (M : zMem) (p0 : Nat) (p1 : Int32) : Option (Int32 × zMem) :=
  itF (fun _ _ _ _ => none) (F_X10_together_4 p0 p1) zFuel p1 (0 : Int32) (0 : Int32) M
def rm_X10_together : Room := { frames := 2, cells := 0, slots := 0, locals := 80 }
set_option maxHeartbeats 4000000 in
set_option maxRecDepth 100000 in
theorem c_X10_together (l : Launch) {G : zG} {ad : Nat → Nat} {n : Nat} (hA : zInj ad n) (M : zMem) (p0 : Nat) (p1 : Int32) (hT_p0 : zT shM n p0 36) {r9 : Int32} {M9 : zMem} (hF : F_X10_together M p0 p1 = some (r9, M9)) : zM l yX10_together cX10_together 4 (some .int) rm_X10_together G shM ad n M [.ref (ad p0), .int p1] (some (.int r9)) M9 := by
  refine zM_of hA (by decide +kernel) (lv := [(0, .ref (ad p0)), (1, .int p1)]) (Nat.le_of_ble_eq_true rfl) rfl (fun p e s m args below meth c A cx hr => ?_)
  have hL4 : ∀ (fuel : Nat), ∀ (b4_L1 : Int32) (b4_L2 : Int32) (b4_L3 : Int32) (M : zMem), itF (fun _ _ _ _ => none) (F_X10_together_4 p0 p1) fuel b4_L1 b4_L2 b4_L3 M = some (r9, M9) → zJ p l e rm_X10_together s m args below meth c G shM ad n A 4 (MQ below (zQ G shM ad n M9 (some (.int r9)) A) args s 0 0 A) 0 0 M 4 [(0, .ref (ad p0)), (1, .int b4_L1), (2, .int b4_L2), (3, .int b4_L3)] [] := by
    intro fuel
    induction fuel with
    | zero => intro b4_L1 b4_L2 b4_L3 M hF; cases hF
    | succ fuel hs4 =>
      intro b4_L1 b4_L2 b4_L3 M hF
      have hF : F_X10_together_4 p0 p1 (itF (fun _ _ _ _ => none) (F_X10_together_4 p0 p1) fuel) b4_L1 b4_L2 b4_L3 M = some (r9, M9) := hF
      generalize itF (fun _ _ _ _ => none) (F_X10_together_4 p0 p1) fuel = self4 at hs4 hF
      unfold F_X10_together_4 at hF
      refine z_iload_n cx d_X10_together_4 3 rfl ?_
      refine z_bipush (v := 64) cx d_X10_together_5 kb_64 ?_
      refine z_icmp_ge cx 24 d_X10_together_7 (by decide) hF (fun hF => ?_) (fun hF => ?_)
      · refine z_iload_n cx d_X10_together_24 2 rfl ?_
        exact z_iret cx hr rfl hF d_X10_together_25
      refine z_iload_n cx d_X10_together_10 2 rfl ?_
      refine z_aload_n cx d_X10_together_11 0 rfl ?_
      refine z_iload_n cx d_X10_together_12 1 rfl ?_
      refine z_iload_n cx d_X10_together_13 3 rfl ?_
      refine z_iadd cx d_X10_together_14 ?_
      obtain ⟨hi1, hF⟩ := gin_inv hF
      refine z_iald cx hT_p0 za_36 hi1 ((b4_L1 + b4_L3).toNatClampNeg) rfl d_X10_together_15 ?_
      refine z_iadd cx d_X10_together_16 ?_
      refine z_nm hF (fun v2 hF => ?_)
      refine z_istore_n cx 2 [(2, .int v2), (0, .ref (ad p0)), (1, .int b4_L1), (3, .int b4_L3)] d_X10_together_17 rfl (by decide) rfl ?_
      refine z_iinc cx 3 1 [(3, .int (b4_L3 + 1)), (2, .int v2), (0, .ref (ad p0)), (1, .int b4_L1)] d_X10_together_18 3 rfl ki_1 (by decide) rfl ?_
      refine z_goto cx 4 d_X10_together_21 (by decide) ?_
      exact z_lv [2, 3, 1, 0] _ rfl (hs4 b4_L1 v2 (b4_L3 + 1) M hF)
  unfold F_X10_together at hF
  refine z_iconst (v := 0) cx d_X10_together_0 ki_0 ?_
  refine z_istore_n cx 2 [(2, .int (0 : Int32)), (0, .ref (ad p0)), (1, .int p1)] d_X10_together_1 rfl (by decide) rfl ?_
  refine z_iconst (v := 0) cx d_X10_together_2 ki_0 ?_
  refine z_istore_n cx 3 [(3, .int (0 : Int32)), (2, .int (0 : Int32)), (0, .ref (ad p0)), (1, .int p1)] d_X10_together_3 rfl (by decide) rfl ?_
  exact z_lv [2, 3, 1, 0] _ rfl (hL4 zFuel p1 (0 : Int32) (0 : Int32) M hF)
/-! SunnyPansModel.dryOnes -/
theorem d_X10_dryOnes_0 : decode cX10_dryOnes 0 = .ok (.iconst 0, 1) := by decide +kernel
theorem d_X10_dryOnes_1 : decode cX10_dryOnes 1 = .ok (.istore_n 3, 1) := by decide +kernel
theorem d_X10_dryOnes_2 : decode cX10_dryOnes 2 = .ok (.iconst 0, 1) := by decide +kernel
theorem d_X10_dryOnes_3 : decode cX10_dryOnes 3 = .ok (.istore 4, 2) := by decide +kernel
theorem d_X10_dryOnes_5 : decode cX10_dryOnes 5 = .ok (.iload 4, 2) := by decide +kernel
theorem d_X10_dryOnes_7 : decode cX10_dryOnes 7 = .ok (.bipush 64, 2) := by decide +kernel
theorem d_X10_dryOnes_9 : decode cX10_dryOnes 9 = .ok (.if_icmp .ge 49, 3) := by decide +kernel
theorem d_X10_dryOnes_12 : decode cX10_dryOnes 12 = .ok (.iload_n 3, 1) := by decide +kernel
theorem d_X10_dryOnes_13 : decode cX10_dryOnes 13 = .ok (.aload_n 0, 1) := by decide +kernel
theorem d_X10_dryOnes_14 : decode cX10_dryOnes 14 = .ok (.iload 4, 2) := by decide +kernel
theorem d_X10_dryOnes_16 : decode cX10_dryOnes 16 = .ok (.invokevirtual 284, 3) := by decide +kernel
theorem d_X10_dryOnes_19 : decode cX10_dryOnes 19 = .ok (.ifCond .eq 30, 3) := by decide +kernel
theorem d_X10_dryOnes_22 : decode cX10_dryOnes 22 = .ok (.aload_n 1, 1) := by decide +kernel
theorem d_X10_dryOnes_23 : decode cX10_dryOnes 23 = .ok (.iload 4, 2) := by decide +kernel
theorem d_X10_dryOnes_25 : decode cX10_dryOnes 25 = .ok (.invokestatic 280, 3) := by decide +kernel
theorem d_X10_dryOnes_28 : decode cX10_dryOnes 28 = .ok (.ifCond .eq 21, 3) := by decide +kernel
theorem d_X10_dryOnes_31 : decode cX10_dryOnes 31 = .ok (.iload_n 2, 1) := by decide +kernel
theorem d_X10_dryOnes_32 : decode cX10_dryOnes 32 = .ok (.ifCond .eq 13, 3) := by decide +kernel
theorem d_X10_dryOnes_35 : decode cX10_dryOnes 35 = .ok (.aload_n 1, 1) := by decide +kernel
theorem d_X10_dryOnes_36 : decode cX10_dryOnes 36 = .ok (.bipush 64, 2) := by decide +kernel
theorem d_X10_dryOnes_38 : decode cX10_dryOnes 38 = .ok (.iload 4, 2) := by decide +kernel
theorem d_X10_dryOnes_40 : decode cX10_dryOnes 40 = .ok (.iadd, 1) := by decide +kernel
theorem d_X10_dryOnes_41 : decode cX10_dryOnes 41 = .ok (.iaload, 1) := by decide +kernel
theorem d_X10_dryOnes_42 : decode cX10_dryOnes 42 = .ok (.ifCond .le 7, 3) := by decide +kernel
theorem d_X10_dryOnes_45 : decode cX10_dryOnes 45 = .ok (.iconst 1, 1) := by decide +kernel
theorem d_X10_dryOnes_46 : decode cX10_dryOnes 46 = .ok (.goto 4, 3) := by decide +kernel
theorem d_X10_dryOnes_49 : decode cX10_dryOnes 49 = .ok (.iconst 0, 1) := by decide +kernel
theorem d_X10_dryOnes_50 : decode cX10_dryOnes 50 = .ok (.iadd, 1) := by decide +kernel
theorem d_X10_dryOnes_51 : decode cX10_dryOnes 51 = .ok (.istore_n 3, 1) := by decide +kernel
theorem d_X10_dryOnes_52 : decode cX10_dryOnes 52 = .ok (.iinc 4 1, 3) := by decide +kernel
theorem d_X10_dryOnes_55 : decode cX10_dryOnes 55 = .ok (.goto (-50), 3) := by decide +kernel
theorem d_X10_dryOnes_58 : decode cX10_dryOnes 58 = .ok (.iload_n 3, 1) := by decide +kernel
theorem d_X10_dryOnes_59 : decode cX10_dryOnes 59 = .ok (.ireturn, 1) := by decide +kernel
def F_X10_dryOnes_50 (p0 : Nat) (p1 : Int32) (self5 : Int32 → Int32 → Int32 → zMem → Option (Int32 × zMem)) (b50_L2 : Int32) (b50_L4 : Int32) (b50_S0 : Int32) (b50_S1 : Int32) (M : zMem) : Option (Int32 × zMem) :=
  zl (b50_S0 + b50_S1) fun v1 =>
  self5 b50_L2 v1 (b50_L4 + 1) M
def F_X10_dryOnes_49 (p0 : Nat) (p1 : Int32) (self5 : Int32 → Int32 → Int32 → zMem → Option (Int32 × zMem)) (b49_L2 : Int32) (b49_L4 : Int32) (b49_S0 : Int32) (M : zMem) : Option (Int32 × zMem) :=
  F_X10_dryOnes_50 p0 p1 self5 b49_L2 b49_L4 b49_S0 (0 : Int32) M
def F_X10_dryOnes_5 (p0 : Nat) (p1 : Int32) (self5 : Int32 → Int32 → Int32 → zMem → Option (Int32 × zMem)) (b5_L2 : Int32) (b5_L3 : Int32) (b5_L4 : Int32) (M : zMem) : Option (Int32 × zMem) :=
  if (64 : Int32) ≤ b5_L4 then
    some (b5_L3, M)
  else
    zb (F_X10_isHere M b5_L4) fun v3 M2 =>
    if v3 = 0 then
      F_X10_dryOnes_49 p0 p1 self5 b5_L2 b5_L4 b5_L3 M2
    else
      zb (F_X10_isDry M2 p0 b5_L4) fun v5 M4 =>
      if v5 = 0 then
        F_X10_dryOnes_49 p0 p1 self5 b5_L2 b5_L4 b5_L3 M4
      else
        if b5_L2 = 0 then
          F_X10_dryOnes_50 p0 p1 self5 b5_L2 b5_L4 b5_L3 (1 : Int32) M4
        else
          gin ((64 : Int32) + b5_L4) 195 <|
          if (M4.1 p0 ((64 : Int32) + b5_L4).toNatClampNeg) ≤ 0 then
            F_X10_dryOnes_49 p0 p1 self5 b5_L2 b5_L4 b5_L3 M4
          else
            F_X10_dryOnes_50 p0 p1 self5 b5_L2 b5_L4 b5_L3 (1 : Int32) M4
def F_X10_dryOnes (M : zMem) (p0 : Nat) (p1 : Int32) : Option (Int32 × zMem) :=
  itF (fun _ _ _ _ => none) (F_X10_dryOnes_5 p0 p1) zFuel p1 (0 : Int32) (0 : Int32) M
def rm_X10_dryOnes : Room := { frames := 5, cells := 0, slots := 0, locals := 145 }
set_option maxHeartbeats 4000000 in
set_option maxRecDepth 100000 in
theorem c_X10_dryOnes (l : Launch) {G : zG} {ad : Nat → Nat} {n : Nat} (hA : zInj ad n) (M : zMem) (p0 : Nat) (p1 : Int32) (hT : zT shM n 0 11) (hT_p0 : zT shM n p0 36) {r9 : Int32} {M9 : zMem} (hF : F_X10_dryOnes M p0 p1 = some (r9, M9)) : zM l yX10_dryOnes cX10_dryOnes 5 (some .int) rm_X10_dryOnes G shM ad n M [.ref (ad 0), .ref (ad p0), .int p1] (some (.int r9)) M9 := by
  refine zM_of hA (by decide +kernel) (lv := [(0, .ref (ad 0)), (1, .ref (ad p0)), (2, .int p1)]) (Nat.le_of_ble_eq_true rfl) rfl (fun p e s m args below meth c A cx hr => ?_)
  have hb50 : ∀ (self5 : Int32 → Int32 → Int32 → zMem → Option (Int32 × zMem)) (hs5 : ∀ (b5_L2 : Int32) (b5_L3 : Int32) (b5_L4 : Int32) (M : zMem), self5 b5_L2 b5_L3 b5_L4 M = some (r9, M9) → zJ p l e rm_X10_dryOnes s m args below meth c G shM ad n A 5 (MQ below (zQ G shM ad n M9 (some (.int r9)) A) args s 0 0 A) 0 0 M 5 [(0, .ref (ad 0)), (1, .ref (ad p0)), (2, .int b5_L2), (3, .int b5_L3), (4, .int b5_L4)] []), ∀ (b50_L2 : Int32) (b50_L4 : Int32) (b50_S0 : Int32) (b50_S1 : Int32) (M : zMem), F_X10_dryOnes_50 p0 p1 self5 b50_L2 b50_L4 b50_S0 b50_S1 M = some (r9, M9) → zJ p l e rm_X10_dryOnes s m args below meth c G shM ad n A 5 (MQ below (zQ G shM ad n M9 (some (.int r9)) A) args s 0 0 A) 0 0 M 50 [(0, .ref (ad 0)), (1, .ref (ad p0)), (2, .int b50_L2), (4, .int b50_L4)] [.int b50_S1, .int b50_S0] := by
    intro self5 hs5 b50_L2 b50_L4 b50_S0 b50_S1 M hF
    unfold F_X10_dryOnes_50 at hF
    refine z_iadd cx d_X10_dryOnes_50 ?_
    refine z_nm hF (fun v1 hF => ?_)
    refine z_istore_n cx 3 [(3, .int v1), (0, .ref (ad 0)), (1, .ref (ad p0)), (2, .int b50_L2), (4, .int b50_L4)] d_X10_dryOnes_51 rfl (by decide) rfl ?_
    refine z_iinc cx 4 1 [(4, .int (b50_L4 + 1)), (3, .int v1), (0, .ref (ad 0)), (1, .ref (ad p0)), (2, .int b50_L2)] d_X10_dryOnes_52 4 rfl ki_1 (by decide) rfl ?_
    refine z_goto cx 5 d_X10_dryOnes_55 (by decide) ?_
    exact z_lv [2, 3, 4, 1, 0] _ rfl (hs5 b50_L2 v1 (b50_L4 + 1) M hF)
  have hb49 : ∀ (self5 : Int32 → Int32 → Int32 → zMem → Option (Int32 × zMem)) (hs5 : ∀ (b5_L2 : Int32) (b5_L3 : Int32) (b5_L4 : Int32) (M : zMem), self5 b5_L2 b5_L3 b5_L4 M = some (r9, M9) → zJ p l e rm_X10_dryOnes s m args below meth c G shM ad n A 5 (MQ below (zQ G shM ad n M9 (some (.int r9)) A) args s 0 0 A) 0 0 M 5 [(0, .ref (ad 0)), (1, .ref (ad p0)), (2, .int b5_L2), (3, .int b5_L3), (4, .int b5_L4)] []), ∀ (b49_L2 : Int32) (b49_L4 : Int32) (b49_S0 : Int32) (M : zMem), F_X10_dryOnes_49 p0 p1 self5 b49_L2 b49_L4 b49_S0 M = some (r9, M9) → zJ p l e rm_X10_dryOnes s m args below meth c G shM ad n A 5 (MQ below (zQ G shM ad n M9 (some (.int r9)) A) args s 0 0 A) 0 0 M 49 [(0, .ref (ad 0)), (1, .ref (ad p0)), (2, .int b49_L2), (4, .int b49_L4)] [.int b49_S0] := by
    intro self5 hs5 b49_L2 b49_L4 b49_S0 M hF
    unfold F_X10_dryOnes_49 at hF
    refine z_iconst (v := 0) cx d_X10_dryOnes_49 ki_0 ?_
    exact hb50 self5 hs5 b49_L2 b49_L4 b49_S0 (0 : Int32) M hF
  have hL5 : ∀ (fuel : Nat), ∀ (b5_L2 : Int32) (b5_L3 : Int32) (b5_L4 : Int32) (M : zMem), itF (fun _ _ _ _ => none) (F_X10_dryOnes_5 p0 p1) fuel b5_L2 b5_L3 b5_L4 M = some (r9, M9) → zJ p l e rm_X10_dryOnes s m args below meth c G shM ad n A 5 (MQ below (zQ G shM ad n M9 (some (.int r9)) A) args s 0 0 A) 0 0 M 5 [(0, .ref (ad 0)), (1, .ref (ad p0)), (2, .int b5_L2), (3, .int b5_L3), (4, .int b5_L4)] [] := by
    intro fuel
    induction fuel with
    | zero => intro b5_L2 b5_L3 b5_L4 M hF; cases hF
    | succ fuel hs5 =>
      intro b5_L2 b5_L3 b5_L4 M hF
      have hF : F_X10_dryOnes_5 p0 p1 (itF (fun _ _ _ _ => none) (F_X10_dryOnes_5 p0 p1) fuel) b5_L2 b5_L3 b5_L4 M = some (r9, M9) := hF
      generalize itF (fun _ _ _ _ => none) (F_X10_dryOnes_5 p0 p1) fuel = self5 at hs5 hF
      unfold F_X10_dryOnes_5 at hF
      refine z_iload cx d_X10_dryOnes_5 4 rfl ?_
      refine z_bipush (v := 64) cx d_X10_dryOnes_7 kb_64 ?_
      refine z_icmp_ge cx 58 d_X10_dryOnes_9 (by decide) hF (fun hF => ?_) (fun hF => ?_)
      · refine z_iload_n cx d_X10_dryOnes_58 3 rfl ?_
        exact z_iret cx hr rfl hF d_X10_dryOnes_59
      refine z_iload_n cx d_X10_dryOnes_12 3 rfl ?_
      refine z_aload_n cx d_X10_dryOnes_13 0 rfl ?_
      refine z_iload cx d_X10_dryOnes_14 4 rfl ?_
      obtain ⟨v3, M2, hc, hF⟩ := zb_inv hF
      refine z_callV cx (As := [.int b5_L4]) (rest := [.int b5_L3]) (c_X10_isHere l cx.2.2.2.1.1 M b5_L4 hT hc) hT zo_11 cv_SunnyPansModel_284 ⟨rfl, rfl, Nat.le_of_ble_eq_true rfl, Nat.le_of_ble_eq_true rfl⟩ rfl rfl ⟨Nat.zero_le _, Nat.zero_le _⟩ (Nat.le_of_ble_eq_true rfl) d_X10_dryOnes_16 ?_
      refine z_if_eq cx 49 d_X10_dryOnes_19 (by decide) hF (fun hF => ?_) (fun hF => ?_)
      · exact z_lv [0, 1, 2, 4] _ rfl (hb49 self5 hs5 b5_L2 b5_L4 b5_L3 M2 hF)
      refine z_aload_n cx d_X10_dryOnes_22 1 rfl ?_
      refine z_iload cx d_X10_dryOnes_23 4 rfl ?_
      obtain ⟨v5, M4, hc, hF⟩ := zb_inv hF
      refine z_callS cx (As := [.ref (ad p0), .int b5_L4]) (rest := [.int b5_L3]) (c_X10_isDry l cx.2.2.2.1.1 M2 p0 b5_L4 hT_p0 hc) cs_SunnyPansModel_280 ⟨rfl, rfl, Nat.le_of_ble_eq_true rfl, Nat.le_of_ble_eq_true rfl⟩ rfl rfl ⟨Nat.zero_le _, Nat.zero_le _⟩ (Nat.le_of_ble_eq_true rfl) d_X10_dryOnes_25 ?_
      refine z_if_eq cx 49 d_X10_dryOnes_28 (by decide) hF (fun hF => ?_) (fun hF => ?_)
      · exact z_lv [0, 1, 2, 4] _ rfl (hb49 self5 hs5 b5_L2 b5_L4 b5_L3 M4 hF)
      refine z_iload_n cx d_X10_dryOnes_31 2 rfl ?_
      refine z_if_eq cx 45 d_X10_dryOnes_32 (by decide) hF (fun hF => ?_) (fun hF => ?_)
      · refine z_iconst (v := 1) cx d_X10_dryOnes_45 ki_1 ?_
        refine z_goto cx 50 d_X10_dryOnes_46 (by decide) ?_
        exact z_lv [0, 1, 2, 4] _ rfl (hb50 self5 hs5 b5_L2 b5_L4 b5_L3 (1 : Int32) M4 hF)
      refine z_aload_n cx d_X10_dryOnes_35 1 rfl ?_
      refine z_bipush (v := 64) cx d_X10_dryOnes_36 kb_64 ?_
      refine z_iload cx d_X10_dryOnes_38 4 rfl ?_
      refine z_iadd cx d_X10_dryOnes_40 ?_
      obtain ⟨hi6, hF⟩ := gin_inv hF
      refine z_iald cx hT_p0 za_36 hi6 (((64 : Int32) + b5_L4).toNatClampNeg) rfl d_X10_dryOnes_41 ?_
      refine z_if_le cx 49 d_X10_dryOnes_42 (by decide) hF (fun hF => ?_) (fun hF => ?_)
      · exact z_lv [0, 1, 2, 4] _ rfl (hb49 self5 hs5 b5_L2 b5_L4 b5_L3 M4 hF)
      refine z_iconst (v := 1) cx d_X10_dryOnes_45 ki_1 ?_
      refine z_goto cx 50 d_X10_dryOnes_46 (by decide) ?_
      exact z_lv [0, 1, 2, 4] _ rfl (hb50 self5 hs5 b5_L2 b5_L4 b5_L3 (1 : Int32) M4 hF)
  unfold F_X10_dryOnes at hF
  refine z_iconst (v := 0) cx d_X10_dryOnes_0 ki_0 ?_
  refine z_istore_n cx 3 [(3, .int (0 : Int32)), (0, .ref (ad 0)), (1, .ref (ad p0)), (2, .int p1)] d_X10_dryOnes_1 rfl (by decide) rfl ?_
  refine z_iconst (v := 0) cx d_X10_dryOnes_2 ki_0 ?_
  refine z_istore cx 4 [(4, .int (0 : Int32)), (3, .int (0 : Int32)), (0, .ref (ad 0)), (1, .ref (ad p0)), (2, .int p1)] d_X10_dryOnes_3 (by decide) rfl ?_
  exact z_lv [2, 3, 4, 1, 0] _ rfl (hL5 zFuel p1 (0 : Int32) (0 : Int32) M hF)
