/-! SunnyPansModel.isTold -/
theorem d_X10_isTold_0 : decode cX10_isTold 0 = .ok (.iconst 0, 1) := by decide +kernel
theorem d_X10_isTold_1 : decode cX10_isTold 1 = .ok (.istore_n 2, 1) := by decide +kernel
theorem d_X10_isTold_2 : decode cX10_isTold 2 = .ok (.iload_n 2, 1) := by decide +kernel
theorem d_X10_isTold_3 : decode cX10_isTold 3 = .ok (.aload_n 0, 1) := by decide +kernel
theorem d_X10_isTold_4 : decode cX10_isTold 4 = .ok (.getfield 175, 3) := by decide +kernel
theorem d_X10_isTold_7 : decode cX10_isTold 7 = .ok (.if_icmp .ge 23, 3) := by decide +kernel
theorem d_X10_isTold_10 : decode cX10_isTold 10 = .ok (.aload_n 0, 1) := by decide +kernel
theorem d_X10_isTold_11 : decode cX10_isTold 11 = .ok (.getfield 43, 3) := by decide +kernel
theorem d_X10_isTold_14 : decode cX10_isTold 14 = .ok (.iload_n 2, 1) := by decide +kernel
theorem d_X10_isTold_15 : decode cX10_isTold 15 = .ok (.aaload, 1) := by decide +kernel
theorem d_X10_isTold_16 : decode cX10_isTold 16 = .ok (.iconst 0, 1) := by decide +kernel
theorem d_X10_isTold_17 : decode cX10_isTold 17 = .ok (.iaload, 1) := by decide +kernel
theorem d_X10_isTold_18 : decode cX10_isTold 18 = .ok (.iload_n 1, 1) := by decide +kernel
theorem d_X10_isTold_19 : decode cX10_isTold 19 = .ok (.if_icmp .ne 5, 3) := by decide +kernel
theorem d_X10_isTold_22 : decode cX10_isTold 22 = .ok (.iconst 1, 1) := by decide +kernel
theorem d_X10_isTold_23 : decode cX10_isTold 23 = .ok (.ireturn, 1) := by decide +kernel
theorem d_X10_isTold_24 : decode cX10_isTold 24 = .ok (.iinc 2 1, 3) := by decide +kernel
theorem d_X10_isTold_27 : decode cX10_isTold 27 = .ok (.goto (-25), 3) := by decide +kernel
theorem d_X10_isTold_30 : decode cX10_isTold 30 = .ok (.iconst 0, 1) := by decide +kernel
theorem d_X10_isTold_31 : decode cX10_isTold 31 = .ok (.ireturn, 1) := by decide +kernel
noncomputable def F_X10_isTold_2 (p0 : Int32) (self2 : Int32 → Int32 → zMem → Option (Int32 × zMem)) (b2_L1 : Int32) (b2_L2 : Int32) (M : zMem) : Option (Int32 × zMem) :=
  if (M.1 0 30) ≤ b2_L2 then
    some ((0 : Int32), M)
  else
    gin b2_L2 8 <|
    if (M.1 (350 + (1 + 1 * b2_L2.toNatClampNeg)) 0) = b2_L1 then
      some ((1 : Int32), M)
    else
      self2 b2_L1 (b2_L2 + 1) M
noncomputable def F_X10_isTold (M : zMem) (p0 : Int32) : Option (Int32 × zMem) :=
  itF (fun _ _ _ => none) (F_X10_isTold_2 p0) zFuel p0 (0 : Int32) M
def rm_X10_isTold : Room := { frames := 2, cells := 0, slots := 0, locals := 80 }
set_option maxHeartbeats 4000000 in
set_option maxRecDepth 100000 in
theorem c_X10_isTold (l : Launch) {G : zG} {ad : Nat → Nat} {n : Nat} (hA : zInj ad n) (M : zMem) (p0 : Int32) (hT : zT shM n 0 11) {r9 : Int32} {M9 : zMem} (hF : F_X10_isTold M p0 = some (r9, M9)) : zM l yX10_isTold cX10_isTold 3 (some .boolean) rm_X10_isTold G shM ad n M [.ref (ad 0), .int p0] (some (.int r9)) M9 := by
  refine zM_of hA (by decide +kernel) (lv := [(0, .ref (ad 0)), (1, .int p0)]) (Nat.le_of_ble_eq_true rfl) rfl (fun p e s m args below meth c A cx hr => ?_)
  have hL2 : ∀ (fuel : Nat), ∀ (b2_L1 : Int32) (b2_L2 : Int32) (M : zMem), itF (fun _ _ _ => none) (F_X10_isTold_2 p0) fuel b2_L1 b2_L2 M = some (r9, M9) → zJ p l e rm_X10_isTold s m args below meth c G shM ad n A 3 (MQ below (zQ G shM ad n M9 (some (.int r9)) A) args s 0 0 A) 0 0 M 2 [(0, .ref (ad 0)), (1, .int b2_L1), (2, .int b2_L2)] [] := by
    intro fuel
    induction fuel with
    | zero => intro b2_L1 b2_L2 M hF; cases hF
    | succ fuel hs2 =>
      intro b2_L1 b2_L2 M hF
      have hF : F_X10_isTold_2 p0 (itF (fun _ _ _ => none) (F_X10_isTold_2 p0) fuel) b2_L1 b2_L2 M = some (r9, M9) := hF
      generalize itF (fun _ _ _ => none) (F_X10_isTold_2 p0) fuel = self2 at hs2 hF
      unfold F_X10_isTold_2 at hF
      refine z_iload_n cx d_X10_isTold_2 2 rfl ?_
      refine z_aload_n cx d_X10_isTold_3 0 rfl ?_
      refine z_getI cx hT fg_SunnyPansModel_175 d_X10_isTold_4 ?_
      refine z_icmp_ge cx 30 d_X10_isTold_7 (by decide) hF (fun hF => ?_) (fun hF => ?_)
      · refine z_iconst (v := 0) cx d_X10_isTold_30 ki_0 ?_
        exact z_iret cx hr nb0 hF d_X10_isTold_31
      refine z_aload_n cx d_X10_isTold_10 0 rfl ?_
      refine z_getR cx hT fg_SunnyPansModel_43 350 rfl d_X10_isTold_11 ?_
      refine z_iload_n cx d_X10_isTold_14 2 rfl ?_
      obtain ⟨hi1, hF⟩ := gin_inv hF
      refine z_aald cx (tfM_11_350 hT) za_32 hi1 (350 + (1 + 1 * b2_L2.toNatClampNeg)) rfl d_X10_isTold_15 ?_
      refine z_iconst (v := 0) cx d_X10_isTold_16 ki_0 ?_
      refine z_iald cx (teM_32 (tfM_11_350 hT) hi1) za_27 (zvp (by decide +kernel)) 0 rfl d_X10_isTold_17 ?_
      refine z_iload_n cx d_X10_isTold_18 1 rfl ?_
      refine z_icmp_ne cx 24 d_X10_isTold_19 (by decide) hF (fun hF => ?_) (fun hF => ?_)
      · refine z_iinc cx 2 1 [(2, .int (b2_L2 + 1)), (0, .ref (ad 0)), (1, .int b2_L1)] d_X10_isTold_24 2 rfl ki_1 (by decide) rfl ?_
        refine z_goto cx 2 d_X10_isTold_27 (by decide) ?_
        exact z_lv [1, 2, 0] _ rfl (hs2 b2_L1 (b2_L2 + 1) M hF)
      refine z_iconst (v := 1) cx d_X10_isTold_22 ki_1 ?_
      exact z_iret cx hr nb1 hF d_X10_isTold_23
  unfold F_X10_isTold at hF
  refine z_iconst (v := 0) cx d_X10_isTold_0 ki_0 ?_
  refine z_istore_n cx 2 [(2, .int (0 : Int32)), (0, .ref (ad 0)), (1, .int p0)] d_X10_isTold_1 rfl (by decide) rfl ?_
  exact z_lv [1, 2, 0] _ rfl (hL2 zFuel p0 (0 : Int32) M hF)
/-! SunnyPansModel.worstAt -/
theorem tfM_11_475 {n k : Nat} (h : zT shM n k 11) : zT shM n (k + 475) 40 := zT_off h (shM_f (by decide) (by decide +kernel)) (by decide) (by decide)
set_option maxRecDepth 100000 in
theorem wd_1433 : Cond.fieldLink "SunnyPansModel" 73 "SunnyPansModel" "then" "[[I" ∈ tbG := tw6 133 rfl rfl
theorem fg_SunnyPansModel_73 : zGetR "SunnyPansModel" 73 10 11 38 475 := ⟨RX10, TX10, 40, rfl, by decide, uw_10, wd_1433, fun _ _ _ _ _ _ => ⟨_, rfl, rfl⟩⟩
theorem za_40 : zArrR 40 64 4 1 1 := ⟨by decide, fun _ _ _ _ _ _ => rfl⟩
theorem teM_40 {n k : Nat} {i : Int32} (h : zT shM n k 40) (hi : vp_in i 64) : zT shM n (k + (1 + 1 * i.toNatClampNeg)) 16 := by
  have hlt : i.toNatClampNeg < 64 := Nat.not_le.mp fun q => hi (Or.inr q)
  have h2 : k + 65 ≤ n := h.2.2
  exact ⟨shM_e (by decide) (by decide +kernel) k h.1 _ hlt, by omega, by show _ + 1 ≤ n; omega⟩
theorem d_X10_worstAt_0 : decode cX10_worstAt 0 = .ok (.iconst 0, 1) := by decide +kernel
theorem d_X10_worstAt_1 : decode cX10_worstAt 1 = .ok (.istore_n 3, 1) := by decide +kernel
theorem d_X10_worstAt_2 : decode cX10_worstAt 2 = .ok (.iconst 0, 1) := by decide +kernel
theorem d_X10_worstAt_3 : decode cX10_worstAt 3 = .ok (.istore 4, 2) := by decide +kernel
theorem d_X10_worstAt_5 : decode cX10_worstAt 5 = .ok (.iload 4, 2) := by decide +kernel
theorem d_X10_worstAt_7 : decode cX10_worstAt 7 = .ok (.iload_n 2, 1) := by decide +kernel
theorem d_X10_worstAt_8 : decode cX10_worstAt 8 = .ok (.if_icmp .ge 65, 3) := by decide +kernel
theorem d_X10_worstAt_11 : decode cX10_worstAt 11 = .ok (.iconst 0, 1) := by decide +kernel
theorem d_X10_worstAt_12 : decode cX10_worstAt 12 = .ok (.istore 5, 2) := by decide +kernel
theorem d_X10_worstAt_14 : decode cX10_worstAt 14 = .ok (.iconst 0, 1) := by decide +kernel
theorem d_X10_worstAt_15 : decode cX10_worstAt 15 = .ok (.istore 6, 2) := by decide +kernel
theorem d_X10_worstAt_17 : decode cX10_worstAt 17 = .ok (.iload 6, 2) := by decide +kernel
theorem d_X10_worstAt_19 : decode cX10_worstAt 19 = .ok (.iload_n 2, 1) := by decide +kernel
theorem d_X10_worstAt_20 : decode cX10_worstAt 20 = .ok (.if_icmp .ge 40, 3) := by decide +kernel
theorem d_X10_worstAt_23 : decode cX10_worstAt 23 = .ok (.iload 5, 2) := by decide +kernel
theorem d_X10_worstAt_25 : decode cX10_worstAt 25 = .ok (.aload_n 0, 1) := by decide +kernel
theorem d_X10_worstAt_26 : decode cX10_worstAt 26 = .ok (.getfield 73, 3) := by decide +kernel
theorem d_X10_worstAt_29 : decode cX10_worstAt 29 = .ok (.iload 4, 2) := by decide +kernel
theorem d_X10_worstAt_31 : decode cX10_worstAt 31 = .ok (.aaload, 1) := by decide +kernel
theorem d_X10_worstAt_32 : decode cX10_worstAt 32 = .ok (.iload_n 1, 1) := by decide +kernel
theorem d_X10_worstAt_33 : decode cX10_worstAt 33 = .ok (.iaload, 1) := by decide +kernel
theorem d_X10_worstAt_34 : decode cX10_worstAt 34 = .ok (.aload_n 0, 1) := by decide +kernel
theorem d_X10_worstAt_35 : decode cX10_worstAt 35 = .ok (.getfield 73, 3) := by decide +kernel
theorem d_X10_worstAt_38 : decode cX10_worstAt 38 = .ok (.iload 6, 2) := by decide +kernel
theorem d_X10_worstAt_40 : decode cX10_worstAt 40 = .ok (.aaload, 1) := by decide +kernel
theorem d_X10_worstAt_41 : decode cX10_worstAt 41 = .ok (.iload_n 1, 1) := by decide +kernel
theorem d_X10_worstAt_42 : decode cX10_worstAt 42 = .ok (.iaload, 1) := by decide +kernel
theorem d_X10_worstAt_43 : decode cX10_worstAt 43 = .ok (.if_icmp .ne 7, 3) := by decide +kernel
theorem d_X10_worstAt_46 : decode cX10_worstAt 46 = .ok (.iconst 1, 1) := by decide +kernel
theorem d_X10_worstAt_47 : decode cX10_worstAt 47 = .ok (.goto 4, 3) := by decide +kernel
theorem d_X10_worstAt_50 : decode cX10_worstAt 50 = .ok (.iconst 0, 1) := by decide +kernel
theorem d_X10_worstAt_51 : decode cX10_worstAt 51 = .ok (.iadd, 1) := by decide +kernel
theorem d_X10_worstAt_52 : decode cX10_worstAt 52 = .ok (.istore 5, 2) := by decide +kernel
theorem d_X10_worstAt_54 : decode cX10_worstAt 54 = .ok (.iinc 6 1, 3) := by decide +kernel
theorem d_X10_worstAt_57 : decode cX10_worstAt 57 = .ok (.goto (-40), 3) := by decide +kernel
theorem d_X10_worstAt_60 : decode cX10_worstAt 60 = .ok (.iload_n 3, 1) := by decide +kernel
theorem d_X10_worstAt_61 : decode cX10_worstAt 61 = .ok (.iload 5, 2) := by decide +kernel
theorem d_X10_worstAt_63 : decode cX10_worstAt 63 = .ok (.invokestatic 218, 3) := by decide +kernel
theorem d_X10_worstAt_66 : decode cX10_worstAt 66 = .ok (.istore_n 3, 1) := by decide +kernel
theorem d_X10_worstAt_67 : decode cX10_worstAt 67 = .ok (.iinc 4 1, 3) := by decide +kernel
theorem d_X10_worstAt_70 : decode cX10_worstAt 70 = .ok (.goto (-65), 3) := by decide +kernel
theorem d_X10_worstAt_73 : decode cX10_worstAt 73 = .ok (.iload_n 3, 1) := by decide +kernel
theorem d_X10_worstAt_74 : decode cX10_worstAt 74 = .ok (.ireturn, 1) := by decide +kernel
noncomputable def F_X10_worstAt_51 (p0 : Int32) (p1 : Int32) (self5 : Int32 → Int32 → Int32 → Int32 → zMem → Option (Int32 × zMem)) (self17 : Int32 → Int32 → Int32 → Int32 → Int32 → Int32 → zMem → Option (Int32 × zMem)) (b51_L1 : Int32) (b51_L2 : Int32) (b51_L3 : Int32) (b51_L4 : Int32) (b51_L6 : Int32) (b51_S0 : Int32) (b51_S1 : Int32) (M : zMem) : Option (Int32 × zMem) :=
  zl (b51_S0 + b51_S1) fun v1 =>
  self17 b51_L1 b51_L2 b51_L3 b51_L4 v1 (b51_L6 + 1) M
noncomputable def F_X10_worstAt_17 (p0 : Int32) (p1 : Int32) (self5 : Int32 → Int32 → Int32 → Int32 → zMem → Option (Int32 × zMem)) (self17 : Int32 → Int32 → Int32 → Int32 → Int32 → Int32 → zMem → Option (Int32 × zMem)) (b17_L1 : Int32) (b17_L2 : Int32) (b17_L3 : Int32) (b17_L4 : Int32) (b17_L5 : Int32) (b17_L6 : Int32) (M : zMem) : Option (Int32 × zMem) :=
  if b17_L2 ≤ b17_L6 then
    zb (F_X10_more M b17_L3 b17_L5) fun v3 M2 =>
    self5 b17_L1 b17_L2 v3 (b17_L4 + 1) M2
  else
    gin b17_L4 64 <|
    gin b17_L1 64 <|
    gin b17_L6 64 <|
    if (M.1 (475 + (1 + 1 * b17_L4.toNatClampNeg)) b17_L1.toNatClampNeg) = (M.1 (475 + (1 + 1 * b17_L6.toNatClampNeg)) b17_L1.toNatClampNeg) then
      F_X10_worstAt_51 p0 p1 self5 self17 b17_L1 b17_L2 b17_L3 b17_L4 b17_L6 b17_L5 (1 : Int32) M
    else
      F_X10_worstAt_51 p0 p1 self5 self17 b17_L1 b17_L2 b17_L3 b17_L4 b17_L6 b17_L5 (0 : Int32) M
noncomputable def F_X10_worstAt_5 (p0 : Int32) (p1 : Int32) (self5 : Int32 → Int32 → Int32 → Int32 → zMem → Option (Int32 × zMem)) (b5_L1 : Int32) (b5_L2 : Int32) (b5_L3 : Int32) (b5_L4 : Int32) (M : zMem) : Option (Int32 × zMem) :=
  if b5_L2 ≤ b5_L4 then
    some (b5_L3, M)
  else
    itF (fun _ _ _ _ _ _ _ => none) (F_X10_worstAt_17 p0 p1 self5) zFuel b5_L1 b5_L2 b5_L3 b5_L4 (0 : Int32) (0 : Int32) M
noncomputable def F_X10_worstAt (M : zMem) (p0 : Int32) (p1 : Int32) : Option (Int32 × zMem) :=
  itF (fun _ _ _ _ _ => none) (F_X10_worstAt_5 p0 p1) zFuel p0 p1 (0 : Int32) (0 : Int32) M
def rm_X10_worstAt : Room := { frames := 3, cells := 0, slots := 0, locals := 101 }
set_option maxHeartbeats 4000000 in
set_option maxRecDepth 100000 in
theorem c_X10_worstAt (l : Launch) {G : zG} {ad : Nat → Nat} {n : Nat} (hA : zInj ad n) (M : zMem) (p0 : Int32) (p1 : Int32) (hT : zT shM n 0 11) {r9 : Int32} {M9 : zMem} (hF : F_X10_worstAt M p0 p1 = some (r9, M9)) : zM l yX10_worstAt cX10_worstAt 7 (some .int) rm_X10_worstAt G shM ad n M [.ref (ad 0), .int p0, .int p1] (some (.int r9)) M9 := by
  refine zM_of hA (by decide +kernel) (lv := [(0, .ref (ad 0)), (1, .int p0), (2, .int p1)]) (Nat.le_of_ble_eq_true rfl) rfl (fun p e s m args below meth c A cx hr => ?_)
  have hb51 : ∀ (self5 : Int32 → Int32 → Int32 → Int32 → zMem → Option (Int32 × zMem)) (hs5 : ∀ (b5_L1 : Int32) (b5_L2 : Int32) (b5_L3 : Int32) (b5_L4 : Int32) (M : zMem), self5 b5_L1 b5_L2 b5_L3 b5_L4 M = some (r9, M9) → zJ p l e rm_X10_worstAt s m args below meth c G shM ad n A 7 (MQ below (zQ G shM ad n M9 (some (.int r9)) A) args s 0 0 A) 0 0 M 5 [(0, .ref (ad 0)), (1, .int b5_L1), (2, .int b5_L2), (3, .int b5_L3), (4, .int b5_L4)] []) (self17 : Int32 → Int32 → Int32 → Int32 → Int32 → Int32 → zMem → Option (Int32 × zMem)) (hs17 : ∀ (b17_L1 : Int32) (b17_L2 : Int32) (b17_L3 : Int32) (b17_L4 : Int32) (b17_L5 : Int32) (b17_L6 : Int32) (M : zMem), self17 b17_L1 b17_L2 b17_L3 b17_L4 b17_L5 b17_L6 M = some (r9, M9) → zJ p l e rm_X10_worstAt s m args below meth c G shM ad n A 7 (MQ below (zQ G shM ad n M9 (some (.int r9)) A) args s 0 0 A) 0 0 M 17 [(0, .ref (ad 0)), (1, .int b17_L1), (2, .int b17_L2), (3, .int b17_L3), (4, .int b17_L4), (5, .int b17_L5), (6, .int b17_L6)] []), ∀ (b51_L1 : Int32) (b51_L2 : Int32) (b51_L3 : Int32) (b51_L4 : Int32) (b51_L6 : Int32) (b51_S0 : Int32) (b51_S1 : Int32) (M : zMem), F_X10_worstAt_51 p0 p1 self5 self17 b51_L1 b51_L2 b51_L3 b51_L4 b51_L6 b51_S0 b51_S1 M = some (r9, M9) → zJ p l e rm_X10_worstAt s m args below meth c G shM ad n A 7 (MQ below (zQ G shM ad n M9 (some (.int r9)) A) args s 0 0 A) 0 0 M 51 [(0, .ref (ad 0)), (1, .int b51_L1), (2, .int b51_L2), (3, .int b51_L3), (4, .int b51_L4), (6, .int b51_L6)] [.int b51_S1, .int b51_S0] := by
    intro self5 hs5 self17 hs17 b51_L1 b51_L2 b51_L3 b51_L4 b51_L6 b51_S0 b51_S1 M hF
    unfold F_X10_worstAt_51 at hF
    refine z_iadd cx d_X10_worstAt_51 ?_
    refine z_nm hF (fun v1 hF => ?_)
    refine z_istore cx 5 [(5, .int v1), (0, .ref (ad 0)), (1, .int b51_L1), (2, .int b51_L2), (3, .int b51_L3), (4, .int b51_L4), (6, .int b51_L6)] d_X10_worstAt_52 (by decide) rfl ?_
    refine z_iinc cx 6 1 [(6, .int (b51_L6 + 1)), (5, .int v1), (0, .ref (ad 0)), (1, .int b51_L1), (2, .int b51_L2), (3, .int b51_L3), (4, .int b51_L4)] d_X10_worstAt_54 6 rfl ki_1 (by decide) rfl ?_
    refine z_goto cx 17 d_X10_worstAt_57 (by decide) ?_
    exact z_lv [2, 3, 4, 5, 6, 1, 0] _ rfl (hs17 b51_L1 b51_L2 b51_L3 b51_L4 v1 (b51_L6 + 1) M hF)
  have hL17 : ∀ (self5 : Int32 → Int32 → Int32 → Int32 → zMem → Option (Int32 × zMem)) (hs5 : ∀ (b5_L1 : Int32) (b5_L2 : Int32) (b5_L3 : Int32) (b5_L4 : Int32) (M : zMem), self5 b5_L1 b5_L2 b5_L3 b5_L4 M = some (r9, M9) → zJ p l e rm_X10_worstAt s m args below meth c G shM ad n A 7 (MQ below (zQ G shM ad n M9 (some (.int r9)) A) args s 0 0 A) 0 0 M 5 [(0, .ref (ad 0)), (1, .int b5_L1), (2, .int b5_L2), (3, .int b5_L3), (4, .int b5_L4)] []) (fuel : Nat), ∀ (b17_L1 : Int32) (b17_L2 : Int32) (b17_L3 : Int32) (b17_L4 : Int32) (b17_L5 : Int32) (b17_L6 : Int32) (M : zMem), itF (fun _ _ _ _ _ _ _ => none) (F_X10_worstAt_17 p0 p1 self5) fuel b17_L1 b17_L2 b17_L3 b17_L4 b17_L5 b17_L6 M = some (r9, M9) → zJ p l e rm_X10_worstAt s m args below meth c G shM ad n A 7 (MQ below (zQ G shM ad n M9 (some (.int r9)) A) args s 0 0 A) 0 0 M 17 [(0, .ref (ad 0)), (1, .int b17_L1), (2, .int b17_L2), (3, .int b17_L3), (4, .int b17_L4), (5, .int b17_L5), (6, .int b17_L6)] [] := by
    intro self5 hs5 fuel
    induction fuel with
    | zero => intro b17_L1 b17_L2 b17_L3 b17_L4 b17_L5 b17_L6 M hF; cases hF
    | succ fuel hs17 =>
      intro b17_L1 b17_L2 b17_L3 b17_L4 b17_L5 b17_L6 M hF
      have hF : F_X10_worstAt_17 p0 p1 self5 (itF (fun _ _ _ _ _ _ _ => none) (F_X10_worstAt_17 p0 p1 self5) fuel) b17_L1 b17_L2 b17_L3 b17_L4 b17_L5 b17_L6 M = some (r9, M9) := hF
      generalize itF (fun _ _ _ _ _ _ _ => none) (F_X10_worstAt_17 p0 p1 self5) fuel = self17 at hs17 hF
      unfold F_X10_worstAt_17 at hF
      refine z_iload cx d_X10_worstAt_17 6 rfl ?_
      refine z_iload_n cx d_X10_worstAt_19 2 rfl ?_
      refine z_icmp_ge cx 60 d_X10_worstAt_20 (by decide) hF (fun hF => ?_) (fun hF => ?_)
      · refine z_iload_n cx d_X10_worstAt_60 3 rfl ?_
        refine z_iload cx d_X10_worstAt_61 5 rfl ?_
        obtain ⟨v3, M2, hc, hF⟩ := zb_inv hF
        refine z_callS cx (As := [.int b17_L3, .int b17_L5]) (rest := []) (c_X10_more l cx.2.2.2.1.1 M b17_L3 b17_L5  hc) cs_SunnyPansModel_218 ⟨rfl, rfl, Nat.le_of_ble_eq_true rfl, Nat.le_of_ble_eq_true rfl⟩ rfl rfl ⟨Nat.zero_le _, Nat.zero_le _⟩ (Nat.le_of_ble_eq_true rfl) d_X10_worstAt_63 ?_
        refine z_istore_n cx 3 [(3, .int v3), (0, .ref (ad 0)), (1, .int b17_L1), (2, .int b17_L2), (4, .int b17_L4), (5, .int b17_L5), (6, .int b17_L6)] d_X10_worstAt_66 rfl (by decide) rfl ?_
        refine z_iinc cx 4 1 [(4, .int (b17_L4 + 1)), (3, .int v3), (0, .ref (ad 0)), (1, .int b17_L1), (2, .int b17_L2), (5, .int b17_L5), (6, .int b17_L6)] d_X10_worstAt_67 4 rfl ki_1 (by decide) rfl ?_
        refine z_goto cx 5 d_X10_worstAt_70 (by decide) ?_
        exact z_lv [2, 3, 4, 1, 0] _ rfl (hs5 b17_L1 b17_L2 v3 (b17_L4 + 1) M2 hF)
      refine z_iload cx d_X10_worstAt_23 5 rfl ?_
      refine z_aload_n cx d_X10_worstAt_25 0 rfl ?_
      refine z_getR cx hT fg_SunnyPansModel_73 475 rfl d_X10_worstAt_26 ?_
      refine z_iload cx d_X10_worstAt_29 4 rfl ?_
      obtain ⟨hi4, hF⟩ := gin_inv hF
      refine z_aald cx (tfM_11_475 hT) za_40 hi4 (475 + (1 + 1 * b17_L4.toNatClampNeg)) rfl d_X10_worstAt_31 ?_
      refine z_iload_n cx d_X10_worstAt_32 1 rfl ?_
      obtain ⟨hi5, hF⟩ := gin_inv hF
      refine z_iald cx (teM_40 (tfM_11_475 hT) hi4) za_16 hi5 b17_L1.toNatClampNeg rfl d_X10_worstAt_33 ?_
      refine z_aload_n cx d_X10_worstAt_34 0 rfl ?_
      refine z_getR cx hT fg_SunnyPansModel_73 475 rfl d_X10_worstAt_35 ?_
      refine z_iload cx d_X10_worstAt_38 6 rfl ?_
      obtain ⟨hi6, hF⟩ := gin_inv hF
      refine z_aald cx (tfM_11_475 hT) za_40 hi6 (475 + (1 + 1 * b17_L6.toNatClampNeg)) rfl d_X10_worstAt_40 ?_
      refine z_iload_n cx d_X10_worstAt_41 1 rfl ?_
      refine z_iald cx (teM_40 (tfM_11_475 hT) hi6) za_16 hi5 b17_L1.toNatClampNeg rfl d_X10_worstAt_42 ?_
      refine z_icmp_ne cx 50 d_X10_worstAt_43 (by decide) hF (fun hF => ?_) (fun hF => ?_)
      · refine z_iconst (v := 0) cx d_X10_worstAt_50 ki_0 ?_
        exact z_lv [0, 1, 2, 3, 4, 6] _ rfl (hb51 self5 hs5 self17 hs17 b17_L1 b17_L2 b17_L3 b17_L4 b17_L6 b17_L5 (0 : Int32) M hF)
      refine z_iconst (v := 1) cx d_X10_worstAt_46 ki_1 ?_
      refine z_goto cx 51 d_X10_worstAt_47 (by decide) ?_
      exact z_lv [0, 1, 2, 3, 4, 6] _ rfl (hb51 self5 hs5 self17 hs17 b17_L1 b17_L2 b17_L3 b17_L4 b17_L6 b17_L5 (1 : Int32) M hF)
  have hL5 : ∀ (fuel : Nat), ∀ (b5_L1 : Int32) (b5_L2 : Int32) (b5_L3 : Int32) (b5_L4 : Int32) (M : zMem), itF (fun _ _ _ _ _ => none) (F_X10_worstAt_5 p0 p1) fuel b5_L1 b5_L2 b5_L3 b5_L4 M = some (r9, M9) → zJ p l e rm_X10_worstAt s m args below meth c G shM ad n A 7 (MQ below (zQ G shM ad n M9 (some (.int r9)) A) args s 0 0 A) 0 0 M 5 [(0, .ref (ad 0)), (1, .int b5_L1), (2, .int b5_L2), (3, .int b5_L3), (4, .int b5_L4)] [] := by
    intro fuel
    induction fuel with
    | zero => intro b5_L1 b5_L2 b5_L3 b5_L4 M hF; cases hF
    | succ fuel hs5 =>
      intro b5_L1 b5_L2 b5_L3 b5_L4 M hF
      have hF : F_X10_worstAt_5 p0 p1 (itF (fun _ _ _ _ _ => none) (F_X10_worstAt_5 p0 p1) fuel) b5_L1 b5_L2 b5_L3 b5_L4 M = some (r9, M9) := hF
      generalize itF (fun _ _ _ _ _ => none) (F_X10_worstAt_5 p0 p1) fuel = self5 at hs5 hF
      unfold F_X10_worstAt_5 at hF
      refine z_iload cx d_X10_worstAt_5 4 rfl ?_
      refine z_iload_n cx d_X10_worstAt_7 2 rfl ?_
      refine z_icmp_ge cx 73 d_X10_worstAt_8 (by decide) hF (fun hF => ?_) (fun hF => ?_)
      · refine z_iload_n cx d_X10_worstAt_73 3 rfl ?_
        exact z_iret cx hr rfl hF d_X10_worstAt_74
      refine z_iconst (v := 0) cx d_X10_worstAt_11 ki_0 ?_
      refine z_istore cx 5 [(5, .int (0 : Int32)), (0, .ref (ad 0)), (1, .int b5_L1), (2, .int b5_L2), (3, .int b5_L3), (4, .int b5_L4)] d_X10_worstAt_12 (by decide) rfl ?_
      refine z_iconst (v := 0) cx d_X10_worstAt_14 ki_0 ?_
      refine z_istore cx 6 [(6, .int (0 : Int32)), (5, .int (0 : Int32)), (0, .ref (ad 0)), (1, .int b5_L1), (2, .int b5_L2), (3, .int b5_L3), (4, .int b5_L4)] d_X10_worstAt_15 (by decide) rfl ?_
      exact z_lv [2, 3, 4, 5, 6, 1, 0] _ rfl (hL17 self5 hs5 zFuel b5_L1 b5_L2 b5_L3 b5_L4 (0 : Int32) (0 : Int32) M hF)
  unfold F_X10_worstAt at hF
  refine z_iconst (v := 0) cx d_X10_worstAt_0 ki_0 ?_
  refine z_istore_n cx 3 [(3, .int (0 : Int32)), (0, .ref (ad 0)), (1, .int p0), (2, .int p1)] d_X10_worstAt_1 rfl (by decide) rfl ?_
  refine z_iconst (v := 0) cx d_X10_worstAt_2 ki_0 ?_
  refine z_istore cx 4 [(4, .int (0 : Int32)), (3, .int (0 : Int32)), (0, .ref (ad 0)), (1, .int p0), (2, .int p1)] d_X10_worstAt_3 (by decide) rfl ?_
  exact z_lv [2, 3, 4, 1, 0] _ rfl (hL5 zFuel p0 p1 (0 : Int32) (0 : Int32) M hF)
/-! SunnyPansModel.look -/
set_option maxRecDepth 100000 in
theorem wd_1863 : Cond.code yX10_isTold cX10_isTold 3 (some .boolean) ∈ tbG := tw8 83 rfl rfl
set_option maxRecDepth 100000 in
theorem wd_1860 : Cond.methodLink "SunnyPansModel" 360 yX10_isTold ∈ tbG := tw8 80 rfl rfl
set_option maxRecDepth 100000 in
theorem wd_1862 : Cond.instanceMethod yX10_isTold ∈ tbG := tw8 82 rfl rfl
theorem wd_92 : Cond.selects "SunnyPansModel" yX10_isTold yX10_isTold ∈ tbG := tw 92 (by decide +kernel) rfl
theorem cv_SunnyPansModel_360 : zCV "SunnyPansModel" 360 "SunnyPansModel" yX10_isTold cX10_isTold 3 (some .boolean) 1 := zCV_of wd_1860 wd_1862 wd_92 wd_111 wd_1863 (by decide +kernel)
set_option maxRecDepth 100000 in
theorem wd_1867 : Cond.code yX10_worstAt cX10_worstAt 7 (some .int) ∈ tbG := tw8 87 rfl rfl
set_option maxRecDepth 100000 in
theorem wd_1864 : Cond.methodLink "SunnyPansModel" 363 yX10_worstAt ∈ tbG := tw8 84 rfl rfl
set_option maxRecDepth 100000 in
theorem wd_1866 : Cond.instanceMethod yX10_worstAt ∈ tbG := tw8 86 rfl rfl
theorem wd_93 : Cond.selects "SunnyPansModel" yX10_worstAt yX10_worstAt ∈ tbG := tw 93 (by decide +kernel) rfl
theorem cv_SunnyPansModel_363 : zCV "SunnyPansModel" 363 "SunnyPansModel" yX10_worstAt cX10_worstAt 7 (some .int) 2 := zCV_of wd_1864 wd_1866 wd_93 wd_111 wd_1867 (by decide +kernel)
theorem d_X10_look_0 : decode cX10_look 0 = .ok (.aload_n 0, 1) := by decide +kernel
theorem d_X10_look_1 : decode cX10_look 1 = .ok (.iconst 0, 1) := by decide +kernel
theorem d_X10_look_2 : decode cX10_look 2 = .ok (.putfield 82, 3) := by decide +kernel
theorem d_X10_look_5 : decode cX10_look 5 = .ok (.aload_n 0, 1) := by decide +kernel
theorem d_X10_look_6 : decode cX10_look 6 = .ok (.iload_n 1, 1) := by decide +kernel
theorem d_X10_look_7 : decode cX10_look 7 = .ok (.iconst 1, 1) := by decide +kernel
theorem d_X10_look_8 : decode cX10_look 8 = .ok (.sipush 999, 3) := by decide +kernel
theorem d_X10_look_11 : decode cX10_look 11 = .ok (.invokestatic 116, 3) := by decide +kernel
theorem d_X10_look_14 : decode cX10_look 14 = .ok (.ifCond .eq 12, 3) := by decide +kernel
theorem d_X10_look_17 : decode cX10_look 17 = .ok (.iload_n 2, 1) := by decide +kernel
theorem d_X10_look_18 : decode cX10_look 18 = .ok (.iconst 0, 1) := by decide +kernel
theorem d_X10_look_19 : decode cX10_look 19 = .ok (.iconst 1, 1) := by decide +kernel
theorem d_X10_look_20 : decode cX10_look 20 = .ok (.invokestatic 116, 3) := by decide +kernel
theorem d_X10_look_23 : decode cX10_look 23 = .ok (.ifCond .ne 7, 3) := by decide +kernel
theorem d_X10_look_26 : decode cX10_look 26 = .ok (.iconst 1, 1) := by decide +kernel
theorem d_X10_look_27 : decode cX10_look 27 = .ok (.goto 4, 3) := by decide +kernel
theorem d_X10_look_30 : decode cX10_look 30 = .ok (.iconst 0, 1) := by decide +kernel
theorem d_X10_look_31 : decode cX10_look 31 = .ok (.iconst 1, 1) := by decide +kernel
theorem d_X10_look_32 : decode cX10_look 32 = .ok (.iconst 1, 1) := by decide +kernel
theorem d_X10_look_33 : decode cX10_look 33 = .ok (.invokevirtual 155, 3) := by decide +kernel
theorem d_X10_look_36 : decode cX10_look 36 = .ok (.ifCond .eq 5, 3) := by decide +kernel
theorem d_X10_look_39 : decode cX10_look 39 = .ok (.iconst 0, 1) := by decide +kernel
theorem d_X10_look_40 : decode cX10_look 40 = .ok (.ireturn, 1) := by decide +kernel
theorem d_X10_look_41 : decode cX10_look 41 = .ok (.iconst 0, 1) := by decide +kernel
theorem d_X10_look_42 : decode cX10_look 42 = .ok (.istore_n 3, 1) := by decide +kernel
theorem d_X10_look_43 : decode cX10_look 43 = .ok (.iconst 0, 1) := by decide +kernel
theorem d_X10_look_44 : decode cX10_look 44 = .ok (.istore 4, 2) := by decide +kernel
theorem d_X10_look_46 : decode cX10_look 46 = .ok (.iload 4, 2) := by decide +kernel
theorem d_X10_look_48 : decode cX10_look 48 = .ok (.bipush 64, 2) := by decide +kernel
theorem d_X10_look_50 : decode cX10_look 50 = .ok (.if_icmp .ge 68, 3) := by decide +kernel
theorem d_X10_look_53 : decode cX10_look 53 = .ok (.aload_n 0, 1) := by decide +kernel
theorem d_X10_look_54 : decode cX10_look 54 = .ok (.iload 4, 2) := by decide +kernel
theorem d_X10_look_56 : decode cX10_look 56 = .ok (.invokevirtual 348, 3) := by decide +kernel
theorem d_X10_look_59 : decode cX10_look 59 = .ok (.ifCond .eq 53, 3) := by decide +kernel
theorem d_X10_look_62 : decode cX10_look 62 = .ok (.aload_n 0, 1) := by decide +kernel
theorem d_X10_look_63 : decode cX10_look 63 = .ok (.iload 4, 2) := by decide +kernel
theorem d_X10_look_65 : decode cX10_look 65 = .ok (.iload_n 1, 1) := by decide +kernel
theorem d_X10_look_66 : decode cX10_look 66 = .ok (.invokevirtual 357, 3) := by decide +kernel
theorem d_X10_look_69 : decode cX10_look 69 = .ok (.ifCond .ne 6, 3) := by decide +kernel
theorem d_X10_look_72 : decode cX10_look 72 = .ok (.goto 40, 3) := by decide +kernel
theorem d_X10_look_75 : decode cX10_look 75 = .ok (.iconst 0, 1) := by decide +kernel
theorem d_X10_look_76 : decode cX10_look 76 = .ok (.istore 5, 2) := by decide +kernel
theorem d_X10_look_78 : decode cX10_look 78 = .ok (.iload 5, 2) := by decide +kernel
theorem d_X10_look_80 : decode cX10_look 80 = .ok (.bipush 64, 2) := by decide +kernel
theorem d_X10_look_82 : decode cX10_look 82 = .ok (.if_icmp .ge 27, 3) := by decide +kernel
theorem d_X10_look_85 : decode cX10_look 85 = .ok (.aload_n 0, 1) := by decide +kernel
theorem d_X10_look_86 : decode cX10_look 86 = .ok (.getfield 73, 3) := by decide +kernel
theorem d_X10_look_89 : decode cX10_look 89 = .ok (.iload_n 3, 1) := by decide +kernel
theorem d_X10_look_90 : decode cX10_look 90 = .ok (.aaload, 1) := by decide +kernel
theorem d_X10_look_91 : decode cX10_look 91 = .ok (.iload 5, 2) := by decide +kernel
theorem d_X10_look_93 : decode cX10_look 93 = .ok (.aload_n 0, 1) := by decide +kernel
theorem d_X10_look_94 : decode cX10_look 94 = .ok (.getfield 61, 3) := by decide +kernel
theorem d_X10_look_97 : decode cX10_look 97 = .ok (.iconst 0, 1) := by decide +kernel
theorem d_X10_look_98 : decode cX10_look 98 = .ok (.iload 5, 2) := by decide +kernel
theorem d_X10_look_100 : decode cX10_look 100 = .ok (.iadd, 1) := by decide +kernel
theorem d_X10_look_101 : decode cX10_look 101 = .ok (.iaload, 1) := by decide +kernel
theorem d_X10_look_102 : decode cX10_look 102 = .ok (.iastore, 1) := by decide +kernel
theorem d_X10_look_103 : decode cX10_look 103 = .ok (.iinc 5 1, 3) := by decide +kernel
theorem d_X10_look_106 : decode cX10_look 106 = .ok (.goto (-28), 3) := by decide +kernel
theorem d_X10_look_109 : decode cX10_look 109 = .ok (.iinc 3 1, 3) := by decide +kernel
theorem d_X10_look_112 : decode cX10_look 112 = .ok (.iinc 4 1, 3) := by decide +kernel
theorem d_X10_look_115 : decode cX10_look 115 = .ok (.goto (-69), 3) := by decide +kernel
theorem d_X10_look_118 : decode cX10_look 118 = .ok (.iconst (-1), 1) := by decide +kernel
theorem d_X10_look_119 : decode cX10_look 119 = .ok (.istore 4, 2) := by decide +kernel
theorem d_X10_look_121 : decode cX10_look 121 = .ok (.iconst (-1), 1) := by decide +kernel
theorem d_X10_look_122 : decode cX10_look 122 = .ok (.istore 5, 2) := by decide +kernel
theorem d_X10_look_124 : decode cX10_look 124 = .ok (.iconst 0, 1) := by decide +kernel
theorem d_X10_look_125 : decode cX10_look 125 = .ok (.istore 6, 2) := by decide +kernel
theorem d_X10_look_127 : decode cX10_look 127 = .ok (.iload 6, 2) := by decide +kernel
theorem d_X10_look_129 : decode cX10_look 129 = .ok (.bipush 64, 2) := by decide +kernel
theorem d_X10_look_131 : decode cX10_look 131 = .ok (.if_icmp .ge 63, 3) := by decide +kernel
theorem d_X10_look_134 : decode cX10_look 134 = .ok (.aload_n 0, 1) := by decide +kernel
theorem d_X10_look_135 : decode cX10_look 135 = .ok (.iload 6, 2) := by decide +kernel
theorem d_X10_look_137 : decode cX10_look 137 = .ok (.invokevirtual 284, 3) := by decide +kernel
theorem d_X10_look_140 : decode cX10_look 140 = .ok (.ifCond .eq 48, 3) := by decide +kernel
theorem d_X10_look_143 : decode cX10_look 143 = .ok (.aload_n 0, 1) := by decide +kernel
theorem d_X10_look_144 : decode cX10_look 144 = .ok (.iload 6, 2) := by decide +kernel
theorem d_X10_look_146 : decode cX10_look 146 = .ok (.invokevirtual 360, 3) := by decide +kernel
theorem d_X10_look_149 : decode cX10_look 149 = .ok (.ifCond .eq 6, 3) := by decide +kernel
theorem d_X10_look_152 : decode cX10_look 152 = .ok (.goto 36, 3) := by decide +kernel
theorem d_X10_look_155 : decode cX10_look 155 = .ok (.aload_n 0, 1) := by decide +kernel
theorem d_X10_look_156 : decode cX10_look 156 = .ok (.iload 6, 2) := by decide +kernel
theorem d_X10_look_158 : decode cX10_look 158 = .ok (.iload_n 3, 1) := by decide +kernel
theorem d_X10_look_159 : decode cX10_look 159 = .ok (.invokevirtual 363, 3) := by decide +kernel
theorem d_X10_look_162 : decode cX10_look 162 = .ok (.istore 7, 2) := by decide +kernel
theorem d_X10_look_164 : decode cX10_look 164 = .ok (.iload 4, 2) := by decide +kernel
theorem d_X10_look_166 : decode cX10_look 166 = .ok (.iconst (-1), 1) := by decide +kernel
theorem d_X10_look_167 : decode cX10_look 167 = .ok (.if_icmp .eq 13, 3) := by decide +kernel
theorem d_X10_look_170 : decode cX10_look 170 = .ok (.iload 7, 2) := by decide +kernel
theorem d_X10_look_172 : decode cX10_look 172 = .ok (.iload 5, 2) := by decide +kernel
theorem d_X10_look_174 : decode cX10_look 174 = .ok (.if_icmp .lt 6, 3) := by decide +kernel
theorem d_X10_look_177 : decode cX10_look 177 = .ok (.goto 11, 3) := by decide +kernel
theorem d_X10_look_180 : decode cX10_look 180 = .ok (.iload 6, 2) := by decide +kernel
theorem d_X10_look_182 : decode cX10_look 182 = .ok (.istore 4, 2) := by decide +kernel
theorem d_X10_look_184 : decode cX10_look 184 = .ok (.iload 7, 2) := by decide +kernel
theorem d_X10_look_186 : decode cX10_look 186 = .ok (.istore 5, 2) := by decide +kernel
theorem d_X10_look_188 : decode cX10_look 188 = .ok (.iinc 6 1, 3) := by decide +kernel
theorem d_X10_look_191 : decode cX10_look 191 = .ok (.goto (-64), 3) := by decide +kernel
theorem d_X10_look_194 : decode cX10_look 194 = .ok (.iload_n 2, 1) := by decide +kernel
theorem d_X10_look_195 : decode cX10_look 195 = .ok (.ifCond .ne 11, 3) := by decide +kernel
theorem d_X10_look_198 : decode cX10_look 198 = .ok (.iload 4, 2) := by decide +kernel
theorem d_X10_look_200 : decode cX10_look 200 = .ok (.invokestatic 345, 3) := by decide +kernel
theorem d_X10_look_203 : decode cX10_look 203 = .ok (.goto 5, 3) := by decide +kernel
theorem d_X10_look_206 : decode cX10_look 206 = .ok (.iload 5, 2) := by decide +kernel
theorem d_X10_look_208 : decode cX10_look 208 = .ok (.ireturn, 1) := by decide +kernel
noncomputable def F_X10_look_188 (p0 : Int32) (p1 : Int32) (self127 : Int32 → Int32 → Int32 → Int32 → Int32 → zMem → Option (Int32 × zMem)) (b188_L2 : Int32) (b188_L3 : Int32) (b188_L4 : Int32) (b188_L5 : Int32) (b188_L6 : Int32) (M : zMem) : Option (Int32 × zMem) :=
  self127 b188_L2 b188_L3 b188_L4 b188_L5 (b188_L6 + 1) M
noncomputable def F_X10_look_180 (p0 : Int32) (p1 : Int32) (self127 : Int32 → Int32 → Int32 → Int32 → Int32 → zMem → Option (Int32 × zMem)) (b180_L2 : Int32) (b180_L3 : Int32) (b180_L6 : Int32) (b180_L7 : Int32) (M : zMem) : Option (Int32 × zMem) :=
  F_X10_look_188 p0 p1 self127 b180_L2 b180_L3 b180_L6 b180_L7 b180_L6 M
noncomputable def F_X10_look_127 (p0 : Int32) (p1 : Int32) (self127 : Int32 → Int32 → Int32 → Int32 → Int32 → zMem → Option (Int32 × zMem)) (b127_L2 : Int32) (b127_L3 : Int32) (b127_L4 : Int32) (b127_L5 : Int32) (b127_L6 : Int32) (M : zMem) : Option (Int32 × zMem) :=
  if (64 : Int32) ≤ b127_L6 then
    if b127_L2 = 0 then
      zb (F_X10_asTold M b127_L4) fun v2 M1 =>
      some (v2, M1)
    else
      some (b127_L5, M)
  else
    zb (F_X10_isHere M b127_L6) fun v4 M3 =>
    if v4 = 0 then
      F_X10_look_188 p0 p1 self127 b127_L2 b127_L3 b127_L4 b127_L5 b127_L6 M3
    else
      zb (F_X10_isTold M3 b127_L6) fun v6 M5 =>
      if v6 = 0 then
        zb (F_X10_worstAt M5 b127_L6 b127_L3) fun v8 M7 =>
        if b127_L4 = (-1 : Int32) then
          F_X10_look_180 p0 p1 self127 b127_L2 b127_L3 b127_L6 v8 M7
        else
          if v8 < b127_L5 then
            F_X10_look_180 p0 p1 self127 b127_L2 b127_L3 b127_L6 v8 M7
          else
            F_X10_look_188 p0 p1 self127 b127_L2 b127_L3 b127_L4 b127_L5 b127_L6 M7
      else
        F_X10_look_188 p0 p1 self127 b127_L2 b127_L3 b127_L4 b127_L5 b127_L6 M5
noncomputable def F_X10_look_112 (p0 : Int32) (p1 : Int32) (self46 : Int32 → Int32 → Int32 → Int32 → zMem → Option (Int32 × zMem)) (b112_L1 : Int32) (b112_L2 : Int32) (b112_L3 : Int32) (b112_L4 : Int32) (M : zMem) : Option (Int32 × zMem) :=
  self46 b112_L1 b112_L2 b112_L3 (b112_L4 + 1) M
noncomputable def F_X10_look_78 (p0 : Int32) (p1 : Int32) (self46 : Int32 → Int32 → Int32 → Int32 → zMem → Option (Int32 × zMem)) (self78 : Int32 → Int32 → Int32 → Int32 → Int32 → zMem → Option (Int32 × zMem)) (b78_L1 : Int32) (b78_L2 : Int32) (b78_L3 : Int32) (b78_L4 : Int32) (b78_L5 : Int32) (M : zMem) : Option (Int32 × zMem) :=
  if (64 : Int32) ≤ b78_L5 then
    F_X10_look_112 p0 p1 self46 b78_L1 b78_L2 (b78_L3 + 1) b78_L4 M
  else
    gin b78_L3 64 <|
    gin ((0 : Int32) + b78_L5) 195 <|
    gin b78_L5 64 <|
    zl (zI M (475 + (1 + 1 * b78_L3.toNatClampNeg)) b78_L5.toNatClampNeg (M.1 452 ((0 : Int32) + b78_L5).toNatClampNeg)) fun M12 =>
    self78 b78_L1 b78_L2 b78_L3 b78_L4 (b78_L5 + 1) M12
noncomputable def F_X10_look_46 (p0 : Int32) (p1 : Int32) (self46 : Int32 → Int32 → Int32 → Int32 → zMem → Option (Int32 × zMem)) (b46_L1 : Int32) (b46_L2 : Int32) (b46_L3 : Int32) (b46_L4 : Int32) (M : zMem) : Option (Int32 × zMem) :=
  if (64 : Int32) ≤ b46_L4 then
    itF (fun _ _ _ _ _ _ => none) (F_X10_look_127 p0 p1) zFuel b46_L2 b46_L3 (-1 : Int32) (-1 : Int32) (0 : Int32) M
  else
    zb (F_X10_isFree M b46_L4) fun v14 M13 =>
    if v14 = 0 then
      F_X10_look_112 p0 p1 self46 b46_L1 b46_L2 b46_L3 b46_L4 M13
    else
      zb (F_X10_isSo M13 b46_L4 b46_L1) fun v16 M15 =>
      if v16 = 0 then
        F_X10_look_112 p0 p1 self46 b46_L1 b46_L2 b46_L3 b46_L4 M15
      else
        itF (fun _ _ _ _ _ _ => none) (F_X10_look_78 p0 p1 self46) zFuel b46_L1 b46_L2 b46_L3 b46_L4 (0 : Int32) M15
noncomputable def F_X10_look_31 (p0 : Int32) (p1 : Int32) (b31_L1 : Int32) (b31_L2 : Int32) (b31_S1 : Int32) (M : zMem) : Option (Int32 × zMem) :=
  zb (F_X10_bad M b31_S1 (1 : Int32) (1 : Int32)) fun v18 M17 =>
  if v18 = 0 then
    itF (fun _ _ _ _ _ => none) (F_X10_look_46 p0 p1) zFuel b31_L1 b31_L2 (0 : Int32) (0 : Int32) M17
  else
    some ((0 : Int32), M17)
noncomputable def F_X10_look (M : zMem) (p0 : Int32) (p1 : Int32) : Option (Int32 × zMem) :=
  zl (zI M 0 0 (0 : Int32)) fun M19 =>
  zb (F_X10_in M19 p0 (1 : Int32) (999 : Int32)) fun v21 M20 =>
  if v21 = 0 then
    F_X10_look_31 p0 p1 p0 p1 (1 : Int32) M20
  else
    zb (F_X10_in M20 p1 (0 : Int32) (1 : Int32)) fun v23 M22 =>
    if v23 = 0 then
      F_X10_look_31 p0 p1 p0 p1 (1 : Int32) M22
    else
      F_X10_look_31 p0 p1 p0 p1 (0 : Int32) M22
def rm_X10_look : Room := { frames := 10, cells := 0, slots := 0, locals := 263 }
set_option maxHeartbeats 4000000 in
set_option maxRecDepth 100000 in
theorem c_X10_look (l : Launch) {G : zG} {ad : Nat → Nat} {n : Nat} (hA : zInj ad n) (M : zMem) (p0 : Int32) (p1 : Int32) (hT : zT shM n 0 11) {r9 : Int32} {M9 : zMem} (hF : F_X10_look M p0 p1 = some (r9, M9)) : zM l yX10_look cX10_look 8 (some .int) rm_X10_look G shM ad n M [.ref (ad 0), .int p0, .int p1] (some (.int r9)) M9 := by
  refine zM_of hA (by decide +kernel) (lv := [(0, .ref (ad 0)), (1, .int p0), (2, .int p1)]) (Nat.le_of_ble_eq_true rfl) rfl (fun p e s m args below meth c A cx hr => ?_)
  have hb188 : ∀ (self127 : Int32 → Int32 → Int32 → Int32 → Int32 → zMem → Option (Int32 × zMem)) (hs127 : ∀ (b127_L2 : Int32) (b127_L3 : Int32) (b127_L4 : Int32) (b127_L5 : Int32) (b127_L6 : Int32) (M : zMem), self127 b127_L2 b127_L3 b127_L4 b127_L5 b127_L6 M = some (r9, M9) → zJ p l e rm_X10_look s m args below meth c G shM ad n A 8 (MQ below (zQ G shM ad n M9 (some (.int r9)) A) args s 0 0 A) 0 0 M 127 [(0, .ref (ad 0)), (2, .int b127_L2), (3, .int b127_L3), (4, .int b127_L4), (5, .int b127_L5), (6, .int b127_L6)] []), ∀ (b188_L2 : Int32) (b188_L3 : Int32) (b188_L4 : Int32) (b188_L5 : Int32) (b188_L6 : Int32) (M : zMem), F_X10_look_188 p0 p1 self127 b188_L2 b188_L3 b188_L4 b188_L5 b188_L6 M = some (r9, M9) → zJ p l e rm_X10_look s m args below meth c G shM ad n A 8 (MQ below (zQ G shM ad n M9 (some (.int r9)) A) args s 0 0 A) 0 0 M 188 [(0, .ref (ad 0)), (2, .int b188_L2), (3, .int b188_L3), (4, .int b188_L4), (5, .int b188_L5), (6, .int b188_L6)] [] := by
    intro self127 hs127 b188_L2 b188_L3 b188_L4 b188_L5 b188_L6 M hF
    unfold F_X10_look_188 at hF
    refine z_iinc cx 6 1 [(6, .int (b188_L6 + 1)), (0, .ref (ad 0)), (2, .int b188_L2), (3, .int b188_L3), (4, .int b188_L4), (5, .int b188_L5)] d_X10_look_188 5 rfl ki_1 (by decide) rfl ?_
    refine z_goto cx 127 d_X10_look_191 (by decide) ?_
    exact z_lv [1, 2, 3, 4, 5, 0] _ rfl (hs127 b188_L2 b188_L3 b188_L4 b188_L5 (b188_L6 + 1) M hF)
  have hb180 : ∀ (self127 : Int32 → Int32 → Int32 → Int32 → Int32 → zMem → Option (Int32 × zMem)) (hs127 : ∀ (b127_L2 : Int32) (b127_L3 : Int32) (b127_L4 : Int32) (b127_L5 : Int32) (b127_L6 : Int32) (M : zMem), self127 b127_L2 b127_L3 b127_L4 b127_L5 b127_L6 M = some (r9, M9) → zJ p l e rm_X10_look s m args below meth c G shM ad n A 8 (MQ below (zQ G shM ad n M9 (some (.int r9)) A) args s 0 0 A) 0 0 M 127 [(0, .ref (ad 0)), (2, .int b127_L2), (3, .int b127_L3), (4, .int b127_L4), (5, .int b127_L5), (6, .int b127_L6)] []), ∀ (b180_L2 : Int32) (b180_L3 : Int32) (b180_L6 : Int32) (b180_L7 : Int32) (M : zMem), F_X10_look_180 p0 p1 self127 b180_L2 b180_L3 b180_L6 b180_L7 M = some (r9, M9) → zJ p l e rm_X10_look s m args below meth c G shM ad n A 8 (MQ below (zQ G shM ad n M9 (some (.int r9)) A) args s 0 0 A) 0 0 M 180 [(0, .ref (ad 0)), (2, .int b180_L2), (3, .int b180_L3), (6, .int b180_L6), (7, .int b180_L7)] [] := by
    intro self127 hs127 b180_L2 b180_L3 b180_L6 b180_L7 M hF
    unfold F_X10_look_180 at hF
    refine z_iload cx d_X10_look_180 3 rfl ?_
    refine z_istore cx 4 [(4, .int b180_L6), (0, .ref (ad 0)), (2, .int b180_L2), (3, .int b180_L3), (6, .int b180_L6), (7, .int b180_L7)] d_X10_look_182 (by decide) rfl ?_
    refine z_iload cx d_X10_look_184 5 rfl ?_
    refine z_istore cx 5 [(5, .int b180_L7), (4, .int b180_L6), (0, .ref (ad 0)), (2, .int b180_L2), (3, .int b180_L3), (6, .int b180_L6), (7, .int b180_L7)] d_X10_look_186 (by decide) rfl ?_
    exact z_lv [2, 3, 4, 1, 0, 5] _ rfl (hb188 self127 hs127 b180_L2 b180_L3 b180_L6 b180_L7 b180_L6 M hF)
  have hL127 : ∀ (fuel : Nat), ∀ (b127_L2 : Int32) (b127_L3 : Int32) (b127_L4 : Int32) (b127_L5 : Int32) (b127_L6 : Int32) (M : zMem), itF (fun _ _ _ _ _ _ => none) (F_X10_look_127 p0 p1) fuel b127_L2 b127_L3 b127_L4 b127_L5 b127_L6 M = some (r9, M9) → zJ p l e rm_X10_look s m args below meth c G shM ad n A 8 (MQ below (zQ G shM ad n M9 (some (.int r9)) A) args s 0 0 A) 0 0 M 127 [(0, .ref (ad 0)), (2, .int b127_L2), (3, .int b127_L3), (4, .int b127_L4), (5, .int b127_L5), (6, .int b127_L6)] [] := by
    intro fuel
    induction fuel with
    | zero => intro b127_L2 b127_L3 b127_L4 b127_L5 b127_L6 M hF; cases hF
    | succ fuel hs127 =>
      intro b127_L2 b127_L3 b127_L4 b127_L5 b127_L6 M hF
      have hF : F_X10_look_127 p0 p1 (itF (fun _ _ _ _ _ _ => none) (F_X10_look_127 p0 p1) fuel) b127_L2 b127_L3 b127_L4 b127_L5 b127_L6 M = some (r9, M9) := hF
      generalize itF (fun _ _ _ _ _ _ => none) (F_X10_look_127 p0 p1) fuel = self127 at hs127 hF
      unfold F_X10_look_127 at hF
      refine z_iload cx d_X10_look_127 5 rfl ?_
      refine z_bipush (v := 64) cx d_X10_look_129 kb_64 ?_
      refine z_icmp_ge cx 194 d_X10_look_131 (by decide) hF (fun hF => ?_) (fun hF => ?_)
      · refine z_iload_n cx d_X10_look_194 1 rfl ?_
        refine z_if_ne cx 206 d_X10_look_195 (by decide) hF (fun hF => ?_) (fun hF => ?_)
        · refine z_iload cx d_X10_look_206 4 rfl ?_
          exact z_iret cx hr rfl hF d_X10_look_208
        refine z_iload cx d_X10_look_198 3 rfl ?_
        obtain ⟨v2, M1, hc, hF⟩ := zb_inv hF
        refine z_callS cx (As := [.int b127_L4]) (rest := []) (c_X10_asTold l cx.2.2.2.1.1 M b127_L4  hc) cs_SunnyPansModel_345 ⟨rfl, rfl, Nat.le_of_ble_eq_true rfl, Nat.le_of_ble_eq_true rfl⟩ rfl rfl ⟨Nat.zero_le _, Nat.zero_le _⟩ (Nat.le_of_ble_eq_true rfl) d_X10_look_200 ?_
        refine z_goto cx 208 d_X10_look_203 (by decide) ?_
        exact z_iret cx hr rfl hF d_X10_look_208
      refine z_aload_n cx d_X10_look_134 0 rfl ?_
      refine z_iload cx d_X10_look_135 5 rfl ?_
      obtain ⟨v4, M3, hc, hF⟩ := zb_inv hF
      refine z_callV cx (As := [.int b127_L6]) (rest := []) (c_X10_isHere l cx.2.2.2.1.1 M b127_L6 hT hc) hT zo_11 cv_SunnyPansModel_284 ⟨rfl, rfl, Nat.le_of_ble_eq_true rfl, Nat.le_of_ble_eq_true rfl⟩ rfl rfl ⟨Nat.zero_le _, Nat.zero_le _⟩ (Nat.le_of_ble_eq_true rfl) d_X10_look_137 ?_
      refine z_if_eq cx 188 d_X10_look_140 (by decide) hF (fun hF => ?_) (fun hF => ?_)
      · exact hb188 self127 hs127 b127_L2 b127_L3 b127_L4 b127_L5 b127_L6 M3 hF
      refine z_aload_n cx d_X10_look_143 0 rfl ?_
      refine z_iload cx d_X10_look_144 5 rfl ?_
      obtain ⟨v6, M5, hc, hF⟩ := zb_inv hF
      refine z_callV cx (As := [.int b127_L6]) (rest := []) (c_X10_isTold l cx.2.2.2.1.1 M3 b127_L6 hT hc) hT zo_11 cv_SunnyPansModel_360 ⟨rfl, rfl, Nat.le_of_ble_eq_true rfl, Nat.le_of_ble_eq_true rfl⟩ rfl rfl ⟨Nat.zero_le _, Nat.zero_le _⟩ (Nat.le_of_ble_eq_true rfl) d_X10_look_146 ?_
      refine z_if_eq cx 155 d_X10_look_149 (by decide) hF (fun hF => ?_) (fun hF => ?_)
      · refine z_aload_n cx d_X10_look_155 0 rfl ?_
        refine z_iload cx d_X10_look_156 5 rfl ?_
        refine z_iload_n cx d_X10_look_158 2 rfl ?_
        obtain ⟨v8, M7, hc, hF⟩ := zb_inv hF
        refine z_callV cx (As := [.int b127_L6, .int b127_L3]) (rest := []) (c_X10_worstAt l cx.2.2.2.1.1 M5 b127_L6 b127_L3 hT hc) hT zo_11 cv_SunnyPansModel_363 ⟨rfl, rfl, Nat.le_of_ble_eq_true rfl, Nat.le_of_ble_eq_true rfl⟩ rfl rfl ⟨Nat.zero_le _, Nat.zero_le _⟩ (Nat.le_of_ble_eq_true rfl) d_X10_look_159 ?_
        refine z_istore cx 7 [(7, .int v8), (0, .ref (ad 0)), (2, .int b127_L2), (3, .int b127_L3), (4, .int b127_L4), (5, .int b127_L5), (6, .int b127_L6)] d_X10_look_162 (by decide) rfl ?_
        refine z_iload cx d_X10_look_164 4 rfl ?_
        refine z_iconst (v := -1) cx d_X10_look_166 ki_m1 ?_
        refine z_icmp_eq cx 180 d_X10_look_167 (by decide) hF (fun hF => ?_) (fun hF => ?_)
        · exact z_lv [1, 2, 3, 6, 0] _ rfl (hb180 self127 hs127 b127_L2 b127_L3 b127_L6 v8 M7 hF)
        refine z_iload cx d_X10_look_170 0 rfl ?_
        refine z_iload cx d_X10_look_172 5 rfl ?_
        refine z_icmp_lt cx 180 d_X10_look_174 (by decide) hF (fun hF => ?_) (fun hF => ?_)
        · exact z_lv [1, 2, 3, 6, 0] _ rfl (hb180 self127 hs127 b127_L2 b127_L3 b127_L6 v8 M7 hF)
        refine z_goto cx 188 d_X10_look_177 (by decide) ?_
        exact z_lv [1, 2, 3, 4, 5, 6] _ rfl (hb188 self127 hs127 b127_L2 b127_L3 b127_L4 b127_L5 b127_L6 M7 hF)
      refine z_goto cx 188 d_X10_look_152 (by decide) ?_
      exact hb188 self127 hs127 b127_L2 b127_L3 b127_L4 b127_L5 b127_L6 M5 hF
  have hb112 : ∀ (self46 : Int32 → Int32 → Int32 → Int32 → zMem → Option (Int32 × zMem)) (hs46 : ∀ (b46_L1 : Int32) (b46_L2 : Int32) (b46_L3 : Int32) (b46_L4 : Int32) (M : zMem), self46 b46_L1 b46_L2 b46_L3 b46_L4 M = some (r9, M9) → zJ p l e rm_X10_look s m args below meth c G shM ad n A 8 (MQ below (zQ G shM ad n M9 (some (.int r9)) A) args s 0 0 A) 0 0 M 46 [(0, .ref (ad 0)), (1, .int b46_L1), (2, .int b46_L2), (3, .int b46_L3), (4, .int b46_L4)] []), ∀ (b112_L1 : Int32) (b112_L2 : Int32) (b112_L3 : Int32) (b112_L4 : Int32) (M : zMem), F_X10_look_112 p0 p1 self46 b112_L1 b112_L2 b112_L3 b112_L4 M = some (r9, M9) → zJ p l e rm_X10_look s m args below meth c G shM ad n A 8 (MQ below (zQ G shM ad n M9 (some (.int r9)) A) args s 0 0 A) 0 0 M 112 [(0, .ref (ad 0)), (1, .int b112_L1), (2, .int b112_L2), (3, .int b112_L3), (4, .int b112_L4)] [] := by
    intro self46 hs46 b112_L1 b112_L2 b112_L3 b112_L4 M hF
    unfold F_X10_look_112 at hF
    refine z_iinc cx 4 1 [(4, .int (b112_L4 + 1)), (0, .ref (ad 0)), (1, .int b112_L1), (2, .int b112_L2), (3, .int b112_L3)] d_X10_look_112 4 rfl ki_1 (by decide) rfl ?_
    refine z_goto cx 46 d_X10_look_115 (by decide) ?_
    exact z_lv [1, 2, 3, 4, 0] _ rfl (hs46 b112_L1 b112_L2 b112_L3 (b112_L4 + 1) M hF)
  have hL78 : ∀ (self46 : Int32 → Int32 → Int32 → Int32 → zMem → Option (Int32 × zMem)) (hs46 : ∀ (b46_L1 : Int32) (b46_L2 : Int32) (b46_L3 : Int32) (b46_L4 : Int32) (M : zMem), self46 b46_L1 b46_L2 b46_L3 b46_L4 M = some (r9, M9) → zJ p l e rm_X10_look s m args below meth c G shM ad n A 8 (MQ below (zQ G shM ad n M9 (some (.int r9)) A) args s 0 0 A) 0 0 M 46 [(0, .ref (ad 0)), (1, .int b46_L1), (2, .int b46_L2), (3, .int b46_L3), (4, .int b46_L4)] []) (fuel : Nat), ∀ (b78_L1 : Int32) (b78_L2 : Int32) (b78_L3 : Int32) (b78_L4 : Int32) (b78_L5 : Int32) (M : zMem), itF (fun _ _ _ _ _ _ => none) (F_X10_look_78 p0 p1 self46) fuel b78_L1 b78_L2 b78_L3 b78_L4 b78_L5 M = some (r9, M9) → zJ p l e rm_X10_look s m args below meth c G shM ad n A 8 (MQ below (zQ G shM ad n M9 (some (.int r9)) A) args s 0 0 A) 0 0 M 78 [(0, .ref (ad 0)), (1, .int b78_L1), (2, .int b78_L2), (3, .int b78_L3), (4, .int b78_L4), (5, .int b78_L5)] [] := by
    intro self46 hs46 fuel
    induction fuel with
    | zero => intro b78_L1 b78_L2 b78_L3 b78_L4 b78_L5 M hF; cases hF
    | succ fuel hs78 =>
      intro b78_L1 b78_L2 b78_L3 b78_L4 b78_L5 M hF
      have hF : F_X10_look_78 p0 p1 self46 (itF (fun _ _ _ _ _ _ => none) (F_X10_look_78 p0 p1 self46) fuel) b78_L1 b78_L2 b78_L3 b78_L4 b78_L5 M = some (r9, M9) := hF
      generalize itF (fun _ _ _ _ _ _ => none) (F_X10_look_78 p0 p1 self46) fuel = self78 at hs78 hF
      unfold F_X10_look_78 at hF
      refine z_iload cx d_X10_look_78 5 rfl ?_
      refine z_bipush (v := 64) cx d_X10_look_80 kb_64 ?_
      refine z_icmp_ge cx 109 d_X10_look_82 (by decide) hF (fun hF => ?_) (fun hF => ?_)
      · refine z_iinc cx 3 1 [(3, .int (b78_L3 + 1)), (0, .ref (ad 0)), (1, .int b78_L1), (2, .int b78_L2), (4, .int b78_L4), (5, .int b78_L5)] d_X10_look_109 3 rfl ki_1 (by decide) rfl ?_
        exact z_lv [1, 2, 3, 0, 4] _ rfl (hb112 self46 hs46 b78_L1 b78_L2 (b78_L3 + 1) b78_L4 M hF)
      refine z_aload_n cx d_X10_look_85 0 rfl ?_
      refine z_getR cx hT fg_SunnyPansModel_73 475 rfl d_X10_look_86 ?_
      refine z_iload_n cx d_X10_look_89 3 rfl ?_
      obtain ⟨hi9, hF⟩ := gin_inv hF
      refine z_aald cx (tfM_11_475 hT) za_40 hi9 (475 + (1 + 1 * b78_L3.toNatClampNeg)) rfl d_X10_look_90 ?_
      refine z_iload cx d_X10_look_91 5 rfl ?_
      refine z_aload_n cx d_X10_look_93 0 rfl ?_
      refine z_getR cx hT fg_SunnyPansModel_61 452 rfl d_X10_look_94 ?_
      refine z_iconst (v := 0) cx d_X10_look_97 ki_0 ?_
      refine z_iload cx d_X10_look_98 5 rfl ?_
      refine z_iadd cx d_X10_look_100 ?_
      obtain ⟨hi10, hF⟩ := gin_inv hF
      refine z_iald cx (tfM_11_452 hT) za_36 hi10 (((0 : Int32) + b78_L5).toNatClampNeg) rfl d_X10_look_101 ?_
      obtain ⟨hi11, hF⟩ := gin_inv hF
      refine z_iast cx (teM_40 (tfM_11_475 hT) hi9) za_16 hi11 b78_L5.toNatClampNeg rfl d_X10_look_102 ?_
      refine z_nmM hF (fun M12 hF => ?_)
      refine z_iinc cx 5 1 [(5, .int (b78_L5 + 1)), (0, .ref (ad 0)), (1, .int b78_L1), (2, .int b78_L2), (3, .int b78_L3), (4, .int b78_L4)] d_X10_look_103 5 rfl ki_1 (by decide) rfl ?_
      refine z_goto cx 78 d_X10_look_106 (by decide) ?_
      exact z_lv [1, 2, 3, 4, 5, 0] _ rfl (hs78 b78_L1 b78_L2 b78_L3 b78_L4 (b78_L5 + 1) M12 hF)
  have hL46 : ∀ (fuel : Nat), ∀ (b46_L1 : Int32) (b46_L2 : Int32) (b46_L3 : Int32) (b46_L4 : Int32) (M : zMem), itF (fun _ _ _ _ _ => none) (F_X10_look_46 p0 p1) fuel b46_L1 b46_L2 b46_L3 b46_L4 M = some (r9, M9) → zJ p l e rm_X10_look s m args below meth c G shM ad n A 8 (MQ below (zQ G shM ad n M9 (some (.int r9)) A) args s 0 0 A) 0 0 M 46 [(0, .ref (ad 0)), (1, .int b46_L1), (2, .int b46_L2), (3, .int b46_L3), (4, .int b46_L4)] [] := by
    intro fuel
    induction fuel with
    | zero => intro b46_L1 b46_L2 b46_L3 b46_L4 M hF; cases hF
    | succ fuel hs46 =>
      intro b46_L1 b46_L2 b46_L3 b46_L4 M hF
      have hF : F_X10_look_46 p0 p1 (itF (fun _ _ _ _ _ => none) (F_X10_look_46 p0 p1) fuel) b46_L1 b46_L2 b46_L3 b46_L4 M = some (r9, M9) := hF
      generalize itF (fun _ _ _ _ _ => none) (F_X10_look_46 p0 p1) fuel = self46 at hs46 hF
      unfold F_X10_look_46 at hF
      refine z_iload cx d_X10_look_46 4 rfl ?_
      refine z_bipush (v := 64) cx d_X10_look_48 kb_64 ?_
      refine z_icmp_ge cx 118 d_X10_look_50 (by decide) hF (fun hF => ?_) (fun hF => ?_)
      · refine z_iconst (v := -1) cx d_X10_look_118 ki_m1 ?_
        refine z_istore cx 4 [(4, .int (-1 : Int32)), (0, .ref (ad 0)), (1, .int b46_L1), (2, .int b46_L2), (3, .int b46_L3)] d_X10_look_119 (by decide) rfl ?_
        refine z_iconst (v := -1) cx d_X10_look_121 ki_m1 ?_
        refine z_istore cx 5 [(5, .int (-1 : Int32)), (4, .int (-1 : Int32)), (0, .ref (ad 0)), (1, .int b46_L1), (2, .int b46_L2), (3, .int b46_L3)] d_X10_look_122 (by decide) rfl ?_
        refine z_iconst (v := 0) cx d_X10_look_124 ki_0 ?_
        refine z_istore cx 6 [(6, .int (0 : Int32)), (5, .int (-1 : Int32)), (4, .int (-1 : Int32)), (0, .ref (ad 0)), (1, .int b46_L1), (2, .int b46_L2), (3, .int b46_L3)] d_X10_look_125 (by decide) rfl ?_
        exact z_lv [3, 5, 6, 2, 1, 0] _ rfl (hL127 zFuel b46_L2 b46_L3 (-1 : Int32) (-1 : Int32) (0 : Int32) M hF)
      refine z_aload_n cx d_X10_look_53 0 rfl ?_
      refine z_iload cx d_X10_look_54 4 rfl ?_
      obtain ⟨v14, M13, hc, hF⟩ := zb_inv hF
      refine z_callV cx (As := [.int b46_L4]) (rest := []) (c_X10_isFree l cx.2.2.2.1.1 M b46_L4 hT hc) hT zo_11 cv_SunnyPansModel_348 ⟨rfl, rfl, Nat.le_of_ble_eq_true rfl, Nat.le_of_ble_eq_true rfl⟩ rfl rfl ⟨Nat.zero_le _, Nat.zero_le _⟩ (Nat.le_of_ble_eq_true rfl) d_X10_look_56 ?_
      refine z_if_eq cx 112 d_X10_look_59 (by decide) hF (fun hF => ?_) (fun hF => ?_)
      · exact hb112 self46 hs46 b46_L1 b46_L2 b46_L3 b46_L4 M13 hF
      refine z_aload_n cx d_X10_look_62 0 rfl ?_
      refine z_iload cx d_X10_look_63 4 rfl ?_
      refine z_iload_n cx d_X10_look_65 1 rfl ?_
      obtain ⟨v16, M15, hc, hF⟩ := zb_inv hF
      refine z_callV cx (As := [.int b46_L4, .int b46_L1]) (rest := []) (c_X10_isSo l cx.2.2.2.1.1 M13 b46_L4 b46_L1 hT hc) hT zo_11 cv_SunnyPansModel_357 ⟨rfl, rfl, Nat.le_of_ble_eq_true rfl, Nat.le_of_ble_eq_true rfl⟩ rfl rfl ⟨Nat.zero_le _, Nat.zero_le _⟩ (Nat.le_of_ble_eq_true rfl) d_X10_look_66 ?_
      refine z_if_ne cx 75 d_X10_look_69 (by decide) hF (fun hF => ?_) (fun hF => ?_)
      · refine z_iconst (v := 0) cx d_X10_look_75 ki_0 ?_
        refine z_istore cx 5 [(5, .int (0 : Int32)), (0, .ref (ad 0)), (1, .int b46_L1), (2, .int b46_L2), (3, .int b46_L3), (4, .int b46_L4)] d_X10_look_76 (by decide) rfl ?_
        exact z_lv [1, 2, 3, 4, 5, 0] _ rfl (hL78 self46 hs46 zFuel b46_L1 b46_L2 b46_L3 b46_L4 (0 : Int32) M15 hF)
      refine z_goto cx 112 d_X10_look_72 (by decide) ?_
      exact hb112 self46 hs46 b46_L1 b46_L2 b46_L3 b46_L4 M15 hF
  have hb31 : ∀ (b31_L1 : Int32) (b31_L2 : Int32) (b31_S1 : Int32) (M : zMem), F_X10_look_31 p0 p1 b31_L1 b31_L2 b31_S1 M = some (r9, M9) → zJ p l e rm_X10_look s m args below meth c G shM ad n A 8 (MQ below (zQ G shM ad n M9 (some (.int r9)) A) args s 0 0 A) 0 0 M 31 [(0, .ref (ad 0)), (1, .int b31_L1), (2, .int b31_L2)] [.int b31_S1, .ref (ad 0)] := by
    intro b31_L1 b31_L2 b31_S1 M hF
    unfold F_X10_look_31 at hF
    refine z_iconst (v := 1) cx d_X10_look_31 ki_1 ?_
    refine z_iconst (v := 1) cx d_X10_look_32 ki_1 ?_
    obtain ⟨v18, M17, hc, hF⟩ := zb_inv hF
    refine z_callV cx (As := [.int b31_S1, .int (1 : Int32), .int (1 : Int32)]) (rest := []) (c_X10_bad l cx.2.2.2.1.1 M b31_S1 (1 : Int32) (1 : Int32) hT hc) hT zo_11 cv_SunnyPansModel_155 ⟨rfl, rfl, Nat.le_of_ble_eq_true rfl, Nat.le_of_ble_eq_true rfl⟩ rfl rfl ⟨Nat.zero_le _, Nat.zero_le _⟩ (Nat.le_of_ble_eq_true rfl) d_X10_look_33 ?_
    refine z_if_eq cx 41 d_X10_look_36 (by decide) hF (fun hF => ?_) (fun hF => ?_)
    · refine z_iconst (v := 0) cx d_X10_look_41 ki_0 ?_
      refine z_istore_n cx 3 [(3, .int (0 : Int32)), (0, .ref (ad 0)), (1, .int b31_L1), (2, .int b31_L2)] d_X10_look_42 rfl (by decide) rfl ?_
      refine z_iconst (v := 0) cx d_X10_look_43 ki_0 ?_
      refine z_istore cx 4 [(4, .int (0 : Int32)), (3, .int (0 : Int32)), (0, .ref (ad 0)), (1, .int b31_L1), (2, .int b31_L2)] d_X10_look_44 (by decide) rfl ?_
      exact z_lv [2, 3, 4, 1, 0] _ rfl (hL46 zFuel b31_L1 b31_L2 (0 : Int32) (0 : Int32) M17 hF)
    refine z_iconst (v := 0) cx d_X10_look_39 ki_0 ?_
    exact z_iret cx hr rfl hF d_X10_look_40
  unfold F_X10_look at hF
  refine z_aload_n cx d_X10_look_0 0 rfl ?_
  refine z_iconst (v := 0) cx d_X10_look_1 ki_0 ?_
  refine z_putI cx hT fp_SunnyPansModel_82 d_X10_look_2 ?_
  refine z_nmM hF (fun M19 hF => ?_)
  refine z_aload_n cx d_X10_look_5 0 rfl ?_
  refine z_iload_n cx d_X10_look_6 1 rfl ?_
  refine z_iconst (v := 1) cx d_X10_look_7 ki_1 ?_
  refine z_sipush (v := 999) cx d_X10_look_8 ks_999 ?_
  obtain ⟨v21, M20, hc, hF⟩ := zb_inv hF
  refine z_callS cx (As := [.int p0, .int (1 : Int32), .int (999 : Int32)]) (rest := [.ref (ad 0)]) (c_X10_in l cx.2.2.2.1.1 M19 p0 (1 : Int32) (999 : Int32)  hc) cs_SunnyPansModel_116 ⟨rfl, rfl, Nat.le_of_ble_eq_true rfl, Nat.le_of_ble_eq_true rfl⟩ rfl rfl ⟨Nat.zero_le _, Nat.zero_le _⟩ (Nat.le_of_ble_eq_true rfl) d_X10_look_11 ?_
  refine z_if_eq cx 26 d_X10_look_14 (by decide) hF (fun hF => ?_) (fun hF => ?_)
  · refine z_iconst (v := 1) cx d_X10_look_26 ki_1 ?_
    refine z_goto cx 31 d_X10_look_27 (by decide) ?_
    exact hb31 p0 p1 (1 : Int32) M20 hF
  refine z_iload_n cx d_X10_look_17 2 rfl ?_
  refine z_iconst (v := 0) cx d_X10_look_18 ki_0 ?_
  refine z_iconst (v := 1) cx d_X10_look_19 ki_1 ?_
  obtain ⟨v23, M22, hc, hF⟩ := zb_inv hF
  refine z_callS cx (As := [.int p1, .int (0 : Int32), .int (1 : Int32)]) (rest := [.ref (ad 0)]) (c_X10_in l cx.2.2.2.1.1 M20 p1 (0 : Int32) (1 : Int32)  hc) cs_SunnyPansModel_116 ⟨rfl, rfl, Nat.le_of_ble_eq_true rfl, Nat.le_of_ble_eq_true rfl⟩ rfl rfl ⟨Nat.zero_le _, Nat.zero_le _⟩ (Nat.le_of_ble_eq_true rfl) d_X10_look_20 ?_
  refine z_if_ne cx 30 d_X10_look_23 (by decide) hF (fun hF => ?_) (fun hF => ?_)
  · refine z_iconst (v := 0) cx d_X10_look_30 ki_0 ?_
    exact hb31 p0 p1 (0 : Int32) M22 hF
  refine z_iconst (v := 1) cx d_X10_look_26 ki_1 ?_
  refine z_goto cx 31 d_X10_look_27 (by decide) ?_
  exact hb31 p0 p1 (1 : Int32) M22 hF
/-! SunnyPansModel.givenBy -/
set_option maxRecDepth 100000 in
theorem wd_1879 : Cond.code yX10_has cX10_has 2 (some .boolean) ∈ tbG := tw8 99 rfl rfl
set_option maxRecDepth 100000 in
theorem wd_1877 : Cond.methodLink "SunnyPansModel" 366 yX10_has ∈ tbG := tw8 97 rfl rfl
set_option maxRecDepth 100000 in
theorem wd_1878 : Cond.static yX10_has ∈ tbG := tw8 98 rfl rfl
theorem cs_SunnyPansModel_366 : zCS "SunnyPansModel" 366 yX10_has cX10_has 2 (some .boolean) 2 := zCS_of wd_1877 wd_1878 wd_111 wd_1879 (by decide +kernel)
theorem d_X10_givenBy_0 : decode cX10_givenBy 0 = .ok (.iconst 0, 1) := by decide +kernel
theorem d_X10_givenBy_1 : decode cX10_givenBy 1 = .ok (.istore 4, 2) := by decide +kernel
theorem d_X10_givenBy_3 : decode cX10_givenBy 3 = .ok (.iconst 0, 1) := by decide +kernel
theorem d_X10_givenBy_4 : decode cX10_givenBy 4 = .ok (.istore 5, 2) := by decide +kernel
theorem d_X10_givenBy_6 : decode cX10_givenBy 6 = .ok (.iload 5, 2) := by decide +kernel
theorem d_X10_givenBy_8 : decode cX10_givenBy 8 = .ok (.aload_n 0, 1) := by decide +kernel
theorem d_X10_givenBy_9 : decode cX10_givenBy 9 = .ok (.getfield 23, 3) := by decide +kernel
theorem d_X10_givenBy_12 : decode cX10_givenBy 12 = .ok (.iconst 0, 1) := by decide +kernel
theorem d_X10_givenBy_13 : decode cX10_givenBy 13 = .ok (.iaload, 1) := by decide +kernel
theorem d_X10_givenBy_14 : decode cX10_givenBy 14 = .ok (.if_icmp .ge 45, 3) := by decide +kernel
theorem d_X10_givenBy_17 : decode cX10_givenBy 17 = .ok (.iload 4, 2) := by decide +kernel
theorem d_X10_givenBy_19 : decode cX10_givenBy 19 = .ok (.iload_n 2, 1) := by decide +kernel
theorem d_X10_givenBy_20 : decode cX10_givenBy 20 = .ok (.iload 5, 2) := by decide +kernel
theorem d_X10_givenBy_22 : decode cX10_givenBy 22 = .ok (.invokestatic 366, 3) := by decide +kernel
theorem d_X10_givenBy_25 : decode cX10_givenBy 25 = .ok (.ifCond .eq 24, 3) := by decide +kernel
theorem d_X10_givenBy_28 : decode cX10_givenBy 28 = .ok (.iload_n 3, 1) := by decide +kernel
theorem d_X10_givenBy_29 : decode cX10_givenBy 29 = .ok (.aload_n 0, 1) := by decide +kernel
theorem d_X10_givenBy_30 : decode cX10_givenBy 30 = .ok (.getfield 58, 3) := by decide +kernel
theorem d_X10_givenBy_33 : decode cX10_givenBy 33 = .ok (.iconst 0, 1) := by decide +kernel
theorem d_X10_givenBy_34 : decode cX10_givenBy 34 = .ok (.bipush 8, 2) := by decide +kernel
theorem d_X10_givenBy_36 : decode cX10_givenBy 36 = .ok (.iload_n 1, 1) := by decide +kernel
theorem d_X10_givenBy_37 : decode cX10_givenBy 37 = .ok (.imul, 1) := by decide +kernel
theorem d_X10_givenBy_38 : decode cX10_givenBy 38 = .ok (.iadd, 1) := by decide +kernel
theorem d_X10_givenBy_39 : decode cX10_givenBy 39 = .ok (.iload 5, 2) := by decide +kernel
theorem d_X10_givenBy_41 : decode cX10_givenBy 41 = .ok (.iadd, 1) := by decide +kernel
theorem d_X10_givenBy_42 : decode cX10_givenBy 42 = .ok (.iaload, 1) := by decide +kernel
theorem d_X10_givenBy_43 : decode cX10_givenBy 43 = .ok (.invokestatic 215, 3) := by decide +kernel
theorem d_X10_givenBy_46 : decode cX10_givenBy 46 = .ok (.goto 4, 3) := by decide +kernel
theorem d_X10_givenBy_49 : decode cX10_givenBy 49 = .ok (.iconst 0, 1) := by decide +kernel
theorem d_X10_givenBy_50 : decode cX10_givenBy 50 = .ok (.iadd, 1) := by decide +kernel
theorem d_X10_givenBy_51 : decode cX10_givenBy 51 = .ok (.istore 4, 2) := by decide +kernel
theorem d_X10_givenBy_53 : decode cX10_givenBy 53 = .ok (.iinc 5 1, 3) := by decide +kernel
theorem d_X10_givenBy_56 : decode cX10_givenBy 56 = .ok (.goto (-50), 3) := by decide +kernel
theorem d_X10_givenBy_59 : decode cX10_givenBy 59 = .ok (.iload 4, 2) := by decide +kernel
theorem d_X10_givenBy_61 : decode cX10_givenBy 61 = .ok (.ireturn, 1) := by decide +kernel
noncomputable def F_X10_givenBy_50 (p0 : Int32) (p1 : Int32) (p2 : Int32) (self6 : Int32 → Int32 → Int32 → Int32 → Int32 → zMem → Option (Int32 × zMem)) (b50_L1 : Int32) (b50_L2 : Int32) (b50_L3 : Int32) (b50_L5 : Int32) (b50_S0 : Int32) (b50_S1 : Int32) (M : zMem) : Option (Int32 × zMem) :=
  zl (b50_S0 + b50_S1) fun v1 =>
  self6 b50_L1 b50_L2 b50_L3 v1 (b50_L5 + 1) M
noncomputable def F_X10_givenBy_6 (p0 : Int32) (p1 : Int32) (p2 : Int32) (self6 : Int32 → Int32 → Int32 → Int32 → Int32 → zMem → Option (Int32 × zMem)) (b6_L1 : Int32) (b6_L2 : Int32) (b6_L3 : Int32) (b6_L4 : Int32) (b6_L5 : Int32) (M : zMem) : Option (Int32 × zMem) :=
  if (M.1 4 0) ≤ b6_L5 then
    some (b6_L4, M)
  else
    zb (F_X10_has M b6_L2 b6_L5) fun v3 M2 =>
    if v3 = 0 then
      F_X10_givenBy_50 p0 p1 p2 self6 b6_L1 b6_L2 b6_L3 b6_L5 b6_L4 (0 : Int32) M2
    else
      gin (((0 : Int32) + ((8 : Int32) * b6_L1)) + b6_L5) 195 <|
      zb (F_X10_less M2 b6_L3 (M2.1 451 (((0 : Int32) + ((8 : Int32) * b6_L1)) + b6_L5).toNatClampNeg)) fun v6 M5 =>
      F_X10_givenBy_50 p0 p1 p2 self6 b6_L1 b6_L2 b6_L3 b6_L5 b6_L4 v6 M5
noncomputable def F_X10_givenBy (M : zMem) (p0 : Int32) (p1 : Int32) (p2 : Int32) : Option (Int32 × zMem) :=
  itF (fun _ _ _ _ _ _ => none) (F_X10_givenBy_6 p0 p1 p2) zFuel p0 p1 p2 (0 : Int32) (0 : Int32) M
def rm_X10_givenBy : Room := { frames := 3, cells := 0, slots := 0, locals := 101 }
set_option maxHeartbeats 4000000 in
set_option maxRecDepth 100000 in
theorem c_X10_givenBy (l : Launch) {G : zG} {ad : Nat → Nat} {n : Nat} (hA : zInj ad n) (M : zMem) (p0 : Int32) (p1 : Int32) (p2 : Int32) (hT : zT shM n 0 11) {r9 : Int32} {M9 : zMem} (hF : F_X10_givenBy M p0 p1 p2 = some (r9, M9)) : zM l yX10_givenBy cX10_givenBy 6 (some .int) rm_X10_givenBy G shM ad n M [.ref (ad 0), .int p0, .int p1, .int p2] (some (.int r9)) M9 := by
  refine zM_of hA (by decide +kernel) (lv := [(0, .ref (ad 0)), (1, .int p0), (2, .int p1), (3, .int p2)]) (Nat.le_of_ble_eq_true rfl) rfl (fun p e s m args below meth c A cx hr => ?_)
  have hb50 : ∀ (self6 : Int32 → Int32 → Int32 → Int32 → Int32 → zMem → Option (Int32 × zMem)) (hs6 : ∀ (b6_L1 : Int32) (b6_L2 : Int32) (b6_L3 : Int32) (b6_L4 : Int32) (b6_L5 : Int32) (M : zMem), self6 b6_L1 b6_L2 b6_L3 b6_L4 b6_L5 M = some (r9, M9) → zJ p l e rm_X10_givenBy s m args below meth c G shM ad n A 6 (MQ below (zQ G shM ad n M9 (some (.int r9)) A) args s 0 0 A) 0 0 M 6 [(0, .ref (ad 0)), (1, .int b6_L1), (2, .int b6_L2), (3, .int b6_L3), (4, .int b6_L4), (5, .int b6_L5)] []), ∀ (b50_L1 : Int32) (b50_L2 : Int32) (b50_L3 : Int32) (b50_L5 : Int32) (b50_S0 : Int32) (b50_S1 : Int32) (M : zMem), F_X10_givenBy_50 p0 p1 p2 self6 b50_L1 b50_L2 b50_L3 b50_L5 b50_S0 b50_S1 M = some (r9, M9) → zJ p l e rm_X10_givenBy s m args below meth c G shM ad n A 6 (MQ below (zQ G shM ad n M9 (some (.int r9)) A) args s 0 0 A) 0 0 M 50 [(0, .ref (ad 0)), (1, .int b50_L1), (2, .int b50_L2), (3, .int b50_L3), (5, .int b50_L5)] [.int b50_S1, .int b50_S0] := by
    intro self6 hs6 b50_L1 b50_L2 b50_L3 b50_L5 b50_S0 b50_S1 M hF
    unfold F_X10_givenBy_50 at hF
    refine z_iadd cx d_X10_givenBy_50 ?_
    refine z_nm hF (fun v1 hF => ?_)
    refine z_istore cx 4 [(4, .int v1), (0, .ref (ad 0)), (1, .int b50_L1), (2, .int b50_L2), (3, .int b50_L3), (5, .int b50_L5)] d_X10_givenBy_51 (by decide) rfl ?_
    refine z_iinc cx 5 1 [(5, .int (b50_L5 + 1)), (4, .int v1), (0, .ref (ad 0)), (1, .int b50_L1), (2, .int b50_L2), (3, .int b50_L3)] d_X10_givenBy_53 5 rfl ki_1 (by decide) rfl ?_
    refine z_goto cx 6 d_X10_givenBy_56 (by decide) ?_
    exact z_lv [2, 3, 4, 5, 1, 0] _ rfl (hs6 b50_L1 b50_L2 b50_L3 v1 (b50_L5 + 1) M hF)
  have hL6 : ∀ (fuel : Nat), ∀ (b6_L1 : Int32) (b6_L2 : Int32) (b6_L3 : Int32) (b6_L4 : Int32) (b6_L5 : Int32) (M : zMem), itF (fun _ _ _ _ _ _ => none) (F_X10_givenBy_6 p0 p1 p2) fuel b6_L1 b6_L2 b6_L3 b6_L4 b6_L5 M = some (r9, M9) → zJ p l e rm_X10_givenBy s m args below meth c G shM ad n A 6 (MQ below (zQ G shM ad n M9 (some (.int r9)) A) args s 0 0 A) 0 0 M 6 [(0, .ref (ad 0)), (1, .int b6_L1), (2, .int b6_L2), (3, .int b6_L3), (4, .int b6_L4), (5, .int b6_L5)] [] := by
    intro fuel
    induction fuel with
    | zero => intro b6_L1 b6_L2 b6_L3 b6_L4 b6_L5 M hF; cases hF
    | succ fuel hs6 =>
      intro b6_L1 b6_L2 b6_L3 b6_L4 b6_L5 M hF
      have hF : F_X10_givenBy_6 p0 p1 p2 (itF (fun _ _ _ _ _ _ => none) (F_X10_givenBy_6 p0 p1 p2) fuel) b6_L1 b6_L2 b6_L3 b6_L4 b6_L5 M = some (r9, M9) := hF
      generalize itF (fun _ _ _ _ _ _ => none) (F_X10_givenBy_6 p0 p1 p2) fuel = self6 at hs6 hF
      unfold F_X10_givenBy_6 at hF
      refine z_iload cx d_X10_givenBy_6 5 rfl ?_
      refine z_aload_n cx d_X10_givenBy_8 0 rfl ?_
      refine z_getR cx hT fg_SunnyPansModel_23 4 rfl d_X10_givenBy_9 ?_
      refine z_iconst (v := 0) cx d_X10_givenBy_12 ki_0 ?_
      refine z_iald cx (tfM_11_4 hT) za_28 (zvp (by decide +kernel)) 0 rfl d_X10_givenBy_13 ?_
      refine z_icmp_ge cx 59 d_X10_givenBy_14 (by decide) hF (fun hF => ?_) (fun hF => ?_)
      · refine z_iload cx d_X10_givenBy_59 4 rfl ?_
        exact z_iret cx hr rfl hF d_X10_givenBy_61
      refine z_iload cx d_X10_givenBy_17 4 rfl ?_
      refine z_iload_n cx d_X10_givenBy_19 2 rfl ?_
      refine z_iload cx d_X10_givenBy_20 5 rfl ?_
      obtain ⟨v3, M2, hc, hF⟩ := zb_inv hF
      refine z_callS cx (As := [.int b6_L2, .int b6_L5]) (rest := [.int b6_L4]) (c_X10_has l cx.2.2.2.1.1 M b6_L2 b6_L5  hc) cs_SunnyPansModel_366 ⟨rfl, rfl, Nat.le_of_ble_eq_true rfl, Nat.le_of_ble_eq_true rfl⟩ rfl rfl ⟨Nat.zero_le _, Nat.zero_le _⟩ (Nat.le_of_ble_eq_true rfl) d_X10_givenBy_22 ?_
      refine z_if_eq cx 49 d_X10_givenBy_25 (by decide) hF (fun hF => ?_) (fun hF => ?_)
      · refine z_iconst (v := 0) cx d_X10_givenBy_49 ki_0 ?_
        exact z_lv [0, 1, 2, 3, 5] _ rfl (hb50 self6 hs6 b6_L1 b6_L2 b6_L3 b6_L5 b6_L4 (0 : Int32) M2 hF)
      refine z_iload_n cx d_X10_givenBy_28 3 rfl ?_
      refine z_aload_n cx d_X10_givenBy_29 0 rfl ?_
      refine z_getR cx hT fg_SunnyPansModel_58 451 rfl d_X10_givenBy_30 ?_
      refine z_iconst (v := 0) cx d_X10_givenBy_33 ki_0 ?_
      refine z_bipush (v := 8) cx d_X10_givenBy_34 kb_8 ?_
      refine z_iload_n cx d_X10_givenBy_36 1 rfl ?_
      refine z_imul cx d_X10_givenBy_37 ?_
      refine z_iadd cx d_X10_givenBy_38 ?_
      refine z_iload cx d_X10_givenBy_39 5 rfl ?_
      refine z_iadd cx d_X10_givenBy_41 ?_
      obtain ⟨hi4, hF⟩ := gin_inv hF
      refine z_iald cx (tfM_11_451 hT) za_36 hi4 ((((0 : Int32) + ((8 : Int32) * b6_L1)) + b6_L5).toNatClampNeg) rfl d_X10_givenBy_42 ?_
      obtain ⟨v6, M5, hc, hF⟩ := zb_inv hF
      refine z_callS cx (As := [.int b6_L3, .int (M2.1 451 (((0 : Int32) + ((8 : Int32) * b6_L1)) + b6_L5).toNatClampNeg)]) (rest := [.int b6_L4]) (c_X10_less l cx.2.2.2.1.1 M2 b6_L3 (M2.1 451 (((0 : Int32) + ((8 : Int32) * b6_L1)) + b6_L5).toNatClampNeg)  hc) cs_SunnyPansModel_215 ⟨rfl, rfl, Nat.le_of_ble_eq_true rfl, Nat.le_of_ble_eq_true rfl⟩ rfl rfl ⟨Nat.zero_le _, Nat.zero_le _⟩ (Nat.le_of_ble_eq_true rfl) d_X10_givenBy_43 ?_
      refine z_goto cx 50 d_X10_givenBy_46 (by decide) ?_
      exact z_lv [0, 1, 2, 3, 5] _ rfl (hb50 self6 hs6 b6_L1 b6_L2 b6_L3 b6_L5 b6_L4 v6 M5 hF)
  unfold F_X10_givenBy at hF
  refine z_iconst (v := 0) cx d_X10_givenBy_0 ki_0 ?_
  refine z_istore cx 4 [(4, .int (0 : Int32)), (0, .ref (ad 0)), (1, .int p0), (2, .int p1), (3, .int p2)] d_X10_givenBy_1 (by decide) rfl ?_
  refine z_iconst (v := 0) cx d_X10_givenBy_3 ki_0 ?_
  refine z_istore cx 5 [(5, .int (0 : Int32)), (4, .int (0 : Int32)), (0, .ref (ad 0)), (1, .int p0), (2, .int p1), (3, .int p2)] d_X10_givenBy_4 (by decide) rfl ?_
  exact z_lv [2, 3, 4, 5, 1, 0] _ rfl (hL6 zFuel p0 p1 p2 (0 : Int32) (0 : Int32) M hF)
/-! SunnyPansModel.water -/
set_option maxRecDepth 100000 in
theorem wd_1876 : Cond.code yX10_givenBy cX10_givenBy 6 (some .int) ∈ tbG := tw8 96 rfl rfl
set_option maxRecDepth 100000 in
theorem wd_1873 : Cond.methodLink "SunnyPansModel" 370 yX10_givenBy ∈ tbG := tw8 93 rfl rfl
set_option maxRecDepth 100000 in
theorem wd_1875 : Cond.instanceMethod yX10_givenBy ∈ tbG := tw8 95 rfl rfl
theorem wd_94 : Cond.selects "SunnyPansModel" yX10_givenBy yX10_givenBy ∈ tbG := tw 94 (by decide +kernel) rfl
theorem cv_SunnyPansModel_370 : zCV "SunnyPansModel" 370 "SunnyPansModel" yX10_givenBy cX10_givenBy 6 (some .int) 3 := zCV_of wd_1873 wd_1875 wd_94 wd_111 wd_1876 (by decide +kernel)
set_option maxRecDepth 100000 in
theorem wd_1872 : Cond.constant "SunnyPansModel" 369 (99999) ∈ tbG := tw8 92 rfl rfl
theorem d_X10_water_0 : decode cX10_water 0 = .ok (.aload_n 0, 1) := by decide +kernel
theorem d_X10_water_1 : decode cX10_water 1 = .ok (.iconst 0, 1) := by decide +kernel
theorem d_X10_water_2 : decode cX10_water 2 = .ok (.putfield 82, 3) := by decide +kernel
theorem d_X10_water_5 : decode cX10_water 5 = .ok (.aload_n 0, 1) := by decide +kernel
theorem d_X10_water_6 : decode cX10_water 6 = .ok (.aload_n 0, 1) := by decide +kernel
theorem d_X10_water_7 : decode cX10_water 7 = .ok (.iload_n 1, 1) := by decide +kernel
theorem d_X10_water_8 : decode cX10_water 8 = .ok (.iload_n 2, 1) := by decide +kernel
theorem d_X10_water_9 : decode cX10_water 9 = .ok (.invokevirtual 237, 3) := by decide +kernel
theorem d_X10_water_12 : decode cX10_water 12 = .ok (.ifCond .ne 7, 3) := by decide +kernel
theorem d_X10_water_15 : decode cX10_water 15 = .ok (.iconst 1, 1) := by decide +kernel
theorem d_X10_water_16 : decode cX10_water 16 = .ok (.goto 4, 3) := by decide +kernel
theorem d_X10_water_19 : decode cX10_water 19 = .ok (.iconst 0, 1) := by decide +kernel
theorem d_X10_water_20 : decode cX10_water 20 = .ok (.iconst 1, 1) := by decide +kernel
theorem d_X10_water_21 : decode cX10_water 21 = .ok (.iconst 0, 1) := by decide +kernel
theorem d_X10_water_22 : decode cX10_water 22 = .ok (.invokevirtual 155, 3) := by decide +kernel
theorem d_X10_water_25 : decode cX10_water 25 = .ok (.ifCond .ne 47, 3) := by decide +kernel
theorem d_X10_water_28 : decode cX10_water 28 = .ok (.aload_n 0, 1) := by decide +kernel
theorem d_X10_water_29 : decode cX10_water 29 = .ok (.iload_n 3, 1) := by decide +kernel
theorem d_X10_water_30 : decode cX10_water 30 = .ok (.iconst 0, 1) := by decide +kernel
theorem d_X10_water_31 : decode cX10_water 31 = .ok (.iconst 1, 1) := by decide +kernel
theorem d_X10_water_32 : decode cX10_water 32 = .ok (.aload_n 0, 1) := by decide +kernel
theorem d_X10_water_33 : decode cX10_water 33 = .ok (.getfield 23, 3) := by decide +kernel
theorem d_X10_water_36 : decode cX10_water 36 = .ok (.iconst 0, 1) := by decide +kernel
theorem d_X10_water_37 : decode cX10_water 37 = .ok (.iaload, 1) := by decide +kernel
theorem d_X10_water_38 : decode cX10_water 38 = .ok (.ishl, 1) := by decide +kernel
theorem d_X10_water_39 : decode cX10_water 39 = .ok (.iconst 1, 1) := by decide +kernel
theorem d_X10_water_40 : decode cX10_water 40 = .ok (.isub, 1) := by decide +kernel
theorem d_X10_water_41 : decode cX10_water 41 = .ok (.invokestatic 116, 3) := by decide +kernel
theorem d_X10_water_44 : decode cX10_water 44 = .ok (.ifCond .eq 15, 3) := by decide +kernel
theorem d_X10_water_47 : decode cX10_water 47 = .ok (.iload 4, 2) := by decide +kernel
theorem d_X10_water_49 : decode cX10_water 49 = .ok (.iconst 0, 1) := by decide +kernel
theorem d_X10_water_50 : decode cX10_water 50 = .ok (.ldc_w 369, 3) := by decide +kernel
theorem d_X10_water_53 : decode cX10_water 53 = .ok (.invokestatic 116, 3) := by decide +kernel
theorem d_X10_water_56 : decode cX10_water 56 = .ok (.ifCond .ne 7, 3) := by decide +kernel
theorem d_X10_water_59 : decode cX10_water 59 = .ok (.iconst 1, 1) := by decide +kernel
theorem d_X10_water_60 : decode cX10_water 60 = .ok (.goto 4, 3) := by decide +kernel
theorem d_X10_water_63 : decode cX10_water 63 = .ok (.iconst 0, 1) := by decide +kernel
theorem d_X10_water_64 : decode cX10_water 64 = .ok (.iconst 2, 1) := by decide +kernel
theorem d_X10_water_65 : decode cX10_water 65 = .ok (.iconst 1, 1) := by decide +kernel
theorem d_X10_water_66 : decode cX10_water 66 = .ok (.invokevirtual 155, 3) := by decide +kernel
theorem d_X10_water_69 : decode cX10_water 69 = .ok (.ifCond .eq 5, 3) := by decide +kernel
theorem d_X10_water_72 : decode cX10_water 72 = .ok (.iconst 0, 1) := by decide +kernel
theorem d_X10_water_73 : decode cX10_water 73 = .ok (.ireturn, 1) := by decide +kernel
theorem d_X10_water_74 : decode cX10_water 74 = .ok (.iconst 0, 1) := by decide +kernel
theorem d_X10_water_75 : decode cX10_water 75 = .ok (.istore 5, 2) := by decide +kernel
theorem d_X10_water_77 : decode cX10_water 77 = .ok (.iload 5, 2) := by decide +kernel
theorem d_X10_water_79 : decode cX10_water 79 = .ok (.sipush 9999, 3) := by decide +kernel
theorem d_X10_water_82 : decode cX10_water 82 = .ok (.if_icmp .ge 24, 3) := by decide +kernel
theorem d_X10_water_85 : decode cX10_water 85 = .ok (.aload_n 0, 1) := by decide +kernel
theorem d_X10_water_86 : decode cX10_water 86 = .ok (.iload_n 2, 1) := by decide +kernel
theorem d_X10_water_87 : decode cX10_water 87 = .ok (.iload_n 3, 1) := by decide +kernel
theorem d_X10_water_88 : decode cX10_water 88 = .ok (.iload 5, 2) := by decide +kernel
theorem d_X10_water_90 : decode cX10_water 90 = .ok (.iconst 1, 1) := by decide +kernel
theorem d_X10_water_91 : decode cX10_water 91 = .ok (.iadd, 1) := by decide +kernel
theorem d_X10_water_92 : decode cX10_water 92 = .ok (.invokevirtual 370, 3) := by decide +kernel
theorem d_X10_water_95 : decode cX10_water 95 = .ok (.iload 4, 2) := by decide +kernel
theorem d_X10_water_97 : decode cX10_water 97 = .ok (.if_icmp .gt 9, 3) := by decide +kernel
theorem d_X10_water_100 : decode cX10_water 100 = .ok (.iinc 5 1, 3) := by decide +kernel
theorem d_X10_water_103 : decode cX10_water 103 = .ok (.goto (-26), 3) := by decide +kernel
theorem d_X10_water_106 : decode cX10_water 106 = .ok (.iload_n 3, 1) := by decide +kernel
theorem d_X10_water_107 : decode cX10_water 107 = .ok (.iload_n 1, 1) := by decide +kernel
theorem d_X10_water_108 : decode cX10_water 108 = .ok (.invokestatic 366, 3) := by decide +kernel
theorem d_X10_water_111 : decode cX10_water 111 = .ok (.ifCond .eq 24, 3) := by decide +kernel
theorem d_X10_water_114 : decode cX10_water 114 = .ok (.iload 5, 2) := by decide +kernel
theorem d_X10_water_116 : decode cX10_water 116 = .ok (.aload_n 0, 1) := by decide +kernel
theorem d_X10_water_117 : decode cX10_water 117 = .ok (.getfield 58, 3) := by decide +kernel
theorem d_X10_water_120 : decode cX10_water 120 = .ok (.iconst 0, 1) := by decide +kernel
theorem d_X10_water_121 : decode cX10_water 121 = .ok (.bipush 8, 2) := by decide +kernel
theorem d_X10_water_123 : decode cX10_water 123 = .ok (.iload_n 2, 1) := by decide +kernel
theorem d_X10_water_124 : decode cX10_water 124 = .ok (.imul, 1) := by decide +kernel
theorem d_X10_water_125 : decode cX10_water 125 = .ok (.iadd, 1) := by decide +kernel
theorem d_X10_water_126 : decode cX10_water 126 = .ok (.iload_n 1, 1) := by decide +kernel
theorem d_X10_water_127 : decode cX10_water 127 = .ok (.iadd, 1) := by decide +kernel
theorem d_X10_water_128 : decode cX10_water 128 = .ok (.iaload, 1) := by decide +kernel
theorem d_X10_water_129 : decode cX10_water 129 = .ok (.invokestatic 215, 3) := by decide +kernel
theorem d_X10_water_132 : decode cX10_water 132 = .ok (.goto 4, 3) := by decide +kernel
theorem d_X10_water_135 : decode cX10_water 135 = .ok (.iconst 0, 1) := by decide +kernel
theorem d_X10_water_136 : decode cX10_water 136 = .ok (.ireturn, 1) := by decide +kernel
noncomputable def F_X10_water_106 (p0 : Int32) (p1 : Int32) (p2 : Int32) (p3 : Int32) (b106_L1 : Int32) (b106_L2 : Int32) (b106_L3 : Int32) (b106_L5 : Int32) (M : zMem) : Option (Int32 × zMem) :=
  zb (F_X10_has M b106_L3 b106_L1) fun v2 M1 =>
  if v2 = 0 then
    some ((0 : Int32), M1)
  else
    gin (((0 : Int32) + ((8 : Int32) * b106_L2)) + b106_L1) 195 <|
    zb (F_X10_less M1 b106_L5 (M1.1 451 (((0 : Int32) + ((8 : Int32) * b106_L2)) + b106_L1).toNatClampNeg)) fun v5 M4 =>
    some (v5, M4)
noncomputable def F_X10_water_77 (p0 : Int32) (p1 : Int32) (p2 : Int32) (p3 : Int32) (self77 : Int32 → Int32 → Int32 → Int32 → Int32 → zMem → Option (Int32 × zMem)) (b77_L1 : Int32) (b77_L2 : Int32) (b77_L3 : Int32) (b77_L4 : Int32) (b77_L5 : Int32) (M : zMem) : Option (Int32 × zMem) :=
  if (9999 : Int32) ≤ b77_L5 then
    F_X10_water_106 p0 p1 p2 p3 b77_L1 b77_L2 b77_L3 b77_L5 M
  else
    zb (F_X10_givenBy M b77_L2 b77_L3 (b77_L5 + (1 : Int32))) fun v7 M6 =>
    if b77_L4 < v7 then
      F_X10_water_106 p0 p1 p2 p3 b77_L1 b77_L2 b77_L3 b77_L5 M6
    else
      self77 b77_L1 b77_L2 b77_L3 b77_L4 (b77_L5 + 1) M6
noncomputable def F_X10_water_64 (p0 : Int32) (p1 : Int32) (p2 : Int32) (p3 : Int32) (b64_L1 : Int32) (b64_L2 : Int32) (b64_L3 : Int32) (b64_L4 : Int32) (b64_S1 : Int32) (M : zMem) : Option (Int32 × zMem) :=
  zb (F_X10_bad M b64_S1 (2 : Int32) (1 : Int32)) fun v9 M8 =>
  if v9 = 0 then
    itF (fun _ _ _ _ _ _ => none) (F_X10_water_77 p0 p1 p2 p3) zFuel b64_L1 b64_L2 b64_L3 b64_L4 (0 : Int32) M8
  else
    some ((0 : Int32), M8)
noncomputable def F_X10_water_20 (p0 : Int32) (p1 : Int32) (p2 : Int32) (p3 : Int32) (b20_L1 : Int32) (b20_L2 : Int32) (b20_L3 : Int32) (b20_L4 : Int32) (b20_S1 : Int32) (M : zMem) : Option (Int32 × zMem) :=
  zb (F_X10_bad M b20_S1 (1 : Int32) (0 : Int32)) fun v11 M10 =>
  if v11 = 0 then
    zb (F_X10_in M10 b20_L3 (0 : Int32) (((1 : Int32) <<< ((M10.1 4 0) &&& 31)) - (1 : Int32))) fun v13 M12 =>
    if v13 = 0 then
      F_X10_water_64 p0 p1 p2 p3 b20_L1 b20_L2 b20_L3 b20_L4 (1 : Int32) M12
    else
      zb (F_X10_in M12 b20_L4 (0 : Int32) (99999 : Int32)) fun v15 M14 =>
      if v15 = 0 then
        F_X10_water_64 p0 p1 p2 p3 b20_L1 b20_L2 b20_L3 b20_L4 (1 : Int32) M14
      else
        F_X10_water_64 p0 p1 p2 p3 b20_L1 b20_L2 b20_L3 b20_L4 (0 : Int32) M14
  else
    some ((0 : Int32), M10)
noncomputable def F_X10_water (M : zMem) (p0 : Int32) (p1 : Int32) (p2 : Int32) (p3 : Int32) : Option (Int32 × zMem) :=
  zl (zI M 0 0 (0 : Int32)) fun M16 =>
  zb (F_X10_isWithin M16 p0 p1) fun v18 M17 =>
  if v18 = 0 then
    F_X10_water_20 p0 p1 p2 p3 p0 p1 p2 p3 (1 : Int32) M17
  else
    F_X10_water_20 p0 p1 p2 p3 p0 p1 p2 p3 (0 : Int32) M17
def rm_X10_water : Room := { frames := 4, cells := 0, slots := 0, locals := 126 }
set_option maxHeartbeats 4000000 in
set_option maxRecDepth 100000 in
theorem c_X10_water (l : Launch) {G : zG} {ad : Nat → Nat} {n : Nat} (hA : zInj ad n) (M : zMem) (p0 : Int32) (p1 : Int32) (p2 : Int32) (p3 : Int32) (hT : zT shM n 0 11) {r9 : Int32} {M9 : zMem} (hF : F_X10_water M p0 p1 p2 p3 = some (r9, M9)) : zM l yX10_water cX10_water 6 (some .int) rm_X10_water G shM ad n M [.ref (ad 0), .int p0, .int p1, .int p2, .int p3] (some (.int r9)) M9 := by
  refine zM_of hA (by decide +kernel) (lv := [(0, .ref (ad 0)), (1, .int p0), (2, .int p1), (3, .int p2), (4, .int p3)]) (Nat.le_of_ble_eq_true rfl) rfl (fun p e s m args below meth c A cx hr => ?_)
  have hb106 : ∀ (b106_L1 : Int32) (b106_L2 : Int32) (b106_L3 : Int32) (b106_L5 : Int32) (M : zMem), F_X10_water_106 p0 p1 p2 p3 b106_L1 b106_L2 b106_L3 b106_L5 M = some (r9, M9) → zJ p l e rm_X10_water s m args below meth c G shM ad n A 6 (MQ below (zQ G shM ad n M9 (some (.int r9)) A) args s 0 0 A) 0 0 M 106 [(0, .ref (ad 0)), (1, .int b106_L1), (2, .int b106_L2), (3, .int b106_L3), (5, .int b106_L5)] [] := by
    intro b106_L1 b106_L2 b106_L3 b106_L5 M hF
    unfold F_X10_water_106 at hF
    refine z_iload_n cx d_X10_water_106 3 rfl ?_
    refine z_iload_n cx d_X10_water_107 1 rfl ?_
    obtain ⟨v2, M1, hc, hF⟩ := zb_inv hF
    refine z_callS cx (As := [.int b106_L3, .int b106_L1]) (rest := []) (c_X10_has l cx.2.2.2.1.1 M b106_L3 b106_L1  hc) cs_SunnyPansModel_366 ⟨rfl, rfl, Nat.le_of_ble_eq_true rfl, Nat.le_of_ble_eq_true rfl⟩ rfl rfl ⟨Nat.zero_le _, Nat.zero_le _⟩ (Nat.le_of_ble_eq_true rfl) d_X10_water_108 ?_
    refine z_if_eq cx 135 d_X10_water_111 (by decide) hF (fun hF => ?_) (fun hF => ?_)
    · refine z_iconst (v := 0) cx d_X10_water_135 ki_0 ?_
      exact z_iret cx hr rfl hF d_X10_water_136
    refine z_iload cx d_X10_water_114 4 rfl ?_
    refine z_aload_n cx d_X10_water_116 0 rfl ?_
    refine z_getR cx hT fg_SunnyPansModel_58 451 rfl d_X10_water_117 ?_
    refine z_iconst (v := 0) cx d_X10_water_120 ki_0 ?_
    refine z_bipush (v := 8) cx d_X10_water_121 kb_8 ?_
    refine z_iload_n cx d_X10_water_123 2 rfl ?_
    refine z_imul cx d_X10_water_124 ?_
    refine z_iadd cx d_X10_water_125 ?_
    refine z_iload_n cx d_X10_water_126 1 rfl ?_
    refine z_iadd cx d_X10_water_127 ?_
    obtain ⟨hi3, hF⟩ := gin_inv hF
    refine z_iald cx (tfM_11_451 hT) za_36 hi3 ((((0 : Int32) + ((8 : Int32) * b106_L2)) + b106_L1).toNatClampNeg) rfl d_X10_water_128 ?_
    obtain ⟨v5, M4, hc, hF⟩ := zb_inv hF
    refine z_callS cx (As := [.int b106_L5, .int (M1.1 451 (((0 : Int32) + ((8 : Int32) * b106_L2)) + b106_L1).toNatClampNeg)]) (rest := []) (c_X10_less l cx.2.2.2.1.1 M1 b106_L5 (M1.1 451 (((0 : Int32) + ((8 : Int32) * b106_L2)) + b106_L1).toNatClampNeg)  hc) cs_SunnyPansModel_215 ⟨rfl, rfl, Nat.le_of_ble_eq_true rfl, Nat.le_of_ble_eq_true rfl⟩ rfl rfl ⟨Nat.zero_le _, Nat.zero_le _⟩ (Nat.le_of_ble_eq_true rfl) d_X10_water_129 ?_
    refine z_goto cx 136 d_X10_water_132 (by decide) ?_
    exact z_iret cx hr rfl hF d_X10_water_136
  have hL77 : ∀ (fuel : Nat), ∀ (b77_L1 : Int32) (b77_L2 : Int32) (b77_L3 : Int32) (b77_L4 : Int32) (b77_L5 : Int32) (M : zMem), itF (fun _ _ _ _ _ _ => none) (F_X10_water_77 p0 p1 p2 p3) fuel b77_L1 b77_L2 b77_L3 b77_L4 b77_L5 M = some (r9, M9) → zJ p l e rm_X10_water s m args below meth c G shM ad n A 6 (MQ below (zQ G shM ad n M9 (some (.int r9)) A) args s 0 0 A) 0 0 M 77 [(0, .ref (ad 0)), (1, .int b77_L1), (2, .int b77_L2), (3, .int b77_L3), (4, .int b77_L4), (5, .int b77_L5)] [] := by
    intro fuel
    induction fuel with
    | zero => intro b77_L1 b77_L2 b77_L3 b77_L4 b77_L5 M hF; cases hF
    | succ fuel hs77 =>
      intro b77_L1 b77_L2 b77_L3 b77_L4 b77_L5 M hF
      have hF : F_X10_water_77 p0 p1 p2 p3 (itF (fun _ _ _ _ _ _ => none) (F_X10_water_77 p0 p1 p2 p3) fuel) b77_L1 b77_L2 b77_L3 b77_L4 b77_L5 M = some (r9, M9) := hF
      generalize itF (fun _ _ _ _ _ _ => none) (F_X10_water_77 p0 p1 p2 p3) fuel = self77 at hs77 hF
      unfold F_X10_water_77 at hF
      refine z_iload cx d_X10_water_77 5 rfl ?_
      refine z_sipush (v := 9999) cx d_X10_water_79 ks_9999 ?_
      refine z_icmp_ge cx 106 d_X10_water_82 (by decide) hF (fun hF => ?_) (fun hF => ?_)
      · exact z_lv [0, 1, 2, 3, 5] _ rfl (hb106 b77_L1 b77_L2 b77_L3 b77_L5 M hF)
      refine z_aload_n cx d_X10_water_85 0 rfl ?_
      refine z_iload_n cx d_X10_water_86 2 rfl ?_
      refine z_iload_n cx d_X10_water_87 3 rfl ?_
      refine z_iload cx d_X10_water_88 5 rfl ?_
      refine z_iconst (v := 1) cx d_X10_water_90 ki_1 ?_
      refine z_iadd cx d_X10_water_91 ?_
      obtain ⟨v7, M6, hc, hF⟩ := zb_inv hF
      refine z_callV cx (As := [.int b77_L2, .int b77_L3, .int (b77_L5 + (1 : Int32))]) (rest := []) (c_X10_givenBy l cx.2.2.2.1.1 M b77_L2 b77_L3 (b77_L5 + (1 : Int32)) hT hc) hT zo_11 cv_SunnyPansModel_370 ⟨rfl, rfl, Nat.le_of_ble_eq_true rfl, Nat.le_of_ble_eq_true rfl⟩ rfl rfl ⟨Nat.zero_le _, Nat.zero_le _⟩ (Nat.le_of_ble_eq_true rfl) d_X10_water_92 ?_
      refine z_iload cx d_X10_water_95 4 rfl ?_
      refine z_icmp_gt cx 106 d_X10_water_97 (by decide) hF (fun hF => ?_) (fun hF => ?_)
      · exact z_lv [0, 1, 2, 3, 5] _ rfl (hb106 b77_L1 b77_L2 b77_L3 b77_L5 M6 hF)
      refine z_iinc cx 5 1 [(5, .int (b77_L5 + 1)), (0, .ref (ad 0)), (1, .int b77_L1), (2, .int b77_L2), (3, .int b77_L3), (4, .int b77_L4)] d_X10_water_100 5 rfl ki_1 (by decide) rfl ?_
      refine z_goto cx 77 d_X10_water_103 (by decide) ?_
      exact z_lv [1, 2, 3, 4, 5, 0] _ rfl (hs77 b77_L1 b77_L2 b77_L3 b77_L4 (b77_L5 + 1) M6 hF)
  have hb64 : ∀ (b64_L1 : Int32) (b64_L2 : Int32) (b64_L3 : Int32) (b64_L4 : Int32) (b64_S1 : Int32) (M : zMem), F_X10_water_64 p0 p1 p2 p3 b64_L1 b64_L2 b64_L3 b64_L4 b64_S1 M = some (r9, M9) → zJ p l e rm_X10_water s m args below meth c G shM ad n A 6 (MQ below (zQ G shM ad n M9 (some (.int r9)) A) args s 0 0 A) 0 0 M 64 [(0, .ref (ad 0)), (1, .int b64_L1), (2, .int b64_L2), (3, .int b64_L3), (4, .int b64_L4)] [.int b64_S1, .ref (ad 0)] := by
    intro b64_L1 b64_L2 b64_L3 b64_L4 b64_S1 M hF
    unfold F_X10_water_64 at hF
    refine z_iconst (v := 2) cx d_X10_water_64 ki_2 ?_
    refine z_iconst (v := 1) cx d_X10_water_65 ki_1 ?_
    obtain ⟨v9, M8, hc, hF⟩ := zb_inv hF
    refine z_callV cx (As := [.int b64_S1, .int (2 : Int32), .int (1 : Int32)]) (rest := []) (c_X10_bad l cx.2.2.2.1.1 M b64_S1 (2 : Int32) (1 : Int32) hT hc) hT zo_11 cv_SunnyPansModel_155 ⟨rfl, rfl, Nat.le_of_ble_eq_true rfl, Nat.le_of_ble_eq_true rfl⟩ rfl rfl ⟨Nat.zero_le _, Nat.zero_le _⟩ (Nat.le_of_ble_eq_true rfl) d_X10_water_66 ?_
    refine z_if_eq cx 74 d_X10_water_69 (by decide) hF (fun hF => ?_) (fun hF => ?_)
    · refine z_iconst (v := 0) cx d_X10_water_74 ki_0 ?_
      refine z_istore cx 5 [(5, .int (0 : Int32)), (0, .ref (ad 0)), (1, .int b64_L1), (2, .int b64_L2), (3, .int b64_L3), (4, .int b64_L4)] d_X10_water_75 (by decide) rfl ?_
      exact z_lv [1, 2, 3, 4, 5, 0] _ rfl (hL77 zFuel b64_L1 b64_L2 b64_L3 b64_L4 (0 : Int32) M8 hF)
    refine z_iconst (v := 0) cx d_X10_water_72 ki_0 ?_
    exact z_iret cx hr rfl hF d_X10_water_73
  have hb20 : ∀ (b20_L1 : Int32) (b20_L2 : Int32) (b20_L3 : Int32) (b20_L4 : Int32) (b20_S1 : Int32) (M : zMem), F_X10_water_20 p0 p1 p2 p3 b20_L1 b20_L2 b20_L3 b20_L4 b20_S1 M = some (r9, M9) → zJ p l e rm_X10_water s m args below meth c G shM ad n A 6 (MQ below (zQ G shM ad n M9 (some (.int r9)) A) args s 0 0 A) 0 0 M 20 [(0, .ref (ad 0)), (1, .int b20_L1), (2, .int b20_L2), (3, .int b20_L3), (4, .int b20_L4)] [.int b20_S1, .ref (ad 0)] := by
    intro b20_L1 b20_L2 b20_L3 b20_L4 b20_S1 M hF
    unfold F_X10_water_20 at hF
    refine z_iconst (v := 1) cx d_X10_water_20 ki_1 ?_
    refine z_iconst (v := 0) cx d_X10_water_21 ki_0 ?_
    obtain ⟨v11, M10, hc, hF⟩ := zb_inv hF
    refine z_callV cx (As := [.int b20_S1, .int (1 : Int32), .int (0 : Int32)]) (rest := []) (c_X10_bad l cx.2.2.2.1.1 M b20_S1 (1 : Int32) (0 : Int32) hT hc) hT zo_11 cv_SunnyPansModel_155 ⟨rfl, rfl, Nat.le_of_ble_eq_true rfl, Nat.le_of_ble_eq_true rfl⟩ rfl rfl ⟨Nat.zero_le _, Nat.zero_le _⟩ (Nat.le_of_ble_eq_true rfl) d_X10_water_22 ?_
    refine z_if_ne cx 72 d_X10_water_25 (by decide) hF (fun hF => ?_) (fun hF => ?_)
    · refine z_iconst (v := 0) cx d_X10_water_72 ki_0 ?_
      exact z_iret cx hr rfl hF d_X10_water_73
    refine z_aload_n cx d_X10_water_28 0 rfl ?_
    refine z_iload_n cx d_X10_water_29 3 rfl ?_
    refine z_iconst (v := 0) cx d_X10_water_30 ki_0 ?_
    refine z_iconst (v := 1) cx d_X10_water_31 ki_1 ?_
    refine z_aload_n cx d_X10_water_32 0 rfl ?_
    refine z_getR cx hT fg_SunnyPansModel_23 4 rfl d_X10_water_33 ?_
    refine z_iconst (v := 0) cx d_X10_water_36 ki_0 ?_
    refine z_iald cx (tfM_11_4 hT) za_28 (zvp (by decide +kernel)) 0 rfl d_X10_water_37 ?_
    refine z_ishl cx d_X10_water_38 ?_
    refine z_iconst (v := 1) cx d_X10_water_39 ki_1 ?_
    refine z_isub cx d_X10_water_40 ?_
    obtain ⟨v13, M12, hc, hF⟩ := zb_inv hF
    refine z_callS cx (As := [.int b20_L3, .int (0 : Int32), .int (((1 : Int32) <<< ((M10.1 4 0) &&& 31)) - (1 : Int32))]) (rest := [.ref (ad 0)]) (c_X10_in l cx.2.2.2.1.1 M10 b20_L3 (0 : Int32) (((1 : Int32) <<< ((M10.1 4 0) &&& 31)) - (1 : Int32))  hc) cs_SunnyPansModel_116 ⟨rfl, rfl, Nat.le_of_ble_eq_true rfl, Nat.le_of_ble_eq_true rfl⟩ rfl rfl ⟨Nat.zero_le _, Nat.zero_le _⟩ (Nat.le_of_ble_eq_true rfl) d_X10_water_41 ?_
    refine z_if_eq cx 59 d_X10_water_44 (by decide) hF (fun hF => ?_) (fun hF => ?_)
    · refine z_iconst (v := 1) cx d_X10_water_59 ki_1 ?_
      refine z_goto cx 64 d_X10_water_60 (by decide) ?_
      exact hb64 b20_L1 b20_L2 b20_L3 b20_L4 (1 : Int32) M12 hF
    refine z_iload cx d_X10_water_47 4 rfl ?_
    refine z_iconst (v := 0) cx d_X10_water_49 ki_0 ?_
    refine z_ldcw cx wd_1872 d_X10_water_50 ?_
    obtain ⟨v15, M14, hc, hF⟩ := zb_inv hF
    refine z_callS cx (As := [.int b20_L4, .int (0 : Int32), .int (99999 : Int32)]) (rest := [.ref (ad 0)]) (c_X10_in l cx.2.2.2.1.1 M12 b20_L4 (0 : Int32) (99999 : Int32)  hc) cs_SunnyPansModel_116 ⟨rfl, rfl, Nat.le_of_ble_eq_true rfl, Nat.le_of_ble_eq_true rfl⟩ rfl rfl ⟨Nat.zero_le _, Nat.zero_le _⟩ (Nat.le_of_ble_eq_true rfl) d_X10_water_53 ?_
    refine z_if_ne cx 63 d_X10_water_56 (by decide) hF (fun hF => ?_) (fun hF => ?_)
    · refine z_iconst (v := 0) cx d_X10_water_63 ki_0 ?_
      exact hb64 b20_L1 b20_L2 b20_L3 b20_L4 (0 : Int32) M14 hF
    refine z_iconst (v := 1) cx d_X10_water_59 ki_1 ?_
    refine z_goto cx 64 d_X10_water_60 (by decide) ?_
    exact hb64 b20_L1 b20_L2 b20_L3 b20_L4 (1 : Int32) M14 hF
  unfold F_X10_water at hF
  refine z_aload_n cx d_X10_water_0 0 rfl ?_
  refine z_iconst (v := 0) cx d_X10_water_1 ki_0 ?_
  refine z_putI cx hT fp_SunnyPansModel_82 d_X10_water_2 ?_
  refine z_nmM hF (fun M16 hF => ?_)
  refine z_aload_n cx d_X10_water_5 0 rfl ?_
  refine z_aload_n cx d_X10_water_6 0 rfl ?_
  refine z_iload_n cx d_X10_water_7 1 rfl ?_
  refine z_iload_n cx d_X10_water_8 2 rfl ?_
  obtain ⟨v18, M17, hc, hF⟩ := zb_inv hF
  refine z_callV cx (As := [.int p0, .int p1]) (rest := [.ref (ad 0)]) (c_X10_isWithin l cx.2.2.2.1.1 M16 p0 p1 hT hc) hT zo_11 cv_SunnyPansModel_237 ⟨rfl, rfl, Nat.le_of_ble_eq_true rfl, Nat.le_of_ble_eq_true rfl⟩ rfl rfl ⟨Nat.zero_le _, Nat.zero_le _⟩ (Nat.le_of_ble_eq_true rfl) d_X10_water_9 ?_
  refine z_if_ne cx 19 d_X10_water_12 (by decide) hF (fun hF => ?_) (fun hF => ?_)
  · refine z_iconst (v := 0) cx d_X10_water_19 ki_0 ?_
    exact hb20 p0 p1 p2 p3 (0 : Int32) M17 hF
  refine z_iconst (v := 1) cx d_X10_water_15 ki_1 ?_
  refine z_goto cx 20 d_X10_water_16 (by decide) ?_
  exact hb20 p0 p1 p2 p3 (1 : Int32) M17 hF
/-! SunnyPansModel.strongest -/
theorem d_X10_strongest_0 : decode cX10_strongest 0 = .ok (.aload_n 0, 1) := by decide +kernel
theorem d_X10_strongest_1 : decode cX10_strongest 1 = .ok (.iconst 0, 1) := by decide +kernel
theorem d_X10_strongest_2 : decode cX10_strongest 2 = .ok (.putfield 82, 3) := by decide +kernel
theorem d_X10_strongest_5 : decode cX10_strongest 5 = .ok (.aload_n 0, 1) := by decide +kernel
theorem d_X10_strongest_6 : decode cX10_strongest 6 = .ok (.iload_n 1, 1) := by decide +kernel
theorem d_X10_strongest_7 : decode cX10_strongest 7 = .ok (.iconst 0, 1) := by decide +kernel
theorem d_X10_strongest_8 : decode cX10_strongest 8 = .ok (.iconst 1, 1) := by decide +kernel
theorem d_X10_strongest_9 : decode cX10_strongest 9 = .ok (.invokestatic 116, 3) := by decide +kernel
theorem d_X10_strongest_12 : decode cX10_strongest 12 = .ok (.ifCond .ne 7, 3) := by decide +kernel
theorem d_X10_strongest_15 : decode cX10_strongest 15 = .ok (.iconst 1, 1) := by decide +kernel
theorem d_X10_strongest_16 : decode cX10_strongest 16 = .ok (.goto 4, 3) := by decide +kernel
theorem d_X10_strongest_19 : decode cX10_strongest 19 = .ok (.iconst 0, 1) := by decide +kernel
theorem d_X10_strongest_20 : decode cX10_strongest 20 = .ok (.iconst 1, 1) := by decide +kernel
theorem d_X10_strongest_21 : decode cX10_strongest 21 = .ok (.iconst 1, 1) := by decide +kernel
theorem d_X10_strongest_22 : decode cX10_strongest 22 = .ok (.invokevirtual 155, 3) := by decide +kernel
theorem d_X10_strongest_25 : decode cX10_strongest 25 = .ok (.ifCond .eq 5, 3) := by decide +kernel
theorem d_X10_strongest_28 : decode cX10_strongest 28 = .ok (.iconst 0, 1) := by decide +kernel
theorem d_X10_strongest_29 : decode cX10_strongest 29 = .ok (.ireturn, 1) := by decide +kernel
theorem d_X10_strongest_30 : decode cX10_strongest 30 = .ok (.iconst (-1), 1) := by decide +kernel
theorem d_X10_strongest_31 : decode cX10_strongest 31 = .ok (.istore_n 2, 1) := by decide +kernel
theorem d_X10_strongest_32 : decode cX10_strongest 32 = .ok (.iconst 0, 1) := by decide +kernel
theorem d_X10_strongest_33 : decode cX10_strongest 33 = .ok (.istore_n 3, 1) := by decide +kernel
theorem d_X10_strongest_34 : decode cX10_strongest 34 = .ok (.iload_n 3, 1) := by decide +kernel
theorem d_X10_strongest_35 : decode cX10_strongest 35 = .ok (.bipush 64, 2) := by decide +kernel
theorem d_X10_strongest_37 : decode cX10_strongest 37 = .ok (.if_icmp .ge 51, 3) := by decide +kernel
theorem d_X10_strongest_40 : decode cX10_strongest 40 = .ok (.aload_n 0, 1) := by decide +kernel
theorem d_X10_strongest_41 : decode cX10_strongest 41 = .ok (.getfield 58, 3) := by decide +kernel
theorem d_X10_strongest_44 : decode cX10_strongest 44 = .ok (.bipush 64, 2) := by decide +kernel
theorem d_X10_strongest_46 : decode cX10_strongest 46 = .ok (.iload_n 3, 1) := by decide +kernel
theorem d_X10_strongest_47 : decode cX10_strongest 47 = .ok (.iadd, 1) := by decide +kernel
theorem d_X10_strongest_48 : decode cX10_strongest 48 = .ok (.iaload, 1) := by decide +kernel
theorem d_X10_strongest_49 : decode cX10_strongest 49 = .ok (.ifCond .le 31, 3) := by decide +kernel
theorem d_X10_strongest_52 : decode cX10_strongest 52 = .ok (.iload_n 2, 1) := by decide +kernel
theorem d_X10_strongest_53 : decode cX10_strongest 53 = .ok (.iconst (-1), 1) := by decide +kernel
theorem d_X10_strongest_54 : decode cX10_strongest 54 = .ok (.if_icmp .eq 22, 3) := by decide +kernel
theorem d_X10_strongest_57 : decode cX10_strongest 57 = .ok (.aload_n 0, 1) := by decide +kernel
theorem d_X10_strongest_58 : decode cX10_strongest 58 = .ok (.getfield 58, 3) := by decide +kernel
theorem d_X10_strongest_61 : decode cX10_strongest 61 = .ok (.iload_n 3, 1) := by decide +kernel
theorem d_X10_strongest_62 : decode cX10_strongest 62 = .ok (.invokestatic 330, 3) := by decide +kernel
theorem d_X10_strongest_65 : decode cX10_strongest 65 = .ok (.aload_n 0, 1) := by decide +kernel
theorem d_X10_strongest_66 : decode cX10_strongest 66 = .ok (.getfield 58, 3) := by decide +kernel
theorem d_X10_strongest_69 : decode cX10_strongest 69 = .ok (.iload_n 2, 1) := by decide +kernel
theorem d_X10_strongest_70 : decode cX10_strongest 70 = .ok (.invokestatic 330, 3) := by decide +kernel
theorem d_X10_strongest_73 : decode cX10_strongest 73 = .ok (.if_icmp .le 7, 3) := by decide +kernel
theorem d_X10_strongest_76 : decode cX10_strongest 76 = .ok (.iload_n 3, 1) := by decide +kernel
theorem d_X10_strongest_77 : decode cX10_strongest 77 = .ok (.goto 4, 3) := by decide +kernel
theorem d_X10_strongest_80 : decode cX10_strongest 80 = .ok (.iload_n 2, 1) := by decide +kernel
theorem d_X10_strongest_81 : decode cX10_strongest 81 = .ok (.istore_n 2, 1) := by decide +kernel
theorem d_X10_strongest_82 : decode cX10_strongest 82 = .ok (.iinc 3 1, 3) := by decide +kernel
theorem d_X10_strongest_85 : decode cX10_strongest 85 = .ok (.goto (-51), 3) := by decide +kernel
theorem d_X10_strongest_88 : decode cX10_strongest 88 = .ok (.iload_n 1, 1) := by decide +kernel
theorem d_X10_strongest_89 : decode cX10_strongest 89 = .ok (.ifCond .ne 10, 3) := by decide +kernel
theorem d_X10_strongest_92 : decode cX10_strongest 92 = .ok (.iload_n 2, 1) := by decide +kernel
theorem d_X10_strongest_93 : decode cX10_strongest 93 = .ok (.invokestatic 345, 3) := by decide +kernel
theorem d_X10_strongest_96 : decode cX10_strongest 96 = .ok (.goto 20, 3) := by decide +kernel
theorem d_X10_strongest_99 : decode cX10_strongest 99 = .ok (.iload_n 2, 1) := by decide +kernel
theorem d_X10_strongest_100 : decode cX10_strongest 100 = .ok (.iconst (-1), 1) := by decide +kernel
theorem d_X10_strongest_101 : decode cX10_strongest 101 = .ok (.if_icmp .ne 7, 3) := by decide +kernel
theorem d_X10_strongest_104 : decode cX10_strongest 104 = .ok (.iconst (-1), 1) := by decide +kernel
theorem d_X10_strongest_105 : decode cX10_strongest 105 = .ok (.goto 11, 3) := by decide +kernel
theorem d_X10_strongest_108 : decode cX10_strongest 108 = .ok (.aload_n 0, 1) := by decide +kernel
theorem d_X10_strongest_109 : decode cX10_strongest 109 = .ok (.getfield 58, 3) := by decide +kernel
theorem d_X10_strongest_112 : decode cX10_strongest 112 = .ok (.iload_n 2, 1) := by decide +kernel
theorem d_X10_strongest_113 : decode cX10_strongest 113 = .ok (.invokestatic 330, 3) := by decide +kernel
theorem d_X10_strongest_116 : decode cX10_strongest 116 = .ok (.ireturn, 1) := by decide +kernel
noncomputable def F_X10_strongest_81 (p0 : Int32) (self34 : Int32 → Int32 → Int32 → zMem → Option (Int32 × zMem)) (b81_L1 : Int32) (b81_L3 : Int32) (b81_S0 : Int32) (M : zMem) : Option (Int32 × zMem) :=
  self34 b81_L1 b81_S0 (b81_L3 + 1) M
noncomputable def F_X10_strongest_80 (p0 : Int32) (self34 : Int32 → Int32 → Int32 → zMem → Option (Int32 × zMem)) (b80_L1 : Int32) (b80_L2 : Int32) (b80_L3 : Int32) (M : zMem) : Option (Int32 × zMem) :=
  F_X10_strongest_81 p0 self34 b80_L1 b80_L3 b80_L2 M
noncomputable def F_X10_strongest_34 (p0 : Int32) (self34 : Int32 → Int32 → Int32 → zMem → Option (Int32 × zMem)) (b34_L1 : Int32) (b34_L2 : Int32) (b34_L3 : Int32) (M : zMem) : Option (Int32 × zMem) :=
  if (64 : Int32) ≤ b34_L3 then
    if b34_L1 = 0 then
      zb (F_X10_asTold M b34_L2) fun v4 M3 =>
      some (v4, M3)
    else
      if b34_L2 = (-1 : Int32) then
        some ((-1 : Int32), M)
      else
        zb (F_X10_strength M 451 b34_L2) fun v2 M1 =>
        some (v2, M1)
  else
    gin ((64 : Int32) + b34_L3) 195 <|
    if (M.1 451 ((64 : Int32) + b34_L3).toNatClampNeg) ≤ 0 then
      F_X10_strongest_80 p0 self34 b34_L1 b34_L2 b34_L3 M
    else
      if b34_L2 = (-1 : Int32) then
        F_X10_strongest_81 p0 self34 b34_L1 b34_L3 b34_L3 M
      else
        zb (F_X10_strength M 451 b34_L3) fun v7 M6 =>
        zb (F_X10_strength M6 451 b34_L2) fun v9 M8 =>
        if v7 ≤ v9 then
          F_X10_strongest_80 p0 self34 b34_L1 b34_L2 b34_L3 M8
        else
          F_X10_strongest_81 p0 self34 b34_L1 b34_L3 b34_L3 M8
noncomputable def F_X10_strongest_20 (p0 : Int32) (b20_L1 : Int32) (b20_S1 : Int32) (M : zMem) : Option (Int32 × zMem) :=
  zb (F_X10_bad M b20_S1 (1 : Int32) (1 : Int32)) fun v11 M10 =>
  if v11 = 0 then
    itF (fun _ _ _ _ => none) (F_X10_strongest_34 p0) zFuel b20_L1 (-1 : Int32) (0 : Int32) M10
  else
    some ((0 : Int32), M10)
noncomputable def F_X10_strongest (M : zMem) (p0 : Int32) : Option (Int32 × zMem) :=
  zl (zI M 0 0 (0 : Int32)) fun M12 =>
  zb (F_X10_in M12 p0 (0 : Int32) (1 : Int32)) fun v14 M13 =>
  if v14 = 0 then
    F_X10_strongest_20 p0 p0 (1 : Int32) M13
  else
    F_X10_strongest_20 p0 p0 (0 : Int32) M13
def rm_X10_strongest : Room := { frames := 3, cells := 0, slots := 0, locals := 103 }
set_option maxHeartbeats 4000000 in
set_option maxRecDepth 100000 in
theorem c_X10_strongest (l : Launch) {G : zG} {ad : Nat → Nat} {n : Nat} (hA : zInj ad n) (M : zMem) (p0 : Int32) (hT : zT shM n 0 11) {r9 : Int32} {M9 : zMem} (hF : F_X10_strongest M p0 = some (r9, M9)) : zM l yX10_strongest cX10_strongest 4 (some .int) rm_X10_strongest G shM ad n M [.ref (ad 0), .int p0] (some (.int r9)) M9 := by
  refine zM_of hA (by decide +kernel) (lv := [(0, .ref (ad 0)), (1, .int p0)]) (Nat.le_of_ble_eq_true rfl) rfl (fun p e s m args below meth c A cx hr => ?_)
  have hb81 : ∀ (self34 : Int32 → Int32 → Int32 → zMem → Option (Int32 × zMem)) (hs34 : ∀ (b34_L1 : Int32) (b34_L2 : Int32) (b34_L3 : Int32) (M : zMem), self34 b34_L1 b34_L2 b34_L3 M = some (r9, M9) → zJ p l e rm_X10_strongest s m args below meth c G shM ad n A 4 (MQ below (zQ G shM ad n M9 (some (.int r9)) A) args s 0 0 A) 0 0 M 34 [(0, .ref (ad 0)), (1, .int b34_L1), (2, .int b34_L2), (3, .int b34_L3)] []), ∀ (b81_L1 : Int32) (b81_L3 : Int32) (b81_S0 : Int32) (M : zMem), F_X10_strongest_81 p0 self34 b81_L1 b81_L3 b81_S0 M = some (r9, M9) → zJ p l e rm_X10_strongest s m args below meth c G shM ad n A 4 (MQ below (zQ G shM ad n M9 (some (.int r9)) A) args s 0 0 A) 0 0 M 81 [(0, .ref (ad 0)), (1, .int b81_L1), (3, .int b81_L3)] [.int b81_S0] := by
    intro self34 hs34 b81_L1 b81_L3 b81_S0 M hF
    unfold F_X10_strongest_81 at hF
    refine z_istore_n cx 2 [(2, .int b81_S0), (0, .ref (ad 0)), (1, .int b81_L1), (3, .int b81_L3)] d_X10_strongest_81 rfl (by decide) rfl ?_
    refine z_iinc cx 3 1 [(3, .int (b81_L3 + 1)), (2, .int b81_S0), (0, .ref (ad 0)), (1, .int b81_L1)] d_X10_strongest_82 3 rfl ki_1 (by decide) rfl ?_
    refine z_goto cx 34 d_X10_strongest_85 (by decide) ?_
    exact z_lv [2, 3, 1, 0] _ rfl (hs34 b81_L1 b81_S0 (b81_L3 + 1) M hF)
  have hb80 : ∀ (self34 : Int32 → Int32 → Int32 → zMem → Option (Int32 × zMem)) (hs34 : ∀ (b34_L1 : Int32) (b34_L2 : Int32) (b34_L3 : Int32) (M : zMem), self34 b34_L1 b34_L2 b34_L3 M = some (r9, M9) → zJ p l e rm_X10_strongest s m args below meth c G shM ad n A 4 (MQ below (zQ G shM ad n M9 (some (.int r9)) A) args s 0 0 A) 0 0 M 34 [(0, .ref (ad 0)), (1, .int b34_L1), (2, .int b34_L2), (3, .int b34_L3)] []), ∀ (b80_L1 : Int32) (b80_L2 : Int32) (b80_L3 : Int32) (M : zMem), F_X10_strongest_80 p0 self34 b80_L1 b80_L2 b80_L3 M = some (r9, M9) → zJ p l e rm_X10_strongest s m args below meth c G shM ad n A 4 (MQ below (zQ G shM ad n M9 (some (.int r9)) A) args s 0 0 A) 0 0 M 80 [(0, .ref (ad 0)), (1, .int b80_L1), (2, .int b80_L2), (3, .int b80_L3)] [] := by
    intro self34 hs34 b80_L1 b80_L2 b80_L3 M hF
    unfold F_X10_strongest_80 at hF
    refine z_iload_n cx d_X10_strongest_80 2 rfl ?_
    exact z_lv [0, 1, 3] _ rfl (hb81 self34 hs34 b80_L1 b80_L3 b80_L2 M hF)
  have hL34 : ∀ (fuel : Nat), ∀ (b34_L1 : Int32) (b34_L2 : Int32) (b34_L3 : Int32) (M : zMem), itF (fun _ _ _ _ => none) (F_X10_strongest_34 p0) fuel b34_L1 b34_L2 b34_L3 M = some (r9, M9) → zJ p l e rm_X10_strongest s m args below meth c G shM ad n A 4 (MQ below (zQ G shM ad n M9 (some (.int r9)) A) args s 0 0 A) 0 0 M 34 [(0, .ref (ad 0)), (1, .int b34_L1), (2, .int b34_L2), (3, .int b34_L3)] [] := by
    intro fuel
    induction fuel with
    | zero => intro b34_L1 b34_L2 b34_L3 M hF; cases hF
    | succ fuel hs34 =>
      intro b34_L1 b34_L2 b34_L3 M hF
      have hF : F_X10_strongest_34 p0 (itF (fun _ _ _ _ => none) (F_X10_strongest_34 p0) fuel) b34_L1 b34_L2 b34_L3 M = some (r9, M9) := hF
      generalize itF (fun _ _ _ _ => none) (F_X10_strongest_34 p0) fuel = self34 at hs34 hF
      unfold F_X10_strongest_34 at hF
      refine z_iload_n cx d_X10_strongest_34 3 rfl ?_
      refine z_bipush (v := 64) cx d_X10_strongest_35 kb_64 ?_
      refine z_icmp_ge cx 88 d_X10_strongest_37 (by decide) hF (fun hF => ?_) (fun hF => ?_)
      · refine z_iload_n cx d_X10_strongest_88 1 rfl ?_
        refine z_if_ne cx 99 d_X10_strongest_89 (by decide) hF (fun hF => ?_) (fun hF => ?_)
        · refine z_iload_n cx d_X10_strongest_99 2 rfl ?_
          refine z_iconst (v := -1) cx d_X10_strongest_100 ki_m1 ?_
          refine z_icmp_ne cx 108 d_X10_strongest_101 (by decide) hF (fun hF => ?_) (fun hF => ?_)
          · refine z_aload_n cx d_X10_strongest_108 0 rfl ?_
            refine z_getR cx hT fg_SunnyPansModel_58 451 rfl d_X10_strongest_109 ?_
            refine z_iload_n cx d_X10_strongest_112 2 rfl ?_
            obtain ⟨v2, M1, hc, hF⟩ := zb_inv hF
            refine z_callS cx (As := [.ref (ad 451), .int b34_L2]) (rest := []) (c_X10_strength l cx.2.2.2.1.1 M 451 b34_L2 (tfM_11_451 hT) hc) cs_SunnyPansModel_330 ⟨rfl, rfl, Nat.le_of_ble_eq_true rfl, Nat.le_of_ble_eq_true rfl⟩ rfl rfl ⟨Nat.zero_le _, Nat.zero_le _⟩ (Nat.le_of_ble_eq_true rfl) d_X10_strongest_113 ?_
            exact z_iret cx hr rfl hF d_X10_strongest_116
          refine z_iconst (v := -1) cx d_X10_strongest_104 ki_m1 ?_
          refine z_goto cx 116 d_X10_strongest_105 (by decide) ?_
          exact z_iret cx hr rfl hF d_X10_strongest_116
        refine z_iload_n cx d_X10_strongest_92 2 rfl ?_
        obtain ⟨v4, M3, hc, hF⟩ := zb_inv hF
        refine z_callS cx (As := [.int b34_L2]) (rest := []) (c_X10_asTold l cx.2.2.2.1.1 M b34_L2  hc) cs_SunnyPansModel_345 ⟨rfl, rfl, Nat.le_of_ble_eq_true rfl, Nat.le_of_ble_eq_true rfl⟩ rfl rfl ⟨Nat.zero_le _, Nat.zero_le _⟩ (Nat.le_of_ble_eq_true rfl) d_X10_strongest_93 ?_
        refine z_goto cx 116 d_X10_strongest_96 (by decide) ?_
        exact z_iret cx hr rfl hF d_X10_strongest_116
      refine z_aload_n cx d_X10_strongest_40 0 rfl ?_
      refine z_getR cx hT fg_SunnyPansModel_58 451 rfl d_X10_strongest_41 ?_
      refine z_bipush (v := 64) cx d_X10_strongest_44 kb_64 ?_
      refine z_iload_n cx d_X10_strongest_46 3 rfl ?_
      refine z_iadd cx d_X10_strongest_47 ?_
      obtain ⟨hi5, hF⟩ := gin_inv hF
      refine z_iald cx (tfM_11_451 hT) za_36 hi5 (((64 : Int32) + b34_L3).toNatClampNeg) rfl d_X10_strongest_48 ?_
      refine z_if_le cx 80 d_X10_strongest_49 (by decide) hF (fun hF => ?_) (fun hF => ?_)
      · exact hb80 self34 hs34 b34_L1 b34_L2 b34_L3 M hF
      refine z_iload_n cx d_X10_strongest_52 2 rfl ?_
      refine z_iconst (v := -1) cx d_X10_strongest_53 ki_m1 ?_
      refine z_icmp_eq cx 76 d_X10_strongest_54 (by decide) hF (fun hF => ?_) (fun hF => ?_)
      · refine z_iload_n cx d_X10_strongest_76 3 rfl ?_
        refine z_goto cx 81 d_X10_strongest_77 (by decide) ?_
        exact z_lv [0, 1, 3] _ rfl (hb81 self34 hs34 b34_L1 b34_L3 b34_L3 M hF)
      refine z_aload_n cx d_X10_strongest_57 0 rfl ?_
      refine z_getR cx hT fg_SunnyPansModel_58 451 rfl d_X10_strongest_58 ?_
      refine z_iload_n cx d_X10_strongest_61 3 rfl ?_
      obtain ⟨v7, M6, hc, hF⟩ := zb_inv hF
      refine z_callS cx (As := [.ref (ad 451), .int b34_L3]) (rest := []) (c_X10_strength l cx.2.2.2.1.1 M 451 b34_L3 (tfM_11_451 hT) hc) cs_SunnyPansModel_330 ⟨rfl, rfl, Nat.le_of_ble_eq_true rfl, Nat.le_of_ble_eq_true rfl⟩ rfl rfl ⟨Nat.zero_le _, Nat.zero_le _⟩ (Nat.le_of_ble_eq_true rfl) d_X10_strongest_62 ?_
      refine z_aload_n cx d_X10_strongest_65 0 rfl ?_
      refine z_getR cx hT fg_SunnyPansModel_58 451 rfl d_X10_strongest_66 ?_
      refine z_iload_n cx d_X10_strongest_69 2 rfl ?_
      obtain ⟨v9, M8, hc, hF⟩ := zb_inv hF
      refine z_callS cx (As := [.ref (ad 451), .int b34_L2]) (rest := [.int v7]) (c_X10_strength l cx.2.2.2.1.1 M6 451 b34_L2 (tfM_11_451 hT) hc) cs_SunnyPansModel_330 ⟨rfl, rfl, Nat.le_of_ble_eq_true rfl, Nat.le_of_ble_eq_true rfl⟩ rfl rfl ⟨Nat.zero_le _, Nat.zero_le _⟩ (Nat.le_of_ble_eq_true rfl) d_X10_strongest_70 ?_
      refine z_icmp_le cx 80 d_X10_strongest_73 (by decide) hF (fun hF => ?_) (fun hF => ?_)
      · exact hb80 self34 hs34 b34_L1 b34_L2 b34_L3 M8 hF
      refine z_iload_n cx d_X10_strongest_76 3 rfl ?_
      refine z_goto cx 81 d_X10_strongest_77 (by decide) ?_
      exact z_lv [0, 1, 3] _ rfl (hb81 self34 hs34 b34_L1 b34_L3 b34_L3 M8 hF)
  have hb20 : ∀ (b20_L1 : Int32) (b20_S1 : Int32) (M : zMem), F_X10_strongest_20 p0 b20_L1 b20_S1 M = some (r9, M9) → zJ p l e rm_X10_strongest s m args below meth c G shM ad n A 4 (MQ below (zQ G shM ad n M9 (some (.int r9)) A) args s 0 0 A) 0 0 M 20 [(0, .ref (ad 0)), (1, .int b20_L1)] [.int b20_S1, .ref (ad 0)] := by
    intro b20_L1 b20_S1 M hF
    unfold F_X10_strongest_20 at hF
    refine z_iconst (v := 1) cx d_X10_strongest_20 ki_1 ?_
    refine z_iconst (v := 1) cx d_X10_strongest_21 ki_1 ?_
    obtain ⟨v11, M10, hc, hF⟩ := zb_inv hF
    refine z_callV cx (As := [.int b20_S1, .int (1 : Int32), .int (1 : Int32)]) (rest := []) (c_X10_bad l cx.2.2.2.1.1 M b20_S1 (1 : Int32) (1 : Int32) hT hc) hT zo_11 cv_SunnyPansModel_155 ⟨rfl, rfl, Nat.le_of_ble_eq_true rfl, Nat.le_of_ble_eq_true rfl⟩ rfl rfl ⟨Nat.zero_le _, Nat.zero_le _⟩ (Nat.le_of_ble_eq_true rfl) d_X10_strongest_22 ?_
    refine z_if_eq cx 30 d_X10_strongest_25 (by decide) hF (fun hF => ?_) (fun hF => ?_)
    · refine z_iconst (v := -1) cx d_X10_strongest_30 ki_m1 ?_
      refine z_istore_n cx 2 [(2, .int (-1 : Int32)), (0, .ref (ad 0)), (1, .int b20_L1)] d_X10_strongest_31 rfl (by decide) rfl ?_
      refine z_iconst (v := 0) cx d_X10_strongest_32 ki_0 ?_
      refine z_istore_n cx 3 [(3, .int (0 : Int32)), (2, .int (-1 : Int32)), (0, .ref (ad 0)), (1, .int b20_L1)] d_X10_strongest_33 rfl (by decide) rfl ?_
      exact z_lv [2, 3, 1, 0] _ rfl (hL34 zFuel b20_L1 (-1 : Int32) (0 : Int32) M10 hF)
    refine z_iconst (v := 0) cx d_X10_strongest_28 ki_0 ?_
    exact z_iret cx hr rfl hF d_X10_strongest_29
  unfold F_X10_strongest at hF
  refine z_aload_n cx d_X10_strongest_0 0 rfl ?_
  refine z_iconst (v := 0) cx d_X10_strongest_1 ki_0 ?_
  refine z_putI cx hT fp_SunnyPansModel_82 d_X10_strongest_2 ?_
  refine z_nmM hF (fun M12 hF => ?_)
  refine z_aload_n cx d_X10_strongest_5 0 rfl ?_
  refine z_iload_n cx d_X10_strongest_6 1 rfl ?_
  refine z_iconst (v := 0) cx d_X10_strongest_7 ki_0 ?_
  refine z_iconst (v := 1) cx d_X10_strongest_8 ki_1 ?_
  obtain ⟨v14, M13, hc, hF⟩ := zb_inv hF
  refine z_callS cx (As := [.int p0, .int (0 : Int32), .int (1 : Int32)]) (rest := [.ref (ad 0)]) (c_X10_in l cx.2.2.2.1.1 M12 p0 (0 : Int32) (1 : Int32)  hc) cs_SunnyPansModel_116 ⟨rfl, rfl, Nat.le_of_ble_eq_true rfl, Nat.le_of_ble_eq_true rfl⟩ rfl rfl ⟨Nat.zero_le _, Nat.zero_le _⟩ (Nat.le_of_ble_eq_true rfl) d_X10_strongest_9 ?_
  refine z_if_ne cx 19 d_X10_strongest_12 (by decide) hF (fun hF => ?_) (fun hF => ?_)
  · refine z_iconst (v := 0) cx d_X10_strongest_19 ki_0 ?_
    exact hb20 p0 (0 : Int32) M13 hF
  refine z_iconst (v := 1) cx d_X10_strongest_15 ki_1 ?_
  refine z_goto cx 20 d_X10_strongest_16 (by decide) ?_
  exact hb20 p0 (1 : Int32) M13 hF
/-! SunnyPansModel.greatest -/
theorem d_X10_greatest_0 : decode cX10_greatest 0 = .ok (.aload_n 0, 1) := by decide +kernel
theorem d_X10_greatest_1 : decode cX10_greatest 1 = .ok (.iconst 0, 1) := by decide +kernel
theorem d_X10_greatest_2 : decode cX10_greatest 2 = .ok (.putfield 82, 3) := by decide +kernel
theorem d_X10_greatest_5 : decode cX10_greatest 5 = .ok (.aload_n 0, 1) := by decide +kernel
theorem d_X10_greatest_6 : decode cX10_greatest 6 = .ok (.iload_n 1, 1) := by decide +kernel
theorem d_X10_greatest_7 : decode cX10_greatest 7 = .ok (.iconst 0, 1) := by decide +kernel
theorem d_X10_greatest_8 : decode cX10_greatest 8 = .ok (.iconst 1, 1) := by decide +kernel
theorem d_X10_greatest_9 : decode cX10_greatest 9 = .ok (.invokestatic 116, 3) := by decide +kernel
theorem d_X10_greatest_12 : decode cX10_greatest 12 = .ok (.ifCond .ne 7, 3) := by decide +kernel
theorem d_X10_greatest_15 : decode cX10_greatest 15 = .ok (.iconst 1, 1) := by decide +kernel
theorem d_X10_greatest_16 : decode cX10_greatest 16 = .ok (.goto 4, 3) := by decide +kernel
theorem d_X10_greatest_19 : decode cX10_greatest 19 = .ok (.iconst 0, 1) := by decide +kernel
theorem d_X10_greatest_20 : decode cX10_greatest 20 = .ok (.iconst 1, 1) := by decide +kernel
theorem d_X10_greatest_21 : decode cX10_greatest 21 = .ok (.iconst 1, 1) := by decide +kernel
theorem d_X10_greatest_22 : decode cX10_greatest 22 = .ok (.invokevirtual 155, 3) := by decide +kernel
theorem d_X10_greatest_25 : decode cX10_greatest 25 = .ok (.ifCond .eq 5, 3) := by decide +kernel
theorem d_X10_greatest_28 : decode cX10_greatest 28 = .ok (.iconst 0, 1) := by decide +kernel
theorem d_X10_greatest_29 : decode cX10_greatest 29 = .ok (.ireturn, 1) := by decide +kernel
theorem d_X10_greatest_30 : decode cX10_greatest 30 = .ok (.iconst (-1), 1) := by decide +kernel
theorem d_X10_greatest_31 : decode cX10_greatest 31 = .ok (.istore_n 2, 1) := by decide +kernel
theorem d_X10_greatest_32 : decode cX10_greatest 32 = .ok (.iconst 0, 1) := by decide +kernel
theorem d_X10_greatest_33 : decode cX10_greatest 33 = .ok (.istore_n 3, 1) := by decide +kernel
theorem d_X10_greatest_34 : decode cX10_greatest 34 = .ok (.iload_n 3, 1) := by decide +kernel
theorem d_X10_greatest_35 : decode cX10_greatest 35 = .ok (.bipush 64, 2) := by decide +kernel
theorem d_X10_greatest_37 : decode cX10_greatest 37 = .ok (.if_icmp .ge 56, 3) := by decide +kernel
theorem d_X10_greatest_40 : decode cX10_greatest 40 = .ok (.aload_n 0, 1) := by decide +kernel
theorem d_X10_greatest_41 : decode cX10_greatest 41 = .ok (.getfield 58, 3) := by decide +kernel
theorem d_X10_greatest_44 : decode cX10_greatest 44 = .ok (.sipush 128, 3) := by decide +kernel
theorem d_X10_greatest_47 : decode cX10_greatest 47 = .ok (.iload_n 3, 1) := by decide +kernel
theorem d_X10_greatest_48 : decode cX10_greatest 48 = .ok (.iadd, 1) := by decide +kernel
theorem d_X10_greatest_49 : decode cX10_greatest 49 = .ok (.iaload, 1) := by decide +kernel
theorem d_X10_greatest_50 : decode cX10_greatest 50 = .ok (.ifCond .le 35, 3) := by decide +kernel
theorem d_X10_greatest_53 : decode cX10_greatest 53 = .ok (.iload_n 2, 1) := by decide +kernel
theorem d_X10_greatest_54 : decode cX10_greatest 54 = .ok (.iconst (-1), 1) := by decide +kernel
theorem d_X10_greatest_55 : decode cX10_greatest 55 = .ok (.if_icmp .eq 26, 3) := by decide +kernel
theorem d_X10_greatest_58 : decode cX10_greatest 58 = .ok (.aload_n 0, 1) := by decide +kernel
theorem d_X10_greatest_59 : decode cX10_greatest 59 = .ok (.getfield 58, 3) := by decide +kernel
theorem d_X10_greatest_62 : decode cX10_greatest 62 = .ok (.sipush 128, 3) := by decide +kernel
theorem d_X10_greatest_65 : decode cX10_greatest 65 = .ok (.iload_n 3, 1) := by decide +kernel
theorem d_X10_greatest_66 : decode cX10_greatest 66 = .ok (.iadd, 1) := by decide +kernel
theorem d_X10_greatest_67 : decode cX10_greatest 67 = .ok (.iaload, 1) := by decide +kernel
theorem d_X10_greatest_68 : decode cX10_greatest 68 = .ok (.aload_n 0, 1) := by decide +kernel
theorem d_X10_greatest_69 : decode cX10_greatest 69 = .ok (.getfield 58, 3) := by decide +kernel
theorem d_X10_greatest_72 : decode cX10_greatest 72 = .ok (.sipush 128, 3) := by decide +kernel
theorem d_X10_greatest_75 : decode cX10_greatest 75 = .ok (.iload_n 2, 1) := by decide +kernel
theorem d_X10_greatest_76 : decode cX10_greatest 76 = .ok (.iadd, 1) := by decide +kernel
theorem d_X10_greatest_77 : decode cX10_greatest 77 = .ok (.iaload, 1) := by decide +kernel
theorem d_X10_greatest_78 : decode cX10_greatest 78 = .ok (.if_icmp .le 7, 3) := by decide +kernel
theorem d_X10_greatest_81 : decode cX10_greatest 81 = .ok (.iload_n 3, 1) := by decide +kernel
theorem d_X10_greatest_82 : decode cX10_greatest 82 = .ok (.goto 4, 3) := by decide +kernel
theorem d_X10_greatest_85 : decode cX10_greatest 85 = .ok (.iload_n 2, 1) := by decide +kernel
theorem d_X10_greatest_86 : decode cX10_greatest 86 = .ok (.istore_n 2, 1) := by decide +kernel
theorem d_X10_greatest_87 : decode cX10_greatest 87 = .ok (.iinc 3 1, 3) := by decide +kernel
theorem d_X10_greatest_90 : decode cX10_greatest 90 = .ok (.goto (-56), 3) := by decide +kernel
theorem d_X10_greatest_93 : decode cX10_greatest 93 = .ok (.iload_n 1, 1) := by decide +kernel
theorem d_X10_greatest_94 : decode cX10_greatest 94 = .ok (.ifCond .ne 10, 3) := by decide +kernel
theorem d_X10_greatest_97 : decode cX10_greatest 97 = .ok (.iload_n 2, 1) := by decide +kernel
theorem d_X10_greatest_98 : decode cX10_greatest 98 = .ok (.invokestatic 345, 3) := by decide +kernel
theorem d_X10_greatest_101 : decode cX10_greatest 101 = .ok (.goto 22, 3) := by decide +kernel
theorem d_X10_greatest_104 : decode cX10_greatest 104 = .ok (.iload_n 2, 1) := by decide +kernel
theorem d_X10_greatest_105 : decode cX10_greatest 105 = .ok (.iconst (-1), 1) := by decide +kernel
theorem d_X10_greatest_106 : decode cX10_greatest 106 = .ok (.if_icmp .ne 7, 3) := by decide +kernel
theorem d_X10_greatest_109 : decode cX10_greatest 109 = .ok (.iconst (-1), 1) := by decide +kernel
theorem d_X10_greatest_110 : decode cX10_greatest 110 = .ok (.goto 13, 3) := by decide +kernel
theorem d_X10_greatest_113 : decode cX10_greatest 113 = .ok (.aload_n 0, 1) := by decide +kernel
theorem d_X10_greatest_114 : decode cX10_greatest 114 = .ok (.getfield 58, 3) := by decide +kernel
theorem d_X10_greatest_117 : decode cX10_greatest 117 = .ok (.sipush 128, 3) := by decide +kernel
theorem d_X10_greatest_120 : decode cX10_greatest 120 = .ok (.iload_n 2, 1) := by decide +kernel
theorem d_X10_greatest_121 : decode cX10_greatest 121 = .ok (.iadd, 1) := by decide +kernel
theorem d_X10_greatest_122 : decode cX10_greatest 122 = .ok (.iaload, 1) := by decide +kernel
theorem d_X10_greatest_123 : decode cX10_greatest 123 = .ok (.ireturn, 1) := by decide +kernel
noncomputable def F_X10_greatest_86 (p0 : Int32) (self34 : Int32 → Int32 → Int32 → zMem → Option (Int32 × zMem)) (b86_L1 : Int32) (b86_L3 : Int32) (b86_S0 : Int32) (M : zMem) : Option (Int32 × zMem) :=
  self34 b86_L1 b86_S0 (b86_L3 + 1) M
noncomputable def F_X10_greatest_85 (p0 : Int32) (self34 : Int32 → Int32 → Int32 → zMem → Option (Int32 × zMem)) (b85_L1 : Int32) (b85_L2 : Int32) (b85_L3 : Int32) (M : zMem) : Option (Int32 × zMem) :=
  F_X10_greatest_86 p0 self34 b85_L1 b85_L3 b85_L2 M
noncomputable def F_X10_greatest_34 (p0 : Int32) (self34 : Int32 → Int32 → Int32 → zMem → Option (Int32 × zMem)) (b34_L1 : Int32) (b34_L2 : Int32) (b34_L3 : Int32) (M : zMem) : Option (Int32 × zMem) :=
  if (64 : Int32) ≤ b34_L3 then
    if b34_L1 = 0 then
      zb (F_X10_asTold M b34_L2) fun v3 M2 =>
      some (v3, M2)
    else
      if b34_L2 = (-1 : Int32) then
        some ((-1 : Int32), M)
      else
        gin ((128 : Int32) + b34_L2) 195 <|
        some ((M.1 451 ((128 : Int32) + b34_L2).toNatClampNeg), M)
  else
    gin ((128 : Int32) + b34_L3) 195 <|
    if (M.1 451 ((128 : Int32) + b34_L3).toNatClampNeg) ≤ 0 then
      F_X10_greatest_85 p0 self34 b34_L1 b34_L2 b34_L3 M
    else
      if b34_L2 = (-1 : Int32) then
        F_X10_greatest_86 p0 self34 b34_L1 b34_L3 b34_L3 M
      else
        gin ((128 : Int32) + b34_L2) 195 <|
        if (M.1 451 ((128 : Int32) + b34_L3).toNatClampNeg) ≤ (M.1 451 ((128 : Int32) + b34_L2).toNatClampNeg) then
          F_X10_greatest_85 p0 self34 b34_L1 b34_L2 b34_L3 M
        else
          F_X10_greatest_86 p0 self34 b34_L1 b34_L3 b34_L3 M
noncomputable def F_X10_greatest_20 (p0 : Int32) (b20_L1 : Int32) (b20_S1 : Int32) (M : zMem) : Option (Int32 × zMem) :=
  zb (F_X10_bad M b20_S1 (1 : Int32) (1 : Int32)) fun v7 M6 =>
  if v7 = 0 then
    itF (fun _ _ _ _ => none) (F_X10_greatest_34 p0) zFuel b20_L1 (-1 : Int32) (0 : Int32) M6
  else
    some ((0 : Int32), M6)
noncomputable def F_X10_greatest (M : zMem) (p0 : Int32) : Option (Int32 × zMem) :=
  zl (zI M 0 0 (0 : Int32)) fun M8 =>
  zb (F_X10_in M8 p0 (0 : Int32) (1 : Int32)) fun v10 M9 =>
  if v10 = 0 then
    F_X10_greatest_20 p0 p0 (1 : Int32) M9
  else
    F_X10_greatest_20 p0 p0 (0 : Int32) M9
def rm_X10_greatest : Room := { frames := 3, cells := 0, slots := 0, locals := 103 }
set_option maxHeartbeats 4000000 in
set_option maxRecDepth 100000 in
theorem c_X10_greatest (l : Launch) {G : zG} {ad : Nat → Nat} {n : Nat} (hA : zInj ad n) (M : zMem) (p0 : Int32) (hT : zT shM n 0 11) {r9 : Int32} {M9 : zMem} (hF : F_X10_greatest M p0 = some (r9, M9)) : zM l yX10_greatest cX10_greatest 4 (some .int) rm_X10_greatest G shM ad n M [.ref (ad 0), .int p0] (some (.int r9)) M9 := by
  refine zM_of hA (by decide +kernel) (lv := [(0, .ref (ad 0)), (1, .int p0)]) (Nat.le_of_ble_eq_true rfl) rfl (fun p e s m args below meth c A cx hr => ?_)
  have hb86 : ∀ (self34 : Int32 → Int32 → Int32 → zMem → Option (Int32 × zMem)) (hs34 : ∀ (b34_L1 : Int32) (b34_L2 : Int32) (b34_L3 : Int32) (M : zMem), self34 b34_L1 b34_L2 b34_L3 M = some (r9, M9) → zJ p l e rm_X10_greatest s m args below meth c G shM ad n A 4 (MQ below (zQ G shM ad n M9 (some (.int r9)) A) args s 0 0 A) 0 0 M 34 [(0, .ref (ad 0)), (1, .int b34_L1), (2, .int b34_L2), (3, .int b34_L3)] []), ∀ (b86_L1 : Int32) (b86_L3 : Int32) (b86_S0 : Int32) (M : zMem), F_X10_greatest_86 p0 self34 b86_L1 b86_L3 b86_S0 M = some (r9, M9) → zJ p l e rm_X10_greatest s m args below meth c G shM ad n A 4 (MQ below (zQ G shM ad n M9 (some (.int r9)) A) args s 0 0 A) 0 0 M 86 [(0, .ref (ad 0)), (1, .int b86_L1), (3, .int b86_L3)] [.int b86_S0] := by
    intro self34 hs34 b86_L1 b86_L3 b86_S0 M hF
    unfold F_X10_greatest_86 at hF
    refine z_istore_n cx 2 [(2, .int b86_S0), (0, .ref (ad 0)), (1, .int b86_L1), (3, .int b86_L3)] d_X10_greatest_86 rfl (by decide) rfl ?_
    refine z_iinc cx 3 1 [(3, .int (b86_L3 + 1)), (2, .int b86_S0), (0, .ref (ad 0)), (1, .int b86_L1)] d_X10_greatest_87 3 rfl ki_1 (by decide) rfl ?_
    refine z_goto cx 34 d_X10_greatest_90 (by decide) ?_
    exact z_lv [2, 3, 1, 0] _ rfl (hs34 b86_L1 b86_S0 (b86_L3 + 1) M hF)
  have hb85 : ∀ (self34 : Int32 → Int32 → Int32 → zMem → Option (Int32 × zMem)) (hs34 : ∀ (b34_L1 : Int32) (b34_L2 : Int32) (b34_L3 : Int32) (M : zMem), self34 b34_L1 b34_L2 b34_L3 M = some (r9, M9) → zJ p l e rm_X10_greatest s m args below meth c G shM ad n A 4 (MQ below (zQ G shM ad n M9 (some (.int r9)) A) args s 0 0 A) 0 0 M 34 [(0, .ref (ad 0)), (1, .int b34_L1), (2, .int b34_L2), (3, .int b34_L3)] []), ∀ (b85_L1 : Int32) (b85_L2 : Int32) (b85_L3 : Int32) (M : zMem), F_X10_greatest_85 p0 self34 b85_L1 b85_L2 b85_L3 M = some (r9, M9) → zJ p l e rm_X10_greatest s m args below meth c G shM ad n A 4 (MQ below (zQ G shM ad n M9 (some (.int r9)) A) args s 0 0 A) 0 0 M 85 [(0, .ref (ad 0)), (1, .int b85_L1), (2, .int b85_L2), (3, .int b85_L3)] [] := by
    intro self34 hs34 b85_L1 b85_L2 b85_L3 M hF
    unfold F_X10_greatest_85 at hF
    refine z_iload_n cx d_X10_greatest_85 2 rfl ?_
    exact z_lv [0, 1, 3] _ rfl (hb86 self34 hs34 b85_L1 b85_L3 b85_L2 M hF)
  have hL34 : ∀ (fuel : Nat), ∀ (b34_L1 : Int32) (b34_L2 : Int32) (b34_L3 : Int32) (M : zMem), itF (fun _ _ _ _ => none) (F_X10_greatest_34 p0) fuel b34_L1 b34_L2 b34_L3 M = some (r9, M9) → zJ p l e rm_X10_greatest s m args below meth c G shM ad n A 4 (MQ below (zQ G shM ad n M9 (some (.int r9)) A) args s 0 0 A) 0 0 M 34 [(0, .ref (ad 0)), (1, .int b34_L1), (2, .int b34_L2), (3, .int b34_L3)] [] := by
    intro fuel
    induction fuel with
    | zero => intro b34_L1 b34_L2 b34_L3 M hF; cases hF
    | succ fuel hs34 =>
      intro b34_L1 b34_L2 b34_L3 M hF
      have hF : F_X10_greatest_34 p0 (itF (fun _ _ _ _ => none) (F_X10_greatest_34 p0) fuel) b34_L1 b34_L2 b34_L3 M = some (r9, M9) := hF
      generalize itF (fun _ _ _ _ => none) (F_X10_greatest_34 p0) fuel = self34 at hs34 hF
      unfold F_X10_greatest_34 at hF
      refine z_iload_n cx d_X10_greatest_34 3 rfl ?_
      refine z_bipush (v := 64) cx d_X10_greatest_35 kb_64 ?_
      refine z_icmp_ge cx 93 d_X10_greatest_37 (by decide) hF (fun hF => ?_) (fun hF => ?_)
      · refine z_iload_n cx d_X10_greatest_93 1 rfl ?_
        refine z_if_ne cx 104 d_X10_greatest_94 (by decide) hF (fun hF => ?_) (fun hF => ?_)
        · refine z_iload_n cx d_X10_greatest_104 2 rfl ?_
          refine z_iconst (v := -1) cx d_X10_greatest_105 ki_m1 ?_
          refine z_icmp_ne cx 113 d_X10_greatest_106 (by decide) hF (fun hF => ?_) (fun hF => ?_)
          · refine z_aload_n cx d_X10_greatest_113 0 rfl ?_
            refine z_getR cx hT fg_SunnyPansModel_58 451 rfl d_X10_greatest_114 ?_
            refine z_sipush (v := 128) cx d_X10_greatest_117 ks_128 ?_
            refine z_iload_n cx d_X10_greatest_120 2 rfl ?_
            refine z_iadd cx d_X10_greatest_121 ?_
            obtain ⟨hi1, hF⟩ := gin_inv hF
            refine z_iald cx (tfM_11_451 hT) za_36 hi1 (((128 : Int32) + b34_L2).toNatClampNeg) rfl d_X10_greatest_122 ?_
            exact z_iret cx hr rfl hF d_X10_greatest_123
          refine z_iconst (v := -1) cx d_X10_greatest_109 ki_m1 ?_
          refine z_goto cx 123 d_X10_greatest_110 (by decide) ?_
          exact z_iret cx hr rfl hF d_X10_greatest_123
        refine z_iload_n cx d_X10_greatest_97 2 rfl ?_
        obtain ⟨v3, M2, hc, hF⟩ := zb_inv hF
        refine z_callS cx (As := [.int b34_L2]) (rest := []) (c_X10_asTold l cx.2.2.2.1.1 M b34_L2  hc) cs_SunnyPansModel_345 ⟨rfl, rfl, Nat.le_of_ble_eq_true rfl, Nat.le_of_ble_eq_true rfl⟩ rfl rfl ⟨Nat.zero_le _, Nat.zero_le _⟩ (Nat.le_of_ble_eq_true rfl) d_X10_greatest_98 ?_
        refine z_goto cx 123 d_X10_greatest_101 (by decide) ?_
        exact z_iret cx hr rfl hF d_X10_greatest_123
      refine z_aload_n cx d_X10_greatest_40 0 rfl ?_
      refine z_getR cx hT fg_SunnyPansModel_58 451 rfl d_X10_greatest_41 ?_
      refine z_sipush (v := 128) cx d_X10_greatest_44 ks_128 ?_
      refine z_iload_n cx d_X10_greatest_47 3 rfl ?_
      refine z_iadd cx d_X10_greatest_48 ?_
      obtain ⟨hi4, hF⟩ := gin_inv hF
      refine z_iald cx (tfM_11_451 hT) za_36 hi4 (((128 : Int32) + b34_L3).toNatClampNeg) rfl d_X10_greatest_49 ?_
      refine z_if_le cx 85 d_X10_greatest_50 (by decide) hF (fun hF => ?_) (fun hF => ?_)
      · exact hb85 self34 hs34 b34_L1 b34_L2 b34_L3 M hF
      refine z_iload_n cx d_X10_greatest_53 2 rfl ?_
      refine z_iconst (v := -1) cx d_X10_greatest_54 ki_m1 ?_
      refine z_icmp_eq cx 81 d_X10_greatest_55 (by decide) hF (fun hF => ?_) (fun hF => ?_)
      · refine z_iload_n cx d_X10_greatest_81 3 rfl ?_
        refine z_goto cx 86 d_X10_greatest_82 (by decide) ?_
        exact z_lv [0, 1, 3] _ rfl (hb86 self34 hs34 b34_L1 b34_L3 b34_L3 M hF)
      refine z_aload_n cx d_X10_greatest_58 0 rfl ?_
      refine z_getR cx hT fg_SunnyPansModel_58 451 rfl d_X10_greatest_59 ?_
      refine z_sipush (v := 128) cx d_X10_greatest_62 ks_128 ?_
      refine z_iload_n cx d_X10_greatest_65 3 rfl ?_
      refine z_iadd cx d_X10_greatest_66 ?_
      refine z_iald cx (tfM_11_451 hT) za_36 hi4 (((128 : Int32) + b34_L3).toNatClampNeg) rfl d_X10_greatest_67 ?_
      refine z_aload_n cx d_X10_greatest_68 0 rfl ?_
      refine z_getR cx hT fg_SunnyPansModel_58 451 rfl d_X10_greatest_69 ?_
      refine z_sipush (v := 128) cx d_X10_greatest_72 ks_128 ?_
      refine z_iload_n cx d_X10_greatest_75 2 rfl ?_
      refine z_iadd cx d_X10_greatest_76 ?_
      obtain ⟨hi5, hF⟩ := gin_inv hF
      refine z_iald cx (tfM_11_451 hT) za_36 hi5 (((128 : Int32) + b34_L2).toNatClampNeg) rfl d_X10_greatest_77 ?_
      refine z_icmp_le cx 85 d_X10_greatest_78 (by decide) hF (fun hF => ?_) (fun hF => ?_)
      · exact hb85 self34 hs34 b34_L1 b34_L2 b34_L3 M hF
      refine z_iload_n cx d_X10_greatest_81 3 rfl ?_
      refine z_goto cx 86 d_X10_greatest_82 (by decide) ?_
      exact z_lv [0, 1, 3] _ rfl (hb86 self34 hs34 b34_L1 b34_L3 b34_L3 M hF)
  have hb20 : ∀ (b20_L1 : Int32) (b20_S1 : Int32) (M : zMem), F_X10_greatest_20 p0 b20_L1 b20_S1 M = some (r9, M9) → zJ p l e rm_X10_greatest s m args below meth c G shM ad n A 4 (MQ below (zQ G shM ad n M9 (some (.int r9)) A) args s 0 0 A) 0 0 M 20 [(0, .ref (ad 0)), (1, .int b20_L1)] [.int b20_S1, .ref (ad 0)] := by
    intro b20_L1 b20_S1 M hF
    unfold F_X10_greatest_20 at hF
    refine z_iconst (v := 1) cx d_X10_greatest_20 ki_1 ?_
    refine z_iconst (v := 1) cx d_X10_greatest_21 ki_1 ?_
    obtain ⟨v7, M6, hc, hF⟩ := zb_inv hF
    refine z_callV cx (As := [.int b20_S1, .int (1 : Int32), .int (1 : Int32)]) (rest := []) (c_X10_bad l cx.2.2.2.1.1 M b20_S1 (1 : Int32) (1 : Int32) hT hc) hT zo_11 cv_SunnyPansModel_155 ⟨rfl, rfl, Nat.le_of_ble_eq_true rfl, Nat.le_of_ble_eq_true rfl⟩ rfl rfl ⟨Nat.zero_le _, Nat.zero_le _⟩ (Nat.le_of_ble_eq_true rfl) d_X10_greatest_22 ?_
    refine z_if_eq cx 30 d_X10_greatest_25 (by decide) hF (fun hF => ?_) (fun hF => ?_)
    · refine z_iconst (v := -1) cx d_X10_greatest_30 ki_m1 ?_
      refine z_istore_n cx 2 [(2, .int (-1 : Int32)), (0, .ref (ad 0)), (1, .int b20_L1)] d_X10_greatest_31 rfl (by decide) rfl ?_
      refine z_iconst (v := 0) cx d_X10_greatest_32 ki_0 ?_
      refine z_istore_n cx 3 [(3, .int (0 : Int32)), (2, .int (-1 : Int32)), (0, .ref (ad 0)), (1, .int b20_L1)] d_X10_greatest_33 rfl (by decide) rfl ?_
      exact z_lv [2, 3, 1, 0] _ rfl (hL34 zFuel b20_L1 (-1 : Int32) (0 : Int32) M6 hF)
    refine z_iconst (v := 0) cx d_X10_greatest_28 ki_0 ?_
    exact z_iret cx hr rfl hF d_X10_greatest_29
  unfold F_X10_greatest at hF
  refine z_aload_n cx d_X10_greatest_0 0 rfl ?_
  refine z_iconst (v := 0) cx d_X10_greatest_1 ki_0 ?_
  refine z_putI cx hT fp_SunnyPansModel_82 d_X10_greatest_2 ?_
  refine z_nmM hF (fun M8 hF => ?_)
  refine z_aload_n cx d_X10_greatest_5 0 rfl ?_
  refine z_iload_n cx d_X10_greatest_6 1 rfl ?_
  refine z_iconst (v := 0) cx d_X10_greatest_7 ki_0 ?_
  refine z_iconst (v := 1) cx d_X10_greatest_8 ki_1 ?_
  obtain ⟨v10, M9, hc, hF⟩ := zb_inv hF
  refine z_callS cx (As := [.int p0, .int (0 : Int32), .int (1 : Int32)]) (rest := [.ref (ad 0)]) (c_X10_in l cx.2.2.2.1.1 M8 p0 (0 : Int32) (1 : Int32)  hc) cs_SunnyPansModel_116 ⟨rfl, rfl, Nat.le_of_ble_eq_true rfl, Nat.le_of_ble_eq_true rfl⟩ rfl rfl ⟨Nat.zero_le _, Nat.zero_le _⟩ (Nat.le_of_ble_eq_true rfl) d_X10_greatest_9 ?_
  refine z_if_ne cx 19 d_X10_greatest_12 (by decide) hF (fun hF => ?_) (fun hF => ?_)
  · refine z_iconst (v := 0) cx d_X10_greatest_19 ki_0 ?_
    exact hb20 p0 (0 : Int32) M9 hF
  refine z_iconst (v := 1) cx d_X10_greatest_15 ki_1 ?_
  refine z_goto cx 20 d_X10_greatest_16 (by decide) ?_
  exact hb20 p0 (1 : Int32) M9 hF
/-! SunnyPansModel.cast -/
theorem d_X10_cast_0 : decode cX10_cast 0 = .ok (.aload_n 0, 1) := by decide +kernel
theorem d_X10_cast_1 : decode cX10_cast 1 = .ok (.iconst 0, 1) := by decide +kernel
theorem d_X10_cast_2 : decode cX10_cast 2 = .ok (.putfield 82, 3) := by decide +kernel
theorem d_X10_cast_5 : decode cX10_cast 5 = .ok (.aload_n 0, 1) := by decide +kernel
theorem d_X10_cast_6 : decode cX10_cast 6 = .ok (.aload_n 0, 1) := by decide +kernel
theorem d_X10_cast_7 : decode cX10_cast 7 = .ok (.iload_n 1, 1) := by decide +kernel
theorem d_X10_cast_8 : decode cX10_cast 8 = .ok (.iload_n 2, 1) := by decide +kernel
theorem d_X10_cast_9 : decode cX10_cast 9 = .ok (.invokevirtual 237, 3) := by decide +kernel
theorem d_X10_cast_12 : decode cX10_cast 12 = .ok (.ifCond .eq 11, 3) := by decide +kernel
theorem d_X10_cast_15 : decode cX10_cast 15 = .ok (.aload_n 0, 1) := by decide +kernel
theorem d_X10_cast_16 : decode cX10_cast 16 = .ok (.iload_n 3, 1) := by decide +kernel
theorem d_X10_cast_17 : decode cX10_cast 17 = .ok (.invokevirtual 336, 3) := by decide +kernel
theorem d_X10_cast_20 : decode cX10_cast 20 = .ok (.ifCond .ne 7, 3) := by decide +kernel
theorem d_X10_cast_23 : decode cX10_cast 23 = .ok (.iconst 1, 1) := by decide +kernel
theorem d_X10_cast_24 : decode cX10_cast 24 = .ok (.goto 4, 3) := by decide +kernel
theorem d_X10_cast_27 : decode cX10_cast 27 = .ok (.iconst 0, 1) := by decide +kernel
theorem d_X10_cast_28 : decode cX10_cast 28 = .ok (.iconst 1, 1) := by decide +kernel
theorem d_X10_cast_29 : decode cX10_cast 29 = .ok (.iconst 0, 1) := by decide +kernel
theorem d_X10_cast_30 : decode cX10_cast 30 = .ok (.invokevirtual 155, 3) := by decide +kernel
theorem d_X10_cast_33 : decode cX10_cast 33 = .ok (.ifCond .eq 5, 3) := by decide +kernel
theorem d_X10_cast_36 : decode cX10_cast 36 = .ok (.iconst 0, 1) := by decide +kernel
theorem d_X10_cast_37 : decode cX10_cast 37 = .ok (.ireturn, 1) := by decide +kernel
theorem d_X10_cast_38 : decode cX10_cast 38 = .ok (.bipush 8, 2) := by decide +kernel
theorem d_X10_cast_40 : decode cX10_cast 40 = .ok (.iload_n 2, 1) := by decide +kernel
theorem d_X10_cast_41 : decode cX10_cast 41 = .ok (.imul, 1) := by decide +kernel
theorem d_X10_cast_42 : decode cX10_cast 42 = .ok (.iload_n 1, 1) := by decide +kernel
theorem d_X10_cast_43 : decode cX10_cast 43 = .ok (.iadd, 1) := by decide +kernel
theorem d_X10_cast_44 : decode cX10_cast 44 = .ok (.istore 4, 2) := by decide +kernel
theorem d_X10_cast_46 : decode cX10_cast 46 = .ok (.iconst 0, 1) := by decide +kernel
theorem d_X10_cast_47 : decode cX10_cast 47 = .ok (.istore 5, 2) := by decide +kernel
theorem d_X10_cast_49 : decode cX10_cast 49 = .ok (.iconst 0, 1) := by decide +kernel
theorem d_X10_cast_50 : decode cX10_cast 50 = .ok (.istore 6, 2) := by decide +kernel
theorem d_X10_cast_52 : decode cX10_cast 52 = .ok (.iload 6, 2) := by decide +kernel
theorem d_X10_cast_54 : decode cX10_cast 54 = .ok (.bipush 64, 2) := by decide +kernel
theorem d_X10_cast_56 : decode cX10_cast 56 = .ok (.if_icmp .ge 58, 3) := by decide +kernel
theorem d_X10_cast_59 : decode cX10_cast 59 = .ok (.iload 5, 2) := by decide +kernel
theorem d_X10_cast_61 : decode cX10_cast 61 = .ok (.iload 6, 2) := by decide +kernel
theorem d_X10_cast_63 : decode cX10_cast 63 = .ok (.iload 4, 2) := by decide +kernel
theorem d_X10_cast_65 : decode cX10_cast 65 = .ok (.if_icmp .eq 39, 3) := by decide +kernel
theorem d_X10_cast_68 : decode cX10_cast 68 = .ok (.aload_n 0, 1) := by decide +kernel
theorem d_X10_cast_69 : decode cX10_cast 69 = .ok (.iload 6, 2) := by decide +kernel
theorem d_X10_cast_71 : decode cX10_cast 71 = .ok (.invokevirtual 284, 3) := by decide +kernel
theorem d_X10_cast_74 : decode cX10_cast 74 = .ok (.ifCond .eq 30, 3) := by decide +kernel
theorem d_X10_cast_77 : decode cX10_cast 77 = .ok (.aload_n 0, 1) := by decide +kernel
theorem d_X10_cast_78 : decode cX10_cast 78 = .ok (.iload 4, 2) := by decide +kernel
theorem d_X10_cast_80 : decode cX10_cast 80 = .ok (.aload_n 0, 1) := by decide +kernel
theorem d_X10_cast_81 : decode cX10_cast 81 = .ok (.getfield 58, 3) := by decide +kernel
theorem d_X10_cast_84 : decode cX10_cast 84 = .ok (.sipush 128, 3) := by decide +kernel
theorem d_X10_cast_87 : decode cX10_cast 87 = .ok (.iload 4, 2) := by decide +kernel
theorem d_X10_cast_89 : decode cX10_cast 89 = .ok (.iadd, 1) := by decide +kernel
theorem d_X10_cast_90 : decode cX10_cast 90 = .ok (.iaload, 1) := by decide +kernel
theorem d_X10_cast_91 : decode cX10_cast 91 = .ok (.iload 6, 2) := by decide +kernel
theorem d_X10_cast_93 : decode cX10_cast 93 = .ok (.iload_n 3, 1) := by decide +kernel
theorem d_X10_cast_94 : decode cX10_cast 94 = .ok (.invokevirtual 253, 3) := by decide +kernel
theorem d_X10_cast_97 : decode cX10_cast 97 = .ok (.ifCond .eq 7, 3) := by decide +kernel
theorem d_X10_cast_100 : decode cX10_cast 100 = .ok (.iconst 1, 1) := by decide +kernel
theorem d_X10_cast_101 : decode cX10_cast 101 = .ok (.goto 4, 3) := by decide +kernel
theorem d_X10_cast_104 : decode cX10_cast 104 = .ok (.iconst 0, 1) := by decide +kernel
theorem d_X10_cast_105 : decode cX10_cast 105 = .ok (.iadd, 1) := by decide +kernel
theorem d_X10_cast_106 : decode cX10_cast 106 = .ok (.istore 5, 2) := by decide +kernel
theorem d_X10_cast_108 : decode cX10_cast 108 = .ok (.iinc 6 1, 3) := by decide +kernel
theorem d_X10_cast_111 : decode cX10_cast 111 = .ok (.goto (-59), 3) := by decide +kernel
theorem d_X10_cast_114 : decode cX10_cast 114 = .ok (.iload 5, 2) := by decide +kernel
theorem d_X10_cast_116 : decode cX10_cast 116 = .ok (.ireturn, 1) := by decide +kernel
noncomputable def F_X10_cast_105 (p0 : Int32) (p1 : Int32) (p2 : Int32) (self52 : Int32 → Int32 → Int32 → Int32 → zMem → Option (Int32 × zMem)) (b105_L3 : Int32) (b105_L4 : Int32) (b105_L6 : Int32) (b105_S0 : Int32) (b105_S1 : Int32) (M : zMem) : Option (Int32 × zMem) :=
  zl (b105_S0 + b105_S1) fun v1 =>
  self52 b105_L3 b105_L4 v1 (b105_L6 + 1) M
noncomputable def F_X10_cast_104 (p0 : Int32) (p1 : Int32) (p2 : Int32) (self52 : Int32 → Int32 → Int32 → Int32 → zMem → Option (Int32 × zMem)) (b104_L3 : Int32) (b104_L4 : Int32) (b104_L6 : Int32) (b104_S0 : Int32) (M : zMem) : Option (Int32 × zMem) :=
  F_X10_cast_105 p0 p1 p2 self52 b104_L3 b104_L4 b104_L6 b104_S0 (0 : Int32) M
noncomputable def F_X10_cast_52 (p0 : Int32) (p1 : Int32) (p2 : Int32) (self52 : Int32 → Int32 → Int32 → Int32 → zMem → Option (Int32 × zMem)) (b52_L3 : Int32) (b52_L4 : Int32) (b52_L5 : Int32) (b52_L6 : Int32) (M : zMem) : Option (Int32 × zMem) :=
  if (64 : Int32) ≤ b52_L6 then
    some (b52_L5, M)
  else
    if b52_L6 = b52_L4 then
      F_X10_cast_104 p0 p1 p2 self52 b52_L3 b52_L4 b52_L6 b52_L5 M
    else
      zb (F_X10_isHere M b52_L6) fun v3 M2 =>
      if v3 = 0 then
        F_X10_cast_104 p0 p1 p2 self52 b52_L3 b52_L4 b52_L6 b52_L5 M2
      else
        gin ((128 : Int32) + b52_L4) 195 <|
        zb (F_X10_covers M2 b52_L4 (M2.1 451 ((128 : Int32) + b52_L4).toNatClampNeg) b52_L6 b52_L3) fun v6 M5 =>
        if v6 = 0 then
          F_X10_cast_104 p0 p1 p2 self52 b52_L3 b52_L4 b52_L6 b52_L5 M5
        else
          F_X10_cast_105 p0 p1 p2 self52 b52_L3 b52_L4 b52_L6 b52_L5 (1 : Int32) M5
noncomputable def F_X10_cast_28 (p0 : Int32) (p1 : Int32) (p2 : Int32) (b28_L1 : Int32) (b28_L2 : Int32) (b28_L3 : Int32) (b28_S1 : Int32) (M : zMem) : Option (Int32 × zMem) :=
  zb (F_X10_bad M b28_S1 (1 : Int32) (0 : Int32)) fun v8 M7 =>
  if v8 = 0 then
    zl (((8 : Int32) * b28_L2) + b28_L1) fun v9 =>
    itF (fun _ _ _ _ _ => none) (F_X10_cast_52 p0 p1 p2) zFuel b28_L3 v9 (0 : Int32) (0 : Int32) M7
  else
    some ((0 : Int32), M7)
noncomputable def F_X10_cast (M : zMem) (p0 : Int32) (p1 : Int32) (p2 : Int32) : Option (Int32 × zMem) :=
  zl (zI M 0 0 (0 : Int32)) fun M10 =>
  zb (F_X10_isWithin M10 p0 p1) fun v12 M11 =>
  if v12 = 0 then
    F_X10_cast_28 p0 p1 p2 p0 p1 p2 (1 : Int32) M11
  else
    zb (F_X10_isHour M11 p2) fun v14 M13 =>
    if v14 = 0 then
      F_X10_cast_28 p0 p1 p2 p0 p1 p2 (1 : Int32) M13
    else
      F_X10_cast_28 p0 p1 p2 p0 p1 p2 (0 : Int32) M13
def rm_X10_cast : Room := { frames := 5, cells := 0, slots := 0, locals := 149 }
set_option maxHeartbeats 4000000 in
set_option maxRecDepth 100000 in
theorem c_X10_cast (l : Launch) {G : zG} {ad : Nat → Nat} {n : Nat} (hA : zInj ad n) (M : zMem) (p0 : Int32) (p1 : Int32) (p2 : Int32) (hT : zT shM n 0 11) {r9 : Int32} {M9 : zMem} (hF : F_X10_cast M p0 p1 p2 = some (r9, M9)) : zM l yX10_cast cX10_cast 7 (some .int) rm_X10_cast G shM ad n M [.ref (ad 0), .int p0, .int p1, .int p2] (some (.int r9)) M9 := by
  refine zM_of hA (by decide +kernel) (lv := [(0, .ref (ad 0)), (1, .int p0), (2, .int p1), (3, .int p2)]) (Nat.le_of_ble_eq_true rfl) rfl (fun p e s m args below meth c A cx hr => ?_)
  have hb105 : ∀ (self52 : Int32 → Int32 → Int32 → Int32 → zMem → Option (Int32 × zMem)) (hs52 : ∀ (b52_L3 : Int32) (b52_L4 : Int32) (b52_L5 : Int32) (b52_L6 : Int32) (M : zMem), self52 b52_L3 b52_L4 b52_L5 b52_L6 M = some (r9, M9) → zJ p l e rm_X10_cast s m args below meth c G shM ad n A 7 (MQ below (zQ G shM ad n M9 (some (.int r9)) A) args s 0 0 A) 0 0 M 52 [(0, .ref (ad 0)), (3, .int b52_L3), (4, .int b52_L4), (5, .int b52_L5), (6, .int b52_L6)] []), ∀ (b105_L3 : Int32) (b105_L4 : Int32) (b105_L6 : Int32) (b105_S0 : Int32) (b105_S1 : Int32) (M : zMem), F_X10_cast_105 p0 p1 p2 self52 b105_L3 b105_L4 b105_L6 b105_S0 b105_S1 M = some (r9, M9) → zJ p l e rm_X10_cast s m args below meth c G shM ad n A 7 (MQ below (zQ G shM ad n M9 (some (.int r9)) A) args s 0 0 A) 0 0 M 105 [(0, .ref (ad 0)), (3, .int b105_L3), (4, .int b105_L4), (6, .int b105_L6)] [.int b105_S1, .int b105_S0] := by
    intro self52 hs52 b105_L3 b105_L4 b105_L6 b105_S0 b105_S1 M hF
    unfold F_X10_cast_105 at hF
    refine z_iadd cx d_X10_cast_105 ?_
    refine z_nm hF (fun v1 hF => ?_)
    refine z_istore cx 5 [(5, .int v1), (0, .ref (ad 0)), (3, .int b105_L3), (4, .int b105_L4), (6, .int b105_L6)] d_X10_cast_106 (by decide) rfl ?_
    refine z_iinc cx 6 1 [(6, .int (b105_L6 + 1)), (5, .int v1), (0, .ref (ad 0)), (3, .int b105_L3), (4, .int b105_L4)] d_X10_cast_108 4 rfl ki_1 (by decide) rfl ?_
    refine z_goto cx 52 d_X10_cast_111 (by decide) ?_
    exact z_lv [2, 3, 4, 1, 0] _ rfl (hs52 b105_L3 b105_L4 v1 (b105_L6 + 1) M hF)
  have hb104 : ∀ (self52 : Int32 → Int32 → Int32 → Int32 → zMem → Option (Int32 × zMem)) (hs52 : ∀ (b52_L3 : Int32) (b52_L4 : Int32) (b52_L5 : Int32) (b52_L6 : Int32) (M : zMem), self52 b52_L3 b52_L4 b52_L5 b52_L6 M = some (r9, M9) → zJ p l e rm_X10_cast s m args below meth c G shM ad n A 7 (MQ below (zQ G shM ad n M9 (some (.int r9)) A) args s 0 0 A) 0 0 M 52 [(0, .ref (ad 0)), (3, .int b52_L3), (4, .int b52_L4), (5, .int b52_L5), (6, .int b52_L6)] []), ∀ (b104_L3 : Int32) (b104_L4 : Int32) (b104_L6 : Int32) (b104_S0 : Int32) (M : zMem), F_X10_cast_104 p0 p1 p2 self52 b104_L3 b104_L4 b104_L6 b104_S0 M = some (r9, M9) → zJ p l e rm_X10_cast s m args below meth c G shM ad n A 7 (MQ below (zQ G shM ad n M9 (some (.int r9)) A) args s 0 0 A) 0 0 M 104 [(0, .ref (ad 0)), (3, .int b104_L3), (4, .int b104_L4), (6, .int b104_L6)] [.int b104_S0] := by
    intro self52 hs52 b104_L3 b104_L4 b104_L6 b104_S0 M hF
    unfold F_X10_cast_104 at hF
    refine z_iconst (v := 0) cx d_X10_cast_104 ki_0 ?_
    exact hb105 self52 hs52 b104_L3 b104_L4 b104_L6 b104_S0 (0 : Int32) M hF
  have hL52 : ∀ (fuel : Nat), ∀ (b52_L3 : Int32) (b52_L4 : Int32) (b52_L5 : Int32) (b52_L6 : Int32) (M : zMem), itF (fun _ _ _ _ _ => none) (F_X10_cast_52 p0 p1 p2) fuel b52_L3 b52_L4 b52_L5 b52_L6 M = some (r9, M9) → zJ p l e rm_X10_cast s m args below meth c G shM ad n A 7 (MQ below (zQ G shM ad n M9 (some (.int r9)) A) args s 0 0 A) 0 0 M 52 [(0, .ref (ad 0)), (3, .int b52_L3), (4, .int b52_L4), (5, .int b52_L5), (6, .int b52_L6)] [] := by
    intro fuel
    induction fuel with
    | zero => intro b52_L3 b52_L4 b52_L5 b52_L6 M hF; cases hF
    | succ fuel hs52 =>
      intro b52_L3 b52_L4 b52_L5 b52_L6 M hF
      have hF : F_X10_cast_52 p0 p1 p2 (itF (fun _ _ _ _ _ => none) (F_X10_cast_52 p0 p1 p2) fuel) b52_L3 b52_L4 b52_L5 b52_L6 M = some (r9, M9) := hF
      generalize itF (fun _ _ _ _ _ => none) (F_X10_cast_52 p0 p1 p2) fuel = self52 at hs52 hF
      unfold F_X10_cast_52 at hF
      refine z_iload cx d_X10_cast_52 4 rfl ?_
      refine z_bipush (v := 64) cx d_X10_cast_54 kb_64 ?_
      refine z_icmp_ge cx 114 d_X10_cast_56 (by decide) hF (fun hF => ?_) (fun hF => ?_)
      · refine z_iload cx d_X10_cast_114 3 rfl ?_
        exact z_iret cx hr rfl hF d_X10_cast_116
      refine z_iload cx d_X10_cast_59 3 rfl ?_
      refine z_iload cx d_X10_cast_61 4 rfl ?_
      refine z_iload cx d_X10_cast_63 2 rfl ?_
      refine z_icmp_eq cx 104 d_X10_cast_65 (by decide) hF (fun hF => ?_) (fun hF => ?_)
      · exact z_lv [0, 1, 2, 4] _ rfl (hb104 self52 hs52 b52_L3 b52_L4 b52_L6 b52_L5 M hF)
      refine z_aload_n cx d_X10_cast_68 0 rfl ?_
      refine z_iload cx d_X10_cast_69 4 rfl ?_
      obtain ⟨v3, M2, hc, hF⟩ := zb_inv hF
      refine z_callV cx (As := [.int b52_L6]) (rest := [.int b52_L5]) (c_X10_isHere l cx.2.2.2.1.1 M b52_L6 hT hc) hT zo_11 cv_SunnyPansModel_284 ⟨rfl, rfl, Nat.le_of_ble_eq_true rfl, Nat.le_of_ble_eq_true rfl⟩ rfl rfl ⟨Nat.zero_le _, Nat.zero_le _⟩ (Nat.le_of_ble_eq_true rfl) d_X10_cast_71 ?_
      refine z_if_eq cx 104 d_X10_cast_74 (by decide) hF (fun hF => ?_) (fun hF => ?_)
      · exact z_lv [0, 1, 2, 4] _ rfl (hb104 self52 hs52 b52_L3 b52_L4 b52_L6 b52_L5 M2 hF)
      refine z_aload_n cx d_X10_cast_77 0 rfl ?_
      refine z_iload cx d_X10_cast_78 2 rfl ?_
      refine z_aload_n cx d_X10_cast_80 0 rfl ?_
      refine z_getR cx hT fg_SunnyPansModel_58 451 rfl d_X10_cast_81 ?_
      refine z_sipush (v := 128) cx d_X10_cast_84 ks_128 ?_
      refine z_iload cx d_X10_cast_87 2 rfl ?_
      refine z_iadd cx d_X10_cast_89 ?_
      obtain ⟨hi4, hF⟩ := gin_inv hF
      refine z_iald cx (tfM_11_451 hT) za_36 hi4 (((128 : Int32) + b52_L4).toNatClampNeg) rfl d_X10_cast_90 ?_
      refine z_iload cx d_X10_cast_91 4 rfl ?_
      refine z_iload_n cx d_X10_cast_93 1 rfl ?_
      obtain ⟨v6, M5, hc, hF⟩ := zb_inv hF
      refine z_callV cx (As := [.int b52_L4, .int (M2.1 451 ((128 : Int32) + b52_L4).toNatClampNeg), .int b52_L6, .int b52_L3]) (rest := [.int b52_L5]) (c_X10_covers l cx.2.2.2.1.1 M2 b52_L4 (M2.1 451 ((128 : Int32) + b52_L4).toNatClampNeg) b52_L6 b52_L3 hT hc) hT zo_11 cv_SunnyPansModel_253 ⟨rfl, rfl, Nat.le_of_ble_eq_true rfl, Nat.le_of_ble_eq_true rfl⟩ rfl rfl ⟨Nat.zero_le _, Nat.zero_le _⟩ (Nat.le_of_ble_eq_true rfl) d_X10_cast_94 ?_
      refine z_if_eq cx 104 d_X10_cast_97 (by decide) hF (fun hF => ?_) (fun hF => ?_)
      · exact z_lv [0, 1, 2, 4] _ rfl (hb104 self52 hs52 b52_L3 b52_L4 b52_L6 b52_L5 M5 hF)
      refine z_iconst (v := 1) cx d_X10_cast_100 ki_1 ?_
      refine z_goto cx 105 d_X10_cast_101 (by decide) ?_
      exact z_lv [0, 1, 2, 4] _ rfl (hb105 self52 hs52 b52_L3 b52_L4 b52_L6 b52_L5 (1 : Int32) M5 hF)
  have hb28 : ∀ (b28_L1 : Int32) (b28_L2 : Int32) (b28_L3 : Int32) (b28_S1 : Int32) (M : zMem), F_X10_cast_28 p0 p1 p2 b28_L1 b28_L2 b28_L3 b28_S1 M = some (r9, M9) → zJ p l e rm_X10_cast s m args below meth c G shM ad n A 7 (MQ below (zQ G shM ad n M9 (some (.int r9)) A) args s 0 0 A) 0 0 M 28 [(0, .ref (ad 0)), (1, .int b28_L1), (2, .int b28_L2), (3, .int b28_L3)] [.int b28_S1, .ref (ad 0)] := by
    intro b28_L1 b28_L2 b28_L3 b28_S1 M hF
    unfold F_X10_cast_28 at hF
    refine z_iconst (v := 1) cx d_X10_cast_28 ki_1 ?_
    refine z_iconst (v := 0) cx d_X10_cast_29 ki_0 ?_
    obtain ⟨v8, M7, hc, hF⟩ := zb_inv hF
    refine z_callV cx (As := [.int b28_S1, .int (1 : Int32), .int (0 : Int32)]) (rest := []) (c_X10_bad l cx.2.2.2.1.1 M b28_S1 (1 : Int32) (0 : Int32) hT hc) hT zo_11 cv_SunnyPansModel_155 ⟨rfl, rfl, Nat.le_of_ble_eq_true rfl, Nat.le_of_ble_eq_true rfl⟩ rfl rfl ⟨Nat.zero_le _, Nat.zero_le _⟩ (Nat.le_of_ble_eq_true rfl) d_X10_cast_30 ?_
    refine z_if_eq cx 38 d_X10_cast_33 (by decide) hF (fun hF => ?_) (fun hF => ?_)
    · refine z_bipush (v := 8) cx d_X10_cast_38 kb_8 ?_
      refine z_iload_n cx d_X10_cast_40 2 rfl ?_
      refine z_imul cx d_X10_cast_41 ?_
      refine z_iload_n cx d_X10_cast_42 1 rfl ?_
      refine z_iadd cx d_X10_cast_43 ?_
      refine z_nm hF (fun v9 hF => ?_)
      refine z_istore cx 4 [(4, .int v9), (0, .ref (ad 0)), (1, .int b28_L1), (2, .int b28_L2), (3, .int b28_L3)] d_X10_cast_44 (by decide) rfl ?_
      refine z_iconst (v := 0) cx d_X10_cast_46 ki_0 ?_
      refine z_istore cx 5 [(5, .int (0 : Int32)), (4, .int v9), (0, .ref (ad 0)), (1, .int b28_L1), (2, .int b28_L2), (3, .int b28_L3)] d_X10_cast_47 (by decide) rfl ?_
      refine z_iconst (v := 0) cx d_X10_cast_49 ki_0 ?_
      refine z_istore cx 6 [(6, .int (0 : Int32)), (5, .int (0 : Int32)), (4, .int v9), (0, .ref (ad 0)), (1, .int b28_L1), (2, .int b28_L2), (3, .int b28_L3)] d_X10_cast_50 (by decide) rfl ?_
      exact z_lv [3, 6, 2, 1, 0] _ rfl (hL52 zFuel b28_L3 v9 (0 : Int32) (0 : Int32) M7 hF)
    refine z_iconst (v := 0) cx d_X10_cast_36 ki_0 ?_
    exact z_iret cx hr rfl hF d_X10_cast_37
  unfold F_X10_cast at hF
  refine z_aload_n cx d_X10_cast_0 0 rfl ?_
  refine z_iconst (v := 0) cx d_X10_cast_1 ki_0 ?_
  refine z_putI cx hT fp_SunnyPansModel_82 d_X10_cast_2 ?_
  refine z_nmM hF (fun M10 hF => ?_)
  refine z_aload_n cx d_X10_cast_5 0 rfl ?_
  refine z_aload_n cx d_X10_cast_6 0 rfl ?_
  refine z_iload_n cx d_X10_cast_7 1 rfl ?_
  refine z_iload_n cx d_X10_cast_8 2 rfl ?_
  obtain ⟨v12, M11, hc, hF⟩ := zb_inv hF
  refine z_callV cx (As := [.int p0, .int p1]) (rest := [.ref (ad 0)]) (c_X10_isWithin l cx.2.2.2.1.1 M10 p0 p1 hT hc) hT zo_11 cv_SunnyPansModel_237 ⟨rfl, rfl, Nat.le_of_ble_eq_true rfl, Nat.le_of_ble_eq_true rfl⟩ rfl rfl ⟨Nat.zero_le _, Nat.zero_le _⟩ (Nat.le_of_ble_eq_true rfl) d_X10_cast_9 ?_
  refine z_if_eq cx 23 d_X10_cast_12 (by decide) hF (fun hF => ?_) (fun hF => ?_)
  · refine z_iconst (v := 1) cx d_X10_cast_23 ki_1 ?_
    refine z_goto cx 28 d_X10_cast_24 (by decide) ?_
    exact hb28 p0 p1 p2 (1 : Int32) M11 hF
  refine z_aload_n cx d_X10_cast_15 0 rfl ?_
  refine z_iload_n cx d_X10_cast_16 3 rfl ?_
  obtain ⟨v14, M13, hc, hF⟩ := zb_inv hF
  refine z_callV cx (As := [.int p2]) (rest := [.ref (ad 0)]) (c_X10_isHour l cx.2.2.2.1.1 M11 p2 hT hc) hT zo_11 cv_SunnyPansModel_336 ⟨rfl, rfl, Nat.le_of_ble_eq_true rfl, Nat.le_of_ble_eq_true rfl⟩ rfl rfl ⟨Nat.zero_le _, Nat.zero_le _⟩ (Nat.le_of_ble_eq_true rfl) d_X10_cast_17 ?_
  refine z_if_ne cx 27 d_X10_cast_20 (by decide) hF (fun hF => ?_) (fun hF => ?_)
  · refine z_iconst (v := 0) cx d_X10_cast_27 ki_0 ?_
    exact hb28 p0 p1 p2 (0 : Int32) M13 hF
  refine z_iconst (v := 1) cx d_X10_cast_23 ki_1 ?_
  refine z_goto cx 28 d_X10_cast_24 (by decide) ?_
  exact hb28 p0 p1 p2 (1 : Int32) M13 hF
/-! SunnyPansModel.ready -/
theorem d_X10_ready_0 : decode cX10_ready 0 = .ok (.aload_n 0, 1) := by decide +kernel
theorem d_X10_ready_1 : decode cX10_ready 1 = .ok (.iconst 0, 1) := by decide +kernel
theorem d_X10_ready_2 : decode cX10_ready 2 = .ok (.putfield 82, 3) := by decide +kernel
theorem d_X10_ready_5 : decode cX10_ready 5 = .ok (.aload_n 0, 1) := by decide +kernel
theorem d_X10_ready_6 : decode cX10_ready 6 = .ok (.aload_n 0, 1) := by decide +kernel
theorem d_X10_ready_7 : decode cX10_ready 7 = .ok (.iload_n 1, 1) := by decide +kernel
theorem d_X10_ready_8 : decode cX10_ready 8 = .ok (.iload_n 2, 1) := by decide +kernel
theorem d_X10_ready_9 : decode cX10_ready 9 = .ok (.invokevirtual 237, 3) := by decide +kernel
theorem d_X10_ready_12 : decode cX10_ready 12 = .ok (.ifCond .eq 19, 3) := by decide +kernel
theorem d_X10_ready_15 : decode cX10_ready 15 = .ok (.iload_n 3, 1) := by decide +kernel
theorem d_X10_ready_16 : decode cX10_ready 16 = .ok (.iconst 0, 1) := by decide +kernel
theorem d_X10_ready_17 : decode cX10_ready 17 = .ok (.aload_n 0, 1) := by decide +kernel
theorem d_X10_ready_18 : decode cX10_ready 18 = .ok (.getfield 23, 3) := by decide +kernel
theorem d_X10_ready_21 : decode cX10_ready 21 = .ok (.iconst 1, 1) := by decide +kernel
theorem d_X10_ready_22 : decode cX10_ready 22 = .ok (.iaload, 1) := by decide +kernel
theorem d_X10_ready_23 : decode cX10_ready 23 = .ok (.iconst 1, 1) := by decide +kernel
theorem d_X10_ready_24 : decode cX10_ready 24 = .ok (.isub, 1) := by decide +kernel
theorem d_X10_ready_25 : decode cX10_ready 25 = .ok (.invokestatic 116, 3) := by decide +kernel
theorem d_X10_ready_28 : decode cX10_ready 28 = .ok (.ifCond .ne 7, 3) := by decide +kernel
theorem d_X10_ready_31 : decode cX10_ready 31 = .ok (.iconst 1, 1) := by decide +kernel
theorem d_X10_ready_32 : decode cX10_ready 32 = .ok (.goto 4, 3) := by decide +kernel
theorem d_X10_ready_35 : decode cX10_ready 35 = .ok (.iconst 0, 1) := by decide +kernel
theorem d_X10_ready_36 : decode cX10_ready 36 = .ok (.iconst 1, 1) := by decide +kernel
theorem d_X10_ready_37 : decode cX10_ready 37 = .ok (.iconst 0, 1) := by decide +kernel
theorem d_X10_ready_38 : decode cX10_ready 38 = .ok (.invokevirtual 155, 3) := by decide +kernel
theorem d_X10_ready_41 : decode cX10_ready 41 = .ok (.ifCond .eq 5, 3) := by decide +kernel
theorem d_X10_ready_44 : decode cX10_ready 44 = .ok (.iconst 0, 1) := by decide +kernel
theorem d_X10_ready_45 : decode cX10_ready 45 = .ok (.ireturn, 1) := by decide +kernel
theorem d_X10_ready_46 : decode cX10_ready 46 = .ok (.iconst 0, 1) := by decide +kernel
theorem d_X10_ready_47 : decode cX10_ready 47 = .ok (.istore 4, 2) := by decide +kernel
theorem d_X10_ready_49 : decode cX10_ready 49 = .ok (.iconst 0, 1) := by decide +kernel
theorem d_X10_ready_50 : decode cX10_ready 50 = .ok (.istore 5, 2) := by decide +kernel
theorem d_X10_ready_52 : decode cX10_ready 52 = .ok (.iload 5, 2) := by decide +kernel
theorem d_X10_ready_54 : decode cX10_ready 54 = .ok (.aload_n 0, 1) := by decide +kernel
theorem d_X10_ready_55 : decode cX10_ready 55 = .ok (.getfield 23, 3) := by decide +kernel
theorem d_X10_ready_58 : decode cX10_ready 58 = .ok (.iconst 0, 1) := by decide +kernel
theorem d_X10_ready_59 : decode cX10_ready 59 = .ok (.iaload, 1) := by decide +kernel
theorem d_X10_ready_60 : decode cX10_ready 60 = .ok (.if_icmp .ge 46, 3) := by decide +kernel
theorem d_X10_ready_63 : decode cX10_ready 63 = .ok (.iload 4, 2) := by decide +kernel
theorem d_X10_ready_65 : decode cX10_ready 65 = .ok (.aload_n 0, 1) := by decide +kernel
theorem d_X10_ready_66 : decode cX10_ready 66 = .ok (.aload_n 0, 1) := by decide +kernel
theorem d_X10_ready_67 : decode cX10_ready 67 = .ok (.getfield 58, 3) := by decide +kernel
theorem d_X10_ready_70 : decode cX10_ready 70 = .ok (.bipush 8, 2) := by decide +kernel
theorem d_X10_ready_72 : decode cX10_ready 72 = .ok (.iload_n 3, 1) := by decide +kernel
theorem d_X10_ready_73 : decode cX10_ready 73 = .ok (.imul, 1) := by decide +kernel
theorem d_X10_ready_74 : decode cX10_ready 74 = .ok (.iload 5, 2) := by decide +kernel
theorem d_X10_ready_76 : decode cX10_ready 76 = .ok (.iadd, 1) := by decide +kernel
theorem d_X10_ready_77 : decode cX10_ready 77 = .ok (.bipush 8, 2) := by decide +kernel
theorem d_X10_ready_79 : decode cX10_ready 79 = .ok (.iload_n 2, 1) := by decide +kernel
theorem d_X10_ready_80 : decode cX10_ready 80 = .ok (.imul, 1) := by decide +kernel
theorem d_X10_ready_81 : decode cX10_ready 81 = .ok (.iload_n 1, 1) := by decide +kernel
theorem d_X10_ready_82 : decode cX10_ready 82 = .ok (.iadd, 1) := by decide +kernel
theorem d_X10_ready_83 : decode cX10_ready 83 = .ok (.invokevirtual 290, 3) := by decide +kernel
theorem d_X10_ready_86 : decode cX10_ready 86 = .ok (.ifCond .eq 10, 3) := by decide +kernel
theorem d_X10_ready_89 : decode cX10_ready 89 = .ok (.iconst 1, 1) := by decide +kernel
theorem d_X10_ready_90 : decode cX10_ready 90 = .ok (.iload 5, 2) := by decide +kernel
theorem d_X10_ready_92 : decode cX10_ready 92 = .ok (.ishl, 1) := by decide +kernel
theorem d_X10_ready_93 : decode cX10_ready 93 = .ok (.goto 4, 3) := by decide +kernel
theorem d_X10_ready_96 : decode cX10_ready 96 = .ok (.iconst 0, 1) := by decide +kernel
theorem d_X10_ready_97 : decode cX10_ready 97 = .ok (.ior, 1) := by decide +kernel
theorem d_X10_ready_98 : decode cX10_ready 98 = .ok (.istore 4, 2) := by decide +kernel
theorem d_X10_ready_100 : decode cX10_ready 100 = .ok (.iinc 5 1, 3) := by decide +kernel
theorem d_X10_ready_103 : decode cX10_ready 103 = .ok (.goto (-51), 3) := by decide +kernel
theorem d_X10_ready_106 : decode cX10_ready 106 = .ok (.iload 4, 2) := by decide +kernel
theorem d_X10_ready_108 : decode cX10_ready 108 = .ok (.ireturn, 1) := by decide +kernel
noncomputable def F_X10_ready_97 (p0 : Int32) (p1 : Int32) (p2 : Int32) (self52 : Int32 → Int32 → Int32 → Int32 → Int32 → zMem → Option (Int32 × zMem)) (b97_L1 : Int32) (b97_L2 : Int32) (b97_L3 : Int32) (b97_L5 : Int32) (b97_S0 : Int32) (b97_S1 : Int32) (M : zMem) : Option (Int32 × zMem) :=
  zl (b97_S0 ||| b97_S1) fun v1 =>
  self52 b97_L1 b97_L2 b97_L3 v1 (b97_L5 + 1) M
noncomputable def F_X10_ready_52 (p0 : Int32) (p1 : Int32) (p2 : Int32) (self52 : Int32 → Int32 → Int32 → Int32 → Int32 → zMem → Option (Int32 × zMem)) (b52_L1 : Int32) (b52_L2 : Int32) (b52_L3 : Int32) (b52_L4 : Int32) (b52_L5 : Int32) (M : zMem) : Option (Int32 × zMem) :=
  if (M.1 4 0) ≤ b52_L5 then
    some (b52_L4, M)
  else
    zb (F_X10_canRake M 451 (((8 : Int32) * b52_L3) + b52_L5) (((8 : Int32) * b52_L2) + b52_L1)) fun v3 M2 =>
    if v3 = 0 then
      F_X10_ready_97 p0 p1 p2 self52 b52_L1 b52_L2 b52_L3 b52_L5 b52_L4 (0 : Int32) M2
    else
      F_X10_ready_97 p0 p1 p2 self52 b52_L1 b52_L2 b52_L3 b52_L5 b52_L4 ((1 : Int32) <<< (b52_L5 &&& 31)) M2
noncomputable def F_X10_ready_36 (p0 : Int32) (p1 : Int32) (p2 : Int32) (b36_L1 : Int32) (b36_L2 : Int32) (b36_L3 : Int32) (b36_S1 : Int32) (M : zMem) : Option (Int32 × zMem) :=
  zb (F_X10_bad M b36_S1 (1 : Int32) (0 : Int32)) fun v5 M4 =>
  if v5 = 0 then
    itF (fun _ _ _ _ _ _ => none) (F_X10_ready_52 p0 p1 p2) zFuel b36_L1 b36_L2 b36_L3 (0 : Int32) (0 : Int32) M4
  else
    some ((0 : Int32), M4)
noncomputable def F_X10_ready (M : zMem) (p0 : Int32) (p1 : Int32) (p2 : Int32) : Option (Int32 × zMem) :=
  zl (zI M 0 0 (0 : Int32)) fun M6 =>
  zb (F_X10_isWithin M6 p0 p1) fun v8 M7 =>
  if v8 = 0 then
    F_X10_ready_36 p0 p1 p2 p0 p1 p2 (1 : Int32) M7
  else
    zb (F_X10_in M7 p2 (0 : Int32) ((M7.1 4 1) - (1 : Int32))) fun v10 M9 =>
    if v10 = 0 then
      F_X10_ready_36 p0 p1 p2 p0 p1 p2 (1 : Int32) M9
    else
      F_X10_ready_36 p0 p1 p2 p0 p1 p2 (0 : Int32) M9
def rm_X10_ready : Room := { frames := 4, cells := 0, slots := 0, locals := 124 }
set_option maxHeartbeats 4000000 in
set_option maxRecDepth 100000 in
theorem c_X10_ready (l : Launch) {G : zG} {ad : Nat → Nat} {n : Nat} (hA : zInj ad n) (M : zMem) (p0 : Int32) (p1 : Int32) (p2 : Int32) (hT : zT shM n 0 11) {r9 : Int32} {M9 : zMem} (hF : F_X10_ready M p0 p1 p2 = some (r9, M9)) : zM l yX10_ready cX10_ready 6 (some .int) rm_X10_ready G shM ad n M [.ref (ad 0), .int p0, .int p1, .int p2] (some (.int r9)) M9 := by
  refine zM_of hA (by decide +kernel) (lv := [(0, .ref (ad 0)), (1, .int p0), (2, .int p1), (3, .int p2)]) (Nat.le_of_ble_eq_true rfl) rfl (fun p e s m args below meth c A cx hr => ?_)
  have hb97 : ∀ (self52 : Int32 → Int32 → Int32 → Int32 → Int32 → zMem → Option (Int32 × zMem)) (hs52 : ∀ (b52_L1 : Int32) (b52_L2 : Int32) (b52_L3 : Int32) (b52_L4 : Int32) (b52_L5 : Int32) (M : zMem), self52 b52_L1 b52_L2 b52_L3 b52_L4 b52_L5 M = some (r9, M9) → zJ p l e rm_X10_ready s m args below meth c G shM ad n A 6 (MQ below (zQ G shM ad n M9 (some (.int r9)) A) args s 0 0 A) 0 0 M 52 [(0, .ref (ad 0)), (1, .int b52_L1), (2, .int b52_L2), (3, .int b52_L3), (4, .int b52_L4), (5, .int b52_L5)] []), ∀ (b97_L1 : Int32) (b97_L2 : Int32) (b97_L3 : Int32) (b97_L5 : Int32) (b97_S0 : Int32) (b97_S1 : Int32) (M : zMem), F_X10_ready_97 p0 p1 p2 self52 b97_L1 b97_L2 b97_L3 b97_L5 b97_S0 b97_S1 M = some (r9, M9) → zJ p l e rm_X10_ready s m args below meth c G shM ad n A 6 (MQ below (zQ G shM ad n M9 (some (.int r9)) A) args s 0 0 A) 0 0 M 97 [(0, .ref (ad 0)), (1, .int b97_L1), (2, .int b97_L2), (3, .int b97_L3), (5, .int b97_L5)] [.int b97_S1, .int b97_S0] := by
    intro self52 hs52 b97_L1 b97_L2 b97_L3 b97_L5 b97_S0 b97_S1 M hF
    unfold F_X10_ready_97 at hF
    refine z_ior cx d_X10_ready_97 ?_
    refine z_nm hF (fun v1 hF => ?_)
    refine z_istore cx 4 [(4, .int v1), (0, .ref (ad 0)), (1, .int b97_L1), (2, .int b97_L2), (3, .int b97_L3), (5, .int b97_L5)] d_X10_ready_98 (by decide) rfl ?_
    refine z_iinc cx 5 1 [(5, .int (b97_L5 + 1)), (4, .int v1), (0, .ref (ad 0)), (1, .int b97_L1), (2, .int b97_L2), (3, .int b97_L3)] d_X10_ready_100 5 rfl ki_1 (by decide) rfl ?_
    refine z_goto cx 52 d_X10_ready_103 (by decide) ?_
    exact z_lv [2, 3, 4, 5, 1, 0] _ rfl (hs52 b97_L1 b97_L2 b97_L3 v1 (b97_L5 + 1) M hF)
  have hL52 : ∀ (fuel : Nat), ∀ (b52_L1 : Int32) (b52_L2 : Int32) (b52_L3 : Int32) (b52_L4 : Int32) (b52_L5 : Int32) (M : zMem), itF (fun _ _ _ _ _ _ => none) (F_X10_ready_52 p0 p1 p2) fuel b52_L1 b52_L2 b52_L3 b52_L4 b52_L5 M = some (r9, M9) → zJ p l e rm_X10_ready s m args below meth c G shM ad n A 6 (MQ below (zQ G shM ad n M9 (some (.int r9)) A) args s 0 0 A) 0 0 M 52 [(0, .ref (ad 0)), (1, .int b52_L1), (2, .int b52_L2), (3, .int b52_L3), (4, .int b52_L4), (5, .int b52_L5)] [] := by
    intro fuel
    induction fuel with
    | zero => intro b52_L1 b52_L2 b52_L3 b52_L4 b52_L5 M hF; cases hF
    | succ fuel hs52 =>
      intro b52_L1 b52_L2 b52_L3 b52_L4 b52_L5 M hF
      have hF : F_X10_ready_52 p0 p1 p2 (itF (fun _ _ _ _ _ _ => none) (F_X10_ready_52 p0 p1 p2) fuel) b52_L1 b52_L2 b52_L3 b52_L4 b52_L5 M = some (r9, M9) := hF
      generalize itF (fun _ _ _ _ _ _ => none) (F_X10_ready_52 p0 p1 p2) fuel = self52 at hs52 hF
      unfold F_X10_ready_52 at hF
      refine z_iload cx d_X10_ready_52 5 rfl ?_
      refine z_aload_n cx d_X10_ready_54 0 rfl ?_
      refine z_getR cx hT fg_SunnyPansModel_23 4 rfl d_X10_ready_55 ?_
      refine z_iconst (v := 0) cx d_X10_ready_58 ki_0 ?_
      refine z_iald cx (tfM_11_4 hT) za_28 (zvp (by decide +kernel)) 0 rfl d_X10_ready_59 ?_
      refine z_icmp_ge cx 106 d_X10_ready_60 (by decide) hF (fun hF => ?_) (fun hF => ?_)
      · refine z_iload cx d_X10_ready_106 4 rfl ?_
        exact z_iret cx hr rfl hF d_X10_ready_108
      refine z_iload cx d_X10_ready_63 4 rfl ?_
      refine z_aload_n cx d_X10_ready_65 0 rfl ?_
      refine z_aload_n cx d_X10_ready_66 0 rfl ?_
      refine z_getR cx hT fg_SunnyPansModel_58 451 rfl d_X10_ready_67 ?_
      refine z_bipush (v := 8) cx d_X10_ready_70 kb_8 ?_
      refine z_iload_n cx d_X10_ready_72 3 rfl ?_
      refine z_imul cx d_X10_ready_73 ?_
      refine z_iload cx d_X10_ready_74 5 rfl ?_
      refine z_iadd cx d_X10_ready_76 ?_
      refine z_bipush (v := 8) cx d_X10_ready_77 kb_8 ?_
      refine z_iload_n cx d_X10_ready_79 2 rfl ?_
      refine z_imul cx d_X10_ready_80 ?_
      refine z_iload_n cx d_X10_ready_81 1 rfl ?_
      refine z_iadd cx d_X10_ready_82 ?_
      obtain ⟨v3, M2, hc, hF⟩ := zb_inv hF
      refine z_callV cx (As := [.ref (ad 451), .int (((8 : Int32) * b52_L3) + b52_L5), .int (((8 : Int32) * b52_L2) + b52_L1)]) (rest := [.int b52_L4]) (c_X10_canRake l cx.2.2.2.1.1 M 451 (((8 : Int32) * b52_L3) + b52_L5) (((8 : Int32) * b52_L2) + b52_L1) hT (tfM_11_451 hT) hc) hT zo_11 cv_SunnyPansModel_290 ⟨rfl, rfl, Nat.le_of_ble_eq_true rfl, Nat.le_of_ble_eq_true rfl⟩ rfl rfl ⟨Nat.zero_le _, Nat.zero_le _⟩ (Nat.le_of_ble_eq_true rfl) d_X10_ready_83 ?_
      refine z_if_eq cx 96 d_X10_ready_86 (by decide) hF (fun hF => ?_) (fun hF => ?_)
      · refine z_iconst (v := 0) cx d_X10_ready_96 ki_0 ?_
        exact z_lv [0, 1, 2, 3, 5] _ rfl (hb97 self52 hs52 b52_L1 b52_L2 b52_L3 b52_L5 b52_L4 (0 : Int32) M2 hF)
      refine z_iconst (v := 1) cx d_X10_ready_89 ki_1 ?_
      refine z_iload cx d_X10_ready_90 5 rfl ?_
      refine z_ishl cx d_X10_ready_92 ?_
      refine z_goto cx 97 d_X10_ready_93 (by decide) ?_
      exact z_lv [0, 1, 2, 3, 5] _ rfl (hb97 self52 hs52 b52_L1 b52_L2 b52_L3 b52_L5 b52_L4 ((1 : Int32) <<< (b52_L5 &&& 31)) M2 hF)
  have hb36 : ∀ (b36_L1 : Int32) (b36_L2 : Int32) (b36_L3 : Int32) (b36_S1 : Int32) (M : zMem), F_X10_ready_36 p0 p1 p2 b36_L1 b36_L2 b36_L3 b36_S1 M = some (r9, M9) → zJ p l e rm_X10_ready s m args below meth c G shM ad n A 6 (MQ below (zQ G shM ad n M9 (some (.int r9)) A) args s 0 0 A) 0 0 M 36 [(0, .ref (ad 0)), (1, .int b36_L1), (2, .int b36_L2), (3, .int b36_L3)] [.int b36_S1, .ref (ad 0)] := by
    intro b36_L1 b36_L2 b36_L3 b36_S1 M hF
    unfold F_X10_ready_36 at hF
    refine z_iconst (v := 1) cx d_X10_ready_36 ki_1 ?_
    refine z_iconst (v := 0) cx d_X10_ready_37 ki_0 ?_
    obtain ⟨v5, M4, hc, hF⟩ := zb_inv hF
    refine z_callV cx (As := [.int b36_S1, .int (1 : Int32), .int (0 : Int32)]) (rest := []) (c_X10_bad l cx.2.2.2.1.1 M b36_S1 (1 : Int32) (0 : Int32) hT hc) hT zo_11 cv_SunnyPansModel_155 ⟨rfl, rfl, Nat.le_of_ble_eq_true rfl, Nat.le_of_ble_eq_true rfl⟩ rfl rfl ⟨Nat.zero_le _, Nat.zero_le _⟩ (Nat.le_of_ble_eq_true rfl) d_X10_ready_38 ?_
    refine z_if_eq cx 46 d_X10_ready_41 (by decide) hF (fun hF => ?_) (fun hF => ?_)
    · refine z_iconst (v := 0) cx d_X10_ready_46 ki_0 ?_
      refine z_istore cx 4 [(4, .int (0 : Int32)), (0, .ref (ad 0)), (1, .int b36_L1), (2, .int b36_L2), (3, .int b36_L3)] d_X10_ready_47 (by decide) rfl ?_
      refine z_iconst (v := 0) cx d_X10_ready_49 ki_0 ?_
      refine z_istore cx 5 [(5, .int (0 : Int32)), (4, .int (0 : Int32)), (0, .ref (ad 0)), (1, .int b36_L1), (2, .int b36_L2), (3, .int b36_L3)] d_X10_ready_50 (by decide) rfl ?_
      exact z_lv [2, 3, 4, 5, 1, 0] _ rfl (hL52 zFuel b36_L1 b36_L2 b36_L3 (0 : Int32) (0 : Int32) M4 hF)
    refine z_iconst (v := 0) cx d_X10_ready_44 ki_0 ?_
    exact z_iret cx hr rfl hF d_X10_ready_45
  unfold F_X10_ready at hF
  refine z_aload_n cx d_X10_ready_0 0 rfl ?_
  refine z_iconst (v := 0) cx d_X10_ready_1 ki_0 ?_
  refine z_putI cx hT fp_SunnyPansModel_82 d_X10_ready_2 ?_
  refine z_nmM hF (fun M6 hF => ?_)
  refine z_aload_n cx d_X10_ready_5 0 rfl ?_
  refine z_aload_n cx d_X10_ready_6 0 rfl ?_
  refine z_iload_n cx d_X10_ready_7 1 rfl ?_
  refine z_iload_n cx d_X10_ready_8 2 rfl ?_
  obtain ⟨v8, M7, hc, hF⟩ := zb_inv hF
  refine z_callV cx (As := [.int p0, .int p1]) (rest := [.ref (ad 0)]) (c_X10_isWithin l cx.2.2.2.1.1 M6 p0 p1 hT hc) hT zo_11 cv_SunnyPansModel_237 ⟨rfl, rfl, Nat.le_of_ble_eq_true rfl, Nat.le_of_ble_eq_true rfl⟩ rfl rfl ⟨Nat.zero_le _, Nat.zero_le _⟩ (Nat.le_of_ble_eq_true rfl) d_X10_ready_9 ?_
  refine z_if_eq cx 31 d_X10_ready_12 (by decide) hF (fun hF => ?_) (fun hF => ?_)
  · refine z_iconst (v := 1) cx d_X10_ready_31 ki_1 ?_
    refine z_goto cx 36 d_X10_ready_32 (by decide) ?_
    exact hb36 p0 p1 p2 (1 : Int32) M7 hF
  refine z_iload_n cx d_X10_ready_15 3 rfl ?_
  refine z_iconst (v := 0) cx d_X10_ready_16 ki_0 ?_
  refine z_aload_n cx d_X10_ready_17 0 rfl ?_
  refine z_getR cx hT fg_SunnyPansModel_23 4 rfl d_X10_ready_18 ?_
  refine z_iconst (v := 1) cx d_X10_ready_21 ki_1 ?_
  refine z_iald cx (tfM_11_4 hT) za_28 (zvp (by decide +kernel)) 1 rfl d_X10_ready_22 ?_
  refine z_iconst (v := 1) cx d_X10_ready_23 ki_1 ?_
  refine z_isub cx d_X10_ready_24 ?_
  obtain ⟨v10, M9, hc, hF⟩ := zb_inv hF
  refine z_callS cx (As := [.int p2, .int (0 : Int32), .int ((M7.1 4 1) - (1 : Int32))]) (rest := [.ref (ad 0)]) (c_X10_in l cx.2.2.2.1.1 M7 p2 (0 : Int32) ((M7.1 4 1) - (1 : Int32))  hc) cs_SunnyPansModel_116 ⟨rfl, rfl, Nat.le_of_ble_eq_true rfl, Nat.le_of_ble_eq_true rfl⟩ rfl rfl ⟨Nat.zero_le _, Nat.zero_le _⟩ (Nat.le_of_ble_eq_true rfl) d_X10_ready_25 ?_
  refine z_if_ne cx 35 d_X10_ready_28 (by decide) hF (fun hF => ?_) (fun hF => ?_)
  · refine z_iconst (v := 0) cx d_X10_ready_35 ki_0 ?_
    exact hb36 p0 p1 p2 (0 : Int32) M9 hF
  refine z_iconst (v := 1) cx d_X10_ready_31 ki_1 ?_
  refine z_goto cx 36 d_X10_ready_32 (by decide) ?_
  exact hb36 p0 p1 p2 (1 : Int32) M9 hF
/-! SunnyPansModel.line -/
theorem d_X10_line_0 : decode cX10_line 0 = .ok (.aload_n 0, 1) := by decide +kernel
theorem d_X10_line_1 : decode cX10_line 1 = .ok (.iconst 0, 1) := by decide +kernel
theorem d_X10_line_2 : decode cX10_line 2 = .ok (.putfield 82, 3) := by decide +kernel
theorem d_X10_line_5 : decode cX10_line 5 = .ok (.aload_n 0, 1) := by decide +kernel
theorem d_X10_line_6 : decode cX10_line 6 = .ok (.iload_n 2, 1) := by decide +kernel
theorem d_X10_line_7 : decode cX10_line 7 = .ok (.iconst 0, 1) := by decide +kernel
theorem d_X10_line_8 : decode cX10_line 8 = .ok (.iconst 3, 1) := by decide +kernel
theorem d_X10_line_9 : decode cX10_line 9 = .ok (.invokestatic 116, 3) := by decide +kernel
theorem d_X10_line_12 : decode cX10_line 12 = .ok (.ifCond .eq 29, 3) := by decide +kernel
theorem d_X10_line_15 : decode cX10_line 15 = .ok (.iload_n 1, 1) := by decide +kernel
theorem d_X10_line_16 : decode cX10_line 16 = .ok (.iconst 0, 1) := by decide +kernel
theorem d_X10_line_17 : decode cX10_line 17 = .ok (.aload_n 0, 1) := by decide +kernel
theorem d_X10_line_18 : decode cX10_line 18 = .ok (.getfield 23, 3) := by decide +kernel
theorem d_X10_line_21 : decode cX10_line 21 = .ok (.iload_n 2, 1) := by decide +kernel
theorem d_X10_line_22 : decode cX10_line 22 = .ok (.iconst 2, 1) := by decide +kernel
theorem d_X10_line_23 : decode cX10_line 23 = .ok (.irem, 1) := by decide +kernel
theorem d_X10_line_24 : decode cX10_line 24 = .ok (.ifCond .ne 7, 3) := by decide +kernel
theorem d_X10_line_27 : decode cX10_line 27 = .ok (.iconst 1, 1) := by decide +kernel
theorem d_X10_line_28 : decode cX10_line 28 = .ok (.goto 4, 3) := by decide +kernel
theorem d_X10_line_31 : decode cX10_line 31 = .ok (.iconst 0, 1) := by decide +kernel
theorem d_X10_line_32 : decode cX10_line 32 = .ok (.iaload, 1) := by decide +kernel
theorem d_X10_line_33 : decode cX10_line 33 = .ok (.iconst 1, 1) := by decide +kernel
theorem d_X10_line_34 : decode cX10_line 34 = .ok (.isub, 1) := by decide +kernel
theorem d_X10_line_35 : decode cX10_line 35 = .ok (.invokestatic 116, 3) := by decide +kernel
theorem d_X10_line_38 : decode cX10_line 38 = .ok (.ifCond .ne 7, 3) := by decide +kernel
theorem d_X10_line_41 : decode cX10_line 41 = .ok (.iconst 1, 1) := by decide +kernel
theorem d_X10_line_42 : decode cX10_line 42 = .ok (.goto 4, 3) := by decide +kernel
theorem d_X10_line_45 : decode cX10_line 45 = .ok (.iconst 0, 1) := by decide +kernel
theorem d_X10_line_46 : decode cX10_line 46 = .ok (.iconst 1, 1) := by decide +kernel
theorem d_X10_line_47 : decode cX10_line 47 = .ok (.iconst 1, 1) := by decide +kernel
theorem d_X10_line_48 : decode cX10_line 48 = .ok (.invokevirtual 155, 3) := by decide +kernel
theorem d_X10_line_51 : decode cX10_line 51 = .ok (.ifCond .eq 5, 3) := by decide +kernel
theorem d_X10_line_54 : decode cX10_line 54 = .ok (.iconst 0, 1) := by decide +kernel
theorem d_X10_line_55 : decode cX10_line 55 = .ok (.ireturn, 1) := by decide +kernel
theorem d_X10_line_56 : decode cX10_line 56 = .ok (.iconst 0, 1) := by decide +kernel
theorem d_X10_line_57 : decode cX10_line 57 = .ok (.istore_n 3, 1) := by decide +kernel
theorem d_X10_line_58 : decode cX10_line 58 = .ok (.iconst 0, 1) := by decide +kernel
theorem d_X10_line_59 : decode cX10_line 59 = .ok (.istore 4, 2) := by decide +kernel
theorem d_X10_line_61 : decode cX10_line 61 = .ok (.iload 4, 2) := by decide +kernel
theorem d_X10_line_63 : decode cX10_line 63 = .ok (.bipush 64, 2) := by decide +kernel
theorem d_X10_line_65 : decode cX10_line 65 = .ok (.if_icmp .ge 58, 3) := by decide +kernel
theorem d_X10_line_68 : decode cX10_line 68 = .ok (.iload_n 3, 1) := by decide +kernel
theorem d_X10_line_69 : decode cX10_line 69 = .ok (.iload_n 2, 1) := by decide +kernel
theorem d_X10_line_70 : decode cX10_line 70 = .ok (.iconst 2, 1) := by decide +kernel
theorem d_X10_line_71 : decode cX10_line 71 = .ok (.irem, 1) := by decide +kernel
theorem d_X10_line_72 : decode cX10_line 72 = .ok (.ifCond .ne 11, 3) := by decide +kernel
theorem d_X10_line_75 : decode cX10_line 75 = .ok (.iload 4, 2) := by decide +kernel
theorem d_X10_line_77 : decode cX10_line 77 = .ok (.bipush 8, 2) := by decide +kernel
theorem d_X10_line_79 : decode cX10_line 79 = .ok (.idiv, 1) := by decide +kernel
theorem d_X10_line_80 : decode cX10_line 80 = .ok (.goto 8, 3) := by decide +kernel
theorem d_X10_line_83 : decode cX10_line 83 = .ok (.iload 4, 2) := by decide +kernel
theorem d_X10_line_85 : decode cX10_line 85 = .ok (.bipush 8, 2) := by decide +kernel
theorem d_X10_line_87 : decode cX10_line 87 = .ok (.irem, 1) := by decide +kernel
theorem d_X10_line_88 : decode cX10_line 88 = .ok (.iload_n 1, 1) := by decide +kernel
theorem d_X10_line_89 : decode cX10_line 89 = .ok (.if_icmp .ne 25, 3) := by decide +kernel
theorem d_X10_line_92 : decode cX10_line 92 = .ok (.aload_n 0, 1) := by decide +kernel
theorem d_X10_line_93 : decode cX10_line 93 = .ok (.getfield 58, 3) := by decide +kernel
theorem d_X10_line_96 : decode cX10_line 96 = .ok (.iload_n 2, 1) := by decide +kernel
theorem d_X10_line_97 : decode cX10_line 97 = .ok (.iconst 2, 1) := by decide +kernel
theorem d_X10_line_98 : decode cX10_line 98 = .ok (.if_icmp .ge 7, 3) := by decide +kernel
theorem d_X10_line_101 : decode cX10_line 101 = .ok (.iconst 0, 1) := by decide +kernel
theorem d_X10_line_102 : decode cX10_line 102 = .ok (.goto 5, 3) := by decide +kernel
theorem d_X10_line_105 : decode cX10_line 105 = .ok (.bipush 64, 2) := by decide +kernel
theorem d_X10_line_107 : decode cX10_line 107 = .ok (.iload 4, 2) := by decide +kernel
theorem d_X10_line_109 : decode cX10_line 109 = .ok (.iadd, 1) := by decide +kernel
theorem d_X10_line_110 : decode cX10_line 110 = .ok (.iaload, 1) := by decide +kernel
theorem d_X10_line_111 : decode cX10_line 111 = .ok (.goto 4, 3) := by decide +kernel
theorem d_X10_line_114 : decode cX10_line 114 = .ok (.iconst 0, 1) := by decide +kernel
theorem d_X10_line_115 : decode cX10_line 115 = .ok (.iadd, 1) := by decide +kernel
theorem d_X10_line_116 : decode cX10_line 116 = .ok (.istore_n 3, 1) := by decide +kernel
theorem d_X10_line_117 : decode cX10_line 117 = .ok (.iinc 4 1, 3) := by decide +kernel
theorem d_X10_line_120 : decode cX10_line 120 = .ok (.goto (-59), 3) := by decide +kernel
theorem d_X10_line_123 : decode cX10_line 123 = .ok (.iload_n 3, 1) := by decide +kernel
theorem d_X10_line_124 : decode cX10_line 124 = .ok (.ireturn, 1) := by decide +kernel
noncomputable def F_X10_line_115 (p0 : Int32) (p1 : Int32) (self61 : Int32 → Int32 → Int32 → Int32 → zMem → Option (Int32 × zMem)) (b115_L1 : Int32) (b115_L2 : Int32) (b115_L4 : Int32) (b115_S0 : Int32) (b115_S1 : Int32) (M : zMem) : Option (Int32 × zMem) :=
  zl (b115_S0 + b115_S1) fun v1 =>
  self61 b115_L1 b115_L2 v1 (b115_L4 + 1) M
noncomputable def F_X10_line_107 (p0 : Int32) (p1 : Int32) (self61 : Int32 → Int32 → Int32 → Int32 → zMem → Option (Int32 × zMem)) (b107_L1 : Int32) (b107_L2 : Int32) (b107_L4 : Int32) (b107_S0 : Int32) (b107_S2 : Int32) (M : zMem) : Option (Int32 × zMem) :=
  gin (b107_S2 + b107_L4) 195 <|
  F_X10_line_115 p0 p1 self61 b107_L1 b107_L2 b107_L4 b107_S0 (M.1 451 (b107_S2 + b107_L4).toNatClampNeg) M
noncomputable def F_X10_line_88 (p0 : Int32) (p1 : Int32) (self61 : Int32 → Int32 → Int32 → Int32 → zMem → Option (Int32 × zMem)) (b88_L1 : Int32) (b88_L2 : Int32) (b88_L4 : Int32) (b88_S0 : Int32) (b88_S1 : Int32) (M : zMem) : Option (Int32 × zMem) :=
  if b88_S1 = b88_L1 then
    if (2 : Int32) ≤ b88_L2 then
      F_X10_line_107 p0 p1 self61 b88_L1 b88_L2 b88_L4 b88_S0 (64 : Int32) M
    else
      F_X10_line_107 p0 p1 self61 b88_L1 b88_L2 b88_L4 b88_S0 (0 : Int32) M
  else
    F_X10_line_115 p0 p1 self61 b88_L1 b88_L2 b88_L4 b88_S0 (0 : Int32) M
noncomputable def F_X10_line_61 (p0 : Int32) (p1 : Int32) (self61 : Int32 → Int32 → Int32 → Int32 → zMem → Option (Int32 × zMem)) (b61_L1 : Int32) (b61_L2 : Int32) (b61_L3 : Int32) (b61_L4 : Int32) (M : zMem) : Option (Int32 × zMem) :=
  if (64 : Int32) ≤ b61_L4 then
    some (b61_L3, M)
  else
    if (b61_L2 - b61_L2 / (2 : Int32) * (2 : Int32)) = 0 then
      F_X10_line_88 p0 p1 self61 b61_L1 b61_L2 b61_L4 b61_L3 (b61_L4 / (8 : Int32)) M
    else
      F_X10_line_88 p0 p1 self61 b61_L1 b61_L2 b61_L4 b61_L3 (b61_L4 - b61_L4 / (8 : Int32) * (8 : Int32)) M
noncomputable def F_X10_line_46 (p0 : Int32) (p1 : Int32) (b46_L1 : Int32) (b46_L2 : Int32) (b46_S1 : Int32) (M : zMem) : Option (Int32 × zMem) :=
  zb (F_X10_bad M b46_S1 (1 : Int32) (1 : Int32)) fun v4 M3 =>
  if v4 = 0 then
    itF (fun _ _ _ _ _ => none) (F_X10_line_61 p0 p1) zFuel b46_L1 b46_L2 (0 : Int32) (0 : Int32) M3
  else
    some ((0 : Int32), M3)
noncomputable def F_X10_line_32 (p0 : Int32) (p1 : Int32) (b32_L1 : Int32) (b32_L2 : Int32) (b32_S1 : Int32) (b32_S2 : Int32) (b32_S4 : Int32) (M : zMem) : Option (Int32 × zMem) :=
  gin b32_S4 3 <|
  zb (F_X10_in M b32_S1 b32_S2 ((M.1 4 b32_S4.toNatClampNeg) - (1 : Int32))) fun v7 M6 =>
  if v7 = 0 then
    F_X10_line_46 p0 p1 b32_L1 b32_L2 (1 : Int32) M6
  else
    F_X10_line_46 p0 p1 b32_L1 b32_L2 (0 : Int32) M6
noncomputable def F_X10_line (M : zMem) (p0 : Int32) (p1 : Int32) : Option (Int32 × zMem) :=
  zl (zI M 0 0 (0 : Int32)) fun M8 =>
  zb (F_X10_in M8 p1 (0 : Int32) (3 : Int32)) fun v10 M9 =>
  if v10 = 0 then
    F_X10_line_46 p0 p1 p0 p1 (1 : Int32) M9
  else
    if (p1 - p1 / (2 : Int32) * (2 : Int32)) = 0 then
      F_X10_line_32 p0 p1 p0 p1 p0 (0 : Int32) (1 : Int32) M9
    else
      F_X10_line_32 p0 p1 p0 p1 p0 (0 : Int32) (0 : Int32) M9
def rm_X10_line : Room := { frames := 3, cells := 0, slots := 0, locals := 103 }
set_option maxHeartbeats 4000000 in
set_option maxRecDepth 100000 in
theorem c_X10_line (l : Launch) {G : zG} {ad : Nat → Nat} {n : Nat} (hA : zInj ad n) (M : zMem) (p0 : Int32) (p1 : Int32) (hT : zT shM n 0 11) {r9 : Int32} {M9 : zMem} (hF : F_X10_line M p0 p1 = some (r9, M9)) : zM l yX10_line cX10_line 5 (some .int) rm_X10_line G shM ad n M [.ref (ad 0), .int p0, .int p1] (some (.int r9)) M9 := by
  refine zM_of hA (by decide +kernel) (lv := [(0, .ref (ad 0)), (1, .int p0), (2, .int p1)]) (Nat.le_of_ble_eq_true rfl) rfl (fun p e s m args below meth c A cx hr => ?_)
  have hb115 : ∀ (self61 : Int32 → Int32 → Int32 → Int32 → zMem → Option (Int32 × zMem)) (hs61 : ∀ (b61_L1 : Int32) (b61_L2 : Int32) (b61_L3 : Int32) (b61_L4 : Int32) (M : zMem), self61 b61_L1 b61_L2 b61_L3 b61_L4 M = some (r9, M9) → zJ p l e rm_X10_line s m args below meth c G shM ad n A 5 (MQ below (zQ G shM ad n M9 (some (.int r9)) A) args s 0 0 A) 0 0 M 61 [(0, .ref (ad 0)), (1, .int b61_L1), (2, .int b61_L2), (3, .int b61_L3), (4, .int b61_L4)] []), ∀ (b115_L1 : Int32) (b115_L2 : Int32) (b115_L4 : Int32) (b115_S0 : Int32) (b115_S1 : Int32) (M : zMem), F_X10_line_115 p0 p1 self61 b115_L1 b115_L2 b115_L4 b115_S0 b115_S1 M = some (r9, M9) → zJ p l e rm_X10_line s m args below meth c G shM ad n A 5 (MQ below (zQ G shM ad n M9 (some (.int r9)) A) args s 0 0 A) 0 0 M 115 [(0, .ref (ad 0)), (1, .int b115_L1), (2, .int b115_L2), (4, .int b115_L4)] [.int b115_S1, .int b115_S0] := by
    intro self61 hs61 b115_L1 b115_L2 b115_L4 b115_S0 b115_S1 M hF
    unfold F_X10_line_115 at hF
    refine z_iadd cx d_X10_line_115 ?_
    refine z_nm hF (fun v1 hF => ?_)
    refine z_istore_n cx 3 [(3, .int v1), (0, .ref (ad 0)), (1, .int b115_L1), (2, .int b115_L2), (4, .int b115_L4)] d_X10_line_116 rfl (by decide) rfl ?_
    refine z_iinc cx 4 1 [(4, .int (b115_L4 + 1)), (3, .int v1), (0, .ref (ad 0)), (1, .int b115_L1), (2, .int b115_L2)] d_X10_line_117 4 rfl ki_1 (by decide) rfl ?_
    refine z_goto cx 61 d_X10_line_120 (by decide) ?_
    exact z_lv [2, 3, 4, 1, 0] _ rfl (hs61 b115_L1 b115_L2 v1 (b115_L4 + 1) M hF)
  have hb107 : ∀ (self61 : Int32 → Int32 → Int32 → Int32 → zMem → Option (Int32 × zMem)) (hs61 : ∀ (b61_L1 : Int32) (b61_L2 : Int32) (b61_L3 : Int32) (b61_L4 : Int32) (M : zMem), self61 b61_L1 b61_L2 b61_L3 b61_L4 M = some (r9, M9) → zJ p l e rm_X10_line s m args below meth c G shM ad n A 5 (MQ below (zQ G shM ad n M9 (some (.int r9)) A) args s 0 0 A) 0 0 M 61 [(0, .ref (ad 0)), (1, .int b61_L1), (2, .int b61_L2), (3, .int b61_L3), (4, .int b61_L4)] []), ∀ (b107_L1 : Int32) (b107_L2 : Int32) (b107_L4 : Int32) (b107_S0 : Int32) (b107_S2 : Int32) (M : zMem), F_X10_line_107 p0 p1 self61 b107_L1 b107_L2 b107_L4 b107_S0 b107_S2 M = some (r9, M9) → zJ p l e rm_X10_line s m args below meth c G shM ad n A 5 (MQ below (zQ G shM ad n M9 (some (.int r9)) A) args s 0 0 A) 0 0 M 107 [(0, .ref (ad 0)), (1, .int b107_L1), (2, .int b107_L2), (4, .int b107_L4)] [.int b107_S2, .ref (ad 451), .int b107_S0] := by
    intro self61 hs61 b107_L1 b107_L2 b107_L4 b107_S0 b107_S2 M hF
    unfold F_X10_line_107 at hF
    refine z_iload cx d_X10_line_107 3 rfl ?_
    refine z_iadd cx d_X10_line_109 ?_
    obtain ⟨hi2, hF⟩ := gin_inv hF
    refine z_iald cx (tfM_11_451 hT) za_36 hi2 ((b107_S2 + b107_L4).toNatClampNeg) rfl d_X10_line_110 ?_
    refine z_goto cx 115 d_X10_line_111 (by decide) ?_
    exact hb115 self61 hs61 b107_L1 b107_L2 b107_L4 b107_S0 (M.1 451 (b107_S2 + b107_L4).toNatClampNeg) M hF
  have hb88 : ∀ (self61 : Int32 → Int32 → Int32 → Int32 → zMem → Option (Int32 × zMem)) (hs61 : ∀ (b61_L1 : Int32) (b61_L2 : Int32) (b61_L3 : Int32) (b61_L4 : Int32) (M : zMem), self61 b61_L1 b61_L2 b61_L3 b61_L4 M = some (r9, M9) → zJ p l e rm_X10_line s m args below meth c G shM ad n A 5 (MQ below (zQ G shM ad n M9 (some (.int r9)) A) args s 0 0 A) 0 0 M 61 [(0, .ref (ad 0)), (1, .int b61_L1), (2, .int b61_L2), (3, .int b61_L3), (4, .int b61_L4)] []), ∀ (b88_L1 : Int32) (b88_L2 : Int32) (b88_L4 : Int32) (b88_S0 : Int32) (b88_S1 : Int32) (M : zMem), F_X10_line_88 p0 p1 self61 b88_L1 b88_L2 b88_L4 b88_S0 b88_S1 M = some (r9, M9) → zJ p l e rm_X10_line s m args below meth c G shM ad n A 5 (MQ below (zQ G shM ad n M9 (some (.int r9)) A) args s 0 0 A) 0 0 M 88 [(0, .ref (ad 0)), (1, .int b88_L1), (2, .int b88_L2), (4, .int b88_L4)] [.int b88_S1, .int b88_S0] := by
    intro self61 hs61 b88_L1 b88_L2 b88_L4 b88_S0 b88_S1 M hF
    unfold F_X10_line_88 at hF
    refine z_iload_n cx d_X10_line_88 1 rfl ?_
    refine z_icmp_ne cx 114 d_X10_line_89 (by decide) hF (fun hF => ?_) (fun hF => ?_)
    · refine z_iconst (v := 0) cx d_X10_line_114 ki_0 ?_
      exact hb115 self61 hs61 b88_L1 b88_L2 b88_L4 b88_S0 (0 : Int32) M hF
    refine z_aload_n cx d_X10_line_92 0 rfl ?_
    refine z_getR cx hT fg_SunnyPansModel_58 451 rfl d_X10_line_93 ?_
    refine z_iload_n cx d_X10_line_96 2 rfl ?_
    refine z_iconst (v := 2) cx d_X10_line_97 ki_2 ?_
    refine z_icmp_ge cx 105 d_X10_line_98 (by decide) hF (fun hF => ?_) (fun hF => ?_)
    · refine z_bipush (v := 64) cx d_X10_line_105 kb_64 ?_
      exact hb107 self61 hs61 b88_L1 b88_L2 b88_L4 b88_S0 (64 : Int32) M hF
    refine z_iconst (v := 0) cx d_X10_line_101 ki_0 ?_
    refine z_goto cx 107 d_X10_line_102 (by decide) ?_
    exact hb107 self61 hs61 b88_L1 b88_L2 b88_L4 b88_S0 (0 : Int32) M hF
  have hL61 : ∀ (fuel : Nat), ∀ (b61_L1 : Int32) (b61_L2 : Int32) (b61_L3 : Int32) (b61_L4 : Int32) (M : zMem), itF (fun _ _ _ _ _ => none) (F_X10_line_61 p0 p1) fuel b61_L1 b61_L2 b61_L3 b61_L4 M = some (r9, M9) → zJ p l e rm_X10_line s m args below meth c G shM ad n A 5 (MQ below (zQ G shM ad n M9 (some (.int r9)) A) args s 0 0 A) 0 0 M 61 [(0, .ref (ad 0)), (1, .int b61_L1), (2, .int b61_L2), (3, .int b61_L3), (4, .int b61_L4)] [] := by
    intro fuel
    induction fuel with
    | zero => intro b61_L1 b61_L2 b61_L3 b61_L4 M hF; cases hF
    | succ fuel hs61 =>
      intro b61_L1 b61_L2 b61_L3 b61_L4 M hF
      have hF : F_X10_line_61 p0 p1 (itF (fun _ _ _ _ _ => none) (F_X10_line_61 p0 p1) fuel) b61_L1 b61_L2 b61_L3 b61_L4 M = some (r9, M9) := hF
      generalize itF (fun _ _ _ _ _ => none) (F_X10_line_61 p0 p1) fuel = self61 at hs61 hF
      unfold F_X10_line_61 at hF
      refine z_iload cx d_X10_line_61 4 rfl ?_
      refine z_bipush (v := 64) cx d_X10_line_63 kb_64 ?_
      refine z_icmp_ge cx 123 d_X10_line_65 (by decide) hF (fun hF => ?_) (fun hF => ?_)
      · refine z_iload_n cx d_X10_line_123 3 rfl ?_
        exact z_iret cx hr rfl hF d_X10_line_124
      refine z_iload_n cx d_X10_line_68 3 rfl ?_
      refine z_iload_n cx d_X10_line_69 2 rfl ?_
      refine z_iconst (v := 2) cx d_X10_line_70 ki_2 ?_
      refine z_irem cx d_X10_line_71 (by decide) ?_
      refine z_if_ne cx 83 d_X10_line_72 (by decide) hF (fun hF => ?_) (fun hF => ?_)
      · refine z_iload cx d_X10_line_83 4 rfl ?_
        refine z_bipush (v := 8) cx d_X10_line_85 kb_8 ?_
        refine z_irem cx d_X10_line_87 (by decide) ?_
        exact z_lv [0, 1, 2, 4] _ rfl (hb88 self61 hs61 b61_L1 b61_L2 b61_L4 b61_L3 (b61_L4 - b61_L4 / (8 : Int32) * (8 : Int32)) M hF)
      refine z_iload cx d_X10_line_75 4 rfl ?_
      refine z_bipush (v := 8) cx d_X10_line_77 kb_8 ?_
      refine z_idiv cx d_X10_line_79 (by decide) ?_
      refine z_goto cx 88 d_X10_line_80 (by decide) ?_
      exact z_lv [0, 1, 2, 4] _ rfl (hb88 self61 hs61 b61_L1 b61_L2 b61_L4 b61_L3 (b61_L4 / (8 : Int32)) M hF)
  have hb46 : ∀ (b46_L1 : Int32) (b46_L2 : Int32) (b46_S1 : Int32) (M : zMem), F_X10_line_46 p0 p1 b46_L1 b46_L2 b46_S1 M = some (r9, M9) → zJ p l e rm_X10_line s m args below meth c G shM ad n A 5 (MQ below (zQ G shM ad n M9 (some (.int r9)) A) args s 0 0 A) 0 0 M 46 [(0, .ref (ad 0)), (1, .int b46_L1), (2, .int b46_L2)] [.int b46_S1, .ref (ad 0)] := by
    intro b46_L1 b46_L2 b46_S1 M hF
    unfold F_X10_line_46 at hF
    refine z_iconst (v := 1) cx d_X10_line_46 ki_1 ?_
    refine z_iconst (v := 1) cx d_X10_line_47 ki_1 ?_
    obtain ⟨v4, M3, hc, hF⟩ := zb_inv hF
    refine z_callV cx (As := [.int b46_S1, .int (1 : Int32), .int (1 : Int32)]) (rest := []) (c_X10_bad l cx.2.2.2.1.1 M b46_S1 (1 : Int32) (1 : Int32) hT hc) hT zo_11 cv_SunnyPansModel_155 ⟨rfl, rfl, Nat.le_of_ble_eq_true rfl, Nat.le_of_ble_eq_true rfl⟩ rfl rfl ⟨Nat.zero_le _, Nat.zero_le _⟩ (Nat.le_of_ble_eq_true rfl) d_X10_line_48 ?_
    refine z_if_eq cx 56 d_X10_line_51 (by decide) hF (fun hF => ?_) (fun hF => ?_)
    · refine z_iconst (v := 0) cx d_X10_line_56 ki_0 ?_
      refine z_istore_n cx 3 [(3, .int (0 : Int32)), (0, .ref (ad 0)), (1, .int b46_L1), (2, .int b46_L2)] d_X10_line_57 rfl (by decide) rfl ?_
      refine z_iconst (v := 0) cx d_X10_line_58 ki_0 ?_
      refine z_istore cx 4 [(4, .int (0 : Int32)), (3, .int (0 : Int32)), (0, .ref (ad 0)), (1, .int b46_L1), (2, .int b46_L2)] d_X10_line_59 (by decide) rfl ?_
      exact z_lv [2, 3, 4, 1, 0] _ rfl (hL61 zFuel b46_L1 b46_L2 (0 : Int32) (0 : Int32) M3 hF)
    refine z_iconst (v := 0) cx d_X10_line_54 ki_0 ?_
    exact z_iret cx hr rfl hF d_X10_line_55
  have hb32 : ∀ (b32_L1 : Int32) (b32_L2 : Int32) (b32_S1 : Int32) (b32_S2 : Int32) (b32_S4 : Int32) (M : zMem), F_X10_line_32 p0 p1 b32_L1 b32_L2 b32_S1 b32_S2 b32_S4 M = some (r9, M9) → zJ p l e rm_X10_line s m args below meth c G shM ad n A 5 (MQ below (zQ G shM ad n M9 (some (.int r9)) A) args s 0 0 A) 0 0 M 32 [(0, .ref (ad 0)), (1, .int b32_L1), (2, .int b32_L2)] [.int b32_S4, .ref (ad 4), .int b32_S2, .int b32_S1, .ref (ad 0)] := by
    intro b32_L1 b32_L2 b32_S1 b32_S2 b32_S4 M hF
    unfold F_X10_line_32 at hF
    obtain ⟨hi5, hF⟩ := gin_inv hF
    refine z_iald cx (tfM_11_4 hT) za_28 hi5 b32_S4.toNatClampNeg rfl d_X10_line_32 ?_
    refine z_iconst (v := 1) cx d_X10_line_33 ki_1 ?_
    refine z_isub cx d_X10_line_34 ?_
    obtain ⟨v7, M6, hc, hF⟩ := zb_inv hF
    refine z_callS cx (As := [.int b32_S1, .int b32_S2, .int ((M.1 4 b32_S4.toNatClampNeg) - (1 : Int32))]) (rest := [.ref (ad 0)]) (c_X10_in l cx.2.2.2.1.1 M b32_S1 b32_S2 ((M.1 4 b32_S4.toNatClampNeg) - (1 : Int32))  hc) cs_SunnyPansModel_116 ⟨rfl, rfl, Nat.le_of_ble_eq_true rfl, Nat.le_of_ble_eq_true rfl⟩ rfl rfl ⟨Nat.zero_le _, Nat.zero_le _⟩ (Nat.le_of_ble_eq_true rfl) d_X10_line_35 ?_
    refine z_if_ne cx 45 d_X10_line_38 (by decide) hF (fun hF => ?_) (fun hF => ?_)
    · refine z_iconst (v := 0) cx d_X10_line_45 ki_0 ?_
      exact hb46 b32_L1 b32_L2 (0 : Int32) M6 hF
    refine z_iconst (v := 1) cx d_X10_line_41 ki_1 ?_
    refine z_goto cx 46 d_X10_line_42 (by decide) ?_
    exact hb46 b32_L1 b32_L2 (1 : Int32) M6 hF
  unfold F_X10_line at hF
  refine z_aload_n cx d_X10_line_0 0 rfl ?_
  refine z_iconst (v := 0) cx d_X10_line_1 ki_0 ?_
  refine z_putI cx hT fp_SunnyPansModel_82 d_X10_line_2 ?_
  refine z_nmM hF (fun M8 hF => ?_)
  refine z_aload_n cx d_X10_line_5 0 rfl ?_
  refine z_iload_n cx d_X10_line_6 2 rfl ?_
  refine z_iconst (v := 0) cx d_X10_line_7 ki_0 ?_
  refine z_iconst (v := 3) cx d_X10_line_8 ki_3 ?_
  obtain ⟨v10, M9, hc, hF⟩ := zb_inv hF
  refine z_callS cx (As := [.int p1, .int (0 : Int32), .int (3 : Int32)]) (rest := [.ref (ad 0)]) (c_X10_in l cx.2.2.2.1.1 M8 p1 (0 : Int32) (3 : Int32)  hc) cs_SunnyPansModel_116 ⟨rfl, rfl, Nat.le_of_ble_eq_true rfl, Nat.le_of_ble_eq_true rfl⟩ rfl rfl ⟨Nat.zero_le _, Nat.zero_le _⟩ (Nat.le_of_ble_eq_true rfl) d_X10_line_9 ?_
  refine z_if_eq cx 41 d_X10_line_12 (by decide) hF (fun hF => ?_) (fun hF => ?_)
  · refine z_iconst (v := 1) cx d_X10_line_41 ki_1 ?_
    refine z_goto cx 46 d_X10_line_42 (by decide) ?_
    exact hb46 p0 p1 (1 : Int32) M9 hF
  refine z_iload_n cx d_X10_line_15 1 rfl ?_
  refine z_iconst (v := 0) cx d_X10_line_16 ki_0 ?_
  refine z_aload_n cx d_X10_line_17 0 rfl ?_
  refine z_getR cx hT fg_SunnyPansModel_23 4 rfl d_X10_line_18 ?_
  refine z_iload_n cx d_X10_line_21 2 rfl ?_
  refine z_iconst (v := 2) cx d_X10_line_22 ki_2 ?_
  refine z_irem cx d_X10_line_23 (by decide) ?_
  refine z_if_ne cx 31 d_X10_line_24 (by decide) hF (fun hF => ?_) (fun hF => ?_)
  · refine z_iconst (v := 0) cx d_X10_line_31 ki_0 ?_
    exact hb32 p0 p1 p0 (0 : Int32) (0 : Int32) M9 hF
  refine z_iconst (v := 1) cx d_X10_line_27 ki_1 ?_
  refine z_goto cx 32 d_X10_line_28 (by decide) ?_
  exact hb32 p0 p1 p0 (0 : Int32) (1 : Int32) M9 hF
/-! SunnyPansModel.mounds -/
theorem d_X10_mounds_0 : decode cX10_mounds 0 = .ok (.aload_n 0, 1) := by decide +kernel
theorem d_X10_mounds_1 : decode cX10_mounds 1 = .ok (.iconst 0, 1) := by decide +kernel
theorem d_X10_mounds_2 : decode cX10_mounds 2 = .ok (.putfield 82, 3) := by decide +kernel
theorem d_X10_mounds_5 : decode cX10_mounds 5 = .ok (.aload_n 0, 1) := by decide +kernel
theorem d_X10_mounds_6 : decode cX10_mounds 6 = .ok (.iload_n 1, 1) := by decide +kernel
theorem d_X10_mounds_7 : decode cX10_mounds 7 = .ok (.iconst 0, 1) := by decide +kernel
theorem d_X10_mounds_8 : decode cX10_mounds 8 = .ok (.aload_n 0, 1) := by decide +kernel
theorem d_X10_mounds_9 : decode cX10_mounds 9 = .ok (.getfield 23, 3) := by decide +kernel
theorem d_X10_mounds_12 : decode cX10_mounds 12 = .ok (.iconst 1, 1) := by decide +kernel
theorem d_X10_mounds_13 : decode cX10_mounds 13 = .ok (.iaload, 1) := by decide +kernel
theorem d_X10_mounds_14 : decode cX10_mounds 14 = .ok (.iconst 1, 1) := by decide +kernel
theorem d_X10_mounds_15 : decode cX10_mounds 15 = .ok (.isub, 1) := by decide +kernel
theorem d_X10_mounds_16 : decode cX10_mounds 16 = .ok (.invokestatic 116, 3) := by decide +kernel
theorem d_X10_mounds_19 : decode cX10_mounds 19 = .ok (.ifCond .ne 7, 3) := by decide +kernel
theorem d_X10_mounds_22 : decode cX10_mounds 22 = .ok (.iconst 1, 1) := by decide +kernel
theorem d_X10_mounds_23 : decode cX10_mounds 23 = .ok (.goto 4, 3) := by decide +kernel
theorem d_X10_mounds_26 : decode cX10_mounds 26 = .ok (.iconst 0, 1) := by decide +kernel
theorem d_X10_mounds_27 : decode cX10_mounds 27 = .ok (.iconst 1, 1) := by decide +kernel
theorem d_X10_mounds_28 : decode cX10_mounds 28 = .ok (.iconst 0, 1) := by decide +kernel
theorem d_X10_mounds_29 : decode cX10_mounds 29 = .ok (.invokevirtual 155, 3) := by decide +kernel
theorem d_X10_mounds_32 : decode cX10_mounds 32 = .ok (.ifCond .eq 5, 3) := by decide +kernel
theorem d_X10_mounds_35 : decode cX10_mounds 35 = .ok (.iconst 0, 1) := by decide +kernel
theorem d_X10_mounds_36 : decode cX10_mounds 36 = .ok (.ireturn, 1) := by decide +kernel
theorem d_X10_mounds_37 : decode cX10_mounds 37 = .ok (.iconst 0, 1) := by decide +kernel
theorem d_X10_mounds_38 : decode cX10_mounds 38 = .ok (.istore_n 2, 1) := by decide +kernel
theorem d_X10_mounds_39 : decode cX10_mounds 39 = .ok (.iconst 0, 1) := by decide +kernel
theorem d_X10_mounds_40 : decode cX10_mounds 40 = .ok (.istore_n 3, 1) := by decide +kernel
theorem d_X10_mounds_41 : decode cX10_mounds 41 = .ok (.iload_n 3, 1) := by decide +kernel
theorem d_X10_mounds_42 : decode cX10_mounds 42 = .ok (.aload_n 0, 1) := by decide +kernel
theorem d_X10_mounds_43 : decode cX10_mounds 43 = .ok (.getfield 23, 3) := by decide +kernel
theorem d_X10_mounds_46 : decode cX10_mounds 46 = .ok (.iconst 0, 1) := by decide +kernel
theorem d_X10_mounds_47 : decode cX10_mounds 47 = .ok (.iaload, 1) := by decide +kernel
theorem d_X10_mounds_48 : decode cX10_mounds 48 = .ok (.if_icmp .ge 37, 3) := by decide +kernel
theorem d_X10_mounds_51 : decode cX10_mounds 51 = .ok (.iload_n 2, 1) := by decide +kernel
theorem d_X10_mounds_52 : decode cX10_mounds 52 = .ok (.aload_n 0, 1) := by decide +kernel
theorem d_X10_mounds_53 : decode cX10_mounds 53 = .ok (.getfield 58, 3) := by decide +kernel
theorem d_X10_mounds_56 : decode cX10_mounds 56 = .ok (.sipush 128, 3) := by decide +kernel
theorem d_X10_mounds_59 : decode cX10_mounds 59 = .ok (.bipush 8, 2) := by decide +kernel
theorem d_X10_mounds_61 : decode cX10_mounds 61 = .ok (.iload_n 1, 1) := by decide +kernel
theorem d_X10_mounds_62 : decode cX10_mounds 62 = .ok (.imul, 1) := by decide +kernel
theorem d_X10_mounds_63 : decode cX10_mounds 63 = .ok (.iadd, 1) := by decide +kernel
theorem d_X10_mounds_64 : decode cX10_mounds 64 = .ok (.iload_n 3, 1) := by decide +kernel
theorem d_X10_mounds_65 : decode cX10_mounds 65 = .ok (.iadd, 1) := by decide +kernel
theorem d_X10_mounds_66 : decode cX10_mounds 66 = .ok (.iaload, 1) := by decide +kernel
theorem d_X10_mounds_67 : decode cX10_mounds 67 = .ok (.ifCond .le 9, 3) := by decide +kernel
theorem d_X10_mounds_70 : decode cX10_mounds 70 = .ok (.iconst 1, 1) := by decide +kernel
theorem d_X10_mounds_71 : decode cX10_mounds 71 = .ok (.iload_n 3, 1) := by decide +kernel
theorem d_X10_mounds_72 : decode cX10_mounds 72 = .ok (.ishl, 1) := by decide +kernel
theorem d_X10_mounds_73 : decode cX10_mounds 73 = .ok (.goto 4, 3) := by decide +kernel
theorem d_X10_mounds_76 : decode cX10_mounds 76 = .ok (.iconst 0, 1) := by decide +kernel
theorem d_X10_mounds_77 : decode cX10_mounds 77 = .ok (.ior, 1) := by decide +kernel
theorem d_X10_mounds_78 : decode cX10_mounds 78 = .ok (.istore_n 2, 1) := by decide +kernel
theorem d_X10_mounds_79 : decode cX10_mounds 79 = .ok (.iinc 3 1, 3) := by decide +kernel
theorem d_X10_mounds_82 : decode cX10_mounds 82 = .ok (.goto (-41), 3) := by decide +kernel
theorem d_X10_mounds_85 : decode cX10_mounds 85 = .ok (.iload_n 2, 1) := by decide +kernel
theorem d_X10_mounds_86 : decode cX10_mounds 86 = .ok (.ireturn, 1) := by decide +kernel
noncomputable def F_X10_mounds_77 (p0 : Int32) (self41 : Int32 → Int32 → Int32 → zMem → Option (Int32 × zMem)) (b77_L1 : Int32) (b77_L3 : Int32) (b77_S0 : Int32) (b77_S1 : Int32) (M : zMem) : Option (Int32 × zMem) :=
  zl (b77_S0 ||| b77_S1) fun v1 =>
  self41 b77_L1 v1 (b77_L3 + 1) M
noncomputable def F_X10_mounds_41 (p0 : Int32) (self41 : Int32 → Int32 → Int32 → zMem → Option (Int32 × zMem)) (b41_L1 : Int32) (b41_L2 : Int32) (b41_L3 : Int32) (M : zMem) : Option (Int32 × zMem) :=
  if (M.1 4 0) ≤ b41_L3 then
    some (b41_L2, M)
  else
    gin (((128 : Int32) + ((8 : Int32) * b41_L1)) + b41_L3) 195 <|
    if (M.1 451 (((128 : Int32) + ((8 : Int32) * b41_L1)) + b41_L3).toNatClampNeg) ≤ 0 then
      F_X10_mounds_77 p0 self41 b41_L1 b41_L3 b41_L2 (0 : Int32) M
    else
      F_X10_mounds_77 p0 self41 b41_L1 b41_L3 b41_L2 ((1 : Int32) <<< (b41_L3 &&& 31)) M
noncomputable def F_X10_mounds_27 (p0 : Int32) (b27_L1 : Int32) (b27_S1 : Int32) (M : zMem) : Option (Int32 × zMem) :=
  zb (F_X10_bad M b27_S1 (1 : Int32) (0 : Int32)) fun v4 M3 =>
  if v4 = 0 then
    itF (fun _ _ _ _ => none) (F_X10_mounds_41 p0) zFuel b27_L1 (0 : Int32) (0 : Int32) M3
  else
    some ((0 : Int32), M3)
noncomputable def F_X10_mounds (M : zMem) (p0 : Int32) : Option (Int32 × zMem) :=
  zl (zI M 0 0 (0 : Int32)) fun M5 =>
  zb (F_X10_in M5 p0 (0 : Int32) ((M5.1 4 1) - (1 : Int32))) fun v7 M6 =>
  if v7 = 0 then
    F_X10_mounds_27 p0 p0 (1 : Int32) M6
  else
    F_X10_mounds_27 p0 p0 (0 : Int32) M6
def rm_X10_mounds : Room := { frames := 3, cells := 0, slots := 0, locals := 103 }
set_option maxHeartbeats 4000000 in
set_option maxRecDepth 100000 in
theorem c_X10_mounds (l : Launch) {G : zG} {ad : Nat → Nat} {n : Nat} (hA : zInj ad n) (M : zMem) (p0 : Int32) (hT : zT shM n 0 11) {r9 : Int32} {M9 : zMem} (hF : F_X10_mounds M p0 = some (r9, M9)) : zM l yX10_mounds cX10_mounds 4 (some .int) rm_X10_mounds G shM ad n M [.ref (ad 0), .int p0] (some (.int r9)) M9 := by
  refine zM_of hA (by decide +kernel) (lv := [(0, .ref (ad 0)), (1, .int p0)]) (Nat.le_of_ble_eq_true rfl) rfl (fun p e s m args below meth c A cx hr => ?_)
  have hb77 : ∀ (self41 : Int32 → Int32 → Int32 → zMem → Option (Int32 × zMem)) (hs41 : ∀ (b41_L1 : Int32) (b41_L2 : Int32) (b41_L3 : Int32) (M : zMem), self41 b41_L1 b41_L2 b41_L3 M = some (r9, M9) → zJ p l e rm_X10_mounds s m args below meth c G shM ad n A 4 (MQ below (zQ G shM ad n M9 (some (.int r9)) A) args s 0 0 A) 0 0 M 41 [(0, .ref (ad 0)), (1, .int b41_L1), (2, .int b41_L2), (3, .int b41_L3)] []), ∀ (b77_L1 : Int32) (b77_L3 : Int32) (b77_S0 : Int32) (b77_S1 : Int32) (M : zMem), F_X10_mounds_77 p0 self41 b77_L1 b77_L3 b77_S0 b77_S1 M = some (r9, M9) → zJ p l e rm_X10_mounds s m args below meth c G shM ad n A 4 (MQ below (zQ G shM ad n M9 (some (.int r9)) A) args s 0 0 A) 0 0 M 77 [(0, .ref (ad 0)), (1, .int b77_L1), (3, .int b77_L3)] [.int b77_S1, .int b77_S0] := by
    intro self41 hs41 b77_L1 b77_L3 b77_S0 b77_S1 M hF
    unfold F_X10_mounds_77 at hF
    refine z_ior cx d_X10_mounds_77 ?_
    refine z_nm hF (fun v1 hF => ?_)
    refine z_istore_n cx 2 [(2, .int v1), (0, .ref (ad 0)), (1, .int b77_L1), (3, .int b77_L3)] d_X10_mounds_78 rfl (by decide) rfl ?_
    refine z_iinc cx 3 1 [(3, .int (b77_L3 + 1)), (2, .int v1), (0, .ref (ad 0)), (1, .int b77_L1)] d_X10_mounds_79 3 rfl ki_1 (by decide) rfl ?_
    refine z_goto cx 41 d_X10_mounds_82 (by decide) ?_
    exact z_lv [2, 3, 1, 0] _ rfl (hs41 b77_L1 v1 (b77_L3 + 1) M hF)
  have hL41 : ∀ (fuel : Nat), ∀ (b41_L1 : Int32) (b41_L2 : Int32) (b41_L3 : Int32) (M : zMem), itF (fun _ _ _ _ => none) (F_X10_mounds_41 p0) fuel b41_L1 b41_L2 b41_L3 M = some (r9, M9) → zJ p l e rm_X10_mounds s m args below meth c G shM ad n A 4 (MQ below (zQ G shM ad n M9 (some (.int r9)) A) args s 0 0 A) 0 0 M 41 [(0, .ref (ad 0)), (1, .int b41_L1), (2, .int b41_L2), (3, .int b41_L3)] [] := by
    intro fuel
    induction fuel with
    | zero => intro b41_L1 b41_L2 b41_L3 M hF; cases hF
    | succ fuel hs41 =>
      intro b41_L1 b41_L2 b41_L3 M hF
      have hF : F_X10_mounds_41 p0 (itF (fun _ _ _ _ => none) (F_X10_mounds_41 p0) fuel) b41_L1 b41_L2 b41_L3 M = some (r9, M9) := hF
      generalize itF (fun _ _ _ _ => none) (F_X10_mounds_41 p0) fuel = self41 at hs41 hF
      unfold F_X10_mounds_41 at hF
      refine z_iload_n cx d_X10_mounds_41 3 rfl ?_
      refine z_aload_n cx d_X10_mounds_42 0 rfl ?_
      refine z_getR cx hT fg_SunnyPansModel_23 4 rfl d_X10_mounds_43 ?_
      refine z_iconst (v := 0) cx d_X10_mounds_46 ki_0 ?_
      refine z_iald cx (tfM_11_4 hT) za_28 (zvp (by decide +kernel)) 0 rfl d_X10_mounds_47 ?_
      refine z_icmp_ge cx 85 d_X10_mounds_48 (by decide) hF (fun hF => ?_) (fun hF => ?_)
      · refine z_iload_n cx d_X10_mounds_85 2 rfl ?_
        exact z_iret cx hr rfl hF d_X10_mounds_86
      refine z_iload_n cx d_X10_mounds_51 2 rfl ?_
      refine z_aload_n cx d_X10_mounds_52 0 rfl ?_
      refine z_getR cx hT fg_SunnyPansModel_58 451 rfl d_X10_mounds_53 ?_
      refine z_sipush (v := 128) cx d_X10_mounds_56 ks_128 ?_
      refine z_bipush (v := 8) cx d_X10_mounds_59 kb_8 ?_
      refine z_iload_n cx d_X10_mounds_61 1 rfl ?_
      refine z_imul cx d_X10_mounds_62 ?_
      refine z_iadd cx d_X10_mounds_63 ?_
      refine z_iload_n cx d_X10_mounds_64 3 rfl ?_
      refine z_iadd cx d_X10_mounds_65 ?_
      obtain ⟨hi2, hF⟩ := gin_inv hF
      refine z_iald cx (tfM_11_451 hT) za_36 hi2 ((((128 : Int32) + ((8 : Int32) * b41_L1)) + b41_L3).toNatClampNeg) rfl d_X10_mounds_66 ?_
      refine z_if_le cx 76 d_X10_mounds_67 (by decide) hF (fun hF => ?_) (fun hF => ?_)
      · refine z_iconst (v := 0) cx d_X10_mounds_76 ki_0 ?_
        exact z_lv [0, 1, 3] _ rfl (hb77 self41 hs41 b41_L1 b41_L3 b41_L2 (0 : Int32) M hF)
      refine z_iconst (v := 1) cx d_X10_mounds_70 ki_1 ?_
      refine z_iload_n cx d_X10_mounds_71 3 rfl ?_
      refine z_ishl cx d_X10_mounds_72 ?_
      refine z_goto cx 77 d_X10_mounds_73 (by decide) ?_
      exact z_lv [0, 1, 3] _ rfl (hb77 self41 hs41 b41_L1 b41_L3 b41_L2 ((1 : Int32) <<< (b41_L3 &&& 31)) M hF)
  have hb27 : ∀ (b27_L1 : Int32) (b27_S1 : Int32) (M : zMem), F_X10_mounds_27 p0 b27_L1 b27_S1 M = some (r9, M9) → zJ p l e rm_X10_mounds s m args below meth c G shM ad n A 4 (MQ below (zQ G shM ad n M9 (some (.int r9)) A) args s 0 0 A) 0 0 M 27 [(0, .ref (ad 0)), (1, .int b27_L1)] [.int b27_S1, .ref (ad 0)] := by
    intro b27_L1 b27_S1 M hF
    unfold F_X10_mounds_27 at hF
    refine z_iconst (v := 1) cx d_X10_mounds_27 ki_1 ?_
    refine z_iconst (v := 0) cx d_X10_mounds_28 ki_0 ?_
    obtain ⟨v4, M3, hc, hF⟩ := zb_inv hF
    refine z_callV cx (As := [.int b27_S1, .int (1 : Int32), .int (0 : Int32)]) (rest := []) (c_X10_bad l cx.2.2.2.1.1 M b27_S1 (1 : Int32) (0 : Int32) hT hc) hT zo_11 cv_SunnyPansModel_155 ⟨rfl, rfl, Nat.le_of_ble_eq_true rfl, Nat.le_of_ble_eq_true rfl⟩ rfl rfl ⟨Nat.zero_le _, Nat.zero_le _⟩ (Nat.le_of_ble_eq_true rfl) d_X10_mounds_29 ?_
    refine z_if_eq cx 37 d_X10_mounds_32 (by decide) hF (fun hF => ?_) (fun hF => ?_)
    · refine z_iconst (v := 0) cx d_X10_mounds_37 ki_0 ?_
      refine z_istore_n cx 2 [(2, .int (0 : Int32)), (0, .ref (ad 0)), (1, .int b27_L1)] d_X10_mounds_38 rfl (by decide) rfl ?_
      refine z_iconst (v := 0) cx d_X10_mounds_39 ki_0 ?_
      refine z_istore_n cx 3 [(3, .int (0 : Int32)), (2, .int (0 : Int32)), (0, .ref (ad 0)), (1, .int b27_L1)] d_X10_mounds_40 rfl (by decide) rfl ?_
      exact z_lv [2, 3, 1, 0] _ rfl (hL41 zFuel b27_L1 (0 : Int32) (0 : Int32) M3 hF)
    refine z_iconst (v := 0) cx d_X10_mounds_35 ki_0 ?_
    exact z_iret cx hr rfl hF d_X10_mounds_36
  unfold F_X10_mounds at hF
  refine z_aload_n cx d_X10_mounds_0 0 rfl ?_
  refine z_iconst (v := 0) cx d_X10_mounds_1 ki_0 ?_
  refine z_putI cx hT fp_SunnyPansModel_82 d_X10_mounds_2 ?_
  refine z_nmM hF (fun M5 hF => ?_)
  refine z_aload_n cx d_X10_mounds_5 0 rfl ?_
  refine z_iload_n cx d_X10_mounds_6 1 rfl ?_
  refine z_iconst (v := 0) cx d_X10_mounds_7 ki_0 ?_
  refine z_aload_n cx d_X10_mounds_8 0 rfl ?_
  refine z_getR cx hT fg_SunnyPansModel_23 4 rfl d_X10_mounds_9 ?_
  refine z_iconst (v := 1) cx d_X10_mounds_12 ki_1 ?_
  refine z_iald cx (tfM_11_4 hT) za_28 (zvp (by decide +kernel)) 1 rfl d_X10_mounds_13 ?_
  refine z_iconst (v := 1) cx d_X10_mounds_14 ki_1 ?_
  refine z_isub cx d_X10_mounds_15 ?_
  obtain ⟨v7, M6, hc, hF⟩ := zb_inv hF
  refine z_callS cx (As := [.int p0, .int (0 : Int32), .int ((M5.1 4 1) - (1 : Int32))]) (rest := [.ref (ad 0)]) (c_X10_in l cx.2.2.2.1.1 M5 p0 (0 : Int32) ((M5.1 4 1) - (1 : Int32))  hc) cs_SunnyPansModel_116 ⟨rfl, rfl, Nat.le_of_ble_eq_true rfl, Nat.le_of_ble_eq_true rfl⟩ rfl rfl ⟨Nat.zero_le _, Nat.zero_le _⟩ (Nat.le_of_ble_eq_true rfl) d_X10_mounds_16 ?_
  refine z_if_ne cx 26 d_X10_mounds_19 (by decide) hF (fun hF => ?_) (fun hF => ?_)
  · refine z_iconst (v := 0) cx d_X10_mounds_26 ki_0 ?_
    exact hb27 p0 (0 : Int32) M6 hF
  refine z_iconst (v := 1) cx d_X10_mounds_22 ki_1 ?_
  refine z_goto cx 27 d_X10_mounds_23 (by decide) ?_
  exact hb27 p0 (1 : Int32) M6 hF
/-! SunnyPansModel.lossAt -/
theorem d_X10_lossAt_0 : decode cX10_lossAt 0 = .ok (.iconst 0, 1) := by decide +kernel
theorem d_X10_lossAt_1 : decode cX10_lossAt 1 = .ok (.istore_n 2, 1) := by decide +kernel
theorem d_X10_lossAt_2 : decode cX10_lossAt 2 = .ok (.iconst 0, 1) := by decide +kernel
theorem d_X10_lossAt_3 : decode cX10_lossAt 3 = .ok (.istore_n 3, 1) := by decide +kernel
theorem d_X10_lossAt_4 : decode cX10_lossAt 4 = .ok (.iload_n 3, 1) := by decide +kernel
theorem d_X10_lossAt_5 : decode cX10_lossAt 5 = .ok (.bipush 64, 2) := by decide +kernel
theorem d_X10_lossAt_7 : decode cX10_lossAt 7 = .ok (.if_icmp .ge 61, 3) := by decide +kernel
theorem d_X10_lossAt_10 : decode cX10_lossAt 10 = .ok (.iload_n 2, 1) := by decide +kernel
theorem d_X10_lossAt_11 : decode cX10_lossAt 11 = .ok (.aload_n 0, 1) := by decide +kernel
theorem d_X10_lossAt_12 : decode cX10_lossAt 12 = .ok (.getfield 58, 3) := by decide +kernel
theorem d_X10_lossAt_15 : decode cX10_lossAt 15 = .ok (.iconst 0, 1) := by decide +kernel
theorem d_X10_lossAt_16 : decode cX10_lossAt 16 = .ok (.iload_n 3, 1) := by decide +kernel
theorem d_X10_lossAt_17 : decode cX10_lossAt 17 = .ok (.iadd, 1) := by decide +kernel
theorem d_X10_lossAt_18 : decode cX10_lossAt 18 = .ok (.iaload, 1) := by decide +kernel
theorem d_X10_lossAt_19 : decode cX10_lossAt 19 = .ok (.ifCond .eq 16, 3) := by decide +kernel
theorem d_X10_lossAt_22 : decode cX10_lossAt 22 = .ok (.aload_n 0, 1) := by decide +kernel
theorem d_X10_lossAt_23 : decode cX10_lossAt 23 = .ok (.aload_n 0, 1) := by decide +kernel
theorem d_X10_lossAt_24 : decode cX10_lossAt 24 = .ok (.getfield 58, 3) := by decide +kernel
theorem d_X10_lossAt_27 : decode cX10_lossAt 27 = .ok (.iload_n 3, 1) := by decide +kernel
theorem d_X10_lossAt_28 : decode cX10_lossAt 28 = .ok (.iload_n 1, 1) := by decide +kernel
theorem d_X10_lossAt_29 : decode cX10_lossAt 29 = .ok (.invokevirtual 264, 3) := by decide +kernel
theorem d_X10_lossAt_32 : decode cX10_lossAt 32 = .ok (.ifCond .eq 7, 3) := by decide +kernel
theorem d_X10_lossAt_35 : decode cX10_lossAt 35 = .ok (.iconst 0, 1) := by decide +kernel
theorem d_X10_lossAt_36 : decode cX10_lossAt 36 = .ok (.goto 24, 3) := by decide +kernel
theorem d_X10_lossAt_39 : decode cX10_lossAt 39 = .ok (.aload_n 0, 1) := by decide +kernel
theorem d_X10_lossAt_40 : decode cX10_lossAt 40 = .ok (.getfield 58, 3) := by decide +kernel
theorem d_X10_lossAt_43 : decode cX10_lossAt 43 = .ok (.iconst 0, 1) := by decide +kernel
theorem d_X10_lossAt_44 : decode cX10_lossAt 44 = .ok (.iload_n 3, 1) := by decide +kernel
theorem d_X10_lossAt_45 : decode cX10_lossAt 45 = .ok (.iadd, 1) := by decide +kernel
theorem d_X10_lossAt_46 : decode cX10_lossAt 46 = .ok (.iaload, 1) := by decide +kernel
theorem d_X10_lossAt_47 : decode cX10_lossAt 47 = .ok (.aload_n 0, 1) := by decide +kernel
theorem d_X10_lossAt_48 : decode cX10_lossAt 48 = .ok (.aload_n 0, 1) := by decide +kernel
theorem d_X10_lossAt_49 : decode cX10_lossAt 49 = .ok (.getfield 58, 3) := by decide +kernel
theorem d_X10_lossAt_52 : decode cX10_lossAt 52 = .ok (.iload_n 3, 1) := by decide +kernel
theorem d_X10_lossAt_53 : decode cX10_lossAt 53 = .ok (.iload_n 1, 1) := by decide +kernel
theorem d_X10_lossAt_54 : decode cX10_lossAt 54 = .ok (.invokevirtual 268, 3) := by decide +kernel
theorem d_X10_lossAt_57 : decode cX10_lossAt 57 = .ok (.invokestatic 215, 3) := by decide +kernel
theorem d_X10_lossAt_60 : decode cX10_lossAt 60 = .ok (.iadd, 1) := by decide +kernel
theorem d_X10_lossAt_61 : decode cX10_lossAt 61 = .ok (.istore_n 2, 1) := by decide +kernel
theorem d_X10_lossAt_62 : decode cX10_lossAt 62 = .ok (.iinc 3 1, 3) := by decide +kernel
theorem d_X10_lossAt_65 : decode cX10_lossAt 65 = .ok (.goto (-61), 3) := by decide +kernel
theorem d_X10_lossAt_68 : decode cX10_lossAt 68 = .ok (.iload_n 2, 1) := by decide +kernel
theorem d_X10_lossAt_69 : decode cX10_lossAt 69 = .ok (.ireturn, 1) := by decide +kernel
noncomputable def F_X10_lossAt_60 (p0 : Int32) (self4 : Int32 → Int32 → Int32 → zMem → Option (Int32 × zMem)) (b60_L1 : Int32) (b60_L3 : Int32) (b60_S0 : Int32) (b60_S1 : Int32) (M : zMem) : Option (Int32 × zMem) :=
  zl (b60_S0 + b60_S1) fun v1 =>
  self4 b60_L1 v1 (b60_L3 + 1) M
noncomputable def F_X10_lossAt_4 (p0 : Int32) (self4 : Int32 → Int32 → Int32 → zMem → Option (Int32 × zMem)) (b4_L1 : Int32) (b4_L2 : Int32) (b4_L3 : Int32) (M : zMem) : Option (Int32 × zMem) :=
  if (64 : Int32) ≤ b4_L3 then
    some (b4_L2, M)
  else
    gin ((0 : Int32) + b4_L3) 195 <|
    if (M.1 451 ((0 : Int32) + b4_L3).toNatClampNeg) = 0 then
      F_X10_lossAt_60 p0 self4 b4_L1 b4_L3 b4_L2 (0 : Int32) M
    else
      zb (F_X10_isShade M 451 b4_L3 b4_L1) fun v4 M3 =>
      if v4 = 0 then
        zb (F_X10_driesOf M3 451 b4_L3 b4_L1) fun v6 M5 =>
        zb (F_X10_less M5 (M3.1 451 ((0 : Int32) + b4_L3).toNatClampNeg) v6) fun v8 M7 =>
        F_X10_lossAt_60 p0 self4 b4_L1 b4_L3 b4_L2 v8 M7
      else
        F_X10_lossAt_60 p0 self4 b4_L1 b4_L3 b4_L2 (0 : Int32) M3
noncomputable def F_X10_lossAt (M : zMem) (p0 : Int32) : Option (Int32 × zMem) :=
  itF (fun _ _ _ _ => none) (F_X10_lossAt_4 p0) zFuel p0 (0 : Int32) (0 : Int32) M
def rm_X10_lossAt : Room := { frames := 7, cells := 0, slots := 0, locals := 196 }
set_option maxHeartbeats 4000000 in
set_option maxRecDepth 100000 in
theorem c_X10_lossAt (l : Launch) {G : zG} {ad : Nat → Nat} {n : Nat} (hA : zInj ad n) (M : zMem) (p0 : Int32) (hT : zT shM n 0 11) {r9 : Int32} {M9 : zMem} (hF : F_X10_lossAt M p0 = some (r9, M9)) : zM l yX10_lossAt cX10_lossAt 4 (some .int) rm_X10_lossAt G shM ad n M [.ref (ad 0), .int p0] (some (.int r9)) M9 := by
  refine zM_of hA (by decide +kernel) (lv := [(0, .ref (ad 0)), (1, .int p0)]) (Nat.le_of_ble_eq_true rfl) rfl (fun p e s m args below meth c A cx hr => ?_)
  have hb60 : ∀ (self4 : Int32 → Int32 → Int32 → zMem → Option (Int32 × zMem)) (hs4 : ∀ (b4_L1 : Int32) (b4_L2 : Int32) (b4_L3 : Int32) (M : zMem), self4 b4_L1 b4_L2 b4_L3 M = some (r9, M9) → zJ p l e rm_X10_lossAt s m args below meth c G shM ad n A 4 (MQ below (zQ G shM ad n M9 (some (.int r9)) A) args s 0 0 A) 0 0 M 4 [(0, .ref (ad 0)), (1, .int b4_L1), (2, .int b4_L2), (3, .int b4_L3)] []), ∀ (b60_L1 : Int32) (b60_L3 : Int32) (b60_S0 : Int32) (b60_S1 : Int32) (M : zMem), F_X10_lossAt_60 p0 self4 b60_L1 b60_L3 b60_S0 b60_S1 M = some (r9, M9) → zJ p l e rm_X10_lossAt s m args below meth c G shM ad n A 4 (MQ below (zQ G shM ad n M9 (some (.int r9)) A) args s 0 0 A) 0 0 M 60 [(0, .ref (ad 0)), (1, .int b60_L1), (3, .int b60_L3)] [.int b60_S1, .int b60_S0] := by
    intro self4 hs4 b60_L1 b60_L3 b60_S0 b60_S1 M hF
    unfold F_X10_lossAt_60 at hF
    refine z_iadd cx d_X10_lossAt_60 ?_
    refine z_nm hF (fun v1 hF => ?_)
    refine z_istore_n cx 2 [(2, .int v1), (0, .ref (ad 0)), (1, .int b60_L1), (3, .int b60_L3)] d_X10_lossAt_61 rfl (by decide) rfl ?_
    refine z_iinc cx 3 1 [(3, .int (b60_L3 + 1)), (2, .int v1), (0, .ref (ad 0)), (1, .int b60_L1)] d_X10_lossAt_62 3 rfl ki_1 (by decide) rfl ?_
    refine z_goto cx 4 d_X10_lossAt_65 (by decide) ?_
    exact z_lv [2, 3, 1, 0] _ rfl (hs4 b60_L1 v1 (b60_L3 + 1) M hF)
  have hL4 : ∀ (fuel : Nat), ∀ (b4_L1 : Int32) (b4_L2 : Int32) (b4_L3 : Int32) (M : zMem), itF (fun _ _ _ _ => none) (F_X10_lossAt_4 p0) fuel b4_L1 b4_L2 b4_L3 M = some (r9, M9) → zJ p l e rm_X10_lossAt s m args below meth c G shM ad n A 4 (MQ below (zQ G shM ad n M9 (some (.int r9)) A) args s 0 0 A) 0 0 M 4 [(0, .ref (ad 0)), (1, .int b4_L1), (2, .int b4_L2), (3, .int b4_L3)] [] := by
    intro fuel
    induction fuel with
    | zero => intro b4_L1 b4_L2 b4_L3 M hF; cases hF
    | succ fuel hs4 =>
      intro b4_L1 b4_L2 b4_L3 M hF
      have hF : F_X10_lossAt_4 p0 (itF (fun _ _ _ _ => none) (F_X10_lossAt_4 p0) fuel) b4_L1 b4_L2 b4_L3 M = some (r9, M9) := hF
      generalize itF (fun _ _ _ _ => none) (F_X10_lossAt_4 p0) fuel = self4 at hs4 hF
      unfold F_X10_lossAt_4 at hF
      refine z_iload_n cx d_X10_lossAt_4 3 rfl ?_
      refine z_bipush (v := 64) cx d_X10_lossAt_5 kb_64 ?_
      refine z_icmp_ge cx 68 d_X10_lossAt_7 (by decide) hF (fun hF => ?_) (fun hF => ?_)
      · refine z_iload_n cx d_X10_lossAt_68 2 rfl ?_
        exact z_iret cx hr rfl hF d_X10_lossAt_69
      refine z_iload_n cx d_X10_lossAt_10 2 rfl ?_
      refine z_aload_n cx d_X10_lossAt_11 0 rfl ?_
      refine z_getR cx hT fg_SunnyPansModel_58 451 rfl d_X10_lossAt_12 ?_
      refine z_iconst (v := 0) cx d_X10_lossAt_15 ki_0 ?_
      refine z_iload_n cx d_X10_lossAt_16 3 rfl ?_
      refine z_iadd cx d_X10_lossAt_17 ?_
      obtain ⟨hi2, hF⟩ := gin_inv hF
      refine z_iald cx (tfM_11_451 hT) za_36 hi2 (((0 : Int32) + b4_L3).toNatClampNeg) rfl d_X10_lossAt_18 ?_
      refine z_if_eq cx 35 d_X10_lossAt_19 (by decide) hF (fun hF => ?_) (fun hF => ?_)
      · refine z_iconst (v := 0) cx d_X10_lossAt_35 ki_0 ?_
        refine z_goto cx 60 d_X10_lossAt_36 (by decide) ?_
        exact z_lv [0, 1, 3] _ rfl (hb60 self4 hs4 b4_L1 b4_L3 b4_L2 (0 : Int32) M hF)
      refine z_aload_n cx d_X10_lossAt_22 0 rfl ?_
      refine z_aload_n cx d_X10_lossAt_23 0 rfl ?_
      refine z_getR cx hT fg_SunnyPansModel_58 451 rfl d_X10_lossAt_24 ?_
      refine z_iload_n cx d_X10_lossAt_27 3 rfl ?_
      refine z_iload_n cx d_X10_lossAt_28 1 rfl ?_
      obtain ⟨v4, M3, hc, hF⟩ := zb_inv hF
      refine z_callV cx (As := [.ref (ad 451), .int b4_L3, .int b4_L1]) (rest := [.int b4_L2]) (c_X10_isShade l cx.2.2.2.1.1 M 451 b4_L3 b4_L1 hT (tfM_11_451 hT) hc) hT zo_11 cv_SunnyPansModel_264 ⟨rfl, rfl, Nat.le_of_ble_eq_true rfl, Nat.le_of_ble_eq_true rfl⟩ rfl rfl ⟨Nat.zero_le _, Nat.zero_le _⟩ (Nat.le_of_ble_eq_true rfl) d_X10_lossAt_29 ?_
      refine z_if_eq cx 39 d_X10_lossAt_32 (by decide) hF (fun hF => ?_) (fun hF => ?_)
      · refine z_aload_n cx d_X10_lossAt_39 0 rfl ?_
        refine z_getR cx hT fg_SunnyPansModel_58 451 rfl d_X10_lossAt_40 ?_
        refine z_iconst (v := 0) cx d_X10_lossAt_43 ki_0 ?_
        refine z_iload_n cx d_X10_lossAt_44 3 rfl ?_
        refine z_iadd cx d_X10_lossAt_45 ?_
        refine z_iald cx (tfM_11_451 hT) za_36 hi2 (((0 : Int32) + b4_L3).toNatClampNeg) rfl d_X10_lossAt_46 ?_
        refine z_aload_n cx d_X10_lossAt_47 0 rfl ?_
        refine z_aload_n cx d_X10_lossAt_48 0 rfl ?_
        refine z_getR cx hT fg_SunnyPansModel_58 451 rfl d_X10_lossAt_49 ?_
        refine z_iload_n cx d_X10_lossAt_52 3 rfl ?_
        refine z_iload_n cx d_X10_lossAt_53 1 rfl ?_
        obtain ⟨v6, M5, hc, hF⟩ := zb_inv hF
        refine z_callV cx (As := [.ref (ad 451), .int b4_L3, .int b4_L1]) (rest := [.int (M3.1 451 ((0 : Int32) + b4_L3).toNatClampNeg), .int b4_L2]) (c_X10_driesOf l cx.2.2.2.1.1 M3 451 b4_L3 b4_L1 hT (tfM_11_451 hT) hc) hT zo_11 cv_SunnyPansModel_268 ⟨rfl, rfl, Nat.le_of_ble_eq_true rfl, Nat.le_of_ble_eq_true rfl⟩ rfl rfl ⟨Nat.zero_le _, Nat.zero_le _⟩ (Nat.le_of_ble_eq_true rfl) d_X10_lossAt_54 ?_
        obtain ⟨v8, M7, hc, hF⟩ := zb_inv hF
        refine z_callS cx (As := [.int (M3.1 451 ((0 : Int32) + b4_L3).toNatClampNeg), .int v6]) (rest := [.int b4_L2]) (c_X10_less l cx.2.2.2.1.1 M5 (M3.1 451 ((0 : Int32) + b4_L3).toNatClampNeg) v6  hc) cs_SunnyPansModel_215 ⟨rfl, rfl, Nat.le_of_ble_eq_true rfl, Nat.le_of_ble_eq_true rfl⟩ rfl rfl ⟨Nat.zero_le _, Nat.zero_le _⟩ (Nat.le_of_ble_eq_true rfl) d_X10_lossAt_57 ?_
        exact z_lv [0, 1, 3] _ rfl (hb60 self4 hs4 b4_L1 b4_L3 b4_L2 v8 M7 hF)
      refine z_iconst (v := 0) cx d_X10_lossAt_35 ki_0 ?_
      refine z_goto cx 60 d_X10_lossAt_36 (by decide) ?_
      exact z_lv [0, 1, 3] _ rfl (hb60 self4 hs4 b4_L1 b4_L3 b4_L2 (0 : Int32) M3 hF)
  unfold F_X10_lossAt at hF
  refine z_iconst (v := 0) cx d_X10_lossAt_0 ki_0 ?_
  refine z_istore_n cx 2 [(2, .int (0 : Int32)), (0, .ref (ad 0)), (1, .int p0)] d_X10_lossAt_1 rfl (by decide) rfl ?_
  refine z_iconst (v := 0) cx d_X10_lossAt_2 ki_0 ?_
  refine z_istore_n cx 3 [(3, .int (0 : Int32)), (2, .int (0 : Int32)), (0, .ref (ad 0)), (1, .int p0)] d_X10_lossAt_3 rfl (by decide) rfl ?_
  exact z_lv [2, 3, 1, 0] _ rfl (hL4 zFuel p0 (0 : Int32) (0 : Int32) M hF)
/-! SunnyPansModel.loss -/
set_option maxRecDepth 100000 in
theorem wd_1911 : Cond.code yX10_lossAt cX10_lossAt 4 (some .int) ∈ tbG := tw8 131 rfl rfl
set_option maxRecDepth 100000 in
theorem wd_1908 : Cond.methodLink "SunnyPansModel" 373 yX10_lossAt ∈ tbG := tw8 128 rfl rfl
set_option maxRecDepth 100000 in
theorem wd_1910 : Cond.instanceMethod yX10_lossAt ∈ tbG := tw8 130 rfl rfl
theorem wd_95 : Cond.selects "SunnyPansModel" yX10_lossAt yX10_lossAt ∈ tbG := tw 95 (by decide +kernel) rfl
theorem cv_SunnyPansModel_373 : zCV "SunnyPansModel" 373 "SunnyPansModel" yX10_lossAt cX10_lossAt 4 (some .int) 1 := zCV_of wd_1908 wd_1910 wd_95 wd_111 wd_1911 (by decide +kernel)
theorem d_X10_loss_0 : decode cX10_loss 0 = .ok (.aload_n 0, 1) := by decide +kernel
theorem d_X10_loss_1 : decode cX10_loss 1 = .ok (.iconst 0, 1) := by decide +kernel
theorem d_X10_loss_2 : decode cX10_loss 2 = .ok (.putfield 82, 3) := by decide +kernel
theorem d_X10_loss_5 : decode cX10_loss 5 = .ok (.aload_n 0, 1) := by decide +kernel
theorem d_X10_loss_6 : decode cX10_loss 6 = .ok (.aload_n 0, 1) := by decide +kernel
theorem d_X10_loss_7 : decode cX10_loss 7 = .ok (.iload_n 1, 1) := by decide +kernel
theorem d_X10_loss_8 : decode cX10_loss 8 = .ok (.invokevirtual 336, 3) := by decide +kernel
theorem d_X10_loss_11 : decode cX10_loss 11 = .ok (.ifCond .ne 7, 3) := by decide +kernel
theorem d_X10_loss_14 : decode cX10_loss 14 = .ok (.iconst 1, 1) := by decide +kernel
theorem d_X10_loss_15 : decode cX10_loss 15 = .ok (.goto 4, 3) := by decide +kernel
theorem d_X10_loss_18 : decode cX10_loss 18 = .ok (.iconst 0, 1) := by decide +kernel
theorem d_X10_loss_19 : decode cX10_loss 19 = .ok (.iconst 1, 1) := by decide +kernel
theorem d_X10_loss_20 : decode cX10_loss 20 = .ok (.iconst 0, 1) := by decide +kernel
theorem d_X10_loss_21 : decode cX10_loss 21 = .ok (.invokevirtual 155, 3) := by decide +kernel
theorem d_X10_loss_24 : decode cX10_loss 24 = .ok (.ifCond .eq 5, 3) := by decide +kernel
theorem d_X10_loss_27 : decode cX10_loss 27 = .ok (.iconst 0, 1) := by decide +kernel
theorem d_X10_loss_28 : decode cX10_loss 28 = .ok (.ireturn, 1) := by decide +kernel
theorem d_X10_loss_29 : decode cX10_loss 29 = .ok (.aload_n 0, 1) := by decide +kernel
theorem d_X10_loss_30 : decode cX10_loss 30 = .ok (.iload_n 1, 1) := by decide +kernel
theorem d_X10_loss_31 : decode cX10_loss 31 = .ok (.invokevirtual 373, 3) := by decide +kernel
theorem d_X10_loss_34 : decode cX10_loss 34 = .ok (.ireturn, 1) := by decide +kernel
noncomputable def F_X10_loss_19 (p0 : Int32) (b19_L1 : Int32) (b19_S1 : Int32) (M : zMem) : Option (Int32 × zMem) :=
  zb (F_X10_bad M b19_S1 (1 : Int32) (0 : Int32)) fun v2 M1 =>
  if v2 = 0 then
    zb (F_X10_lossAt M1 b19_L1) fun v4 M3 =>
    some (v4, M3)
  else
    some ((0 : Int32), M1)
noncomputable def F_X10_loss (M : zMem) (p0 : Int32) : Option (Int32 × zMem) :=
  zl (zI M 0 0 (0 : Int32)) fun M5 =>
  zb (F_X10_isHour M5 p0) fun v7 M6 =>
  if v7 = 0 then
    F_X10_loss_19 p0 p0 (1 : Int32) M6
  else
    F_X10_loss_19 p0 p0 (0 : Int32) M6
def rm_X10_loss : Room := { frames := 8, cells := 0, slots := 0, locals := 219 }
set_option maxHeartbeats 4000000 in
set_option maxRecDepth 100000 in
theorem c_X10_loss (l : Launch) {G : zG} {ad : Nat → Nat} {n : Nat} (hA : zInj ad n) (M : zMem) (p0 : Int32) (hT : zT shM n 0 11) {r9 : Int32} {M9 : zMem} (hF : F_X10_loss M p0 = some (r9, M9)) : zM l yX10_loss cX10_loss 2 (some .int) rm_X10_loss G shM ad n M [.ref (ad 0), .int p0] (some (.int r9)) M9 := by
  refine zM_of hA (by decide +kernel) (lv := [(0, .ref (ad 0)), (1, .int p0)]) (Nat.le_of_ble_eq_true rfl) rfl (fun p e s m args below meth c A cx hr => ?_)
  have hb19 : ∀ (b19_L1 : Int32) (b19_S1 : Int32) (M : zMem), F_X10_loss_19 p0 b19_L1 b19_S1 M = some (r9, M9) → zJ p l e rm_X10_loss s m args below meth c G shM ad n A 2 (MQ below (zQ G shM ad n M9 (some (.int r9)) A) args s 0 0 A) 0 0 M 19 [(0, .ref (ad 0)), (1, .int b19_L1)] [.int b19_S1, .ref (ad 0)] := by
    intro b19_L1 b19_S1 M hF
    unfold F_X10_loss_19 at hF
    refine z_iconst (v := 1) cx d_X10_loss_19 ki_1 ?_
    refine z_iconst (v := 0) cx d_X10_loss_20 ki_0 ?_
    obtain ⟨v2, M1, hc, hF⟩ := zb_inv hF
    refine z_callV cx (As := [.int b19_S1, .int (1 : Int32), .int (0 : Int32)]) (rest := []) (c_X10_bad l cx.2.2.2.1.1 M b19_S1 (1 : Int32) (0 : Int32) hT hc) hT zo_11 cv_SunnyPansModel_155 ⟨rfl, rfl, Nat.le_of_ble_eq_true rfl, Nat.le_of_ble_eq_true rfl⟩ rfl rfl ⟨Nat.zero_le _, Nat.zero_le _⟩ (Nat.le_of_ble_eq_true rfl) d_X10_loss_21 ?_
    refine z_if_eq cx 29 d_X10_loss_24 (by decide) hF (fun hF => ?_) (fun hF => ?_)
    · refine z_aload_n cx d_X10_loss_29 0 rfl ?_
      refine z_iload_n cx d_X10_loss_30 1 rfl ?_
      obtain ⟨v4, M3, hc, hF⟩ := zb_inv hF
      refine z_callV cx (As := [.int b19_L1]) (rest := []) (c_X10_lossAt l cx.2.2.2.1.1 M1 b19_L1 hT hc) hT zo_11 cv_SunnyPansModel_373 ⟨rfl, rfl, Nat.le_of_ble_eq_true rfl, Nat.le_of_ble_eq_true rfl⟩ rfl rfl ⟨Nat.zero_le _, Nat.zero_le _⟩ (Nat.le_of_ble_eq_true rfl) d_X10_loss_31 ?_
      exact z_iret cx hr rfl hF d_X10_loss_34
    refine z_iconst (v := 0) cx d_X10_loss_27 ki_0 ?_
    exact z_iret cx hr rfl hF d_X10_loss_28
  unfold F_X10_loss at hF
  refine z_aload_n cx d_X10_loss_0 0 rfl ?_
  refine z_iconst (v := 0) cx d_X10_loss_1 ki_0 ?_
  refine z_putI cx hT fp_SunnyPansModel_82 d_X10_loss_2 ?_
  refine z_nmM hF (fun M5 hF => ?_)
  refine z_aload_n cx d_X10_loss_5 0 rfl ?_
  refine z_aload_n cx d_X10_loss_6 0 rfl ?_
  refine z_iload_n cx d_X10_loss_7 1 rfl ?_
  obtain ⟨v7, M6, hc, hF⟩ := zb_inv hF
  refine z_callV cx (As := [.int p0]) (rest := [.ref (ad 0)]) (c_X10_isHour l cx.2.2.2.1.1 M5 p0 hT hc) hT zo_11 cv_SunnyPansModel_336 ⟨rfl, rfl, Nat.le_of_ble_eq_true rfl, Nat.le_of_ble_eq_true rfl⟩ rfl rfl ⟨Nat.zero_le _, Nat.zero_le _⟩ (Nat.le_of_ble_eq_true rfl) d_X10_loss_8 ?_
  refine z_if_ne cx 18 d_X10_loss_11 (by decide) hF (fun hF => ?_) (fun hF => ?_)
  · refine z_iconst (v := 0) cx d_X10_loss_18 ki_0 ?_
    exact hb19 p0 (0 : Int32) M6 hF
  refine z_iconst (v := 1) cx d_X10_loss_14 ki_1 ?_
  refine z_goto cx 19 d_X10_loss_15 (by decide) ?_
  exact hb19 p0 (1 : Int32) M6 hF
/-! SunnyPansModel.noon -/
theorem d_X10_noon_0 : decode cX10_noon 0 = .ok (.aload_n 0, 1) := by decide +kernel
theorem d_X10_noon_1 : decode cX10_noon 1 = .ok (.iconst 0, 1) := by decide +kernel
theorem d_X10_noon_2 : decode cX10_noon 2 = .ok (.putfield 82, 3) := by decide +kernel
theorem d_X10_noon_5 : decode cX10_noon 5 = .ok (.aload_n 0, 1) := by decide +kernel
theorem d_X10_noon_6 : decode cX10_noon 6 = .ok (.iload_n 1, 1) := by decide +kernel
theorem d_X10_noon_7 : decode cX10_noon 7 = .ok (.iconst 0, 1) := by decide +kernel
theorem d_X10_noon_8 : decode cX10_noon 8 = .ok (.iconst 1, 1) := by decide +kernel
theorem d_X10_noon_9 : decode cX10_noon 9 = .ok (.invokestatic 116, 3) := by decide +kernel
theorem d_X10_noon_12 : decode cX10_noon 12 = .ok (.ifCond .ne 7, 3) := by decide +kernel
theorem d_X10_noon_15 : decode cX10_noon 15 = .ok (.iconst 1, 1) := by decide +kernel
theorem d_X10_noon_16 : decode cX10_noon 16 = .ok (.goto 4, 3) := by decide +kernel
theorem d_X10_noon_19 : decode cX10_noon 19 = .ok (.iconst 0, 1) := by decide +kernel
theorem d_X10_noon_20 : decode cX10_noon 20 = .ok (.iconst 1, 1) := by decide +kernel
theorem d_X10_noon_21 : decode cX10_noon 21 = .ok (.iconst 1, 1) := by decide +kernel
theorem d_X10_noon_22 : decode cX10_noon 22 = .ok (.invokevirtual 155, 3) := by decide +kernel
theorem d_X10_noon_25 : decode cX10_noon 25 = .ok (.ifCond .eq 5, 3) := by decide +kernel
theorem d_X10_noon_28 : decode cX10_noon 28 = .ok (.iconst 0, 1) := by decide +kernel
theorem d_X10_noon_29 : decode cX10_noon 29 = .ok (.ireturn, 1) := by decide +kernel
theorem d_X10_noon_30 : decode cX10_noon 30 = .ok (.iconst (-1), 1) := by decide +kernel
theorem d_X10_noon_31 : decode cX10_noon 31 = .ok (.istore_n 2, 1) := by decide +kernel
theorem d_X10_noon_32 : decode cX10_noon 32 = .ok (.iconst (-1), 1) := by decide +kernel
theorem d_X10_noon_33 : decode cX10_noon 33 = .ok (.istore_n 3, 1) := by decide +kernel
theorem d_X10_noon_34 : decode cX10_noon 34 = .ok (.iconst 0, 1) := by decide +kernel
theorem d_X10_noon_35 : decode cX10_noon 35 = .ok (.istore 4, 2) := by decide +kernel
theorem d_X10_noon_37 : decode cX10_noon 37 = .ok (.iload 4, 2) := by decide +kernel
theorem d_X10_noon_39 : decode cX10_noon 39 = .ok (.aload_n 0, 1) := by decide +kernel
theorem d_X10_noon_40 : decode cX10_noon 40 = .ok (.getfield 23, 3) := by decide +kernel
theorem d_X10_noon_43 : decode cX10_noon 43 = .ok (.iconst 2, 1) := by decide +kernel
theorem d_X10_noon_44 : decode cX10_noon 44 = .ok (.iaload, 1) := by decide +kernel
theorem d_X10_noon_45 : decode cX10_noon 45 = .ok (.if_icmp .ge 37, 3) := by decide +kernel
theorem d_X10_noon_48 : decode cX10_noon 48 = .ok (.aload_n 0, 1) := by decide +kernel
theorem d_X10_noon_49 : decode cX10_noon 49 = .ok (.iload 4, 2) := by decide +kernel
theorem d_X10_noon_51 : decode cX10_noon 51 = .ok (.invokevirtual 373, 3) := by decide +kernel
theorem d_X10_noon_54 : decode cX10_noon 54 = .ok (.istore 5, 2) := by decide +kernel
theorem d_X10_noon_56 : decode cX10_noon 56 = .ok (.iload 5, 2) := by decide +kernel
theorem d_X10_noon_58 : decode cX10_noon 58 = .ok (.iload_n 3, 1) := by decide +kernel
theorem d_X10_noon_59 : decode cX10_noon 59 = .ok (.if_icmp .le 8, 3) := by decide +kernel
theorem d_X10_noon_62 : decode cX10_noon 62 = .ok (.iload 4, 2) := by decide +kernel
theorem d_X10_noon_64 : decode cX10_noon 64 = .ok (.goto 4, 3) := by decide +kernel
theorem d_X10_noon_67 : decode cX10_noon 67 = .ok (.iload_n 2, 1) := by decide +kernel
theorem d_X10_noon_68 : decode cX10_noon 68 = .ok (.istore_n 2, 1) := by decide +kernel
theorem d_X10_noon_69 : decode cX10_noon 69 = .ok (.iload_n 3, 1) := by decide +kernel
theorem d_X10_noon_70 : decode cX10_noon 70 = .ok (.iload 5, 2) := by decide +kernel
theorem d_X10_noon_72 : decode cX10_noon 72 = .ok (.invokestatic 218, 3) := by decide +kernel
theorem d_X10_noon_75 : decode cX10_noon 75 = .ok (.istore_n 3, 1) := by decide +kernel
theorem d_X10_noon_76 : decode cX10_noon 76 = .ok (.iinc 4 1, 3) := by decide +kernel
theorem d_X10_noon_79 : decode cX10_noon 79 = .ok (.goto (-42), 3) := by decide +kernel
theorem d_X10_noon_82 : decode cX10_noon 82 = .ok (.iload_n 1, 1) := by decide +kernel
theorem d_X10_noon_83 : decode cX10_noon 83 = .ok (.ifCond .ne 7, 3) := by decide +kernel
theorem d_X10_noon_86 : decode cX10_noon 86 = .ok (.iload_n 2, 1) := by decide +kernel
theorem d_X10_noon_87 : decode cX10_noon 87 = .ok (.goto 4, 3) := by decide +kernel
theorem d_X10_noon_90 : decode cX10_noon 90 = .ok (.iload_n 3, 1) := by decide +kernel
theorem d_X10_noon_91 : decode cX10_noon 91 = .ok (.ireturn, 1) := by decide +kernel
noncomputable def F_X10_noon_68 (p0 : Int32) (self37 : Int32 → Int32 → Int32 → Int32 → zMem → Option (Int32 × zMem)) (b68_L1 : Int32) (b68_L3 : Int32) (b68_L4 : Int32) (b68_L5 : Int32) (b68_S0 : Int32) (M : zMem) : Option (Int32 × zMem) :=
  zb (F_X10_more M b68_L3 b68_L5) fun v2 M1 =>
  self37 b68_L1 b68_S0 v2 (b68_L4 + 1) M1
noncomputable def F_X10_noon_37 (p0 : Int32) (self37 : Int32 → Int32 → Int32 → Int32 → zMem → Option (Int32 × zMem)) (b37_L1 : Int32) (b37_L2 : Int32) (b37_L3 : Int32) (b37_L4 : Int32) (M : zMem) : Option (Int32 × zMem) :=
  if (M.1 4 2) ≤ b37_L4 then
    if b37_L1 = 0 then
      some (b37_L2, M)
    else
      some (b37_L3, M)
  else
    zb (F_X10_lossAt M b37_L4) fun v4 M3 =>
    if v4 ≤ b37_L3 then
      F_X10_noon_68 p0 self37 b37_L1 b37_L3 b37_L4 v4 b37_L2 M3
    else
      F_X10_noon_68 p0 self37 b37_L1 b37_L3 b37_L4 v4 b37_L4 M3
noncomputable def F_X10_noon_20 (p0 : Int32) (b20_L1 : Int32) (b20_S1 : Int32) (M : zMem) : Option (Int32 × zMem) :=
  zb (F_X10_bad M b20_S1 (1 : Int32) (1 : Int32)) fun v6 M5 =>
  if v6 = 0 then
    itF (fun _ _ _ _ _ => none) (F_X10_noon_37 p0) zFuel b20_L1 (-1 : Int32) (-1 : Int32) (0 : Int32) M5
  else
    some ((0 : Int32), M5)
noncomputable def F_X10_noon (M : zMem) (p0 : Int32) : Option (Int32 × zMem) :=
  zl (zI M 0 0 (0 : Int32)) fun M7 =>
  zb (F_X10_in M7 p0 (0 : Int32) (1 : Int32)) fun v9 M8 =>
  if v9 = 0 then
    F_X10_noon_20 p0 p0 (1 : Int32) M8
  else
    F_X10_noon_20 p0 p0 (0 : Int32) M8
def rm_X10_noon : Room := { frames := 8, cells := 0, slots := 0, locals := 219 }
set_option maxHeartbeats 4000000 in
set_option maxRecDepth 100000 in
theorem c_X10_noon (l : Launch) {G : zG} {ad : Nat → Nat} {n : Nat} (hA : zInj ad n) (M : zMem) (p0 : Int32) (hT : zT shM n 0 11) {r9 : Int32} {M9 : zMem} (hF : F_X10_noon M p0 = some (r9, M9)) : zM l yX10_noon cX10_noon 6 (some .int) rm_X10_noon G shM ad n M [.ref (ad 0), .int p0] (some (.int r9)) M9 := by
  refine zM_of hA (by decide +kernel) (lv := [(0, .ref (ad 0)), (1, .int p0)]) (Nat.le_of_ble_eq_true rfl) rfl (fun p e s m args below meth c A cx hr => ?_)
  have hb68 : ∀ (self37 : Int32 → Int32 → Int32 → Int32 → zMem → Option (Int32 × zMem)) (hs37 : ∀ (b37_L1 : Int32) (b37_L2 : Int32) (b37_L3 : Int32) (b37_L4 : Int32) (M : zMem), self37 b37_L1 b37_L2 b37_L3 b37_L4 M = some (r9, M9) → zJ p l e rm_X10_noon s m args below meth c G shM ad n A 6 (MQ below (zQ G shM ad n M9 (some (.int r9)) A) args s 0 0 A) 0 0 M 37 [(0, .ref (ad 0)), (1, .int b37_L1), (2, .int b37_L2), (3, .int b37_L3), (4, .int b37_L4)] []), ∀ (b68_L1 : Int32) (b68_L3 : Int32) (b68_L4 : Int32) (b68_L5 : Int32) (b68_S0 : Int32) (M : zMem), F_X10_noon_68 p0 self37 b68_L1 b68_L3 b68_L4 b68_L5 b68_S0 M = some (r9, M9) → zJ p l e rm_X10_noon s m args below meth c G shM ad n A 6 (MQ below (zQ G shM ad n M9 (some (.int r9)) A) args s 0 0 A) 0 0 M 68 [(0, .ref (ad 0)), (1, .int b68_L1), (3, .int b68_L3), (4, .int b68_L4), (5, .int b68_L5)] [.int b68_S0] := by
    intro self37 hs37 b68_L1 b68_L3 b68_L4 b68_L5 b68_S0 M hF
    unfold F_X10_noon_68 at hF
    refine z_istore_n cx 2 [(2, .int b68_S0), (0, .ref (ad 0)), (1, .int b68_L1), (3, .int b68_L3), (4, .int b68_L4), (5, .int b68_L5)] d_X10_noon_68 rfl (by decide) rfl ?_
    refine z_iload_n cx d_X10_noon_69 3 rfl ?_
    refine z_iload cx d_X10_noon_70 5 rfl ?_
    obtain ⟨v2, M1, hc, hF⟩ := zb_inv hF
    refine z_callS cx (As := [.int b68_L3, .int b68_L5]) (rest := []) (c_X10_more l cx.2.2.2.1.1 M b68_L3 b68_L5  hc) cs_SunnyPansModel_218 ⟨rfl, rfl, Nat.le_of_ble_eq_true rfl, Nat.le_of_ble_eq_true rfl⟩ rfl rfl ⟨Nat.zero_le _, Nat.zero_le _⟩ (Nat.le_of_ble_eq_true rfl) d_X10_noon_72 ?_
    refine z_istore_n cx 3 [(3, .int v2), (2, .int b68_S0), (0, .ref (ad 0)), (1, .int b68_L1), (4, .int b68_L4), (5, .int b68_L5)] d_X10_noon_75 rfl (by decide) rfl ?_
    refine z_iinc cx 4 1 [(4, .int (b68_L4 + 1)), (3, .int v2), (2, .int b68_S0), (0, .ref (ad 0)), (1, .int b68_L1), (5, .int b68_L5)] d_X10_noon_76 4 rfl ki_1 (by decide) rfl ?_
    refine z_goto cx 37 d_X10_noon_79 (by decide) ?_
    exact z_lv [3, 4, 2, 1, 0] _ rfl (hs37 b68_L1 b68_S0 v2 (b68_L4 + 1) M1 hF)
  have hL37 : ∀ (fuel : Nat), ∀ (b37_L1 : Int32) (b37_L2 : Int32) (b37_L3 : Int32) (b37_L4 : Int32) (M : zMem), itF (fun _ _ _ _ _ => none) (F_X10_noon_37 p0) fuel b37_L1 b37_L2 b37_L3 b37_L4 M = some (r9, M9) → zJ p l e rm_X10_noon s m args below meth c G shM ad n A 6 (MQ below (zQ G shM ad n M9 (some (.int r9)) A) args s 0 0 A) 0 0 M 37 [(0, .ref (ad 0)), (1, .int b37_L1), (2, .int b37_L2), (3, .int b37_L3), (4, .int b37_L4)] [] := by
    intro fuel
    induction fuel with
    | zero => intro b37_L1 b37_L2 b37_L3 b37_L4 M hF; cases hF
    | succ fuel hs37 =>
      intro b37_L1 b37_L2 b37_L3 b37_L4 M hF
      have hF : F_X10_noon_37 p0 (itF (fun _ _ _ _ _ => none) (F_X10_noon_37 p0) fuel) b37_L1 b37_L2 b37_L3 b37_L4 M = some (r9, M9) := hF
      generalize itF (fun _ _ _ _ _ => none) (F_X10_noon_37 p0) fuel = self37 at hs37 hF
      unfold F_X10_noon_37 at hF
      refine z_iload cx d_X10_noon_37 4 rfl ?_
      refine z_aload_n cx d_X10_noon_39 0 rfl ?_
      refine z_getR cx hT fg_SunnyPansModel_23 4 rfl d_X10_noon_40 ?_
      refine z_iconst (v := 2) cx d_X10_noon_43 ki_2 ?_
      refine z_iald cx (tfM_11_4 hT) za_28 (zvp (by decide +kernel)) 2 rfl d_X10_noon_44 ?_
      refine z_icmp_ge cx 82 d_X10_noon_45 (by decide) hF (fun hF => ?_) (fun hF => ?_)
      · refine z_iload_n cx d_X10_noon_82 1 rfl ?_
        refine z_if_ne cx 90 d_X10_noon_83 (by decide) hF (fun hF => ?_) (fun hF => ?_)
        · refine z_iload_n cx d_X10_noon_90 3 rfl ?_
          exact z_iret cx hr rfl hF d_X10_noon_91
        refine z_iload_n cx d_X10_noon_86 2 rfl ?_
        refine z_goto cx 91 d_X10_noon_87 (by decide) ?_
        exact z_iret cx hr rfl hF d_X10_noon_91
      refine z_aload_n cx d_X10_noon_48 0 rfl ?_
      refine z_iload cx d_X10_noon_49 4 rfl ?_
      obtain ⟨v4, M3, hc, hF⟩ := zb_inv hF
      refine z_callV cx (As := [.int b37_L4]) (rest := []) (c_X10_lossAt l cx.2.2.2.1.1 M b37_L4 hT hc) hT zo_11 cv_SunnyPansModel_373 ⟨rfl, rfl, Nat.le_of_ble_eq_true rfl, Nat.le_of_ble_eq_true rfl⟩ rfl rfl ⟨Nat.zero_le _, Nat.zero_le _⟩ (Nat.le_of_ble_eq_true rfl) d_X10_noon_51 ?_
      refine z_istore cx 5 [(5, .int v4), (0, .ref (ad 0)), (1, .int b37_L1), (2, .int b37_L2), (3, .int b37_L3), (4, .int b37_L4)] d_X10_noon_54 (by decide) rfl ?_
      refine z_iload cx d_X10_noon_56 0 rfl ?_
      refine z_iload_n cx d_X10_noon_58 4 rfl ?_
      refine z_icmp_le cx 67 d_X10_noon_59 (by decide) hF (fun hF => ?_) (fun hF => ?_)
      · refine z_iload_n cx d_X10_noon_67 3 rfl ?_
        exact z_lv [1, 2, 4, 5, 0] _ rfl (hb68 self37 hs37 b37_L1 b37_L3 b37_L4 v4 b37_L2 M3 hF)
      refine z_iload cx d_X10_noon_62 5 rfl ?_
      refine z_goto cx 68 d_X10_noon_64 (by decide) ?_
      exact z_lv [1, 2, 4, 5, 0] _ rfl (hb68 self37 hs37 b37_L1 b37_L3 b37_L4 v4 b37_L4 M3 hF)
  have hb20 : ∀ (b20_L1 : Int32) (b20_S1 : Int32) (M : zMem), F_X10_noon_20 p0 b20_L1 b20_S1 M = some (r9, M9) → zJ p l e rm_X10_noon s m args below meth c G shM ad n A 6 (MQ below (zQ G shM ad n M9 (some (.int r9)) A) args s 0 0 A) 0 0 M 20 [(0, .ref (ad 0)), (1, .int b20_L1)] [.int b20_S1, .ref (ad 0)] := by
    intro b20_L1 b20_S1 M hF
    unfold F_X10_noon_20 at hF
    refine z_iconst (v := 1) cx d_X10_noon_20 ki_1 ?_
    refine z_iconst (v := 1) cx d_X10_noon_21 ki_1 ?_
    obtain ⟨v6, M5, hc, hF⟩ := zb_inv hF
    refine z_callV cx (As := [.int b20_S1, .int (1 : Int32), .int (1 : Int32)]) (rest := []) (c_X10_bad l cx.2.2.2.1.1 M b20_S1 (1 : Int32) (1 : Int32) hT hc) hT zo_11 cv_SunnyPansModel_155 ⟨rfl, rfl, Nat.le_of_ble_eq_true rfl, Nat.le_of_ble_eq_true rfl⟩ rfl rfl ⟨Nat.zero_le _, Nat.zero_le _⟩ (Nat.le_of_ble_eq_true rfl) d_X10_noon_22 ?_
    refine z_if_eq cx 30 d_X10_noon_25 (by decide) hF (fun hF => ?_) (fun hF => ?_)
    · refine z_iconst (v := -1) cx d_X10_noon_30 ki_m1 ?_
      refine z_istore_n cx 2 [(2, .int (-1 : Int32)), (0, .ref (ad 0)), (1, .int b20_L1)] d_X10_noon_31 rfl (by decide) rfl ?_
      refine z_iconst (v := -1) cx d_X10_noon_32 ki_m1 ?_
      refine z_istore_n cx 3 [(3, .int (-1 : Int32)), (2, .int (-1 : Int32)), (0, .ref (ad 0)), (1, .int b20_L1)] d_X10_noon_33 rfl (by decide) rfl ?_
      refine z_iconst (v := 0) cx d_X10_noon_34 ki_0 ?_
      refine z_istore cx 4 [(4, .int (0 : Int32)), (3, .int (-1 : Int32)), (2, .int (-1 : Int32)), (0, .ref (ad 0)), (1, .int b20_L1)] d_X10_noon_35 (by decide) rfl ?_
      exact z_lv [3, 4, 2, 1, 0] _ rfl (hL37 zFuel b20_L1 (-1 : Int32) (-1 : Int32) (0 : Int32) M5 hF)
    refine z_iconst (v := 0) cx d_X10_noon_28 ki_0 ?_
    exact z_iret cx hr rfl hF d_X10_noon_29
  unfold F_X10_noon at hF
  refine z_aload_n cx d_X10_noon_0 0 rfl ?_
  refine z_iconst (v := 0) cx d_X10_noon_1 ki_0 ?_
  refine z_putI cx hT fp_SunnyPansModel_82 d_X10_noon_2 ?_
  refine z_nmM hF (fun M7 hF => ?_)
  refine z_aload_n cx d_X10_noon_5 0 rfl ?_
  refine z_iload_n cx d_X10_noon_6 1 rfl ?_
  refine z_iconst (v := 0) cx d_X10_noon_7 ki_0 ?_
  refine z_iconst (v := 1) cx d_X10_noon_8 ki_1 ?_
  obtain ⟨v9, M8, hc, hF⟩ := zb_inv hF
  refine z_callS cx (As := [.int p0, .int (0 : Int32), .int (1 : Int32)]) (rest := [.ref (ad 0)]) (c_X10_in l cx.2.2.2.1.1 M7 p0 (0 : Int32) (1 : Int32)  hc) cs_SunnyPansModel_116 ⟨rfl, rfl, Nat.le_of_ble_eq_true rfl, Nat.le_of_ble_eq_true rfl⟩ rfl rfl ⟨Nat.zero_le _, Nat.zero_le _⟩ (Nat.le_of_ble_eq_true rfl) d_X10_noon_9 ?_
  refine z_if_ne cx 19 d_X10_noon_12 (by decide) hF (fun hF => ?_) (fun hF => ?_)
  · refine z_iconst (v := 0) cx d_X10_noon_19 ki_0 ?_
    exact hb20 p0 (0 : Int32) M8 hF
  refine z_iconst (v := 1) cx d_X10_noon_15 ki_1 ?_
  refine z_goto cx 20 d_X10_noon_16 (by decide) ?_
  exact hb20 p0 (1 : Int32) M8 hF
/-! SunnyPansModel.nearest -/
theorem d_X10_nearest_0 : decode cX10_nearest 0 = .ok (.aload_n 0, 1) := by decide +kernel
theorem d_X10_nearest_1 : decode cX10_nearest 1 = .ok (.iconst 0, 1) := by decide +kernel
theorem d_X10_nearest_2 : decode cX10_nearest 2 = .ok (.putfield 82, 3) := by decide +kernel
theorem d_X10_nearest_5 : decode cX10_nearest 5 = .ok (.aload_n 0, 1) := by decide +kernel
theorem d_X10_nearest_6 : decode cX10_nearest 6 = .ok (.aload_n 0, 1) := by decide +kernel
theorem d_X10_nearest_7 : decode cX10_nearest 7 = .ok (.iload_n 1, 1) := by decide +kernel
theorem d_X10_nearest_8 : decode cX10_nearest 8 = .ok (.iload_n 2, 1) := by decide +kernel
theorem d_X10_nearest_9 : decode cX10_nearest 9 = .ok (.invokevirtual 237, 3) := by decide +kernel
theorem d_X10_nearest_12 : decode cX10_nearest 12 = .ok (.ifCond .ne 7, 3) := by decide +kernel
theorem d_X10_nearest_15 : decode cX10_nearest 15 = .ok (.iconst 1, 1) := by decide +kernel
theorem d_X10_nearest_16 : decode cX10_nearest 16 = .ok (.goto 4, 3) := by decide +kernel
theorem d_X10_nearest_19 : decode cX10_nearest 19 = .ok (.iconst 0, 1) := by decide +kernel
theorem d_X10_nearest_20 : decode cX10_nearest 20 = .ok (.iconst 1, 1) := by decide +kernel
theorem d_X10_nearest_21 : decode cX10_nearest 21 = .ok (.iconst 0, 1) := by decide +kernel
theorem d_X10_nearest_22 : decode cX10_nearest 22 = .ok (.invokevirtual 155, 3) := by decide +kernel
theorem d_X10_nearest_25 : decode cX10_nearest 25 = .ok (.ifCond .eq 5, 3) := by decide +kernel
theorem d_X10_nearest_28 : decode cX10_nearest 28 = .ok (.iconst 0, 1) := by decide +kernel
theorem d_X10_nearest_29 : decode cX10_nearest 29 = .ok (.ireturn, 1) := by decide +kernel
theorem d_X10_nearest_30 : decode cX10_nearest 30 = .ok (.iconst (-1), 1) := by decide +kernel
theorem d_X10_nearest_31 : decode cX10_nearest 31 = .ok (.istore_n 3, 1) := by decide +kernel
theorem d_X10_nearest_32 : decode cX10_nearest 32 = .ok (.iconst (-1), 1) := by decide +kernel
theorem d_X10_nearest_33 : decode cX10_nearest 33 = .ok (.istore 4, 2) := by decide +kernel
theorem d_X10_nearest_35 : decode cX10_nearest 35 = .ok (.iconst 0, 1) := by decide +kernel
theorem d_X10_nearest_36 : decode cX10_nearest 36 = .ok (.istore 5, 2) := by decide +kernel
theorem d_X10_nearest_38 : decode cX10_nearest 38 = .ok (.iload 5, 2) := by decide +kernel
theorem d_X10_nearest_40 : decode cX10_nearest 40 = .ok (.bipush 64, 2) := by decide +kernel
theorem d_X10_nearest_42 : decode cX10_nearest 42 = .ok (.if_icmp .ge 82, 3) := by decide +kernel
theorem d_X10_nearest_45 : decode cX10_nearest 45 = .ok (.iload 5, 2) := by decide +kernel
theorem d_X10_nearest_47 : decode cX10_nearest 47 = .ok (.bipush 8, 2) := by decide +kernel
theorem d_X10_nearest_49 : decode cX10_nearest 49 = .ok (.irem, 1) := by decide +kernel
theorem d_X10_nearest_50 : decode cX10_nearest 50 = .ok (.iload_n 1, 1) := by decide +kernel
theorem d_X10_nearest_51 : decode cX10_nearest 51 = .ok (.isub, 1) := by decide +kernel
theorem d_X10_nearest_52 : decode cX10_nearest 52 = .ok (.istore 6, 2) := by decide +kernel
theorem d_X10_nearest_54 : decode cX10_nearest 54 = .ok (.iload 5, 2) := by decide +kernel
theorem d_X10_nearest_56 : decode cX10_nearest 56 = .ok (.bipush 8, 2) := by decide +kernel
theorem d_X10_nearest_58 : decode cX10_nearest 58 = .ok (.idiv, 1) := by decide +kernel
theorem d_X10_nearest_59 : decode cX10_nearest 59 = .ok (.iload_n 2, 1) := by decide +kernel
theorem d_X10_nearest_60 : decode cX10_nearest 60 = .ok (.isub, 1) := by decide +kernel
theorem d_X10_nearest_61 : decode cX10_nearest 61 = .ok (.istore 7, 2) := by decide +kernel
theorem d_X10_nearest_63 : decode cX10_nearest 63 = .ok (.iload 6, 2) := by decide +kernel
theorem d_X10_nearest_65 : decode cX10_nearest 65 = .ok (.iload 6, 2) := by decide +kernel
theorem d_X10_nearest_67 : decode cX10_nearest 67 = .ok (.ineg, 1) := by decide +kernel
theorem d_X10_nearest_68 : decode cX10_nearest 68 = .ok (.invokestatic 218, 3) := by decide +kernel
theorem d_X10_nearest_71 : decode cX10_nearest 71 = .ok (.iload 7, 2) := by decide +kernel
theorem d_X10_nearest_73 : decode cX10_nearest 73 = .ok (.iload 7, 2) := by decide +kernel
theorem d_X10_nearest_75 : decode cX10_nearest 75 = .ok (.ineg, 1) := by decide +kernel
theorem d_X10_nearest_76 : decode cX10_nearest 76 = .ok (.invokestatic 218, 3) := by decide +kernel
theorem d_X10_nearest_79 : decode cX10_nearest 79 = .ok (.iadd, 1) := by decide +kernel
theorem d_X10_nearest_80 : decode cX10_nearest 80 = .ok (.istore 8, 2) := by decide +kernel
theorem d_X10_nearest_82 : decode cX10_nearest 82 = .ok (.aload_n 0, 1) := by decide +kernel
theorem d_X10_nearest_83 : decode cX10_nearest 83 = .ok (.getfield 58, 3) := by decide +kernel
theorem d_X10_nearest_86 : decode cX10_nearest 86 = .ok (.sipush 128, 3) := by decide +kernel
theorem d_X10_nearest_89 : decode cX10_nearest 89 = .ok (.iload 5, 2) := by decide +kernel
theorem d_X10_nearest_91 : decode cX10_nearest 91 = .ok (.iadd, 1) := by decide +kernel
theorem d_X10_nearest_92 : decode cX10_nearest 92 = .ok (.iaload, 1) := by decide +kernel
theorem d_X10_nearest_93 : decode cX10_nearest 93 = .ok (.ifCond .eq 25, 3) := by decide +kernel
theorem d_X10_nearest_96 : decode cX10_nearest 96 = .ok (.iload_n 3, 1) := by decide +kernel
theorem d_X10_nearest_97 : decode cX10_nearest 97 = .ok (.iconst (-1), 1) := by decide +kernel
theorem d_X10_nearest_98 : decode cX10_nearest 98 = .ok (.if_icmp .eq 13, 3) := by decide +kernel
theorem d_X10_nearest_101 : decode cX10_nearest 101 = .ok (.iload 8, 2) := by decide +kernel
theorem d_X10_nearest_103 : decode cX10_nearest 103 = .ok (.iload 4, 2) := by decide +kernel
theorem d_X10_nearest_105 : decode cX10_nearest 105 = .ok (.if_icmp .lt 6, 3) := by decide +kernel
theorem d_X10_nearest_108 : decode cX10_nearest 108 = .ok (.goto 10, 3) := by decide +kernel
theorem d_X10_nearest_111 : decode cX10_nearest 111 = .ok (.iload 5, 2) := by decide +kernel
theorem d_X10_nearest_113 : decode cX10_nearest 113 = .ok (.istore_n 3, 1) := by decide +kernel
theorem d_X10_nearest_114 : decode cX10_nearest 114 = .ok (.iload 8, 2) := by decide +kernel
theorem d_X10_nearest_116 : decode cX10_nearest 116 = .ok (.istore 4, 2) := by decide +kernel
theorem d_X10_nearest_118 : decode cX10_nearest 118 = .ok (.iinc 5 1, 3) := by decide +kernel
theorem d_X10_nearest_121 : decode cX10_nearest 121 = .ok (.goto (-83), 3) := by decide +kernel
theorem d_X10_nearest_124 : decode cX10_nearest 124 = .ok (.iload_n 3, 1) := by decide +kernel
theorem d_X10_nearest_125 : decode cX10_nearest 125 = .ok (.invokestatic 345, 3) := by decide +kernel
theorem d_X10_nearest_128 : decode cX10_nearest 128 = .ok (.ireturn, 1) := by decide +kernel
noncomputable def F_X10_nearest_118 (p0 : Int32) (p1 : Int32) (self38 : Int32 → Int32 → Int32 → Int32 → Int32 → zMem → Option (Int32 × zMem)) (b118_L1 : Int32) (b118_L2 : Int32) (b118_L3 : Int32) (b118_L4 : Int32) (b118_L5 : Int32) (M : zMem) : Option (Int32 × zMem) :=
  self38 b118_L1 b118_L2 b118_L3 b118_L4 (b118_L5 + 1) M
noncomputable def F_X10_nearest_111 (p0 : Int32) (p1 : Int32) (self38 : Int32 → Int32 → Int32 → Int32 → Int32 → zMem → Option (Int32 × zMem)) (b111_L1 : Int32) (b111_L2 : Int32) (b111_L5 : Int32) (b111_L8 : Int32) (M : zMem) : Option (Int32 × zMem) :=
  F_X10_nearest_118 p0 p1 self38 b111_L1 b111_L2 b111_L5 b111_L8 b111_L5 M
noncomputable def F_X10_nearest_38 (p0 : Int32) (p1 : Int32) (self38 : Int32 → Int32 → Int32 → Int32 → Int32 → zMem → Option (Int32 × zMem)) (b38_L1 : Int32) (b38_L2 : Int32) (b38_L3 : Int32) (b38_L4 : Int32) (b38_L5 : Int32) (M : zMem) : Option (Int32 × zMem) :=
  if (64 : Int32) ≤ b38_L5 then
    zb (F_X10_asTold M b38_L3) fun v2 M1 =>
    some (v2, M1)
  else
    zl ((b38_L5 - b38_L5 / (8 : Int32) * (8 : Int32)) - b38_L1) fun v3 =>
    zl ((b38_L5 / (8 : Int32)) - b38_L2) fun v4 =>
    zb (F_X10_more M v3 (-v3)) fun v6 M5 =>
    zb (F_X10_more M5 v4 (-v4)) fun v8 M7 =>
    zl (v6 + v8) fun v9 =>
    gin ((128 : Int32) + b38_L5) 195 <|
    if (M7.1 451 ((128 : Int32) + b38_L5).toNatClampNeg) = 0 then
      F_X10_nearest_118 p0 p1 self38 b38_L1 b38_L2 b38_L3 b38_L4 b38_L5 M7
    else
      if b38_L3 = (-1 : Int32) then
        F_X10_nearest_111 p0 p1 self38 b38_L1 b38_L2 b38_L5 v9 M7
      else
        if v9 < b38_L4 then
          F_X10_nearest_111 p0 p1 self38 b38_L1 b38_L2 b38_L5 v9 M7
        else
          F_X10_nearest_118 p0 p1 self38 b38_L1 b38_L2 b38_L3 b38_L4 b38_L5 M7
noncomputable def F_X10_nearest_20 (p0 : Int32) (p1 : Int32) (b20_L1 : Int32) (b20_L2 : Int32) (b20_S1 : Int32) (M : zMem) : Option (Int32 × zMem) :=
  zb (F_X10_bad M b20_S1 (1 : Int32) (0 : Int32)) fun v12 M11 =>
  if v12 = 0 then
    itF (fun _ _ _ _ _ _ => none) (F_X10_nearest_38 p0 p1) zFuel b20_L1 b20_L2 (-1 : Int32) (-1 : Int32) (0 : Int32) M11
  else
    some ((0 : Int32), M11)
noncomputable def F_X10_nearest (M : zMem) (p0 : Int32) (p1 : Int32) : Option (Int32 × zMem) :=
  zl (zI M 0 0 (0 : Int32)) fun M13 =>
  zb (F_X10_isWithin M13 p0 p1) fun v15 M14 =>
  if v15 = 0 then
    F_X10_nearest_20 p0 p1 p0 p1 (1 : Int32) M14
  else
    F_X10_nearest_20 p0 p1 p0 p1 (0 : Int32) M14
def rm_X10_nearest : Room := { frames := 4, cells := 0, slots := 0, locals := 124 }
set_option maxHeartbeats 4000000 in
set_option maxRecDepth 100000 in
theorem c_X10_nearest (l : Launch) {G : zG} {ad : Nat → Nat} {n : Nat} (hA : zInj ad n) (M : zMem) (p0 : Int32) (p1 : Int32) (hT : zT shM n 0 11) {r9 : Int32} {M9 : zMem} (hF : F_X10_nearest M p0 p1 = some (r9, M9)) : zM l yX10_nearest cX10_nearest 9 (some .int) rm_X10_nearest G shM ad n M [.ref (ad 0), .int p0, .int p1] (some (.int r9)) M9 := by
  refine zM_of hA (by decide +kernel) (lv := [(0, .ref (ad 0)), (1, .int p0), (2, .int p1)]) (Nat.le_of_ble_eq_true rfl) rfl (fun p e s m args below meth c A cx hr => ?_)
  have hb118 : ∀ (self38 : Int32 → Int32 → Int32 → Int32 → Int32 → zMem → Option (Int32 × zMem)) (hs38 : ∀ (b38_L1 : Int32) (b38_L2 : Int32) (b38_L3 : Int32) (b38_L4 : Int32) (b38_L5 : Int32) (M : zMem), self38 b38_L1 b38_L2 b38_L3 b38_L4 b38_L5 M = some (r9, M9) → zJ p l e rm_X10_nearest s m args below meth c G shM ad n A 9 (MQ below (zQ G shM ad n M9 (some (.int r9)) A) args s 0 0 A) 0 0 M 38 [(0, .ref (ad 0)), (1, .int b38_L1), (2, .int b38_L2), (3, .int b38_L3), (4, .int b38_L4), (5, .int b38_L5)] []), ∀ (b118_L1 : Int32) (b118_L2 : Int32) (b118_L3 : Int32) (b118_L4 : Int32) (b118_L5 : Int32) (M : zMem), F_X10_nearest_118 p0 p1 self38 b118_L1 b118_L2 b118_L3 b118_L4 b118_L5 M = some (r9, M9) → zJ p l e rm_X10_nearest s m args below meth c G shM ad n A 9 (MQ below (zQ G shM ad n M9 (some (.int r9)) A) args s 0 0 A) 0 0 M 118 [(0, .ref (ad 0)), (1, .int b118_L1), (2, .int b118_L2), (3, .int b118_L3), (4, .int b118_L4), (5, .int b118_L5)] [] := by
    intro self38 hs38 b118_L1 b118_L2 b118_L3 b118_L4 b118_L5 M hF
    unfold F_X10_nearest_118 at hF
    refine z_iinc cx 5 1 [(5, .int (b118_L5 + 1)), (0, .ref (ad 0)), (1, .int b118_L1), (2, .int b118_L2), (3, .int b118_L3), (4, .int b118_L4)] d_X10_nearest_118 5 rfl ki_1 (by decide) rfl ?_
    refine z_goto cx 38 d_X10_nearest_121 (by decide) ?_
    exact z_lv [1, 2, 3, 4, 5, 0] _ rfl (hs38 b118_L1 b118_L2 b118_L3 b118_L4 (b118_L5 + 1) M hF)
  have hb111 : ∀ (self38 : Int32 → Int32 → Int32 → Int32 → Int32 → zMem → Option (Int32 × zMem)) (hs38 : ∀ (b38_L1 : Int32) (b38_L2 : Int32) (b38_L3 : Int32) (b38_L4 : Int32) (b38_L5 : Int32) (M : zMem), self38 b38_L1 b38_L2 b38_L3 b38_L4 b38_L5 M = some (r9, M9) → zJ p l e rm_X10_nearest s m args below meth c G shM ad n A 9 (MQ below (zQ G shM ad n M9 (some (.int r9)) A) args s 0 0 A) 0 0 M 38 [(0, .ref (ad 0)), (1, .int b38_L1), (2, .int b38_L2), (3, .int b38_L3), (4, .int b38_L4), (5, .int b38_L5)] []), ∀ (b111_L1 : Int32) (b111_L2 : Int32) (b111_L5 : Int32) (b111_L8 : Int32) (M : zMem), F_X10_nearest_111 p0 p1 self38 b111_L1 b111_L2 b111_L5 b111_L8 M = some (r9, M9) → zJ p l e rm_X10_nearest s m args below meth c G shM ad n A 9 (MQ below (zQ G shM ad n M9 (some (.int r9)) A) args s 0 0 A) 0 0 M 111 [(0, .ref (ad 0)), (1, .int b111_L1), (2, .int b111_L2), (5, .int b111_L5), (8, .int b111_L8)] [] := by
    intro self38 hs38 b111_L1 b111_L2 b111_L5 b111_L8 M hF
    unfold F_X10_nearest_111 at hF
    refine z_iload cx d_X10_nearest_111 3 rfl ?_
    refine z_istore_n cx 3 [(3, .int b111_L5), (0, .ref (ad 0)), (1, .int b111_L1), (2, .int b111_L2), (5, .int b111_L5), (8, .int b111_L8)] d_X10_nearest_113 rfl (by decide) rfl ?_
    refine z_iload cx d_X10_nearest_114 5 rfl ?_
    refine z_istore cx 4 [(4, .int b111_L8), (3, .int b111_L5), (0, .ref (ad 0)), (1, .int b111_L1), (2, .int b111_L2), (5, .int b111_L5), (8, .int b111_L8)] d_X10_nearest_116 (by decide) rfl ?_
    exact z_lv [2, 3, 4, 1, 0, 5] _ rfl (hb118 self38 hs38 b111_L1 b111_L2 b111_L5 b111_L8 b111_L5 M hF)
  have hL38 : ∀ (fuel : Nat), ∀ (b38_L1 : Int32) (b38_L2 : Int32) (b38_L3 : Int32) (b38_L4 : Int32) (b38_L5 : Int32) (M : zMem), itF (fun _ _ _ _ _ _ => none) (F_X10_nearest_38 p0 p1) fuel b38_L1 b38_L2 b38_L3 b38_L4 b38_L5 M = some (r9, M9) → zJ p l e rm_X10_nearest s m args below meth c G shM ad n A 9 (MQ below (zQ G shM ad n M9 (some (.int r9)) A) args s 0 0 A) 0 0 M 38 [(0, .ref (ad 0)), (1, .int b38_L1), (2, .int b38_L2), (3, .int b38_L3), (4, .int b38_L4), (5, .int b38_L5)] [] := by
    intro fuel
    induction fuel with
    | zero => intro b38_L1 b38_L2 b38_L3 b38_L4 b38_L5 M hF; cases hF
    | succ fuel hs38 =>
      intro b38_L1 b38_L2 b38_L3 b38_L4 b38_L5 M hF
      have hF : F_X10_nearest_38 p0 p1 (itF (fun _ _ _ _ _ _ => none) (F_X10_nearest_38 p0 p1) fuel) b38_L1 b38_L2 b38_L3 b38_L4 b38_L5 M = some (r9, M9) := hF
      generalize itF (fun _ _ _ _ _ _ => none) (F_X10_nearest_38 p0 p1) fuel = self38 at hs38 hF
      unfold F_X10_nearest_38 at hF
      refine z_iload cx d_X10_nearest_38 5 rfl ?_
      refine z_bipush (v := 64) cx d_X10_nearest_40 kb_64 ?_
      refine z_icmp_ge cx 124 d_X10_nearest_42 (by decide) hF (fun hF => ?_) (fun hF => ?_)
      · refine z_iload_n cx d_X10_nearest_124 3 rfl ?_
        obtain ⟨v2, M1, hc, hF⟩ := zb_inv hF
        refine z_callS cx (As := [.int b38_L3]) (rest := []) (c_X10_asTold l cx.2.2.2.1.1 M b38_L3  hc) cs_SunnyPansModel_345 ⟨rfl, rfl, Nat.le_of_ble_eq_true rfl, Nat.le_of_ble_eq_true rfl⟩ rfl rfl ⟨Nat.zero_le _, Nat.zero_le _⟩ (Nat.le_of_ble_eq_true rfl) d_X10_nearest_125 ?_
        exact z_iret cx hr rfl hF d_X10_nearest_128
      refine z_iload cx d_X10_nearest_45 5 rfl ?_
      refine z_bipush (v := 8) cx d_X10_nearest_47 kb_8 ?_
      refine z_irem cx d_X10_nearest_49 (by decide) ?_
      refine z_iload_n cx d_X10_nearest_50 1 rfl ?_
      refine z_isub cx d_X10_nearest_51 ?_
      refine z_nm hF (fun v3 hF => ?_)
      refine z_istore cx 6 [(6, .int v3), (0, .ref (ad 0)), (1, .int b38_L1), (2, .int b38_L2), (3, .int b38_L3), (4, .int b38_L4), (5, .int b38_L5)] d_X10_nearest_52 (by decide) rfl ?_
      refine z_iload cx d_X10_nearest_54 6 rfl ?_
      refine z_bipush (v := 8) cx d_X10_nearest_56 kb_8 ?_
      refine z_idiv cx d_X10_nearest_58 (by decide) ?_
      refine z_iload_n cx d_X10_nearest_59 3 rfl ?_
      refine z_isub cx d_X10_nearest_60 ?_
      refine z_nm hF (fun v4 hF => ?_)
      refine z_istore cx 7 [(7, .int v4), (6, .int v3), (0, .ref (ad 0)), (1, .int b38_L1), (2, .int b38_L2), (3, .int b38_L3), (4, .int b38_L4), (5, .int b38_L5)] d_X10_nearest_61 (by decide) rfl ?_
      refine z_iload cx d_X10_nearest_63 1 rfl ?_
      refine z_iload cx d_X10_nearest_65 1 rfl ?_
      refine z_ineg cx d_X10_nearest_67 ?_
      obtain ⟨v6, M5, hc, hF⟩ := zb_inv hF
      refine z_callS cx (As := [.int v3, .int (-v3)]) (rest := []) (c_X10_more l cx.2.2.2.1.1 M v3 (-v3)  hc) cs_SunnyPansModel_218 ⟨rfl, rfl, Nat.le_of_ble_eq_true rfl, Nat.le_of_ble_eq_true rfl⟩ rfl rfl ⟨Nat.zero_le _, Nat.zero_le _⟩ (Nat.le_of_ble_eq_true rfl) d_X10_nearest_68 ?_
      refine z_iload cx d_X10_nearest_71 0 rfl ?_
      refine z_iload cx d_X10_nearest_73 0 rfl ?_
      refine z_ineg cx d_X10_nearest_75 ?_
      obtain ⟨v8, M7, hc, hF⟩ := zb_inv hF
      refine z_callS cx (As := [.int v4, .int (-v4)]) (rest := [.int v6]) (c_X10_more l cx.2.2.2.1.1 M5 v4 (-v4)  hc) cs_SunnyPansModel_218 ⟨rfl, rfl, Nat.le_of_ble_eq_true rfl, Nat.le_of_ble_eq_true rfl⟩ rfl rfl ⟨Nat.zero_le _, Nat.zero_le _⟩ (Nat.le_of_ble_eq_true rfl) d_X10_nearest_76 ?_
      refine z_iadd cx d_X10_nearest_79 ?_
      refine z_nm hF (fun v9 hF => ?_)
      refine z_istore cx 8 [(8, .int v9), (7, .int v4), (6, .int v3), (0, .ref (ad 0)), (1, .int b38_L1), (2, .int b38_L2), (3, .int b38_L3), (4, .int b38_L4), (5, .int b38_L5)] d_X10_nearest_80 (by decide) rfl ?_
      refine z_aload_n cx d_X10_nearest_82 3 rfl ?_
      refine z_getR cx hT fg_SunnyPansModel_58 451 rfl d_X10_nearest_83 ?_
      refine z_sipush (v := 128) cx d_X10_nearest_86 ks_128 ?_
      refine z_iload cx d_X10_nearest_89 8 rfl ?_
      refine z_iadd cx d_X10_nearest_91 ?_
      obtain ⟨hi10, hF⟩ := gin_inv hF
      refine z_iald cx (tfM_11_451 hT) za_36 hi10 (((128 : Int32) + b38_L5).toNatClampNeg) rfl d_X10_nearest_92 ?_
      refine z_if_eq cx 118 d_X10_nearest_93 (by decide) hF (fun hF => ?_) (fun hF => ?_)
      · exact z_lv [3, 4, 5, 6, 7, 8] _ rfl (hb118 self38 hs38 b38_L1 b38_L2 b38_L3 b38_L4 b38_L5 M7 hF)
      refine z_iload_n cx d_X10_nearest_96 6 rfl ?_
      refine z_iconst (v := -1) cx d_X10_nearest_97 ki_m1 ?_
      refine z_icmp_eq cx 111 d_X10_nearest_98 (by decide) hF (fun hF => ?_) (fun hF => ?_)
      · exact z_lv [3, 4, 5, 8, 0] _ rfl (hb111 self38 hs38 b38_L1 b38_L2 b38_L5 v9 M7 hF)
      refine z_iload cx d_X10_nearest_101 0 rfl ?_
      refine z_iload cx d_X10_nearest_103 7 rfl ?_
      refine z_icmp_lt cx 111 d_X10_nearest_105 (by decide) hF (fun hF => ?_) (fun hF => ?_)
      · exact z_lv [3, 4, 5, 8, 0] _ rfl (hb111 self38 hs38 b38_L1 b38_L2 b38_L5 v9 M7 hF)
      refine z_goto cx 118 d_X10_nearest_108 (by decide) ?_
      exact z_lv [3, 4, 5, 6, 7, 8] _ rfl (hb118 self38 hs38 b38_L1 b38_L2 b38_L3 b38_L4 b38_L5 M7 hF)
  have hb20 : ∀ (b20_L1 : Int32) (b20_L2 : Int32) (b20_S1 : Int32) (M : zMem), F_X10_nearest_20 p0 p1 b20_L1 b20_L2 b20_S1 M = some (r9, M9) → zJ p l e rm_X10_nearest s m args below meth c G shM ad n A 9 (MQ below (zQ G shM ad n M9 (some (.int r9)) A) args s 0 0 A) 0 0 M 20 [(0, .ref (ad 0)), (1, .int b20_L1), (2, .int b20_L2)] [.int b20_S1, .ref (ad 0)] := by
    intro b20_L1 b20_L2 b20_S1 M hF
    unfold F_X10_nearest_20 at hF
    refine z_iconst (v := 1) cx d_X10_nearest_20 ki_1 ?_
    refine z_iconst (v := 0) cx d_X10_nearest_21 ki_0 ?_
    obtain ⟨v12, M11, hc, hF⟩ := zb_inv hF
    refine z_callV cx (As := [.int b20_S1, .int (1 : Int32), .int (0 : Int32)]) (rest := []) (c_X10_bad l cx.2.2.2.1.1 M b20_S1 (1 : Int32) (0 : Int32) hT hc) hT zo_11 cv_SunnyPansModel_155 ⟨rfl, rfl, Nat.le_of_ble_eq_true rfl, Nat.le_of_ble_eq_true rfl⟩ rfl rfl ⟨Nat.zero_le _, Nat.zero_le _⟩ (Nat.le_of_ble_eq_true rfl) d_X10_nearest_22 ?_
    refine z_if_eq cx 30 d_X10_nearest_25 (by decide) hF (fun hF => ?_) (fun hF => ?_)
    · refine z_iconst (v := -1) cx d_X10_nearest_30 ki_m1 ?_
      refine z_istore_n cx 3 [(3, .int (-1 : Int32)), (0, .ref (ad 0)), (1, .int b20_L1), (2, .int b20_L2)] d_X10_nearest_31 rfl (by decide) rfl ?_
      refine z_iconst (v := -1) cx d_X10_nearest_32 ki_m1 ?_
      refine z_istore cx 4 [(4, .int (-1 : Int32)), (3, .int (-1 : Int32)), (0, .ref (ad 0)), (1, .int b20_L1), (2, .int b20_L2)] d_X10_nearest_33 (by decide) rfl ?_
      refine z_iconst (v := 0) cx d_X10_nearest_35 ki_0 ?_
      refine z_istore cx 5 [(5, .int (0 : Int32)), (4, .int (-1 : Int32)), (3, .int (-1 : Int32)), (0, .ref (ad 0)), (1, .int b20_L1), (2, .int b20_L2)] d_X10_nearest_36 (by decide) rfl ?_
      exact z_lv [3, 4, 5, 2, 1, 0] _ rfl (hL38 zFuel b20_L1 b20_L2 (-1 : Int32) (-1 : Int32) (0 : Int32) M11 hF)
    refine z_iconst (v := 0) cx d_X10_nearest_28 ki_0 ?_
    exact z_iret cx hr rfl hF d_X10_nearest_29
  unfold F_X10_nearest at hF
  refine z_aload_n cx d_X10_nearest_0 0 rfl ?_
  refine z_iconst (v := 0) cx d_X10_nearest_1 ki_0 ?_
  refine z_putI cx hT fp_SunnyPansModel_82 d_X10_nearest_2 ?_
  refine z_nmM hF (fun M13 hF => ?_)
  refine z_aload_n cx d_X10_nearest_5 0 rfl ?_
  refine z_aload_n cx d_X10_nearest_6 0 rfl ?_
  refine z_iload_n cx d_X10_nearest_7 1 rfl ?_
  refine z_iload_n cx d_X10_nearest_8 2 rfl ?_
  obtain ⟨v15, M14, hc, hF⟩ := zb_inv hF
  refine z_callV cx (As := [.int p0, .int p1]) (rest := [.ref (ad 0)]) (c_X10_isWithin l cx.2.2.2.1.1 M13 p0 p1 hT hc) hT zo_11 cv_SunnyPansModel_237 ⟨rfl, rfl, Nat.le_of_ble_eq_true rfl, Nat.le_of_ble_eq_true rfl⟩ rfl rfl ⟨Nat.zero_le _, Nat.zero_le _⟩ (Nat.le_of_ble_eq_true rfl) d_X10_nearest_9 ?_
  refine z_if_ne cx 19 d_X10_nearest_12 (by decide) hF (fun hF => ?_) (fun hF => ?_)
  · refine z_iconst (v := 0) cx d_X10_nearest_19 ki_0 ?_
    exact hb20 p0 p1 (0 : Int32) M14 hF
  refine z_iconst (v := 1) cx d_X10_nearest_15 ki_1 ?_
  refine z_goto cx 20 d_X10_nearest_16 (by decide) ?_
  exact hb20 p0 p1 (1 : Int32) M14 hF
