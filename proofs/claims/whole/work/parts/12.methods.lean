/-! SunnyPans.fault -/
set_option maxRecDepth 100000 in
theorem wd_144 : Cond.fieldLink "SunnyPans" 148 "SunnyPans$Text" "faultPlace" "I" ∈ tbG := tw1 44 rfl rfl
theorem fg_SunnyPans_148 : zGetI "SunnyPans" 148 8 9 3 := ⟨RX8, TX8, 8, rfl, by decide, uw_8, wd_144, fun _ _ _ _ _ _ => ⟨_, rfl, rfl⟩⟩
theorem d_X9_fault_0 : decode cX9_fault 0 = .ok (.aload_n 0, 1) := by decide +kernel
theorem d_X9_fault_1 : decode cX9_fault 1 = .ok (.getfield 10, 3) := by decide +kernel
theorem d_X9_fault_4 : decode cX9_fault 4 = .ok (.getfield 148, 3) := by decide +kernel
theorem d_X9_fault_7 : decode cX9_fault 7 = .ok (.ireturn, 1) := by decide +kernel
def F_X9_fault (M : zMem)  : Option (Int32 × zMem) :=
  some ((M.1 1 3), M)
def rm_X9_fault : Room := { frames := 2, cells := 0, slots := 0, locals := 80 }
set_option maxHeartbeats 4000000 in
set_option maxRecDepth 100000 in
theorem c_X9_fault (l : Launch) {G : zG} {ad : Nat → Nat} {n : Nat} (hA : zInj ad n) (M : zMem)  (hT : zT shX n 0 10) {r9 : Int32} {M9 : zMem} (hF : F_X9_fault M  = some (r9, M9)) : zM l yX9_fault cX9_fault 1 (some .int) rm_X9_fault G shX ad n M [.ref (ad 0)] (some (.int r9)) M9 := by
  refine zM_of hA (by decide +kernel) (lv := [(0, .ref (ad 0))]) (Nat.le_of_ble_eq_true rfl) rfl (fun p e s m args below meth c A cx hr => ?_)
  unfold F_X9_fault at hF
  refine z_aload_n cx d_X9_fault_0 0 rfl ?_
  refine z_getR cx hT fg_SunnyPans_10 1 rfl d_X9_fault_1 ?_
  refine z_getI cx (tfX_10_1 hT) fg_SunnyPans_148 d_X9_fault_4 ?_
  exact z_iret cx hr rfl hF d_X9_fault_7
/-! SunnyPans.sumOf -/
theorem d_X9_sumOf_0 : decode cX9_sumOf 0 = .ok (.iconst 0, 1) := by decide +kernel
theorem d_X9_sumOf_1 : decode cX9_sumOf 1 = .ok (.istore_n 1, 1) := by decide +kernel
theorem d_X9_sumOf_2 : decode cX9_sumOf 2 = .ok (.iconst 0, 1) := by decide +kernel
theorem d_X9_sumOf_3 : decode cX9_sumOf 3 = .ok (.istore_n 2, 1) := by decide +kernel
theorem d_X9_sumOf_4 : decode cX9_sumOf 4 = .ok (.iload_n 2, 1) := by decide +kernel
theorem d_X9_sumOf_5 : decode cX9_sumOf 5 = .ok (.aload_n 0, 1) := by decide +kernel
theorem d_X9_sumOf_6 : decode cX9_sumOf 6 = .ok (.arraylength, 1) := by decide +kernel
theorem d_X9_sumOf_7 : decode cX9_sumOf 7 = .ok (.if_icmp .ge 15, 3) := by decide +kernel
theorem d_X9_sumOf_10 : decode cX9_sumOf 10 = .ok (.iload_n 1, 1) := by decide +kernel
theorem d_X9_sumOf_11 : decode cX9_sumOf 11 = .ok (.aload_n 0, 1) := by decide +kernel
theorem d_X9_sumOf_12 : decode cX9_sumOf 12 = .ok (.iload_n 2, 1) := by decide +kernel
theorem d_X9_sumOf_13 : decode cX9_sumOf 13 = .ok (.iaload, 1) := by decide +kernel
theorem d_X9_sumOf_14 : decode cX9_sumOf 14 = .ok (.iadd, 1) := by decide +kernel
theorem d_X9_sumOf_15 : decode cX9_sumOf 15 = .ok (.istore_n 1, 1) := by decide +kernel
theorem d_X9_sumOf_16 : decode cX9_sumOf 16 = .ok (.iinc 2 1, 3) := by decide +kernel
theorem d_X9_sumOf_19 : decode cX9_sumOf 19 = .ok (.goto (-15), 3) := by decide +kernel
theorem d_X9_sumOf_22 : decode cX9_sumOf 22 = .ok (.iload_n 1, 1) := by decide +kernel
theorem d_X9_sumOf_23 : decode cX9_sumOf 23 = .ok (.ireturn, 1) := by decide +kernel
def F_X9_sumOf_4 (p0 : Nat) (self4 : Int32 → Int32 → zMem → Option (Int32 × zMem)) (b4_L1 : Int32) (b4_L2 : Int32) (M : zMem) : Option (Int32 × zMem) :=
  if (nI 64) ≤ b4_L2 then
    some (b4_L1, M)
  else
    gin b4_L2 64 <|
    zl (b4_L1 + (M.1 p0 b4_L2.toNatClampNeg)) fun v2 =>
    self4 v2 (b4_L2 + 1) M
def F_X9_sumOf (M : zMem) (p0 : Nat) : Option (Int32 × zMem) :=
  itF (fun _ _ _ => none) (F_X9_sumOf_4 p0) zFuel (0 : Int32) (0 : Int32) M
def rm_X9_sumOf : Room := { frames := 2, cells := 0, slots := 0, locals := 80 }
set_option maxHeartbeats 4000000 in
set_option maxRecDepth 100000 in
theorem c_X9_sumOf (l : Launch) {G : zG} {ad : Nat → Nat} {n : Nat} (hA : zInj ad n) (M : zMem) (p0 : Nat) (hT_p0 : zT shX n p0 16) {r9 : Int32} {M9 : zMem} (hF : F_X9_sumOf M p0 = some (r9, M9)) : zM l yX9_sumOf cX9_sumOf 3 (some .int) rm_X9_sumOf G shX ad n M [.ref (ad p0)] (some (.int r9)) M9 := by
  refine zM_of hA (by decide +kernel) (lv := [(0, .ref (ad p0))]) (Nat.le_of_ble_eq_true rfl) rfl (fun p e s m args below meth c A cx hr => ?_)
  have hL4 : ∀ (fuel : Nat), ∀ (b4_L1 : Int32) (b4_L2 : Int32) (M : zMem), itF (fun _ _ _ => none) (F_X9_sumOf_4 p0) fuel b4_L1 b4_L2 M = some (r9, M9) → zJ p l e rm_X9_sumOf s m args below meth c G shX ad n A 3 (MQ below (zQ G shX ad n M9 (some (.int r9)) A) args s 0 0 A) 0 0 M 4 [(0, .ref (ad p0)), (1, .int b4_L1), (2, .int b4_L2)] [] := by
    intro fuel
    induction fuel with
    | zero => intro b4_L1 b4_L2 M hF; cases hF
    | succ fuel hs4 =>
      intro b4_L1 b4_L2 M hF
      have hF : F_X9_sumOf_4 p0 (itF (fun _ _ _ => none) (F_X9_sumOf_4 p0) fuel) b4_L1 b4_L2 M = some (r9, M9) := hF
      generalize itF (fun _ _ _ => none) (F_X9_sumOf_4 p0) fuel = self4 at hs4 hF
      unfold F_X9_sumOf_4 at hF
      refine z_iload_n cx d_X9_sumOf_4 2 rfl ?_
      refine z_aload_n cx d_X9_sumOf_5 0 rfl ?_
      refine z_alenI cx hT_p0 za_16 d_X9_sumOf_6 ?_
      refine z_icmp_ge cx 22 d_X9_sumOf_7 (by decide) hF (fun hF => ?_) (fun hF => ?_)
      · refine z_iload_n cx d_X9_sumOf_22 1 rfl ?_
        exact z_iret cx hr rfl hF d_X9_sumOf_23
      refine z_iload_n cx d_X9_sumOf_10 1 rfl ?_
      refine z_aload_n cx d_X9_sumOf_11 0 rfl ?_
      refine z_iload_n cx d_X9_sumOf_12 2 rfl ?_
      obtain ⟨hi1, hF⟩ := gin_inv hF
      refine z_iald cx hT_p0 za_16 hi1 b4_L2.toNatClampNeg rfl d_X9_sumOf_13 ?_
      refine z_iadd cx d_X9_sumOf_14 ?_
      refine z_nm hF (fun v2 hF => ?_)
      refine z_istore_n cx 1 [(1, .int v2), (0, .ref (ad p0)), (2, .int b4_L2)] d_X9_sumOf_15 rfl (by decide) rfl ?_
      refine z_iinc cx 2 1 [(2, .int (b4_L2 + 1)), (1, .int v2), (0, .ref (ad p0))] d_X9_sumOf_16 2 rfl ki_1 (by decide) rfl ?_
      refine z_goto cx 4 d_X9_sumOf_19 (by decide) ?_
      exact z_lv [2, 1, 0] _ rfl (hs4 v2 (b4_L2 + 1) M hF)
  unfold F_X9_sumOf at hF
  refine z_iconst (v := 0) cx d_X9_sumOf_0 ki_0 ?_
  refine z_istore_n cx 1 [(1, .int (0 : Int32)), (0, .ref (ad p0))] d_X9_sumOf_1 rfl (by decide) rfl ?_
  refine z_iconst (v := 0) cx d_X9_sumOf_2 ki_0 ?_
  refine z_istore_n cx 2 [(2, .int (0 : Int32)), (1, .int (0 : Int32)), (0, .ref (ad p0))] d_X9_sumOf_3 rfl (by decide) rfl ?_
  exact z_lv [2, 1, 0] _ rfl (hL4 zFuel (0 : Int32) (0 : Int32) M hF)
/-! SunnyPans.strengthOf -/
set_option maxRecDepth 100000 in
theorem wd_328 : Cond.fieldLink "SunnyPans" 200 "SunnyPans$Plan" "places" "J" ∈ tbG := tw1 228 rfl rfl
theorem fg_SunnyPans_200 : zGetL "SunnyPans" 200 5 6 3 := ⟨RX5, TX5, 9, rfl, by decide, uw_5, wd_328, fun _ _ _ _ _ _ => ⟨_, rfl, rfl⟩⟩
set_option maxRecDepth 100000 in
theorem wd_1000 : Cond.code yX4_dryPlaces cX4_dryPlaces 1 (some .long) ∈ tbG := tw4 180 rfl rfl
set_option maxRecDepth 100000 in
theorem wd_997 : Cond.methodLink "SunnyPans" 204 yX4_dryPlaces ∈ tbG := tw4 177 rfl rfl
set_option maxRecDepth 100000 in
theorem wd_998 : Cond.instanceMethod yX4_dryPlaces ∈ tbG := tw4 178 rfl rfl
set_option maxRecDepth 100000 in
theorem wd_999 : Cond.selects "SunnyPans$Pans" yX4_dryPlaces yX4_dryPlaces ∈ tbG := tw4 179 rfl rfl
theorem cv_SunnyPans_204 : zCV "SunnyPans" 204 "SunnyPans$Pans" yX4_dryPlaces cX4_dryPlaces 1 (some .long) 0 := zCV_of wd_997 wd_998 wd_999 wd_104 wd_1000 (by decide +kernel)
set_option maxRecDepth 100000 in
theorem wd_1007 : Cond.methodLink "SunnyPans" 207 yX4_saltPlaces ∈ tbG := tw4 187 rfl rfl
theorem cv_SunnyPans_207 : zCV "SunnyPans" 207 "SunnyPans$Pans" yX4_saltPlaces cX4_saltPlaces 1 (some .long) 0 := zCV_of wd_1007 wd_1008 wd_1009 wd_104 wd_1010 (by decide +kernel)
set_option maxRecDepth 100000 in
theorem wd_1023 : Cond.methodLink "SunnyPans" 423 yX5_holds ∈ tbG := tw4 203 rfl rfl
theorem cv_SunnyPans_423 : zCV "SunnyPans" 423 "SunnyPans$Plan" yX5_holds cX5_holds 3 (some .boolean) 2 := zCV_of wd_1023 wd_767 wd_768 wd_108 wd_769 (by decide +kernel)
theorem d_X9_strengthOf_0 : decode cX9_strengthOf 0 = .ok (.iload_n 0, 1) := by decide +kernel
theorem d_X9_strengthOf_1 : decode cX9_strengthOf 1 = .ok (.iload_n 1, 1) := by decide +kernel
theorem d_X9_strengthOf_2 : decode cX9_strengthOf 2 = .ok (.iadd, 1) := by decide +kernel
theorem d_X9_strengthOf_3 : decode cX9_strengthOf 3 = .ok (.istore_n 2, 1) := by decide +kernel
theorem d_X9_strengthOf_4 : decode cX9_strengthOf 4 = .ok (.iload_n 2, 1) := by decide +kernel
theorem d_X9_strengthOf_5 : decode cX9_strengthOf 5 = .ok (.ifCond .le 13, 3) := by decide +kernel
theorem d_X9_strengthOf_8 : decode cX9_strengthOf 8 = .ok (.sipush 1000, 3) := by decide +kernel
theorem d_X9_strengthOf_11 : decode cX9_strengthOf 11 = .ok (.iload_n 0, 1) := by decide +kernel
theorem d_X9_strengthOf_12 : decode cX9_strengthOf 12 = .ok (.imul, 1) := by decide +kernel
theorem d_X9_strengthOf_13 : decode cX9_strengthOf 13 = .ok (.iload_n 2, 1) := by decide +kernel
theorem d_X9_strengthOf_14 : decode cX9_strengthOf 14 = .ok (.idiv, 1) := by decide +kernel
theorem d_X9_strengthOf_15 : decode cX9_strengthOf 15 = .ok (.goto 4, 3) := by decide +kernel
theorem d_X9_strengthOf_18 : decode cX9_strengthOf 18 = .ok (.iconst 0, 1) := by decide +kernel
theorem d_X9_strengthOf_19 : decode cX9_strengthOf 19 = .ok (.ireturn, 1) := by decide +kernel
def F_X9_strengthOf (M : zMem) (p0 : Int32) (p1 : Int32) : Option (Int32 × zMem) :=
  zl (p0 + p1) fun v1 =>
  if v1 ≤ 0 then
    some ((0 : Int32), M)
  else
    gd (!(v1 == 0)) <|
    some ((((1000 : Int32) * p0) / v1), M)
def rm_X9_strengthOf : Room := { frames := 2, cells := 0, slots := 0, locals := 80 }
set_option maxHeartbeats 4000000 in
set_option maxRecDepth 100000 in
theorem c_X9_strengthOf (l : Launch) {G : zG} {ad : Nat → Nat} {n : Nat} (hA : zInj ad n) (M : zMem) (p0 : Int32) (p1 : Int32) {r9 : Int32} {M9 : zMem} (hF : F_X9_strengthOf M p0 p1 = some (r9, M9)) : zM l yX9_strengthOf cX9_strengthOf 3 (some .int) rm_X9_strengthOf G shX ad n M [.int p0, .int p1] (some (.int r9)) M9 := by
  refine zM_of hA (by decide +kernel) (lv := [(0, .int p0), (1, .int p1)]) (Nat.le_of_ble_eq_true rfl) rfl (fun p e s m args below meth c A cx hr => ?_)
  unfold F_X9_strengthOf at hF
  refine z_iload_n cx d_X9_strengthOf_0 0 rfl ?_
  refine z_iload_n cx d_X9_strengthOf_1 1 rfl ?_
  refine z_iadd cx d_X9_strengthOf_2 ?_
  refine z_nm hF (fun v1 hF => ?_)
  refine z_istore_n cx 2 [(2, .int v1), (0, .int p0), (1, .int p1)] d_X9_strengthOf_3 rfl (by decide) rfl ?_
  refine z_iload_n cx d_X9_strengthOf_4 0 rfl ?_
  refine z_if_le cx 18 d_X9_strengthOf_5 (by decide) hF (fun hF => ?_) (fun hF => ?_)
  · refine z_iconst (v := 0) cx d_X9_strengthOf_18 ki_0 ?_
    exact z_iret cx hr rfl hF d_X9_strengthOf_19
  refine z_sipush (v := 1000) cx d_X9_strengthOf_8 ks_1000 ?_
  refine z_iload_n cx d_X9_strengthOf_11 1 rfl ?_
  refine z_imul cx d_X9_strengthOf_12 ?_
  refine z_iload_n cx d_X9_strengthOf_13 0 rfl ?_
  obtain ⟨hz2, hF⟩ := gd_inv hF
  refine z_idiv cx d_X9_strengthOf_14 (zne hz2) ?_
  refine z_goto cx 19 d_X9_strengthOf_15 (by decide) ?_
  exact z_iret cx hr rfl hF d_X9_strengthOf_19
/-! SunnyPans.shadeNow -/
theorem d_X9_shadeNow_0 : decode cX9_shadeNow 0 = .ok (.aload_n 0, 1) := by decide +kernel
theorem d_X9_shadeNow_1 : decode cX9_shadeNow 1 = .ok (.getfield 19, 3) := by decide +kernel
theorem d_X9_shadeNow_4 : decode cX9_shadeNow 4 = .ok (.getfield 159, 3) := by decide +kernel
theorem d_X9_shadeNow_7 : decode cX9_shadeNow 7 = .ok (.iload_n 1, 1) := by decide +kernel
theorem d_X9_shadeNow_8 : decode cX9_shadeNow 8 = .ok (.invokevirtual 330, 3) := by decide +kernel
theorem d_X9_shadeNow_11 : decode cX9_shadeNow 11 = .ok (.lreturn, 1) := by decide +kernel
def F_X9_shadeNow (M : zMem) (p0 : Int32) : Option (Int64 × zMem) :=
  zb (F_X4_shadeAt M 4 p0) fun v2 M1 =>
  some (v2, M1)
def rm_X9_shadeNow : Room := { frames := 3, cells := 0, slots := 0, locals := 101 }
set_option maxHeartbeats 4000000 in
set_option maxRecDepth 100000 in
theorem c_X9_shadeNow (l : Launch) {G : zG} {ad : Nat → Nat} {n : Nat} (hA : zInj ad n) (M : zMem) (p0 : Int32) (hT : zT shX n 0 10) {r9 : Int64} {M9 : zMem} (hF : F_X9_shadeNow M p0 = some (r9, M9)) : zM l yX9_shadeNow cX9_shadeNow 2 (some .long) rm_X9_shadeNow G shX ad n M [.ref (ad 0), .int p0] (some (.long r9)) M9 := by
  refine zM_of hA (by decide +kernel) (lv := [(0, .ref (ad 0)), (1, .int p0)]) (Nat.le_of_ble_eq_true rfl) rfl (fun p e s m args below meth c A cx hr => ?_)
  unfold F_X9_shadeNow at hF
  refine z_aload_n cx d_X9_shadeNow_0 0 rfl ?_
  refine z_getR cx hT fg_SunnyPans_19 3 rfl d_X9_shadeNow_1 ?_
  refine z_getR cx (tfX_10_3 hT) fg_SunnyPans_159 4 rfl d_X9_shadeNow_4 ?_
  refine z_iload_n cx d_X9_shadeNow_7 1 rfl ?_
  obtain ⟨v2, M1, hc, hF⟩ := zb_inv hF
  refine z_callV cx (As := [.int p0]) (rest := []) (c_X4_shadeAt l cx.2.2.2.1.1 M 4 p0 (tfX_8_1 (tfX_10_3 hT)) hc) (tfX_8_1 (tfX_10_3 hT)) zo_5 cv_SunnyPans_330 ⟨rfl, rfl, Nat.le_of_ble_eq_true rfl, Nat.le_of_ble_eq_true rfl⟩ rfl rfl ⟨Nat.zero_le _, Nat.zero_le _⟩ (Nat.le_of_ble_eq_true rfl) d_X9_shadeNow_8 ?_
  exact z_lret cx hr hF d_X9_shadeNow_11
/-! SunnyPans.sunOf -/
set_option maxRecDepth 100000 in
theorem wd_1056 : Cond.code yX9_shadeNow cX9_shadeNow 2 (some .long) ∈ tbG := tw4 236 rfl rfl
set_option maxRecDepth 100000 in
theorem wd_1053 : Cond.methodLink "SunnyPans" 227 yX9_shadeNow ∈ tbG := tw4 233 rfl rfl
set_option maxRecDepth 100000 in
theorem wd_1055 : Cond.instanceMethod yX9_shadeNow ∈ tbG := tw4 235 rfl rfl
theorem wd_27 : Cond.selects "SunnyPans" yX9_shadeNow yX9_shadeNow ∈ tbG := tw 27 (by decide +kernel) rfl
theorem cv_SunnyPans_227 : zCV "SunnyPans" 227 "SunnyPans" yX9_shadeNow cX9_shadeNow 2 (some .long) 1 := zCV_of wd_1053 wd_1055 wd_27 wd_101 wd_1056 (by decide +kernel)
theorem d_X9_sunOf_0 : decode cX9_sunOf 0 = .ok (.iconst 0, 1) := by decide +kernel
theorem d_X9_sunOf_1 : decode cX9_sunOf 1 = .ok (.istore_n 2, 1) := by decide +kernel
theorem d_X9_sunOf_2 : decode cX9_sunOf 2 = .ok (.iconst 0, 1) := by decide +kernel
theorem d_X9_sunOf_3 : decode cX9_sunOf 3 = .ok (.istore_n 3, 1) := by decide +kernel
theorem d_X9_sunOf_4 : decode cX9_sunOf 4 = .ok (.iload_n 3, 1) := by decide +kernel
theorem d_X9_sunOf_5 : decode cX9_sunOf 5 = .ok (.aload_n 0, 1) := by decide +kernel
theorem d_X9_sunOf_6 : decode cX9_sunOf 6 = .ok (.getfield 62, 3) := by decide +kernel
theorem d_X9_sunOf_9 : decode cX9_sunOf 9 = .ok (.getfield 127, 3) := by decide +kernel
theorem d_X9_sunOf_12 : decode cX9_sunOf 12 = .ok (.if_icmp .ge 29, 3) := by decide +kernel
theorem d_X9_sunOf_15 : decode cX9_sunOf 15 = .ok (.iload_n 2, 1) := by decide +kernel
theorem d_X9_sunOf_16 : decode cX9_sunOf 16 = .ok (.aload_n 0, 1) := by decide +kernel
theorem d_X9_sunOf_17 : decode cX9_sunOf 17 = .ok (.iload_n 3, 1) := by decide +kernel
theorem d_X9_sunOf_18 : decode cX9_sunOf 18 = .ok (.invokevirtual 227, 3) := by decide +kernel
theorem d_X9_sunOf_21 : decode cX9_sunOf 21 = .ok (.iload_n 1, 1) := by decide +kernel
theorem d_X9_sunOf_22 : decode cX9_sunOf 22 = .ok (.invokestatic 231, 3) := by decide +kernel
theorem d_X9_sunOf_25 : decode cX9_sunOf 25 = .ok (.ifCond .eq 7, 3) := by decide +kernel
theorem d_X9_sunOf_28 : decode cX9_sunOf 28 = .ok (.iconst 0, 1) := by decide +kernel
theorem d_X9_sunOf_29 : decode cX9_sunOf 29 = .ok (.goto 4, 3) := by decide +kernel
theorem d_X9_sunOf_32 : decode cX9_sunOf 32 = .ok (.iconst 1, 1) := by decide +kernel
theorem d_X9_sunOf_33 : decode cX9_sunOf 33 = .ok (.iadd, 1) := by decide +kernel
theorem d_X9_sunOf_34 : decode cX9_sunOf 34 = .ok (.istore_n 2, 1) := by decide +kernel
theorem d_X9_sunOf_35 : decode cX9_sunOf 35 = .ok (.iinc 3 1, 3) := by decide +kernel
theorem d_X9_sunOf_38 : decode cX9_sunOf 38 = .ok (.goto (-34), 3) := by decide +kernel
theorem d_X9_sunOf_41 : decode cX9_sunOf 41 = .ok (.iload_n 2, 1) := by decide +kernel
theorem d_X9_sunOf_42 : decode cX9_sunOf 42 = .ok (.ireturn, 1) := by decide +kernel
def F_X9_sunOf_33 (p0 : Int32) (self4 : Int32 → Int32 → Int32 → zMem → Option (Int32 × zMem)) (b33_L1 : Int32) (b33_L3 : Int32) (b33_S0 : Int32) (b33_S1 : Int32) (M : zMem) : Option (Int32 × zMem) :=
  zl (b33_S0 + b33_S1) fun v1 =>
  self4 b33_L1 v1 (b33_L3 + 1) M
def F_X9_sunOf_4 (p0 : Int32) (self4 : Int32 → Int32 → Int32 → zMem → Option (Int32 × zMem)) (b4_L1 : Int32) (b4_L2 : Int32) (b4_L3 : Int32) (M : zMem) : Option (Int32 × zMem) :=
  gd (shX (M.2.2 0 8) == 6) <|
  if (M.1 (M.2.2 0 8) 2) ≤ b4_L3 then
    some (b4_L2, M)
  else
    zb (F_X9_shadeNow M b4_L3) fun v4 M3 =>
    zb (F_X9_has M3 v4 b4_L1) fun v6 M5 =>
    if v6 = 0 then
      F_X9_sunOf_33 p0 self4 b4_L1 b4_L3 b4_L2 (1 : Int32) M5
    else
      F_X9_sunOf_33 p0 self4 b4_L1 b4_L3 b4_L2 (0 : Int32) M5
def F_X9_sunOf (M : zMem) (p0 : Int32) : Option (Int32 × zMem) :=
  itF (fun _ _ _ _ => none) (F_X9_sunOf_4 p0) zFuel p0 (0 : Int32) (0 : Int32) M
def rm_X9_sunOf : Room := { frames := 4, cells := 0, slots := 0, locals := 122 }
set_option maxHeartbeats 4000000 in
set_option maxRecDepth 100000 in
theorem c_X9_sunOf (l : Launch) {G : zG} {ad : Nat → Nat} {n : Nat} (hA : zInj ad n) (M : zMem) (p0 : Int32) (hT : zT shX n 0 10) {r9 : Int32} {M9 : zMem} (hF : F_X9_sunOf M p0 = some (r9, M9)) : zM l yX9_sunOf cX9_sunOf 4 (some .int) rm_X9_sunOf G shX ad n M [.ref (ad 0), .int p0] (some (.int r9)) M9 := by
  refine zM_of hA (by decide +kernel) (lv := [(0, .ref (ad 0)), (1, .int p0)]) (Nat.le_of_ble_eq_true rfl) rfl (fun p e s m args below meth c A cx hr => ?_)
  have hb33 : ∀ (self4 : Int32 → Int32 → Int32 → zMem → Option (Int32 × zMem)) (hs4 : ∀ (b4_L1 : Int32) (b4_L2 : Int32) (b4_L3 : Int32) (M : zMem), self4 b4_L1 b4_L2 b4_L3 M = some (r9, M9) → zJ p l e rm_X9_sunOf s m args below meth c G shX ad n A 4 (MQ below (zQ G shX ad n M9 (some (.int r9)) A) args s 0 0 A) 0 0 M 4 [(0, .ref (ad 0)), (1, .int b4_L1), (2, .int b4_L2), (3, .int b4_L3)] []), ∀ (b33_L1 : Int32) (b33_L3 : Int32) (b33_S0 : Int32) (b33_S1 : Int32) (M : zMem), F_X9_sunOf_33 p0 self4 b33_L1 b33_L3 b33_S0 b33_S1 M = some (r9, M9) → zJ p l e rm_X9_sunOf s m args below meth c G shX ad n A 4 (MQ below (zQ G shX ad n M9 (some (.int r9)) A) args s 0 0 A) 0 0 M 33 [(0, .ref (ad 0)), (1, .int b33_L1), (3, .int b33_L3)] [.int b33_S1, .int b33_S0] := by
    intro self4 hs4 b33_L1 b33_L3 b33_S0 b33_S1 M hF
    unfold F_X9_sunOf_33 at hF
    refine z_iadd cx d_X9_sunOf_33 ?_
    refine z_nm hF (fun v1 hF => ?_)
    refine z_istore_n cx 2 [(2, .int v1), (0, .ref (ad 0)), (1, .int b33_L1), (3, .int b33_L3)] d_X9_sunOf_34 rfl (by decide) rfl ?_
    refine z_iinc cx 3 1 [(3, .int (b33_L3 + 1)), (2, .int v1), (0, .ref (ad 0)), (1, .int b33_L1)] d_X9_sunOf_35 3 rfl ki_1 (by decide) rfl ?_
    refine z_goto cx 4 d_X9_sunOf_38 (by decide) ?_
    exact z_lv [2, 3, 1, 0] _ rfl (hs4 b33_L1 v1 (b33_L3 + 1) M hF)
  have hL4 : ∀ (fuel : Nat), ∀ (b4_L1 : Int32) (b4_L2 : Int32) (b4_L3 : Int32) (M : zMem), itF (fun _ _ _ _ => none) (F_X9_sunOf_4 p0) fuel b4_L1 b4_L2 b4_L3 M = some (r9, M9) → zJ p l e rm_X9_sunOf s m args below meth c G shX ad n A 4 (MQ below (zQ G shX ad n M9 (some (.int r9)) A) args s 0 0 A) 0 0 M 4 [(0, .ref (ad 0)), (1, .int b4_L1), (2, .int b4_L2), (3, .int b4_L3)] [] := by
    intro fuel
    induction fuel with
    | zero => intro b4_L1 b4_L2 b4_L3 M hF; cases hF
    | succ fuel hs4 =>
      intro b4_L1 b4_L2 b4_L3 M hF
      have hF : F_X9_sunOf_4 p0 (itF (fun _ _ _ _ => none) (F_X9_sunOf_4 p0) fuel) b4_L1 b4_L2 b4_L3 M = some (r9, M9) := hF
      generalize itF (fun _ _ _ _ => none) (F_X9_sunOf_4 p0) fuel = self4 at hs4 hF
      unfold F_X9_sunOf_4 at hF
      refine z_iload_n cx d_X9_sunOf_4 3 rfl ?_
      refine z_aload_n cx d_X9_sunOf_5 0 rfl ?_
      obtain ⟨hg2, hF⟩ := gd_inv hF
      refine z_getD cx hT fg_SunnyPans_62 d_X9_sunOf_6 ?_
      refine z_getI cx (td_6 hT hg2) fg_SunnyPans_127 d_X9_sunOf_9 ?_
      refine z_icmp_ge cx 41 d_X9_sunOf_12 (by decide) hF (fun hF => ?_) (fun hF => ?_)
      · refine z_iload_n cx d_X9_sunOf_41 2 rfl ?_
        exact z_iret cx hr rfl hF d_X9_sunOf_42
      refine z_iload_n cx d_X9_sunOf_15 2 rfl ?_
      refine z_aload_n cx d_X9_sunOf_16 0 rfl ?_
      refine z_iload_n cx d_X9_sunOf_17 3 rfl ?_
      obtain ⟨v4, M3, hc, hF⟩ := zb_inv hF
      refine z_callV cx (As := [.int b4_L3]) (rest := [.int b4_L2]) (c_X9_shadeNow l cx.2.2.2.1.1 M b4_L3 hT hc) hT zo_10 cv_SunnyPans_227 ⟨rfl, rfl, Nat.le_of_ble_eq_true rfl, Nat.le_of_ble_eq_true rfl⟩ rfl rfl ⟨Nat.zero_le _, Nat.zero_le _⟩ (Nat.le_of_ble_eq_true rfl) d_X9_sunOf_18 ?_
      refine z_iload_n cx d_X9_sunOf_21 1 rfl ?_
      obtain ⟨v6, M5, hc, hF⟩ := zb_inv hF
      refine z_callS cx (As := [.long v4, .int b4_L1]) (rest := [.int b4_L2]) (c_X9_has l cx.2.2.2.1.1 M3 v4 b4_L1  hc) cs_SunnyPans_231 ⟨rfl, rfl, Nat.le_of_ble_eq_true rfl, Nat.le_of_ble_eq_true rfl⟩ rfl rfl ⟨Nat.zero_le _, Nat.zero_le _⟩ (Nat.le_of_ble_eq_true rfl) d_X9_sunOf_22 ?_
      refine z_if_eq cx 32 d_X9_sunOf_25 (by decide) hF (fun hF => ?_) (fun hF => ?_)
      · refine z_iconst (v := 1) cx d_X9_sunOf_32 ki_1 ?_
        exact z_lv [0, 1, 3] _ rfl (hb33 self4 hs4 b4_L1 b4_L3 b4_L2 (1 : Int32) M5 hF)
      refine z_iconst (v := 0) cx d_X9_sunOf_28 ki_0 ?_
      refine z_goto cx 33 d_X9_sunOf_29 (by decide) ?_
      exact z_lv [0, 1, 3] _ rfl (hb33 self4 hs4 b4_L1 b4_L3 b4_L2 (0 : Int32) M5 hF)
  unfold F_X9_sunOf at hF
  refine z_iconst (v := 0) cx d_X9_sunOf_0 ki_0 ?_
  refine z_istore_n cx 2 [(2, .int (0 : Int32)), (0, .ref (ad 0)), (1, .int p0)] d_X9_sunOf_1 rfl (by decide) rfl ?_
  refine z_iconst (v := 0) cx d_X9_sunOf_2 ki_0 ?_
  refine z_istore_n cx 3 [(3, .int (0 : Int32)), (2, .int (0 : Int32)), (0, .ref (ad 0)), (1, .int p0)] d_X9_sunOf_3 rfl (by decide) rfl ?_
  exact z_lv [2, 3, 1, 0] _ rfl (hL4 zFuel p0 (0 : Int32) (0 : Int32) M hF)
/-! SunnyPans.rowOf -/
set_option maxRecDepth 100000 in
theorem wd_1052 : Cond.code yX9_sunOf cX9_sunOf 4 (some .int) ∈ tbG := tw4 232 rfl rfl
set_option maxRecDepth 100000 in
theorem wd_1049 : Cond.methodLink "SunnyPans" 224 yX9_sunOf ∈ tbG := tw4 229 rfl rfl
set_option maxRecDepth 100000 in
theorem wd_1051 : Cond.instanceMethod yX9_sunOf ∈ tbG := tw4 231 rfl rfl
theorem wd_26 : Cond.selects "SunnyPans" yX9_sunOf yX9_sunOf ∈ tbG := tw 26 (by decide +kernel) rfl
theorem cv_SunnyPans_224 : zCV "SunnyPans" 224 "SunnyPans" yX9_sunOf cX9_sunOf 4 (some .int) 1 := zCV_of wd_1049 wd_1051 wd_26 wd_101 wd_1052 (by decide +kernel)
set_option maxRecDepth 100000 in
theorem wd_189 : Cond.fieldLink "SunnyPans" 184 "SunnyPans$Pans" "grams" "[I" ∈ tbG := tw1 89 rfl rfl
theorem fg_SunnyPans_184 : zGetR "SunnyPans" 184 4 5 2 3 := ⟨RX4, TX4, 7, rfl, by decide, uw_4, wd_189, fun _ _ _ _ _ _ => ⟨_, rfl, rfl⟩⟩
set_option maxRecDepth 100000 in
theorem wd_1048 : Cond.methodLink "SunnyPans" 220 yX9_heightOf ∈ tbG := tw4 228 rfl rfl
theorem cs_SunnyPans_220 : zCS "SunnyPans" 220 yX9_heightOf cX9_heightOf 1 (some .int) 1 := zCS_of wd_1048 wd_760 wd_101 wd_761 (by decide +kernel)
set_option maxRecDepth 100000 in
theorem wd_1047 : Cond.code yX9_strengthOf cX9_strengthOf 3 (some .int) ∈ tbG := tw4 227 rfl rfl
set_option maxRecDepth 100000 in
theorem wd_1045 : Cond.methodLink "SunnyPans" 217 yX9_strengthOf ∈ tbG := tw4 225 rfl rfl
set_option maxRecDepth 100000 in
theorem wd_1046 : Cond.static yX9_strengthOf ∈ tbG := tw4 226 rfl rfl
theorem cs_SunnyPans_217 : zCS "SunnyPans" 217 yX9_strengthOf cX9_strengthOf 3 (some .int) 2 := zCS_of wd_1045 wd_1046 wd_101 wd_1047 (by decide +kernel)
set_option maxRecDepth 100000 in
theorem wd_1068 : Cond.methodLink "SunnyPans" 255 yX9_within ∈ tbG := tw5 8 rfl rfl
theorem cs_SunnyPans_255 : zCS "SunnyPans" 255 yX9_within cX9_within 3 (some .boolean) 3 := zCS_of wd_1068 wd_708 wd_101 wd_709 (by decide +kernel)
set_option maxRecDepth 100000 in
theorem wd_322 : Cond.fieldLink "SunnyPans" 165 "SunnyPans$Plan" "high" "I" ∈ tbG := tw1 222 rfl rfl
theorem fg_SunnyPans_165 : zGetI "SunnyPans" 165 5 6 1 := ⟨RX5, TX5, 9, rfl, by decide, uw_5, wd_322, fun _ _ _ _ _ _ => ⟨_, rfl, rfl⟩⟩
set_option maxRecDepth 100000 in
theorem wd_1083 : Cond.constantLong "SunnyPans" 465 (255) ∈ tbG := tw5 23 rfl rfl
theorem d_X9_rowOf_0 : decode cX9_rowOf 0 = .ok (.lload_n 0, 1) := by decide +kernel
theorem d_X9_rowOf_1 : decode cX9_rowOf 1 = .ok (.iload_n 2, 1) := by decide +kernel
theorem d_X9_rowOf_2 : decode cX9_rowOf 2 = .ok (.bipush 8, 2) := by decide +kernel
theorem d_X9_rowOf_4 : decode cX9_rowOf 4 = .ok (.imul, 1) := by decide +kernel
theorem d_X9_rowOf_5 : decode cX9_rowOf 5 = .ok (.lushr, 1) := by decide +kernel
theorem d_X9_rowOf_6 : decode cX9_rowOf 6 = .ok (.ldc2_w 465, 3) := by decide +kernel
theorem d_X9_rowOf_9 : decode cX9_rowOf 9 = .ok (.land, 1) := by decide +kernel
theorem d_X9_rowOf_10 : decode cX9_rowOf 10 = .ok (.l2i, 1) := by decide +kernel
theorem d_X9_rowOf_11 : decode cX9_rowOf 11 = .ok (.ireturn, 1) := by decide +kernel
def F_X9_rowOf (M : zMem) (p0 : Int64) (p1 : Int32) : Option (Int32 × zMem) :=
  some (((p0.toUInt64 >>> ((p1 * (8 : Int32)).toInt64.toUInt64 &&& Int64.toUInt64 63)).toInt64 &&& (255 : Int64)).toInt32, M)
def rm_X9_rowOf : Room := { frames := 2, cells := 0, slots := 0, locals := 80 }
set_option maxHeartbeats 4000000 in
set_option maxRecDepth 100000 in
theorem c_X9_rowOf (l : Launch) {G : zG} {ad : Nat → Nat} {n : Nat} (hA : zInj ad n) (M : zMem) (p0 : Int64) (p1 : Int32) {r9 : Int32} {M9 : zMem} (hF : F_X9_rowOf M p0 p1 = some (r9, M9)) : zM l yX9_rowOf cX9_rowOf 3 (some .int) rm_X9_rowOf G shX ad n M [.long p0, .int p1] (some (.int r9)) M9 := by
  refine zM_of hA (by decide +kernel) (lv := [(0, .long p0), (2, .int p1)]) (Nat.le_of_ble_eq_true rfl) rfl (fun p e s m args below meth c A cx hr => ?_)
  unfold F_X9_rowOf at hF
  refine z_lload_n cx d_X9_rowOf_0 0 rfl ?_
  refine z_iload_n cx d_X9_rowOf_1 1 rfl ?_
  refine z_bipush (v := 8) cx d_X9_rowOf_2 kb_8 ?_
  refine z_imul cx d_X9_rowOf_4 ?_
  refine z_lushr cx d_X9_rowOf_5 ?_
  refine z_ldc2 cx wd_1083 d_X9_rowOf_6 ?_
  refine z_land cx d_X9_rowOf_9 ?_
  refine z_l2i cx d_X9_rowOf_10 ?_
  exact z_iret cx hr rfl hF d_X9_rowOf_11
/-! SunnyPans.givenOf -/
theorem tfX_10_172 {n k : Nat} (h : zT shX n k 10) : zT shX n (k + 172) 1 := zT_off h (shX_f (by decide) (by decide +kernel)) (by decide) (by decide)
set_option maxRecDepth 100000 in
theorem wd_415 : Cond.fieldLink "SunnyPans" 51 "SunnyPans" "best" "LSunnyPans$Best;" ∈ tbG := tw2 75 rfl rfl
theorem fg_SunnyPans_51 : zGetR "SunnyPans" 51 9 10 6 172 := ⟨RX9, TX9, 19, rfl, by decide, uw_9, wd_415, fun _ _ _ _ _ _ => ⟨_, rfl, rfl⟩⟩
set_option maxRecDepth 100000 in
theorem wd_1135 : Cond.code yX0_placeOrAmount cX0_placeOrAmount 2 (some .int) ∈ tbG := tw5 75 rfl rfl
set_option maxRecDepth 100000 in
theorem wd_1132 : Cond.methodLink "SunnyPans" 263 yX0_placeOrAmount ∈ tbG := tw5 72 rfl rfl
set_option maxRecDepth 100000 in
theorem wd_1133 : Cond.instanceMethod yX0_placeOrAmount ∈ tbG := tw5 73 rfl rfl
set_option maxRecDepth 100000 in
theorem wd_1134 : Cond.selects "SunnyPans$Best" yX0_placeOrAmount yX0_placeOrAmount ∈ tbG := tw5 74 rfl rfl
set_option maxRecDepth 100000 in
theorem wd_107 : Cond.initialized "SunnyPans$Best" ∈ tbG := tw1 7 rfl rfl
theorem cv_SunnyPans_263 : zCV "SunnyPans" 263 "SunnyPans$Best" yX0_placeOrAmount cX0_placeOrAmount 2 (some .int) 1 := zCV_of wd_1132 wd_1133 wd_1134 wd_107 wd_1135 (by decide +kernel)
theorem zo_1 : zObj "SunnyPans$Best" 1 := ⟨0, (RX0, TX0, 2), rfl, rfl, fun _ _ _ _ _ _ => ⟨_, rfl⟩⟩
set_option maxRecDepth 100000 in
theorem wd_1199 : Cond.code yX0_offerMost cX0_offerMost 3 none ∈ tbG := tw5 139 rfl rfl
set_option maxRecDepth 100000 in
theorem wd_1196 : Cond.methodLink "SunnyPans" 260 yX0_offerMost ∈ tbG := tw5 136 rfl rfl
set_option maxRecDepth 100000 in
theorem wd_1197 : Cond.instanceMethod yX0_offerMost ∈ tbG := tw5 137 rfl rfl
set_option maxRecDepth 100000 in
theorem wd_1198 : Cond.selects "SunnyPans$Best" yX0_offerMost yX0_offerMost ∈ tbG := tw5 138 rfl rfl
theorem cv_SunnyPans_260 : zCV "SunnyPans" 260 "SunnyPans$Best" yX0_offerMost cX0_offerMost 3 none 2 := zCV_of wd_1196 wd_1197 wd_1198 wd_107 wd_1199 (by decide +kernel)
set_option maxRecDepth 100000 in
theorem wd_318 : Cond.fieldLink "SunnyPans" 162 "SunnyPans$Plan" "wide" "I" ∈ tbG := tw1 218 rfl rfl
theorem fg_SunnyPans_162 : zGetI "SunnyPans" 162 5 6 0 := ⟨RX5, TX5, 9, rfl, by decide, uw_5, wd_318, fun _ _ _ _ _ _ => ⟨_, rfl, rfl⟩⟩
set_option maxRecDepth 100000 in
theorem wd_1044 : Cond.methodLink "SunnyPans" 213 yX9_placeOf ∈ tbG := tw4 224 rfl rfl
theorem cs_SunnyPans_213 : zCS "SunnyPans" 213 yX9_placeOf cX9_placeOf 2 (some .int) 2 := zCS_of wd_1044 wd_310 wd_101 wd_311 (by decide +kernel)
set_option maxRecDepth 100000 in
theorem wd_1294 : Cond.methodLink "SunnyPans" 270 yX4_canScrape ∈ tbG := tw5 234 rfl rfl
theorem cv_SunnyPans_270 : zCV "SunnyPans" 270 "SunnyPans$Pans" yX4_canScrape cX4_canScrape 3 (some .boolean) 2 := zCV_of wd_1294 wd_913 wd_914 wd_104 wd_915 (by decide +kernel)
set_option maxRecDepth 100000 in
theorem wd_1334 : Cond.methodLink "SunnyPans" 274 Lib.Math.abs.name ∈ tbG := tw6 34 rfl rfl
set_option maxRecDepth 100000 in
theorem wd_1335 : Cond.static Lib.Math.abs.name ∈ tbG := tw6 35 rfl rfl
set_option maxRecDepth 100000 in
theorem wd_1336 : Cond.code Lib.Math.abs.name Lib.Math.abs.code 1 (some .int) ∈ tbG := tw6 36 rfl rfl
set_option maxRecDepth 100000 in
theorem wd_1131 : Cond.code yX0_offerLeast cX0_offerLeast 3 none ∈ tbG := tw5 71 rfl rfl
set_option maxRecDepth 100000 in
theorem wd_1128 : Cond.methodLink "SunnyPans" 279 yX0_offerLeast ∈ tbG := tw5 68 rfl rfl
set_option maxRecDepth 100000 in
theorem wd_1129 : Cond.instanceMethod yX0_offerLeast ∈ tbG := tw5 69 rfl rfl
set_option maxRecDepth 100000 in
theorem wd_1130 : Cond.selects "SunnyPans$Best" yX0_offerLeast yX0_offerLeast ∈ tbG := tw5 70 rfl rfl
theorem cv_SunnyPans_279 : zCV "SunnyPans" 279 "SunnyPans$Best" yX0_offerLeast cX0_offerLeast 3 none 2 := zCV_of wd_1128 wd_1129 wd_1130 wd_107 wd_1131 (by decide +kernel)
theorem d_X9_givenOf_0 : decode cX9_givenOf 0 = .ok (.iconst 0, 1) := by decide +kernel
theorem d_X9_givenOf_1 : decode cX9_givenOf 1 = .ok (.istore 4, 2) := by decide +kernel
theorem d_X9_givenOf_3 : decode cX9_givenOf 3 = .ok (.iconst 0, 1) := by decide +kernel
theorem d_X9_givenOf_4 : decode cX9_givenOf 4 = .ok (.istore 5, 2) := by decide +kernel
theorem d_X9_givenOf_6 : decode cX9_givenOf 6 = .ok (.iload 5, 2) := by decide +kernel
theorem d_X9_givenOf_8 : decode cX9_givenOf 8 = .ok (.aload_n 0, 1) := by decide +kernel
theorem d_X9_givenOf_9 : decode cX9_givenOf 9 = .ok (.getfield 62, 3) := by decide +kernel
theorem d_X9_givenOf_12 : decode cX9_givenOf 12 = .ok (.getfield 162, 3) := by decide +kernel
theorem d_X9_givenOf_15 : decode cX9_givenOf 15 = .ok (.if_icmp .ge 44, 3) := by decide +kernel
theorem d_X9_givenOf_18 : decode cX9_givenOf 18 = .ok (.iload_n 2, 1) := by decide +kernel
theorem d_X9_givenOf_19 : decode cX9_givenOf 19 = .ok (.iload 5, 2) := by decide +kernel
theorem d_X9_givenOf_21 : decode cX9_givenOf 21 = .ok (.ishr, 1) := by decide +kernel
theorem d_X9_givenOf_22 : decode cX9_givenOf 22 = .ok (.iconst 1, 1) := by decide +kernel
theorem d_X9_givenOf_23 : decode cX9_givenOf 23 = .ok (.iand, 1) := by decide +kernel
theorem d_X9_givenOf_24 : decode cX9_givenOf 24 = .ok (.ifCond .eq 29, 3) := by decide +kernel
theorem d_X9_givenOf_27 : decode cX9_givenOf 27 = .ok (.iload 4, 2) := by decide +kernel
theorem d_X9_givenOf_29 : decode cX9_givenOf 29 = .ok (.aload_n 0, 1) := by decide +kernel
theorem d_X9_givenOf_30 : decode cX9_givenOf 30 = .ok (.getfield 19, 3) := by decide +kernel
theorem d_X9_givenOf_33 : decode cX9_givenOf 33 = .ok (.getfield 159, 3) := by decide +kernel
theorem d_X9_givenOf_36 : decode cX9_givenOf 36 = .ok (.getfield 174, 3) := by decide +kernel
theorem d_X9_givenOf_39 : decode cX9_givenOf 39 = .ok (.iload 5, 2) := by decide +kernel
theorem d_X9_givenOf_41 : decode cX9_givenOf 41 = .ok (.iload_n 1, 1) := by decide +kernel
theorem d_X9_givenOf_42 : decode cX9_givenOf 42 = .ok (.invokestatic 213, 3) := by decide +kernel
theorem d_X9_givenOf_45 : decode cX9_givenOf 45 = .ok (.iaload, 1) := by decide +kernel
theorem d_X9_givenOf_46 : decode cX9_givenOf 46 = .ok (.iload_n 3, 1) := by decide +kernel
theorem d_X9_givenOf_47 : decode cX9_givenOf 47 = .ok (.invokestatic 290, 3) := by decide +kernel
theorem d_X9_givenOf_50 : decode cX9_givenOf 50 = .ok (.iadd, 1) := by decide +kernel
theorem d_X9_givenOf_51 : decode cX9_givenOf 51 = .ok (.istore 4, 2) := by decide +kernel
theorem d_X9_givenOf_53 : decode cX9_givenOf 53 = .ok (.iinc 5 1, 3) := by decide +kernel
theorem d_X9_givenOf_56 : decode cX9_givenOf 56 = .ok (.goto (-50), 3) := by decide +kernel
theorem d_X9_givenOf_59 : decode cX9_givenOf 59 = .ok (.iload 4, 2) := by decide +kernel
theorem d_X9_givenOf_61 : decode cX9_givenOf 61 = .ok (.ireturn, 1) := by decide +kernel
def F_X9_givenOf_53 (p0 : Int32) (p1 : Int32) (p2 : Int32) (self6 : Int32 → Int32 → Int32 → Int32 → Int32 → zMem → Option (Int32 × zMem)) (b53_L1 : Int32) (b53_L2 : Int32) (b53_L3 : Int32) (b53_L4 : Int32) (b53_L5 : Int32) (M : zMem) : Option (Int32 × zMem) :=
  self6 b53_L1 b53_L2 b53_L3 b53_L4 (b53_L5 + 1) M
def F_X9_givenOf_6 (p0 : Int32) (p1 : Int32) (p2 : Int32) (self6 : Int32 → Int32 → Int32 → Int32 → Int32 → zMem → Option (Int32 × zMem)) (b6_L1 : Int32) (b6_L2 : Int32) (b6_L3 : Int32) (b6_L4 : Int32) (b6_L5 : Int32) (M : zMem) : Option (Int32 × zMem) :=
  gd (shX (M.2.2 0 8) == 6) <|
  if (M.1 (M.2.2 0 8) 0) ≤ b6_L5 then
    some (b6_L4, M)
  else
    if ((b6_L2 >>> (b6_L5 &&& 31)) &&& (1 : Int32)) = 0 then
      F_X9_givenOf_53 p0 p1 p2 self6 b6_L1 b6_L2 b6_L3 b6_L4 b6_L5 M
    else
      zb (F_X9_placeOf M b6_L5 b6_L1) fun v3 M2 =>
      gin v3 64 <|
      zl (b6_L4 + (zmin (M2.1 5 v3.toNatClampNeg) b6_L3)) fun v5 =>
      F_X9_givenOf_53 p0 p1 p2 self6 b6_L1 b6_L2 b6_L3 v5 b6_L5 M2
def F_X9_givenOf (M : zMem) (p0 : Int32) (p1 : Int32) (p2 : Int32) : Option (Int32 × zMem) :=
  itF (fun _ _ _ _ _ _ => none) (F_X9_givenOf_6 p0 p1 p2) zFuel p0 p1 p2 (0 : Int32) (0 : Int32) M
def rm_X9_givenOf : Room := { frames := 3, cells := 0, slots := 0, locals := 101 }
set_option maxHeartbeats 4000000 in
set_option maxRecDepth 100000 in
theorem c_X9_givenOf (l : Launch) {G : zG} {ad : Nat → Nat} {n : Nat} (hA : zInj ad n) (M : zMem) (p0 : Int32) (p1 : Int32) (p2 : Int32) (hT : zT shX n 0 10) {r9 : Int32} {M9 : zMem} (hF : F_X9_givenOf M p0 p1 p2 = some (r9, M9)) : zM l yX9_givenOf cX9_givenOf 6 (some .int) rm_X9_givenOf G shX ad n M [.ref (ad 0), .int p0, .int p1, .int p2] (some (.int r9)) M9 := by
  refine zM_of hA (by decide +kernel) (lv := [(0, .ref (ad 0)), (1, .int p0), (2, .int p1), (3, .int p2)]) (Nat.le_of_ble_eq_true rfl) rfl (fun p e s m args below meth c A cx hr => ?_)
  have hb53 : ∀ (self6 : Int32 → Int32 → Int32 → Int32 → Int32 → zMem → Option (Int32 × zMem)) (hs6 : ∀ (b6_L1 : Int32) (b6_L2 : Int32) (b6_L3 : Int32) (b6_L4 : Int32) (b6_L5 : Int32) (M : zMem), self6 b6_L1 b6_L2 b6_L3 b6_L4 b6_L5 M = some (r9, M9) → zJ p l e rm_X9_givenOf s m args below meth c G shX ad n A 6 (MQ below (zQ G shX ad n M9 (some (.int r9)) A) args s 0 0 A) 0 0 M 6 [(0, .ref (ad 0)), (1, .int b6_L1), (2, .int b6_L2), (3, .int b6_L3), (4, .int b6_L4), (5, .int b6_L5)] []), ∀ (b53_L1 : Int32) (b53_L2 : Int32) (b53_L3 : Int32) (b53_L4 : Int32) (b53_L5 : Int32) (M : zMem), F_X9_givenOf_53 p0 p1 p2 self6 b53_L1 b53_L2 b53_L3 b53_L4 b53_L5 M = some (r9, M9) → zJ p l e rm_X9_givenOf s m args below meth c G shX ad n A 6 (MQ below (zQ G shX ad n M9 (some (.int r9)) A) args s 0 0 A) 0 0 M 53 [(0, .ref (ad 0)), (1, .int b53_L1), (2, .int b53_L2), (3, .int b53_L3), (4, .int b53_L4), (5, .int b53_L5)] [] := by
    intro self6 hs6 b53_L1 b53_L2 b53_L3 b53_L4 b53_L5 M hF
    unfold F_X9_givenOf_53 at hF
    refine z_iinc cx 5 1 [(5, .int (b53_L5 + 1)), (0, .ref (ad 0)), (1, .int b53_L1), (2, .int b53_L2), (3, .int b53_L3), (4, .int b53_L4)] d_X9_givenOf_53 5 rfl ki_1 (by decide) rfl ?_
    refine z_goto cx 6 d_X9_givenOf_56 (by decide) ?_
    exact z_lv [1, 2, 3, 4, 5, 0] _ rfl (hs6 b53_L1 b53_L2 b53_L3 b53_L4 (b53_L5 + 1) M hF)
  have hL6 : ∀ (fuel : Nat), ∀ (b6_L1 : Int32) (b6_L2 : Int32) (b6_L3 : Int32) (b6_L4 : Int32) (b6_L5 : Int32) (M : zMem), itF (fun _ _ _ _ _ _ => none) (F_X9_givenOf_6 p0 p1 p2) fuel b6_L1 b6_L2 b6_L3 b6_L4 b6_L5 M = some (r9, M9) → zJ p l e rm_X9_givenOf s m args below meth c G shX ad n A 6 (MQ below (zQ G shX ad n M9 (some (.int r9)) A) args s 0 0 A) 0 0 M 6 [(0, .ref (ad 0)), (1, .int b6_L1), (2, .int b6_L2), (3, .int b6_L3), (4, .int b6_L4), (5, .int b6_L5)] [] := by
    intro fuel
    induction fuel with
    | zero => intro b6_L1 b6_L2 b6_L3 b6_L4 b6_L5 M hF; cases hF
    | succ fuel hs6 =>
      intro b6_L1 b6_L2 b6_L3 b6_L4 b6_L5 M hF
      have hF : F_X9_givenOf_6 p0 p1 p2 (itF (fun _ _ _ _ _ _ => none) (F_X9_givenOf_6 p0 p1 p2) fuel) b6_L1 b6_L2 b6_L3 b6_L4 b6_L5 M = some (r9, M9) := hF
      generalize itF (fun _ _ _ _ _ _ => none) (F_X9_givenOf_6 p0 p1 p2) fuel = self6 at hs6 hF
      unfold F_X9_givenOf_6 at hF
      refine z_iload cx d_X9_givenOf_6 5 rfl ?_
      refine z_aload_n cx d_X9_givenOf_8 0 rfl ?_
      obtain ⟨hg1, hF⟩ := gd_inv hF
      refine z_getD cx hT fg_SunnyPans_62 d_X9_givenOf_9 ?_
      refine z_getI cx (td_6 hT hg1) fg_SunnyPans_162 d_X9_givenOf_12 ?_
      refine z_icmp_ge cx 59 d_X9_givenOf_15 (by decide) hF (fun hF => ?_) (fun hF => ?_)
      · refine z_iload cx d_X9_givenOf_59 4 rfl ?_
        exact z_iret cx hr rfl hF d_X9_givenOf_61
      refine z_iload_n cx d_X9_givenOf_18 2 rfl ?_
      refine z_iload cx d_X9_givenOf_19 5 rfl ?_
      refine z_ishr cx d_X9_givenOf_21 ?_
      refine z_iconst (v := 1) cx d_X9_givenOf_22 ki_1 ?_
      refine z_iand cx d_X9_givenOf_23 ?_
      refine z_if_eq cx 53 d_X9_givenOf_24 (by decide) hF (fun hF => ?_) (fun hF => ?_)
      · exact hb53 self6 hs6 b6_L1 b6_L2 b6_L3 b6_L4 b6_L5 M hF
      refine z_iload cx d_X9_givenOf_27 4 rfl ?_
      refine z_aload_n cx d_X9_givenOf_29 0 rfl ?_
      refine z_getR cx hT fg_SunnyPans_19 3 rfl d_X9_givenOf_30 ?_
      refine z_getR cx (tfX_10_3 hT) fg_SunnyPans_159 4 rfl d_X9_givenOf_33 ?_
      refine z_getR cx (tfX_8_1 (tfX_10_3 hT)) fg_SunnyPans_174 5 rfl d_X9_givenOf_36 ?_
      refine z_iload cx d_X9_givenOf_39 5 rfl ?_
      refine z_iload_n cx d_X9_givenOf_41 1 rfl ?_
      obtain ⟨v3, M2, hc, hF⟩ := zb_inv hF
      refine z_callS cx (As := [.int b6_L5, .int b6_L1]) (rest := [.ref (ad 5), .int b6_L4]) (c_X9_placeOf l cx.2.2.2.1.1 M b6_L5 b6_L1  hc) cs_SunnyPans_213 ⟨rfl, rfl, Nat.le_of_ble_eq_true rfl, Nat.le_of_ble_eq_true rfl⟩ rfl rfl ⟨Nat.zero_le _, Nat.zero_le _⟩ (Nat.le_of_ble_eq_true rfl) d_X9_givenOf_42 ?_
      obtain ⟨hi4, hF⟩ := gin_inv hF
      refine z_iald cx (tfX_5_1 (tfX_8_1 (tfX_10_3 hT))) za_16 hi4 v3.toNatClampNeg rfl d_X9_givenOf_45 ?_
      refine z_iload_n cx d_X9_givenOf_46 3 rfl ?_
      refine z_mmin cx ⟨wd_949, wd_602, wd_116, wd_603⟩ ⟨Nat.le_of_ble_eq_true rfl, Nat.le_of_ble_eq_true rfl, Nat.zero_le _, Nat.zero_le _⟩ d_X9_givenOf_47 ?_
      refine z_iadd cx d_X9_givenOf_50 ?_
      refine z_nm hF (fun v5 hF => ?_)
      refine z_istore cx 4 [(4, .int v5), (0, .ref (ad 0)), (1, .int b6_L1), (2, .int b6_L2), (3, .int b6_L3), (5, .int b6_L5)] d_X9_givenOf_51 (by decide) rfl ?_
      exact z_lv [1, 2, 3, 4, 0, 5] _ rfl (hb53 self6 hs6 b6_L1 b6_L2 b6_L3 v5 b6_L5 M2 hF)
  unfold F_X9_givenOf at hF
  refine z_iconst (v := 0) cx d_X9_givenOf_0 ki_0 ?_
  refine z_istore cx 4 [(4, .int (0 : Int32)), (0, .ref (ad 0)), (1, .int p0), (2, .int p1), (3, .int p2)] d_X9_givenOf_1 (by decide) rfl ?_
  refine z_iconst (v := 0) cx d_X9_givenOf_3 ki_0 ?_
  refine z_istore cx 5 [(5, .int (0 : Int32)), (4, .int (0 : Int32)), (0, .ref (ad 0)), (1, .int p0), (2, .int p1), (3, .int p2)] d_X9_givenOf_4 (by decide) rfl ?_
  exact z_lv [2, 3, 4, 5, 1, 0] _ rfl (hL6 zFuel p0 p1 p2 (0 : Int32) (0 : Int32) M hF)
/-! SunnyPans.spread -/
set_option maxRecDepth 100000 in
theorem wd_1264 : Cond.code yX9_givenOf cX9_givenOf 6 (some .int) ∈ tbG := tw5 204 rfl rfl
set_option maxRecDepth 100000 in
theorem wd_1261 : Cond.methodLink "SunnyPans" 286 yX9_givenOf ∈ tbG := tw5 201 rfl rfl
set_option maxRecDepth 100000 in
theorem wd_1263 : Cond.instanceMethod yX9_givenOf ∈ tbG := tw5 203 rfl rfl
theorem wd_37 : Cond.selects "SunnyPans" yX9_givenOf yX9_givenOf ∈ tbG := tw 37 (by decide +kernel) rfl
theorem cv_SunnyPans_286 : zCV "SunnyPans" 286 "SunnyPans" yX9_givenOf cX9_givenOf 6 (some .int) 3 := zCV_of wd_1261 wd_1263 wd_37 wd_101 wd_1264 (by decide +kernel)
set_option maxRecDepth 100000 in
theorem wd_1212 : Cond.constantLong "SunnyPans" 305 (9187201950435737471) ∈ tbG := tw5 152 rfl rfl
theorem d_X9_spread_0 : decode cX9_spread 0 = .ok (.lload_n 0, 1) := by decide +kernel
theorem d_X9_spread_1 : decode cX9_spread 1 = .ok (.iconst 1, 1) := by decide +kernel
theorem d_X9_spread_2 : decode cX9_spread 2 = .ok (.lushr, 1) := by decide +kernel
theorem d_X9_spread_3 : decode cX9_spread 3 = .ok (.ldc2_w 305, 3) := by decide +kernel
theorem d_X9_spread_6 : decode cX9_spread 6 = .ok (.land, 1) := by decide +kernel
theorem d_X9_spread_7 : decode cX9_spread 7 = .ok (.lstore 4, 2) := by decide +kernel
theorem d_X9_spread_9 : decode cX9_spread 9 = .ok (.lload_n 0, 1) := by decide +kernel
theorem d_X9_spread_10 : decode cX9_spread 10 = .ok (.ldc2_w 305, 3) := by decide +kernel
theorem d_X9_spread_13 : decode cX9_spread 13 = .ok (.land, 1) := by decide +kernel
theorem d_X9_spread_14 : decode cX9_spread 14 = .ok (.iconst 1, 1) := by decide +kernel
theorem d_X9_spread_15 : decode cX9_spread 15 = .ok (.lshl, 1) := by decide +kernel
theorem d_X9_spread_16 : decode cX9_spread 16 = .ok (.lstore 6, 2) := by decide +kernel
theorem d_X9_spread_18 : decode cX9_spread 18 = .ok (.lload_n 0, 1) := by decide +kernel
theorem d_X9_spread_19 : decode cX9_spread 19 = .ok (.lload 4, 2) := by decide +kernel
theorem d_X9_spread_21 : decode cX9_spread 21 = .ok (.lor, 1) := by decide +kernel
theorem d_X9_spread_22 : decode cX9_spread 22 = .ok (.lload 6, 2) := by decide +kernel
theorem d_X9_spread_24 : decode cX9_spread 24 = .ok (.lor, 1) := by decide +kernel
theorem d_X9_spread_25 : decode cX9_spread 25 = .ok (.lload_n 0, 1) := by decide +kernel
theorem d_X9_spread_26 : decode cX9_spread 26 = .ok (.bipush 8, 2) := by decide +kernel
theorem d_X9_spread_28 : decode cX9_spread 28 = .ok (.lushr, 1) := by decide +kernel
theorem d_X9_spread_29 : decode cX9_spread 29 = .ok (.lor, 1) := by decide +kernel
theorem d_X9_spread_30 : decode cX9_spread 30 = .ok (.lload_n 0, 1) := by decide +kernel
theorem d_X9_spread_31 : decode cX9_spread 31 = .ok (.bipush 8, 2) := by decide +kernel
theorem d_X9_spread_33 : decode cX9_spread 33 = .ok (.lshl, 1) := by decide +kernel
theorem d_X9_spread_34 : decode cX9_spread 34 = .ok (.lor, 1) := by decide +kernel
theorem d_X9_spread_35 : decode cX9_spread 35 = .ok (.lload_n 2, 1) := by decide +kernel
theorem d_X9_spread_36 : decode cX9_spread 36 = .ok (.land, 1) := by decide +kernel
theorem d_X9_spread_37 : decode cX9_spread 37 = .ok (.lreturn, 1) := by decide +kernel
def F_X9_spread (M : zMem) (p0 : Int64) (p1 : Int64) : Option (Int64 × zMem) :=
  zl ((p0.toUInt64 >>> ((1 : Int32).toInt64.toUInt64 &&& Int64.toUInt64 63)).toInt64 &&& (9187201950435737471 : Int64)) fun v1 =>
  zl ((p0 &&& (9187201950435737471 : Int64)) <<< ((1 : Int32).toInt64 &&& 63)) fun v2 =>
  some ((((((p0 ||| v1) ||| v2) ||| (p0.toUInt64 >>> ((8 : Int32).toInt64.toUInt64 &&& Int64.toUInt64 63)).toInt64) ||| (p0 <<< ((8 : Int32).toInt64 &&& 63))) &&& p1), M)
def rm_X9_spread : Room := { frames := 2, cells := 0, slots := 0, locals := 80 }
set_option maxHeartbeats 4000000 in
set_option maxRecDepth 100000 in
theorem c_X9_spread (l : Launch) {G : zG} {ad : Nat → Nat} {n : Nat} (hA : zInj ad n) (M : zMem) (p0 : Int64) (p1 : Int64) {r9 : Int64} {M9 : zMem} (hF : F_X9_spread M p0 p1 = some (r9, M9)) : zM l yX9_spread cX9_spread 8 (some .long) rm_X9_spread G shX ad n M [.long p0, .long p1] (some (.long r9)) M9 := by
  refine zM_of hA (by decide +kernel) (lv := [(0, .long p0), (2, .long p1)]) (Nat.le_of_ble_eq_true rfl) rfl (fun p e s m args below meth c A cx hr => ?_)
  unfold F_X9_spread at hF
  refine z_lload_n cx d_X9_spread_0 0 rfl ?_
  refine z_iconst (v := 1) cx d_X9_spread_1 ki_1 ?_
  refine z_lushr cx d_X9_spread_2 ?_
  refine z_ldc2 cx wd_1212 d_X9_spread_3 ?_
  refine z_land cx d_X9_spread_6 ?_
  refine z_nml hF (fun v1 hF => ?_)
  refine z_lstore cx 4 [(4, .long v1), (0, .long p0), (2, .long p1)] d_X9_spread_7 (by decide) rfl ?_
  refine z_lload_n cx d_X9_spread_9 1 rfl ?_
  refine z_ldc2 cx wd_1212 d_X9_spread_10 ?_
  refine z_land cx d_X9_spread_13 ?_
  refine z_iconst (v := 1) cx d_X9_spread_14 ki_1 ?_
  refine z_lshl cx d_X9_spread_15 ?_
  refine z_nml hF (fun v2 hF => ?_)
  refine z_lstore cx 6 [(6, .long v2), (4, .long v1), (0, .long p0), (2, .long p1)] d_X9_spread_16 (by decide) rfl ?_
  refine z_lload_n cx d_X9_spread_18 2 rfl ?_
  refine z_lload cx d_X9_spread_19 1 rfl ?_
  refine z_lor cx d_X9_spread_21 ?_
  refine z_lload cx d_X9_spread_22 0 rfl ?_
  refine z_lor cx d_X9_spread_24 ?_
  refine z_lload_n cx d_X9_spread_25 2 rfl ?_
  refine z_bipush (v := 8) cx d_X9_spread_26 kb_8 ?_
  refine z_lushr cx d_X9_spread_28 ?_
  refine z_lor cx d_X9_spread_29 ?_
  refine z_lload_n cx d_X9_spread_30 2 rfl ?_
  refine z_bipush (v := 8) cx d_X9_spread_31 kb_8 ?_
  refine z_lshl cx d_X9_spread_33 ?_
  refine z_lor cx d_X9_spread_34 ?_
  refine z_lload_n cx d_X9_spread_35 3 rfl ?_
  refine z_land cx d_X9_spread_36 ?_
  exact z_lret cx hr hF d_X9_spread_37
/-! SunnyPans.dryingOf -/
set_option maxRecDepth 100000 in
theorem wd_1211 : Cond.code yX9_spread cX9_spread 8 (some .long) ∈ tbG := tw5 151 rfl rfl
set_option maxRecDepth 100000 in
theorem wd_1209 : Cond.methodLink "SunnyPans" 301 yX9_spread ∈ tbG := tw5 149 rfl rfl
set_option maxRecDepth 100000 in
theorem wd_1210 : Cond.static yX9_spread ∈ tbG := tw5 150 rfl rfl
theorem cs_SunnyPans_301 : zCS "SunnyPans" 301 yX9_spread cX9_spread 8 (some .long) 2 := zCS_of wd_1209 wd_1210 wd_101 wd_1211 (by decide +kernel)
theorem tfX_10_99 {n k : Nat} (h : zT shX n k 10) : zT shX n (k + 99) 5 := zT_off h (shX_f (by decide) (by decide +kernel)) (by decide) (by decide)
set_option maxRecDepth 100000 in
theorem wd_413 : Cond.fieldLink "SunnyPans" 37 "SunnyPans" "trial" "LSunnyPans$Pans;" ∈ tbG := tw2 73 rfl rfl
theorem fg_SunnyPans_37 : zGetR "SunnyPans" 37 9 10 4 99 := ⟨RX9, TX9, 19, rfl, by decide, uw_9, wd_413, fun _ _ _ _ _ _ => ⟨_, rfl, rfl⟩⟩
theorem d_X9_dryingOf_0 : decode cX9_dryingOf 0 = .ok (.aload_n 0, 1) := by decide +kernel
theorem d_X9_dryingOf_1 : decode cX9_dryingOf 1 = .ok (.getfield 19, 3) := by decide +kernel
theorem d_X9_dryingOf_4 : decode cX9_dryingOf 4 = .ok (.getfield 159, 3) := by decide +kernel
theorem d_X9_dryingOf_7 : decode cX9_dryingOf 7 = .ok (.astore_n 3, 1) := by decide +kernel
theorem d_X9_dryingOf_8 : decode cX9_dryingOf 8 = .ok (.aload_n 3, 1) := by decide +kernel
theorem d_X9_dryingOf_9 : decode cX9_dryingOf 9 = .ok (.getfield 174, 3) := by decide +kernel
theorem d_X9_dryingOf_12 : decode cX9_dryingOf 12 = .ok (.iload_n 1, 1) := by decide +kernel
theorem d_X9_dryingOf_13 : decode cX9_dryingOf 13 = .ok (.iaload, 1) := by decide +kernel
theorem d_X9_dryingOf_14 : decode cX9_dryingOf 14 = .ok (.istore 4, 2) := by decide +kernel
theorem d_X9_dryingOf_16 : decode cX9_dryingOf 16 = .ok (.aload_n 3, 1) := by decide +kernel
theorem d_X9_dryingOf_17 : decode cX9_dryingOf 17 = .ok (.getfield 184, 3) := by decide +kernel
theorem d_X9_dryingOf_20 : decode cX9_dryingOf 20 = .ok (.iload_n 1, 1) := by decide +kernel
theorem d_X9_dryingOf_21 : decode cX9_dryingOf 21 = .ok (.iaload, 1) := by decide +kernel
theorem d_X9_dryingOf_22 : decode cX9_dryingOf 22 = .ok (.ifCond .le 5, 3) := by decide +kernel
theorem d_X9_dryingOf_25 : decode cX9_dryingOf 25 = .ok (.iconst (-1), 1) := by decide +kernel
theorem d_X9_dryingOf_26 : decode cX9_dryingOf 26 = .ok (.ireturn, 1) := by decide +kernel
theorem d_X9_dryingOf_27 : decode cX9_dryingOf 27 = .ok (.iload 4, 2) := by decide +kernel
theorem d_X9_dryingOf_29 : decode cX9_dryingOf 29 = .ok (.ifCond .ne 5, 3) := by decide +kernel
theorem d_X9_dryingOf_32 : decode cX9_dryingOf 32 = .ok (.iconst 0, 1) := by decide +kernel
theorem d_X9_dryingOf_33 : decode cX9_dryingOf 33 = .ok (.ireturn, 1) := by decide +kernel
theorem d_X9_dryingOf_34 : decode cX9_dryingOf 34 = .ok (.aload_n 3, 1) := by decide +kernel
theorem d_X9_dryingOf_35 : decode cX9_dryingOf 35 = .ok (.getfield 171, 3) := by decide +kernel
theorem d_X9_dryingOf_38 : decode cX9_dryingOf 38 = .ok (.istore 5, 2) := by decide +kernel
theorem d_X9_dryingOf_40 : decode cX9_dryingOf 40 = .ok (.aload_n 3, 1) := by decide +kernel
theorem d_X9_dryingOf_41 : decode cX9_dryingOf 41 = .ok (.getfield 168, 3) := by decide +kernel
theorem d_X9_dryingOf_44 : decode cX9_dryingOf 44 = .ok (.istore 6, 2) := by decide +kernel
theorem d_X9_dryingOf_46 : decode cX9_dryingOf 46 = .ok (.iconst 1, 1) := by decide +kernel
theorem d_X9_dryingOf_47 : decode cX9_dryingOf 47 = .ok (.istore 7, 2) := by decide +kernel
theorem d_X9_dryingOf_49 : decode cX9_dryingOf 49 = .ok (.iload 7, 2) := by decide +kernel
theorem d_X9_dryingOf_51 : decode cX9_dryingOf 51 = .ok (.iload_n 2, 1) := by decide +kernel
theorem d_X9_dryingOf_52 : decode cX9_dryingOf 52 = .ok (.if_icmp .gt 65, 3) := by decide +kernel
theorem d_X9_dryingOf_55 : decode cX9_dryingOf 55 = .ok (.aload_n 0, 1) := by decide +kernel
theorem d_X9_dryingOf_56 : decode cX9_dryingOf 56 = .ok (.getfield 62, 3) := by decide +kernel
theorem d_X9_dryingOf_59 : decode cX9_dryingOf 59 = .ok (.getfield 127, 3) := by decide +kernel
theorem d_X9_dryingOf_62 : decode cX9_dryingOf 62 = .ok (.ifCond .le 55, 3) := by decide +kernel
theorem d_X9_dryingOf_65 : decode cX9_dryingOf 65 = .ok (.iload 4, 2) := by decide +kernel
theorem d_X9_dryingOf_67 : decode cX9_dryingOf 67 = .ok (.aload_n 0, 1) := by decide +kernel
theorem d_X9_dryingOf_68 : decode cX9_dryingOf 68 = .ok (.aload_n 3, 1) := by decide +kernel
theorem d_X9_dryingOf_69 : decode cX9_dryingOf 69 = .ok (.iload_n 1, 1) := by decide +kernel
theorem d_X9_dryingOf_70 : decode cX9_dryingOf 70 = .ok (.iload 4, 2) := by decide +kernel
theorem d_X9_dryingOf_72 : decode cX9_dryingOf 72 = .ok (.iload 5, 2) := by decide +kernel
theorem d_X9_dryingOf_74 : decode cX9_dryingOf 74 = .ok (.iload 6, 2) := by decide +kernel
theorem d_X9_dryingOf_76 : decode cX9_dryingOf 76 = .ok (.invokevirtual 326, 3) := by decide +kernel
theorem d_X9_dryingOf_79 : decode cX9_dryingOf 79 = .ok (.isub, 1) := by decide +kernel
theorem d_X9_dryingOf_80 : decode cX9_dryingOf 80 = .ok (.istore 4, 2) := by decide +kernel
theorem d_X9_dryingOf_82 : decode cX9_dryingOf 82 = .ok (.iload 4, 2) := by decide +kernel
theorem d_X9_dryingOf_84 : decode cX9_dryingOf 84 = .ok (.ifCond .ne 6, 3) := by decide +kernel
theorem d_X9_dryingOf_87 : decode cX9_dryingOf 87 = .ok (.iload 7, 2) := by decide +kernel
theorem d_X9_dryingOf_89 : decode cX9_dryingOf 89 = .ok (.ireturn, 1) := by decide +kernel
theorem d_X9_dryingOf_90 : decode cX9_dryingOf 90 = .ok (.iinc 5 1, 3) := by decide +kernel
theorem d_X9_dryingOf_93 : decode cX9_dryingOf 93 = .ok (.iload 5, 2) := by decide +kernel
theorem d_X9_dryingOf_95 : decode cX9_dryingOf 95 = .ok (.aload_n 0, 1) := by decide +kernel
theorem d_X9_dryingOf_96 : decode cX9_dryingOf 96 = .ok (.getfield 62, 3) := by decide +kernel
theorem d_X9_dryingOf_99 : decode cX9_dryingOf 99 = .ok (.getfield 127, 3) := by decide +kernel
theorem d_X9_dryingOf_102 : decode cX9_dryingOf 102 = .ok (.if_icmp .lt 9, 3) := by decide +kernel
theorem d_X9_dryingOf_105 : decode cX9_dryingOf 105 = .ok (.iconst 0, 1) := by decide +kernel
theorem d_X9_dryingOf_106 : decode cX9_dryingOf 106 = .ok (.istore 5, 2) := by decide +kernel
theorem d_X9_dryingOf_108 : decode cX9_dryingOf 108 = .ok (.iinc 6 1, 3) := by decide +kernel
theorem d_X9_dryingOf_111 : decode cX9_dryingOf 111 = .ok (.iinc 7 1, 3) := by decide +kernel
theorem d_X9_dryingOf_114 : decode cX9_dryingOf 114 = .ok (.goto (-65), 3) := by decide +kernel
theorem d_X9_dryingOf_117 : decode cX9_dryingOf 117 = .ok (.iconst (-1), 1) := by decide +kernel
theorem d_X9_dryingOf_118 : decode cX9_dryingOf 118 = .ok (.ireturn, 1) := by decide +kernel
def F_X9_dryingOf_111 (p0 : Int32) (p1 : Int32) (self49 : Int32 → Int32 → Int32 → Int32 → Int32 → Int32 → zMem → Option (Int32 × zMem)) (b111_L1 : Int32) (b111_L2 : Int32) (b111_L4 : Int32) (b111_L5 : Int32) (b111_L6 : Int32) (b111_L7 : Int32) (M : zMem) : Option (Int32 × zMem) :=
  self49 b111_L1 b111_L2 b111_L4 b111_L5 b111_L6 (b111_L7 + 1) M
def F_X9_dryingOf_49 (p0 : Int32) (p1 : Int32) (self49 : Int32 → Int32 → Int32 → Int32 → Int32 → Int32 → zMem → Option (Int32 × zMem)) (b49_L1 : Int32) (b49_L2 : Int32) (b49_L4 : Int32) (b49_L5 : Int32) (b49_L6 : Int32) (b49_L7 : Int32) (M : zMem) : Option (Int32 × zMem) :=
  if b49_L2 < b49_L7 then
    some ((-1 : Int32), M)
  else
    gd (shX (M.2.2 0 8) == 6) <|
    if (M.1 (M.2.2 0 8) 2) ≤ 0 then
      some ((-1 : Int32), M)
    else
      zb (F_X9_lossOf M 4 b49_L1 b49_L4 b49_L5 b49_L6) fun v3 M2 =>
      zl (b49_L4 - v3) fun v4 =>
      if v4 = 0 then
        some (b49_L7, M2)
      else
        gd (shX (M2.2.2 0 8) == 6) <|
        if (b49_L5 + 1) < (M2.1 (M2.2.2 0 8) 2) then
          F_X9_dryingOf_111 p0 p1 self49 b49_L1 b49_L2 v4 (b49_L5 + 1) b49_L6 b49_L7 M2
        else
          F_X9_dryingOf_111 p0 p1 self49 b49_L1 b49_L2 v4 (0 : Int32) (b49_L6 + 1) b49_L7 M2
def F_X9_dryingOf (M : zMem) (p0 : Int32) (p1 : Int32) : Option (Int32 × zMem) :=
  gin p0 64 <|
  zl (M.1 5 p0.toNatClampNeg) fun v7 =>
  if (M.1 7 p0.toNatClampNeg) ≤ 0 then
    if v7 = 0 then
      some ((0 : Int32), M)
    else
      zl (M.1 4 5) fun v8 =>
      zl (M.1 4 4) fun v9 =>
      itF (fun _ _ _ _ _ _ _ => none) (F_X9_dryingOf_49 p0 p1) zFuel p0 p1 v7 v8 v9 (1 : Int32) M
  else
    some ((-1 : Int32), M)
def rm_X9_dryingOf : Room := { frames := 6, cells := 0, slots := 0, locals := 158 }
set_option maxHeartbeats 4000000 in
set_option maxRecDepth 100000 in
theorem c_X9_dryingOf (l : Launch) {G : zG} {ad : Nat → Nat} {n : Nat} (hA : zInj ad n) (M : zMem) (p0 : Int32) (p1 : Int32) (hT : zT shX n 0 10) {r9 : Int32} {M9 : zMem} (hF : F_X9_dryingOf M p0 p1 = some (r9, M9)) : zM l yX9_dryingOf cX9_dryingOf 8 (some .int) rm_X9_dryingOf G shX ad n M [.ref (ad 0), .int p0, .int p1] (some (.int r9)) M9 := by
  refine zM_of hA (by decide +kernel) (lv := [(0, .ref (ad 0)), (1, .int p0), (2, .int p1)]) (Nat.le_of_ble_eq_true rfl) rfl (fun p e s m args below meth c A cx hr => ?_)
  have hb111 : ∀ (self49 : Int32 → Int32 → Int32 → Int32 → Int32 → Int32 → zMem → Option (Int32 × zMem)) (hs49 : ∀ (b49_L1 : Int32) (b49_L2 : Int32) (b49_L4 : Int32) (b49_L5 : Int32) (b49_L6 : Int32) (b49_L7 : Int32) (M : zMem), self49 b49_L1 b49_L2 b49_L4 b49_L5 b49_L6 b49_L7 M = some (r9, M9) → zJ p l e rm_X9_dryingOf s m args below meth c G shX ad n A 8 (MQ below (zQ G shX ad n M9 (some (.int r9)) A) args s 0 0 A) 0 0 M 49 [(0, .ref (ad 0)), (1, .int b49_L1), (2, .int b49_L2), (3, .ref (ad 4)), (4, .int b49_L4), (5, .int b49_L5), (6, .int b49_L6), (7, .int b49_L7)] []), ∀ (b111_L1 : Int32) (b111_L2 : Int32) (b111_L4 : Int32) (b111_L5 : Int32) (b111_L6 : Int32) (b111_L7 : Int32) (M : zMem), F_X9_dryingOf_111 p0 p1 self49 b111_L1 b111_L2 b111_L4 b111_L5 b111_L6 b111_L7 M = some (r9, M9) → zJ p l e rm_X9_dryingOf s m args below meth c G shX ad n A 8 (MQ below (zQ G shX ad n M9 (some (.int r9)) A) args s 0 0 A) 0 0 M 111 [(0, .ref (ad 0)), (1, .int b111_L1), (2, .int b111_L2), (3, .ref (ad 4)), (4, .int b111_L4), (5, .int b111_L5), (6, .int b111_L6), (7, .int b111_L7)] [] := by
    intro self49 hs49 b111_L1 b111_L2 b111_L4 b111_L5 b111_L6 b111_L7 M hF
    unfold F_X9_dryingOf_111 at hF
    refine z_iinc cx 7 1 [(7, .int (b111_L7 + 1)), (0, .ref (ad 0)), (1, .int b111_L1), (2, .int b111_L2), (3, .ref (ad 4)), (4, .int b111_L4), (5, .int b111_L5), (6, .int b111_L6)] d_X9_dryingOf_111 7 rfl ki_1 (by decide) rfl ?_
    refine z_goto cx 49 d_X9_dryingOf_114 (by decide) ?_
    exact z_lv [1, 2, 3, 4, 5, 6, 7, 0] _ rfl (hs49 b111_L1 b111_L2 b111_L4 b111_L5 b111_L6 (b111_L7 + 1) M hF)
  have hL49 : ∀ (fuel : Nat), ∀ (b49_L1 : Int32) (b49_L2 : Int32) (b49_L4 : Int32) (b49_L5 : Int32) (b49_L6 : Int32) (b49_L7 : Int32) (M : zMem), itF (fun _ _ _ _ _ _ _ => none) (F_X9_dryingOf_49 p0 p1) fuel b49_L1 b49_L2 b49_L4 b49_L5 b49_L6 b49_L7 M = some (r9, M9) → zJ p l e rm_X9_dryingOf s m args below meth c G shX ad n A 8 (MQ below (zQ G shX ad n M9 (some (.int r9)) A) args s 0 0 A) 0 0 M 49 [(0, .ref (ad 0)), (1, .int b49_L1), (2, .int b49_L2), (3, .ref (ad 4)), (4, .int b49_L4), (5, .int b49_L5), (6, .int b49_L6), (7, .int b49_L7)] [] := by
    intro fuel
    induction fuel with
    | zero => intro b49_L1 b49_L2 b49_L4 b49_L5 b49_L6 b49_L7 M hF; cases hF
    | succ fuel hs49 =>
      intro b49_L1 b49_L2 b49_L4 b49_L5 b49_L6 b49_L7 M hF
      have hF : F_X9_dryingOf_49 p0 p1 (itF (fun _ _ _ _ _ _ _ => none) (F_X9_dryingOf_49 p0 p1) fuel) b49_L1 b49_L2 b49_L4 b49_L5 b49_L6 b49_L7 M = some (r9, M9) := hF
      generalize itF (fun _ _ _ _ _ _ _ => none) (F_X9_dryingOf_49 p0 p1) fuel = self49 at hs49 hF
      unfold F_X9_dryingOf_49 at hF
      refine z_iload cx d_X9_dryingOf_49 7 rfl ?_
      refine z_iload_n cx d_X9_dryingOf_51 2 rfl ?_
      refine z_icmp_gt cx 117 d_X9_dryingOf_52 (by decide) hF (fun hF => ?_) (fun hF => ?_)
      · refine z_iconst (v := -1) cx d_X9_dryingOf_117 ki_m1 ?_
        exact z_iret cx hr rfl hF d_X9_dryingOf_118
      refine z_aload_n cx d_X9_dryingOf_55 0 rfl ?_
      obtain ⟨hg1, hF⟩ := gd_inv hF
      refine z_getD cx hT fg_SunnyPans_62 d_X9_dryingOf_56 ?_
      refine z_getI cx (td_6 hT hg1) fg_SunnyPans_127 d_X9_dryingOf_59 ?_
      refine z_if_le cx 117 d_X9_dryingOf_62 (by decide) hF (fun hF => ?_) (fun hF => ?_)
      · refine z_iconst (v := -1) cx d_X9_dryingOf_117 ki_m1 ?_
        exact z_iret cx hr rfl hF d_X9_dryingOf_118
      refine z_iload cx d_X9_dryingOf_65 4 rfl ?_
      refine z_aload_n cx d_X9_dryingOf_67 0 rfl ?_
      refine z_aload_n cx d_X9_dryingOf_68 3 rfl ?_
      refine z_iload_n cx d_X9_dryingOf_69 1 rfl ?_
      refine z_iload cx d_X9_dryingOf_70 4 rfl ?_
      refine z_iload cx d_X9_dryingOf_72 5 rfl ?_
      refine z_iload cx d_X9_dryingOf_74 6 rfl ?_
      obtain ⟨v3, M2, hc, hF⟩ := zb_inv hF
      refine z_callV cx (As := [.ref (ad 4), .int b49_L1, .int b49_L4, .int b49_L5, .int b49_L6]) (rest := [.int b49_L4]) (c_X9_lossOf l cx.2.2.2.1.1 M 4 b49_L1 b49_L4 b49_L5 b49_L6 hT (tfX_8_1 (tfX_10_3 hT)) hc) hT zo_10 cv_SunnyPans_326 ⟨rfl, rfl, Nat.le_of_ble_eq_true rfl, Nat.le_of_ble_eq_true rfl⟩ rfl rfl ⟨Nat.zero_le _, Nat.zero_le _⟩ (Nat.le_of_ble_eq_true rfl) d_X9_dryingOf_76 ?_
      refine z_isub cx d_X9_dryingOf_79 ?_
      refine z_nm hF (fun v4 hF => ?_)
      refine z_istore cx 4 [(4, .int v4), (0, .ref (ad 0)), (1, .int b49_L1), (2, .int b49_L2), (3, .ref (ad 4)), (5, .int b49_L5), (6, .int b49_L6), (7, .int b49_L7)] d_X9_dryingOf_80 (by decide) rfl ?_
      refine z_iload cx d_X9_dryingOf_82 0 rfl ?_
      refine z_if_ne cx 90 d_X9_dryingOf_84 (by decide) hF (fun hF => ?_) (fun hF => ?_)
      · refine z_iinc cx 5 1 [(5, .int (b49_L5 + 1)), (4, .int v4), (0, .ref (ad 0)), (1, .int b49_L1), (2, .int b49_L2), (3, .ref (ad 4)), (6, .int b49_L6), (7, .int b49_L7)] d_X9_dryingOf_90 5 rfl ki_1 (by decide) rfl ?_
        refine z_iload cx d_X9_dryingOf_93 0 rfl ?_
        refine z_aload_n cx d_X9_dryingOf_95 2 rfl ?_
        obtain ⟨hg5, hF⟩ := gd_inv hF
        refine z_getD cx hT fg_SunnyPans_62 d_X9_dryingOf_96 ?_
        refine z_getI cx (td_6 hT hg5) fg_SunnyPans_127 d_X9_dryingOf_99 ?_
        refine z_icmp_lt cx 111 d_X9_dryingOf_102 (by decide) hF (fun hF => ?_) (fun hF => ?_)
        · exact z_lv [2, 3, 4, 5, 1, 0, 6, 7] _ rfl (hb111 self49 hs49 b49_L1 b49_L2 v4 (b49_L5 + 1) b49_L6 b49_L7 M2 hF)
        refine z_iconst (v := 0) cx d_X9_dryingOf_105 ki_0 ?_
        refine z_istore cx 5 [(5, .int (0 : Int32)), (4, .int v4), (0, .ref (ad 0)), (1, .int b49_L1), (2, .int b49_L2), (3, .ref (ad 4)), (6, .int b49_L6), (7, .int b49_L7)] d_X9_dryingOf_106 (by decide) rfl ?_
        refine z_iinc cx 6 1 [(6, .int (b49_L6 + 1)), (5, .int (0 : Int32)), (4, .int v4), (0, .ref (ad 0)), (1, .int b49_L1), (2, .int b49_L2), (3, .ref (ad 4)), (7, .int b49_L7)] d_X9_dryingOf_108 6 rfl ki_1 (by decide) rfl ?_
        exact z_lv [3, 4, 5, 6, 2, 1, 0, 7] _ rfl (hb111 self49 hs49 b49_L1 b49_L2 v4 (0 : Int32) (b49_L6 + 1) b49_L7 M2 hF)
      refine z_iload cx d_X9_dryingOf_87 7 rfl ?_
      exact z_iret cx hr rfl hF d_X9_dryingOf_89
  unfold F_X9_dryingOf at hF
  refine z_aload_n cx d_X9_dryingOf_0 0 rfl ?_
  refine z_getR cx hT fg_SunnyPans_19 3 rfl d_X9_dryingOf_1 ?_
  refine z_getR cx (tfX_10_3 hT) fg_SunnyPans_159 4 rfl d_X9_dryingOf_4 ?_
  refine z_astore_n cx 3 [(3, .ref (ad 4)), (0, .ref (ad 0)), (1, .int p0), (2, .int p1)] d_X9_dryingOf_7 rfl (by decide) rfl ?_
  refine z_aload_n cx d_X9_dryingOf_8 0 rfl ?_
  refine z_getR cx (tfX_8_1 (tfX_10_3 hT)) fg_SunnyPans_174 5 rfl d_X9_dryingOf_9 ?_
  refine z_iload_n cx d_X9_dryingOf_12 2 rfl ?_
  obtain ⟨hi6, hF⟩ := gin_inv hF
  refine z_iald cx (tfX_5_1 (tfX_8_1 (tfX_10_3 hT))) za_16 hi6 p0.toNatClampNeg rfl d_X9_dryingOf_13 ?_
  refine z_nm hF (fun v7 hF => ?_)
  refine z_istore cx 4 [(4, .int v7), (3, .ref (ad 4)), (0, .ref (ad 0)), (1, .int p0), (2, .int p1)] d_X9_dryingOf_14 (by decide) rfl ?_
  refine z_aload_n cx d_X9_dryingOf_16 1 rfl ?_
  refine z_getR cx (tfX_8_1 (tfX_10_3 hT)) fg_SunnyPans_184 7 rfl d_X9_dryingOf_17 ?_
  refine z_iload_n cx d_X9_dryingOf_20 3 rfl ?_
  refine z_iald cx (tfX_5_3 (tfX_8_1 (tfX_10_3 hT))) za_16 hi6 p0.toNatClampNeg rfl d_X9_dryingOf_21 ?_
  refine z_if_le cx 27 d_X9_dryingOf_22 (by decide) hF (fun hF => ?_) (fun hF => ?_)
  · refine z_iload cx d_X9_dryingOf_27 0 rfl ?_
    refine z_if_ne cx 34 d_X9_dryingOf_29 (by decide) hF (fun hF => ?_) (fun hF => ?_)
    · refine z_aload_n cx d_X9_dryingOf_34 1 rfl ?_
      refine z_getI cx (tfX_8_1 (tfX_10_3 hT)) fg_SunnyPans_171 d_X9_dryingOf_35 ?_
      refine z_nm hF (fun v8 hF => ?_)
      refine z_istore cx 5 [(5, .int v8), (4, .int v7), (3, .ref (ad 4)), (0, .ref (ad 0)), (1, .int p0), (2, .int p1)] d_X9_dryingOf_38 (by decide) rfl ?_
      refine z_aload_n cx d_X9_dryingOf_40 2 rfl ?_
      refine z_getI cx (tfX_8_1 (tfX_10_3 hT)) fg_SunnyPans_168 d_X9_dryingOf_41 ?_
      refine z_nm hF (fun v9 hF => ?_)
      refine z_istore cx 6 [(6, .int v9), (5, .int v8), (4, .int v7), (3, .ref (ad 4)), (0, .ref (ad 0)), (1, .int p0), (2, .int p1)] d_X9_dryingOf_44 (by decide) rfl ?_
      refine z_iconst (v := 1) cx d_X9_dryingOf_46 ki_1 ?_
      refine z_istore cx 7 [(7, .int (1 : Int32)), (6, .int v9), (5, .int v8), (4, .int v7), (3, .ref (ad 4)), (0, .ref (ad 0)), (1, .int p0), (2, .int p1)] d_X9_dryingOf_47 (by decide) rfl ?_
      exact z_lv [5, 6, 7, 4, 3, 2, 1, 0] _ rfl (hL49 zFuel p0 p1 v7 v8 v9 (1 : Int32) M hF)
    refine z_iconst (v := 0) cx d_X9_dryingOf_32 ki_0 ?_
    exact z_iret cx hr rfl hF d_X9_dryingOf_33
  refine z_iconst (v := -1) cx d_X9_dryingOf_25 ki_m1 ?_
  exact z_iret cx hr rfl hF d_X9_dryingOf_26
/-! SunnyPans.lossBy -/
set_option maxRecDepth 100000 in
theorem wd_1116 : Cond.code yX9_dryingOf cX9_dryingOf 8 (some .int) ∈ tbG := tw5 56 rfl rfl
set_option maxRecDepth 100000 in
theorem wd_1113 : Cond.methodLink "SunnyPans" 314 yX9_dryingOf ∈ tbG := tw5 53 rfl rfl
set_option maxRecDepth 100000 in
theorem wd_1115 : Cond.instanceMethod yX9_dryingOf ∈ tbG := tw5 55 rfl rfl
theorem wd_30 : Cond.selects "SunnyPans" yX9_dryingOf yX9_dryingOf ∈ tbG := tw 30 (by decide +kernel) rfl
theorem cv_SunnyPans_314 : zCV "SunnyPans" 314 "SunnyPans" yX9_dryingOf cX9_dryingOf 8 (some .int) 2 := zCV_of wd_1113 wd_1115 wd_30 wd_101 wd_1116 (by decide +kernel)
theorem d_X9_lossBy_0 : decode cX9_lossBy 0 = .ok (.aload_n 0, 1) := by decide +kernel
theorem d_X9_lossBy_1 : decode cX9_lossBy 1 = .ok (.getfield 19, 3) := by decide +kernel
theorem d_X9_lossBy_4 : decode cX9_lossBy 4 = .ok (.getfield 159, 3) := by decide +kernel
theorem d_X9_lossBy_7 : decode cX9_lossBy 7 = .ok (.astore_n 2, 1) := by decide +kernel
theorem d_X9_lossBy_8 : decode cX9_lossBy 8 = .ok (.iconst 0, 1) := by decide +kernel
theorem d_X9_lossBy_9 : decode cX9_lossBy 9 = .ok (.istore_n 3, 1) := by decide +kernel
theorem d_X9_lossBy_10 : decode cX9_lossBy 10 = .ok (.iconst 0, 1) := by decide +kernel
theorem d_X9_lossBy_11 : decode cX9_lossBy 11 = .ok (.istore 4, 2) := by decide +kernel
theorem d_X9_lossBy_13 : decode cX9_lossBy 13 = .ok (.iload 4, 2) := by decide +kernel
theorem d_X9_lossBy_15 : decode cX9_lossBy 15 = .ok (.bipush 64, 2) := by decide +kernel
theorem d_X9_lossBy_17 : decode cX9_lossBy 17 = .ok (.if_icmp .ge 31, 3) := by decide +kernel
theorem d_X9_lossBy_20 : decode cX9_lossBy 20 = .ok (.iload_n 3, 1) := by decide +kernel
theorem d_X9_lossBy_21 : decode cX9_lossBy 21 = .ok (.aload_n 0, 1) := by decide +kernel
theorem d_X9_lossBy_22 : decode cX9_lossBy 22 = .ok (.aload_n 2, 1) := by decide +kernel
theorem d_X9_lossBy_23 : decode cX9_lossBy 23 = .ok (.iload 4, 2) := by decide +kernel
theorem d_X9_lossBy_25 : decode cX9_lossBy 25 = .ok (.aload_n 2, 1) := by decide +kernel
theorem d_X9_lossBy_26 : decode cX9_lossBy 26 = .ok (.getfield 174, 3) := by decide +kernel
theorem d_X9_lossBy_29 : decode cX9_lossBy 29 = .ok (.iload 4, 2) := by decide +kernel
theorem d_X9_lossBy_31 : decode cX9_lossBy 31 = .ok (.iaload, 1) := by decide +kernel
theorem d_X9_lossBy_32 : decode cX9_lossBy 32 = .ok (.iload_n 1, 1) := by decide +kernel
theorem d_X9_lossBy_33 : decode cX9_lossBy 33 = .ok (.aload_n 2, 1) := by decide +kernel
theorem d_X9_lossBy_34 : decode cX9_lossBy 34 = .ok (.getfield 168, 3) := by decide +kernel
theorem d_X9_lossBy_37 : decode cX9_lossBy 37 = .ok (.invokevirtual 326, 3) := by decide +kernel
theorem d_X9_lossBy_40 : decode cX9_lossBy 40 = .ok (.iadd, 1) := by decide +kernel
theorem d_X9_lossBy_41 : decode cX9_lossBy 41 = .ok (.istore_n 3, 1) := by decide +kernel
theorem d_X9_lossBy_42 : decode cX9_lossBy 42 = .ok (.iinc 4 1, 3) := by decide +kernel
theorem d_X9_lossBy_45 : decode cX9_lossBy 45 = .ok (.goto (-32), 3) := by decide +kernel
theorem d_X9_lossBy_48 : decode cX9_lossBy 48 = .ok (.iload_n 3, 1) := by decide +kernel
theorem d_X9_lossBy_49 : decode cX9_lossBy 49 = .ok (.ireturn, 1) := by decide +kernel
def F_X9_lossBy_13 (p0 : Int32) (self13 : Int32 → Int32 → Int32 → zMem → Option (Int32 × zMem)) (b13_L1 : Int32) (b13_L3 : Int32) (b13_L4 : Int32) (M : zMem) : Option (Int32 × zMem) :=
  if (64 : Int32) ≤ b13_L4 then
    some (b13_L3, M)
  else
    gin b13_L4 64 <|
    zb (F_X9_lossOf M 4 b13_L4 (M.1 5 b13_L4.toNatClampNeg) b13_L1 (M.1 4 4)) fun v3 M2 =>
    zl (b13_L3 + v3) fun v4 =>
    self13 b13_L1 v4 (b13_L4 + 1) M2
def F_X9_lossBy (M : zMem) (p0 : Int32) : Option (Int32 × zMem) :=
  itF (fun _ _ _ _ => none) (F_X9_lossBy_13 p0) zFuel p0 (0 : Int32) (0 : Int32) M
def rm_X9_lossBy : Room := { frames := 6, cells := 0, slots := 0, locals := 158 }
set_option maxHeartbeats 4000000 in
set_option maxRecDepth 100000 in
theorem c_X9_lossBy (l : Launch) {G : zG} {ad : Nat → Nat} {n : Nat} (hA : zInj ad n) (M : zMem) (p0 : Int32) (hT : zT shX n 0 10) {r9 : Int32} {M9 : zMem} (hF : F_X9_lossBy M p0 = some (r9, M9)) : zM l yX9_lossBy cX9_lossBy 5 (some .int) rm_X9_lossBy G shX ad n M [.ref (ad 0), .int p0] (some (.int r9)) M9 := by
  refine zM_of hA (by decide +kernel) (lv := [(0, .ref (ad 0)), (1, .int p0)]) (Nat.le_of_ble_eq_true rfl) rfl (fun p e s m args below meth c A cx hr => ?_)
  have hL13 : ∀ (fuel : Nat), ∀ (b13_L1 : Int32) (b13_L3 : Int32) (b13_L4 : Int32) (M : zMem), itF (fun _ _ _ _ => none) (F_X9_lossBy_13 p0) fuel b13_L1 b13_L3 b13_L4 M = some (r9, M9) → zJ p l e rm_X9_lossBy s m args below meth c G shX ad n A 5 (MQ below (zQ G shX ad n M9 (some (.int r9)) A) args s 0 0 A) 0 0 M 13 [(0, .ref (ad 0)), (1, .int b13_L1), (2, .ref (ad 4)), (3, .int b13_L3), (4, .int b13_L4)] [] := by
    intro fuel
    induction fuel with
    | zero => intro b13_L1 b13_L3 b13_L4 M hF; cases hF
    | succ fuel hs13 =>
      intro b13_L1 b13_L3 b13_L4 M hF
      have hF : F_X9_lossBy_13 p0 (itF (fun _ _ _ _ => none) (F_X9_lossBy_13 p0) fuel) b13_L1 b13_L3 b13_L4 M = some (r9, M9) := hF
      generalize itF (fun _ _ _ _ => none) (F_X9_lossBy_13 p0) fuel = self13 at hs13 hF
      unfold F_X9_lossBy_13 at hF
      refine z_iload cx d_X9_lossBy_13 4 rfl ?_
      refine z_bipush (v := 64) cx d_X9_lossBy_15 kb_64 ?_
      refine z_icmp_ge cx 48 d_X9_lossBy_17 (by decide) hF (fun hF => ?_) (fun hF => ?_)
      · refine z_iload_n cx d_X9_lossBy_48 3 rfl ?_
        exact z_iret cx hr rfl hF d_X9_lossBy_49
      refine z_iload_n cx d_X9_lossBy_20 3 rfl ?_
      refine z_aload_n cx d_X9_lossBy_21 0 rfl ?_
      refine z_aload_n cx d_X9_lossBy_22 2 rfl ?_
      refine z_iload cx d_X9_lossBy_23 4 rfl ?_
      refine z_aload_n cx d_X9_lossBy_25 2 rfl ?_
      refine z_getR cx (tfX_8_1 (tfX_10_3 hT)) fg_SunnyPans_174 5 rfl d_X9_lossBy_26 ?_
      refine z_iload cx d_X9_lossBy_29 4 rfl ?_
      obtain ⟨hi1, hF⟩ := gin_inv hF
      refine z_iald cx (tfX_5_1 (tfX_8_1 (tfX_10_3 hT))) za_16 hi1 b13_L4.toNatClampNeg rfl d_X9_lossBy_31 ?_
      refine z_iload_n cx d_X9_lossBy_32 1 rfl ?_
      refine z_aload_n cx d_X9_lossBy_33 2 rfl ?_
      refine z_getI cx (tfX_8_1 (tfX_10_3 hT)) fg_SunnyPans_168 d_X9_lossBy_34 ?_
      obtain ⟨v3, M2, hc, hF⟩ := zb_inv hF
      refine z_callV cx (As := [.ref (ad 4), .int b13_L4, .int (M.1 5 b13_L4.toNatClampNeg), .int b13_L1, .int (M.1 4 4)]) (rest := [.int b13_L3]) (c_X9_lossOf l cx.2.2.2.1.1 M 4 b13_L4 (M.1 5 b13_L4.toNatClampNeg) b13_L1 (M.1 4 4) hT (tfX_8_1 (tfX_10_3 hT)) hc) hT zo_10 cv_SunnyPans_326 ⟨rfl, rfl, Nat.le_of_ble_eq_true rfl, Nat.le_of_ble_eq_true rfl⟩ rfl rfl ⟨Nat.zero_le _, Nat.zero_le _⟩ (Nat.le_of_ble_eq_true rfl) d_X9_lossBy_37 ?_
      refine z_iadd cx d_X9_lossBy_40 ?_
      refine z_nm hF (fun v4 hF => ?_)
      refine z_istore_n cx 3 [(3, .int v4), (0, .ref (ad 0)), (1, .int b13_L1), (2, .ref (ad 4)), (4, .int b13_L4)] d_X9_lossBy_41 rfl (by decide) rfl ?_
      refine z_iinc cx 4 1 [(4, .int (b13_L4 + 1)), (3, .int v4), (0, .ref (ad 0)), (1, .int b13_L1), (2, .ref (ad 4))] d_X9_lossBy_42 4 rfl ki_1 (by decide) rfl ?_
      refine z_goto cx 13 d_X9_lossBy_45 (by decide) ?_
      exact z_lv [2, 3, 4, 1, 0] _ rfl (hs13 b13_L1 v4 (b13_L4 + 1) M2 hF)
  unfold F_X9_lossBy at hF
  refine z_aload_n cx d_X9_lossBy_0 0 rfl ?_
  refine z_getR cx hT fg_SunnyPans_19 3 rfl d_X9_lossBy_1 ?_
  refine z_getR cx (tfX_10_3 hT) fg_SunnyPans_159 4 rfl d_X9_lossBy_4 ?_
  refine z_astore_n cx 2 [(2, .ref (ad 4)), (0, .ref (ad 0)), (1, .int p0)] d_X9_lossBy_7 rfl (by decide) rfl ?_
  refine z_iconst (v := 0) cx d_X9_lossBy_8 ki_0 ?_
  refine z_istore_n cx 3 [(3, .int (0 : Int32)), (2, .ref (ad 4)), (0, .ref (ad 0)), (1, .int p0)] d_X9_lossBy_9 rfl (by decide) rfl ?_
  refine z_iconst (v := 0) cx d_X9_lossBy_10 ki_0 ?_
  refine z_istore cx 4 [(4, .int (0 : Int32)), (3, .int (0 : Int32)), (2, .ref (ad 4)), (0, .ref (ad 0)), (1, .int p0)] d_X9_lossBy_11 (by decide) rfl ?_
  exact z_lv [3, 4, 2, 1, 0] _ rfl (hL13 zFuel p0 (0 : Int32) (0 : Int32) M hF)
/-! SunnyPans.layEverywhere -/
set_option maxRecDepth 100000 in
theorem wd_294 : Cond.fieldLink "SunnyPans" 323 "SunnyPans$Best" "amount" "I" ∈ tbG := tw1 194 rfl rfl
theorem fg_SunnyPans_323 : zGetI "SunnyPans" 323 0 1 1 := ⟨RX0, TX0, 2, rfl, by decide, uw_0, wd_294, fun _ _ _ _ _ _ => ⟨_, rfl, rfl⟩⟩
set_option maxRecDepth 100000 in
theorem wd_292 : Cond.fieldLink "SunnyPans" 320 "SunnyPans$Best" "found" "I" ∈ tbG := tw1 192 rfl rfl
theorem fg_SunnyPans_320 : zGetI "SunnyPans" 320 0 1 0 := ⟨RX0, TX0, 2, rfl, by decide, uw_0, wd_292, fun _ _ _ _ _ _ => ⟨_, rfl, rfl⟩⟩
set_option maxRecDepth 100000 in
theorem wd_1326 : Cond.code yX9_lossBy cX9_lossBy 5 (some .int) ∈ tbG := tw6 26 rfl rfl
set_option maxRecDepth 100000 in
theorem wd_1323 : Cond.methodLink "SunnyPans" 317 yX9_lossBy ∈ tbG := tw6 23 rfl rfl
set_option maxRecDepth 100000 in
theorem wd_1325 : Cond.instanceMethod yX9_lossBy ∈ tbG := tw6 25 rfl rfl
theorem wd_38 : Cond.selects "SunnyPans" yX9_lossBy yX9_lossBy ∈ tbG := tw 38 (by decide +kernel) rfl
theorem cv_SunnyPans_317 : zCV "SunnyPans" 317 "SunnyPans" yX9_lossBy cX9_lossBy 5 (some .int) 1 := zCV_of wd_1323 wd_1325 wd_38 wd_101 wd_1326 (by decide +kernel)
theorem tfX_10_104 {n k : Nat} (h : zT shX n k 10) : zT shX n (k + 104) 7 := zT_off h (shX_f (by decide) (by decide +kernel)) (by decide) (by decide)
set_option maxRecDepth 100000 in
theorem wd_1153 : Cond.code yX4_freePlaces cX4_freePlaces 1 (some .long) ∈ tbG := tw5 93 rfl rfl
set_option maxRecDepth 100000 in
theorem wd_1150 : Cond.methodLink "SunnyPans" 361 yX4_freePlaces ∈ tbG := tw5 90 rfl rfl
set_option maxRecDepth 100000 in
theorem wd_1151 : Cond.instanceMethod yX4_freePlaces ∈ tbG := tw5 91 rfl rfl
set_option maxRecDepth 100000 in
theorem wd_1152 : Cond.selects "SunnyPans$Pans" yX4_freePlaces yX4_freePlaces ∈ tbG := tw5 92 rfl rfl
theorem cv_SunnyPans_361 : zCV "SunnyPans" 361 "SunnyPans$Pans" yX4_freePlaces cX4_freePlaces 1 (some .long) 0 := zCV_of wd_1150 wd_1151 wd_1152 wd_104 wd_1153 (by decide +kernel)
set_option maxRecDepth 100000 in
theorem wd_414 : Cond.fieldLink "SunnyPans" 44 "SunnyPans" "shadows" "LSunnyPans$Shadows;" ∈ tbG := tw2 74 rfl rfl
theorem fg_SunnyPans_44 : zGetR "SunnyPans" 44 9 10 5 104 := ⟨RX9, TX9, 19, rfl, by decide, uw_9, wd_414, fun _ _ _ _ _ _ => ⟨_, rfl, rfl⟩⟩
set_option maxRecDepth 100000 in
theorem wd_1158 : Cond.code yX6_lay cX6_lay 8 none ∈ tbG := tw5 98 rfl rfl
set_option maxRecDepth 100000 in
theorem wd_1155 : Cond.methodLink "SunnyPans" 364 yX6_lay ∈ tbG := tw5 95 rfl rfl
set_option maxRecDepth 100000 in
theorem wd_1156 : Cond.instanceMethod yX6_lay ∈ tbG := tw5 96 rfl rfl
set_option maxRecDepth 100000 in
theorem wd_1157 : Cond.selects "SunnyPans$Shadows" yX6_lay yX6_lay ∈ tbG := tw5 97 rfl rfl
theorem cv_SunnyPans_364 : zCV "SunnyPans" 364 "SunnyPans$Shadows" yX6_lay cX6_lay 8 none 4 := zCV_of wd_1155 wd_1156 wd_1157 wd_106 wd_1158 (by decide +kernel)
theorem d_X9_layEverywhere_0 : decode cX9_layEverywhere 0 = .ok (.aload_n 0, 1) := by decide +kernel
theorem d_X9_layEverywhere_1 : decode cX9_layEverywhere 1 = .ok (.getfield 19, 3) := by decide +kernel
theorem d_X9_layEverywhere_4 : decode cX9_layEverywhere 4 = .ok (.getfield 159, 3) := by decide +kernel
theorem d_X9_layEverywhere_7 : decode cX9_layEverywhere 7 = .ok (.invokevirtual 361, 3) := by decide +kernel
theorem d_X9_layEverywhere_10 : decode cX9_layEverywhere 10 = .ok (.aload_n 0, 1) := by decide +kernel
theorem d_X9_layEverywhere_11 : decode cX9_layEverywhere 11 = .ok (.getfield 62, 3) := by decide +kernel
theorem d_X9_layEverywhere_14 : decode cX9_layEverywhere 14 = .ok (.getfield 200, 3) := by decide +kernel
theorem d_X9_layEverywhere_17 : decode cX9_layEverywhere 17 = .ok (.land, 1) := by decide +kernel
theorem d_X9_layEverywhere_18 : decode cX9_layEverywhere 18 = .ok (.lstore_n 2, 1) := by decide +kernel
theorem d_X9_layEverywhere_19 : decode cX9_layEverywhere 19 = .ok (.aload_n 0, 1) := by decide +kernel
theorem d_X9_layEverywhere_20 : decode cX9_layEverywhere 20 = .ok (.getfield 44, 3) := by decide +kernel
theorem d_X9_layEverywhere_23 : decode cX9_layEverywhere 23 = .ok (.aload_n 0, 1) := by decide +kernel
theorem d_X9_layEverywhere_24 : decode cX9_layEverywhere 24 = .ok (.getfield 62, 3) := by decide +kernel
theorem d_X9_layEverywhere_27 : decode cX9_layEverywhere 27 = .ok (.aload_n 0, 1) := by decide +kernel
theorem d_X9_layEverywhere_28 : decode cX9_layEverywhere 28 = .ok (.getfield 19, 3) := by decide +kernel
theorem d_X9_layEverywhere_31 : decode cX9_layEverywhere 31 = .ok (.getfield 159, 3) := by decide +kernel
theorem d_X9_layEverywhere_34 : decode cX9_layEverywhere 34 = .ok (.lload_n 2, 1) := by decide +kernel
theorem d_X9_layEverywhere_35 : decode cX9_layEverywhere 35 = .ok (.iload_n 1, 1) := by decide +kernel
theorem d_X9_layEverywhere_36 : decode cX9_layEverywhere 36 = .ok (.invokevirtual 364, 3) := by decide +kernel
theorem d_X9_layEverywhere_39 : decode cX9_layEverywhere 39 = .ok (.lload_n 2, 1) := by decide +kernel
theorem d_X9_layEverywhere_40 : decode cX9_layEverywhere 40 = .ok (.lreturn, 1) := by decide +kernel
def F_X9_layEverywhere (M : zMem) (p0 : Int32) : Option (Int64 × zMem) :=
  zb (F_X4_freePlaces M 4) fun v2 M1 =>
  gd (shX (M1.2.2 0 8) == 6) <|
  zl (v2 &&& (M1.2.1 (M1.2.2 0 8) 3)) fun v4 =>
  zbv (F_X6_lay M1 104 (M1.2.2 0 8) 4 v4 p0) fun M5 =>
  some (v4, M5)
def rm_X9_layEverywhere : Room := { frames := 6, cells := 0, slots := 0, locals := 163 }
set_option maxHeartbeats 4000000 in
set_option maxRecDepth 100000 in
theorem c_X9_layEverywhere (l : Launch) {G : zG} {ad : Nat → Nat} {n : Nat} (hA : zInj ad n) (M : zMem) (p0 : Int32) (hT : zT shX n 0 10) {r9 : Int64} {M9 : zMem} (hF : F_X9_layEverywhere M p0 = some (r9, M9)) : zM l yX9_layEverywhere cX9_layEverywhere 4 (some .long) rm_X9_layEverywhere G shX ad n M [.ref (ad 0), .int p0] (some (.long r9)) M9 := by
  refine zM_of hA (by decide +kernel) (lv := [(0, .ref (ad 0)), (1, .int p0)]) (Nat.le_of_ble_eq_true rfl) rfl (fun p e s m args below meth c A cx hr => ?_)
  unfold F_X9_layEverywhere at hF
  refine z_aload_n cx d_X9_layEverywhere_0 0 rfl ?_
  refine z_getR cx hT fg_SunnyPans_19 3 rfl d_X9_layEverywhere_1 ?_
  refine z_getR cx (tfX_10_3 hT) fg_SunnyPans_159 4 rfl d_X9_layEverywhere_4 ?_
  obtain ⟨v2, M1, hc, hF⟩ := zb_inv hF
  refine z_callV cx (As := []) (rest := []) (c_X4_freePlaces l cx.2.2.2.1.1 M 4 (tfX_8_1 (tfX_10_3 hT)) hc) (tfX_8_1 (tfX_10_3 hT)) zo_5 cv_SunnyPans_361 ⟨rfl, rfl, Nat.le_of_ble_eq_true rfl, Nat.le_of_ble_eq_true rfl⟩ rfl rfl ⟨Nat.zero_le _, Nat.zero_le _⟩ (Nat.le_of_ble_eq_true rfl) d_X9_layEverywhere_7 ?_
  refine z_aload_n cx d_X9_layEverywhere_10 0 rfl ?_
  obtain ⟨hg3, hF⟩ := gd_inv hF
  refine z_getD cx hT fg_SunnyPans_62 d_X9_layEverywhere_11 ?_
  refine z_getL cx (td_6 hT hg3) fg_SunnyPans_200 d_X9_layEverywhere_14 ?_
  refine z_land cx d_X9_layEverywhere_17 ?_
  refine z_nml hF (fun v4 hF => ?_)
  refine z_lstore_n cx 2 [(2, .long v4), (0, .ref (ad 0)), (1, .int p0)] d_X9_layEverywhere_18 rfl (by decide) rfl ?_
  refine z_aload_n cx d_X9_layEverywhere_19 1 rfl ?_
  refine z_getR cx hT fg_SunnyPans_44 104 rfl d_X9_layEverywhere_20 ?_
  refine z_aload_n cx d_X9_layEverywhere_23 1 rfl ?_
  refine z_getD cx hT fg_SunnyPans_62 d_X9_layEverywhere_24 ?_
  refine z_aload_n cx d_X9_layEverywhere_27 1 rfl ?_
  refine z_getR cx hT fg_SunnyPans_19 3 rfl d_X9_layEverywhere_28 ?_
  refine z_getR cx (tfX_10_3 hT) fg_SunnyPans_159 4 rfl d_X9_layEverywhere_31 ?_
  refine z_lload_n cx d_X9_layEverywhere_34 0 rfl ?_
  refine z_iload_n cx d_X9_layEverywhere_35 2 rfl ?_
  obtain ⟨M5, hc, hF⟩ := zbv_inv hF
  refine z_callV cx (As := [.ref (ad (M1.2.2 0 8)), .ref (ad 4), .long v4, .int p0]) (rest := []) (c_X6_lay l cx.2.2.2.1.1 M1 104 (M1.2.2 0 8) 4 v4 p0 (tfX_10_104 hT) (td_6 hT hg3) (tfX_8_1 (tfX_10_3 hT)) hc) (tfX_10_104 hT) zo_7 cv_SunnyPans_364 ⟨rfl, rfl, Nat.le_of_ble_eq_true rfl, Nat.le_of_ble_eq_true rfl⟩ rfl rfl ⟨Nat.zero_le _, Nat.zero_le _⟩ (Nat.le_of_ble_eq_true rfl) d_X9_layEverywhere_36 ?_
  refine z_lload_n cx d_X9_layEverywhere_39 0 rfl ?_
  exact z_lret cx hr hF d_X9_layEverywhere_40
/-! SunnyPans.brineAfterDay -/
set_option maxRecDepth 100000 in
theorem wd_1180 : Cond.methodLink "SunnyPans" 339 yX9_tellPlace ∈ tbG := tw5 120 rfl rfl
theorem cs_SunnyPans_339 : zCS "SunnyPans" 339 yX9_tellPlace cX9_tellPlace 1 (some .int) 1 := zCS_of wd_1180 wd_1137 wd_101 wd_1138 (by decide +kernel)
set_option maxRecDepth 100000 in
theorem wd_1232 : Cond.methodLink "SunnyPans" 379 yX6_addedAt ∈ tbG := tw5 172 rfl rfl
theorem cv_SunnyPans_379 : zCV "SunnyPans" 379 "SunnyPans$Shadows" yX6_addedAt cX6_addedAt 3 (some .long) 2 := zCV_of wd_1232 wd_1168 wd_1169 wd_106 wd_1170 (by decide +kernel)
theorem d_X9_brineAfterDay_0 : decode cX9_brineAfterDay 0 = .ok (.aload_n 0, 1) := by decide +kernel
theorem d_X9_brineAfterDay_1 : decode cX9_brineAfterDay 1 = .ok (.getfield 19, 3) := by decide +kernel
theorem d_X9_brineAfterDay_4 : decode cX9_brineAfterDay 4 = .ok (.getfield 159, 3) := by decide +kernel
theorem d_X9_brineAfterDay_7 : decode cX9_brineAfterDay 7 = .ok (.astore_n 3, 1) := by decide +kernel
theorem d_X9_brineAfterDay_8 : decode cX9_brineAfterDay 8 = .ok (.aload_n 3, 1) := by decide +kernel
theorem d_X9_brineAfterDay_9 : decode cX9_brineAfterDay 9 = .ok (.getfield 174, 3) := by decide +kernel
theorem d_X9_brineAfterDay_12 : decode cX9_brineAfterDay 12 = .ok (.iload_n 1, 1) := by decide +kernel
theorem d_X9_brineAfterDay_13 : decode cX9_brineAfterDay 13 = .ok (.iaload, 1) := by decide +kernel
theorem d_X9_brineAfterDay_14 : decode cX9_brineAfterDay 14 = .ok (.istore 4, 2) := by decide +kernel
theorem d_X9_brineAfterDay_16 : decode cX9_brineAfterDay 16 = .ok (.aload_n 3, 1) := by decide +kernel
theorem d_X9_brineAfterDay_17 : decode cX9_brineAfterDay 17 = .ok (.getfield 171, 3) := by decide +kernel
theorem d_X9_brineAfterDay_20 : decode cX9_brineAfterDay 20 = .ok (.istore 5, 2) := by decide +kernel
theorem d_X9_brineAfterDay_22 : decode cX9_brineAfterDay 22 = .ok (.aload_n 3, 1) := by decide +kernel
theorem d_X9_brineAfterDay_23 : decode cX9_brineAfterDay 23 = .ok (.getfield 168, 3) := by decide +kernel
theorem d_X9_brineAfterDay_26 : decode cX9_brineAfterDay 26 = .ok (.istore 6, 2) := by decide +kernel
theorem d_X9_brineAfterDay_28 : decode cX9_brineAfterDay 28 = .ok (.iconst 0, 1) := by decide +kernel
theorem d_X9_brineAfterDay_29 : decode cX9_brineAfterDay 29 = .ok (.istore 7, 2) := by decide +kernel
theorem d_X9_brineAfterDay_31 : decode cX9_brineAfterDay 31 = .ok (.iload 7, 2) := by decide +kernel
theorem d_X9_brineAfterDay_33 : decode cX9_brineAfterDay 33 = .ok (.aload_n 0, 1) := by decide +kernel
theorem d_X9_brineAfterDay_34 : decode cX9_brineAfterDay 34 = .ok (.getfield 62, 3) := by decide +kernel
theorem d_X9_brineAfterDay_37 : decode cX9_brineAfterDay 37 = .ok (.getfield 127, 3) := by decide +kernel
theorem d_X9_brineAfterDay_40 : decode cX9_brineAfterDay 40 = .ok (.if_icmp .ge 69, 3) := by decide +kernel
theorem d_X9_brineAfterDay_43 : decode cX9_brineAfterDay 43 = .ok (.iload 4, 2) := by decide +kernel
theorem d_X9_brineAfterDay_45 : decode cX9_brineAfterDay 45 = .ok (.ifCond .le 64, 3) := by decide +kernel
theorem d_X9_brineAfterDay_48 : decode cX9_brineAfterDay 48 = .ok (.aload_n 0, 1) := by decide +kernel
theorem d_X9_brineAfterDay_49 : decode cX9_brineAfterDay 49 = .ok (.getfield 44, 3) := by decide +kernel
theorem d_X9_brineAfterDay_52 : decode cX9_brineAfterDay 52 = .ok (.iload_n 2, 1) := by decide +kernel
theorem d_X9_brineAfterDay_53 : decode cX9_brineAfterDay 53 = .ok (.iload 5, 2) := by decide +kernel
theorem d_X9_brineAfterDay_55 : decode cX9_brineAfterDay 55 = .ok (.invokevirtual 379, 3) := by decide +kernel
theorem d_X9_brineAfterDay_58 : decode cX9_brineAfterDay 58 = .ok (.iload_n 1, 1) := by decide +kernel
theorem d_X9_brineAfterDay_59 : decode cX9_brineAfterDay 59 = .ok (.invokestatic 231, 3) := by decide +kernel
theorem d_X9_brineAfterDay_62 : decode cX9_brineAfterDay 62 = .ok (.ifCond .ne 20, 3) := by decide +kernel
theorem d_X9_brineAfterDay_65 : decode cX9_brineAfterDay 65 = .ok (.iload 4, 2) := by decide +kernel
theorem d_X9_brineAfterDay_67 : decode cX9_brineAfterDay 67 = .ok (.aload_n 0, 1) := by decide +kernel
theorem d_X9_brineAfterDay_68 : decode cX9_brineAfterDay 68 = .ok (.aload_n 3, 1) := by decide +kernel
theorem d_X9_brineAfterDay_69 : decode cX9_brineAfterDay 69 = .ok (.iload_n 1, 1) := by decide +kernel
theorem d_X9_brineAfterDay_70 : decode cX9_brineAfterDay 70 = .ok (.iload 4, 2) := by decide +kernel
theorem d_X9_brineAfterDay_72 : decode cX9_brineAfterDay 72 = .ok (.iload 5, 2) := by decide +kernel
theorem d_X9_brineAfterDay_74 : decode cX9_brineAfterDay 74 = .ok (.iload 6, 2) := by decide +kernel
theorem d_X9_brineAfterDay_76 : decode cX9_brineAfterDay 76 = .ok (.invokevirtual 326, 3) := by decide +kernel
theorem d_X9_brineAfterDay_79 : decode cX9_brineAfterDay 79 = .ok (.isub, 1) := by decide +kernel
theorem d_X9_brineAfterDay_80 : decode cX9_brineAfterDay 80 = .ok (.istore 4, 2) := by decide +kernel
theorem d_X9_brineAfterDay_82 : decode cX9_brineAfterDay 82 = .ok (.iinc 5 1, 3) := by decide +kernel
theorem d_X9_brineAfterDay_85 : decode cX9_brineAfterDay 85 = .ok (.iload 5, 2) := by decide +kernel
theorem d_X9_brineAfterDay_87 : decode cX9_brineAfterDay 87 = .ok (.aload_n 0, 1) := by decide +kernel
theorem d_X9_brineAfterDay_88 : decode cX9_brineAfterDay 88 = .ok (.getfield 62, 3) := by decide +kernel
theorem d_X9_brineAfterDay_91 : decode cX9_brineAfterDay 91 = .ok (.getfield 127, 3) := by decide +kernel
theorem d_X9_brineAfterDay_94 : decode cX9_brineAfterDay 94 = .ok (.if_icmp .lt 9, 3) := by decide +kernel
theorem d_X9_brineAfterDay_97 : decode cX9_brineAfterDay 97 = .ok (.iconst 0, 1) := by decide +kernel
theorem d_X9_brineAfterDay_98 : decode cX9_brineAfterDay 98 = .ok (.istore 5, 2) := by decide +kernel
theorem d_X9_brineAfterDay_100 : decode cX9_brineAfterDay 100 = .ok (.iinc 6 1, 3) := by decide +kernel
theorem d_X9_brineAfterDay_103 : decode cX9_brineAfterDay 103 = .ok (.iinc 7 1, 3) := by decide +kernel
theorem d_X9_brineAfterDay_106 : decode cX9_brineAfterDay 106 = .ok (.goto (-75), 3) := by decide +kernel
theorem d_X9_brineAfterDay_109 : decode cX9_brineAfterDay 109 = .ok (.iload 4, 2) := by decide +kernel
theorem d_X9_brineAfterDay_111 : decode cX9_brineAfterDay 111 = .ok (.ireturn, 1) := by decide +kernel
def F_X9_brineAfterDay_103 (p0 : Int32) (p1 : Int32) (self31 : Int32 → Int32 → Int32 → Int32 → Int32 → Int32 → zMem → Option (Int32 × zMem)) (b103_L1 : Int32) (b103_L2 : Int32) (b103_L4 : Int32) (b103_L5 : Int32) (b103_L6 : Int32) (b103_L7 : Int32) (M : zMem) : Option (Int32 × zMem) :=
  self31 b103_L1 b103_L2 b103_L4 b103_L5 b103_L6 (b103_L7 + 1) M
def F_X9_brineAfterDay_82 (p0 : Int32) (p1 : Int32) (self31 : Int32 → Int32 → Int32 → Int32 → Int32 → Int32 → zMem → Option (Int32 × zMem)) (b82_L1 : Int32) (b82_L2 : Int32) (b82_L4 : Int32) (b82_L5 : Int32) (b82_L6 : Int32) (b82_L7 : Int32) (M : zMem) : Option (Int32 × zMem) :=
  gd (shX (M.2.2 0 8) == 6) <|
  if (b82_L5 + 1) < (M.1 (M.2.2 0 8) 2) then
    F_X9_brineAfterDay_103 p0 p1 self31 b82_L1 b82_L2 b82_L4 (b82_L5 + 1) b82_L6 b82_L7 M
  else
    F_X9_brineAfterDay_103 p0 p1 self31 b82_L1 b82_L2 b82_L4 (0 : Int32) (b82_L6 + 1) b82_L7 M
def F_X9_brineAfterDay_31 (p0 : Int32) (p1 : Int32) (self31 : Int32 → Int32 → Int32 → Int32 → Int32 → Int32 → zMem → Option (Int32 × zMem)) (b31_L1 : Int32) (b31_L2 : Int32) (b31_L4 : Int32) (b31_L5 : Int32) (b31_L6 : Int32) (b31_L7 : Int32) (M : zMem) : Option (Int32 × zMem) :=
  gd (shX (M.2.2 0 8) == 6) <|
  if (M.1 (M.2.2 0 8) 2) ≤ b31_L7 then
    some (b31_L4, M)
  else
    if b31_L4 ≤ 0 then
      some (b31_L4, M)
    else
      zb (F_X6_addedAt M 104 b31_L2 b31_L5) fun v4 M3 =>
      zb (F_X9_has M3 v4 b31_L1) fun v6 M5 =>
      if v6 = 0 then
        zb (F_X9_lossOf M5 4 b31_L1 b31_L4 b31_L5 b31_L6) fun v8 M7 =>
        zl (b31_L4 - v8) fun v9 =>
        F_X9_brineAfterDay_82 p0 p1 self31 b31_L1 b31_L2 v9 b31_L5 b31_L6 b31_L7 M7
      else
        F_X9_brineAfterDay_82 p0 p1 self31 b31_L1 b31_L2 b31_L4 b31_L5 b31_L6 b31_L7 M5
def F_X9_brineAfterDay (M : zMem) (p0 : Int32) (p1 : Int32) : Option (Int32 × zMem) :=
  gin p0 64 <|
  zl (M.1 5 p0.toNatClampNeg) fun v11 =>
  zl (M.1 4 5) fun v12 =>
  zl (M.1 4 4) fun v13 =>
  itF (fun _ _ _ _ _ _ _ => none) (F_X9_brineAfterDay_31 p0 p1) zFuel p0 p1 v11 v12 v13 (0 : Int32) M
def rm_X9_brineAfterDay : Room := { frames := 6, cells := 0, slots := 0, locals := 158 }
set_option maxHeartbeats 4000000 in
set_option maxRecDepth 100000 in
theorem c_X9_brineAfterDay (l : Launch) {G : zG} {ad : Nat → Nat} {n : Nat} (hA : zInj ad n) (M : zMem) (p0 : Int32) (p1 : Int32) (hT : zT shX n 0 10) {r9 : Int32} {M9 : zMem} (hF : F_X9_brineAfterDay M p0 p1 = some (r9, M9)) : zM l yX9_brineAfterDay cX9_brineAfterDay 8 (some .int) rm_X9_brineAfterDay G shX ad n M [.ref (ad 0), .int p0, .int p1] (some (.int r9)) M9 := by
  refine zM_of hA (by decide +kernel) (lv := [(0, .ref (ad 0)), (1, .int p0), (2, .int p1)]) (Nat.le_of_ble_eq_true rfl) rfl (fun p e s m args below meth c A cx hr => ?_)
  have hb103 : ∀ (self31 : Int32 → Int32 → Int32 → Int32 → Int32 → Int32 → zMem → Option (Int32 × zMem)) (hs31 : ∀ (b31_L1 : Int32) (b31_L2 : Int32) (b31_L4 : Int32) (b31_L5 : Int32) (b31_L6 : Int32) (b31_L7 : Int32) (M : zMem), self31 b31_L1 b31_L2 b31_L4 b31_L5 b31_L6 b31_L7 M = some (r9, M9) → zJ p l e rm_X9_brineAfterDay s m args below meth c G shX ad n A 8 (MQ below (zQ G shX ad n M9 (some (.int r9)) A) args s 0 0 A) 0 0 M 31 [(0, .ref (ad 0)), (1, .int b31_L1), (2, .int b31_L2), (3, .ref (ad 4)), (4, .int b31_L4), (5, .int b31_L5), (6, .int b31_L6), (7, .int b31_L7)] []), ∀ (b103_L1 : Int32) (b103_L2 : Int32) (b103_L4 : Int32) (b103_L5 : Int32) (b103_L6 : Int32) (b103_L7 : Int32) (M : zMem), F_X9_brineAfterDay_103 p0 p1 self31 b103_L1 b103_L2 b103_L4 b103_L5 b103_L6 b103_L7 M = some (r9, M9) → zJ p l e rm_X9_brineAfterDay s m args below meth c G shX ad n A 8 (MQ below (zQ G shX ad n M9 (some (.int r9)) A) args s 0 0 A) 0 0 M 103 [(0, .ref (ad 0)), (1, .int b103_L1), (2, .int b103_L2), (3, .ref (ad 4)), (4, .int b103_L4), (5, .int b103_L5), (6, .int b103_L6), (7, .int b103_L7)] [] := by
    intro self31 hs31 b103_L1 b103_L2 b103_L4 b103_L5 b103_L6 b103_L7 M hF
    unfold F_X9_brineAfterDay_103 at hF
    refine z_iinc cx 7 1 [(7, .int (b103_L7 + 1)), (0, .ref (ad 0)), (1, .int b103_L1), (2, .int b103_L2), (3, .ref (ad 4)), (4, .int b103_L4), (5, .int b103_L5), (6, .int b103_L6)] d_X9_brineAfterDay_103 7 rfl ki_1 (by decide) rfl ?_
    refine z_goto cx 31 d_X9_brineAfterDay_106 (by decide) ?_
    exact z_lv [1, 2, 3, 4, 5, 6, 7, 0] _ rfl (hs31 b103_L1 b103_L2 b103_L4 b103_L5 b103_L6 (b103_L7 + 1) M hF)
  have hb82 : ∀ (self31 : Int32 → Int32 → Int32 → Int32 → Int32 → Int32 → zMem → Option (Int32 × zMem)) (hs31 : ∀ (b31_L1 : Int32) (b31_L2 : Int32) (b31_L4 : Int32) (b31_L5 : Int32) (b31_L6 : Int32) (b31_L7 : Int32) (M : zMem), self31 b31_L1 b31_L2 b31_L4 b31_L5 b31_L6 b31_L7 M = some (r9, M9) → zJ p l e rm_X9_brineAfterDay s m args below meth c G shX ad n A 8 (MQ below (zQ G shX ad n M9 (some (.int r9)) A) args s 0 0 A) 0 0 M 31 [(0, .ref (ad 0)), (1, .int b31_L1), (2, .int b31_L2), (3, .ref (ad 4)), (4, .int b31_L4), (5, .int b31_L5), (6, .int b31_L6), (7, .int b31_L7)] []), ∀ (b82_L1 : Int32) (b82_L2 : Int32) (b82_L4 : Int32) (b82_L5 : Int32) (b82_L6 : Int32) (b82_L7 : Int32) (M : zMem), F_X9_brineAfterDay_82 p0 p1 self31 b82_L1 b82_L2 b82_L4 b82_L5 b82_L6 b82_L7 M = some (r9, M9) → zJ p l e rm_X9_brineAfterDay s m args below meth c G shX ad n A 8 (MQ below (zQ G shX ad n M9 (some (.int r9)) A) args s 0 0 A) 0 0 M 82 [(0, .ref (ad 0)), (1, .int b82_L1), (2, .int b82_L2), (3, .ref (ad 4)), (4, .int b82_L4), (5, .int b82_L5), (6, .int b82_L6), (7, .int b82_L7)] [] := by
    intro self31 hs31 b82_L1 b82_L2 b82_L4 b82_L5 b82_L6 b82_L7 M hF
    unfold F_X9_brineAfterDay_82 at hF
    refine z_iinc cx 5 1 [(5, .int (b82_L5 + 1)), (0, .ref (ad 0)), (1, .int b82_L1), (2, .int b82_L2), (3, .ref (ad 4)), (4, .int b82_L4), (6, .int b82_L6), (7, .int b82_L7)] d_X9_brineAfterDay_82 5 rfl ki_1 (by decide) rfl ?_
    refine z_iload cx d_X9_brineAfterDay_85 0 rfl ?_
    refine z_aload_n cx d_X9_brineAfterDay_87 1 rfl ?_
    obtain ⟨hg1, hF⟩ := gd_inv hF
    refine z_getD cx hT fg_SunnyPans_62 d_X9_brineAfterDay_88 ?_
    refine z_getI cx (td_6 hT hg1) fg_SunnyPans_127 d_X9_brineAfterDay_91 ?_
    refine z_icmp_lt cx 103 d_X9_brineAfterDay_94 (by decide) hF (fun hF => ?_) (fun hF => ?_)
    · exact z_lv [1, 2, 3, 4, 5, 0, 6, 7] _ rfl (hb103 self31 hs31 b82_L1 b82_L2 b82_L4 (b82_L5 + 1) b82_L6 b82_L7 M hF)
    refine z_iconst (v := 0) cx d_X9_brineAfterDay_97 ki_0 ?_
    refine z_istore cx 5 [(5, .int (0 : Int32)), (0, .ref (ad 0)), (1, .int b82_L1), (2, .int b82_L2), (3, .ref (ad 4)), (4, .int b82_L4), (6, .int b82_L6), (7, .int b82_L7)] d_X9_brineAfterDay_98 (by decide) rfl ?_
    refine z_iinc cx 6 1 [(6, .int (b82_L6 + 1)), (5, .int (0 : Int32)), (0, .ref (ad 0)), (1, .int b82_L1), (2, .int b82_L2), (3, .ref (ad 4)), (4, .int b82_L4), (7, .int b82_L7)] d_X9_brineAfterDay_100 6 rfl ki_1 (by decide) rfl ?_
    exact z_lv [2, 3, 4, 5, 6, 1, 0, 7] _ rfl (hb103 self31 hs31 b82_L1 b82_L2 b82_L4 (0 : Int32) (b82_L6 + 1) b82_L7 M hF)
  have hL31 : ∀ (fuel : Nat), ∀ (b31_L1 : Int32) (b31_L2 : Int32) (b31_L4 : Int32) (b31_L5 : Int32) (b31_L6 : Int32) (b31_L7 : Int32) (M : zMem), itF (fun _ _ _ _ _ _ _ => none) (F_X9_brineAfterDay_31 p0 p1) fuel b31_L1 b31_L2 b31_L4 b31_L5 b31_L6 b31_L7 M = some (r9, M9) → zJ p l e rm_X9_brineAfterDay s m args below meth c G shX ad n A 8 (MQ below (zQ G shX ad n M9 (some (.int r9)) A) args s 0 0 A) 0 0 M 31 [(0, .ref (ad 0)), (1, .int b31_L1), (2, .int b31_L2), (3, .ref (ad 4)), (4, .int b31_L4), (5, .int b31_L5), (6, .int b31_L6), (7, .int b31_L7)] [] := by
    intro fuel
    induction fuel with
    | zero => intro b31_L1 b31_L2 b31_L4 b31_L5 b31_L6 b31_L7 M hF; cases hF
    | succ fuel hs31 =>
      intro b31_L1 b31_L2 b31_L4 b31_L5 b31_L6 b31_L7 M hF
      have hF : F_X9_brineAfterDay_31 p0 p1 (itF (fun _ _ _ _ _ _ _ => none) (F_X9_brineAfterDay_31 p0 p1) fuel) b31_L1 b31_L2 b31_L4 b31_L5 b31_L6 b31_L7 M = some (r9, M9) := hF
      generalize itF (fun _ _ _ _ _ _ _ => none) (F_X9_brineAfterDay_31 p0 p1) fuel = self31 at hs31 hF
      unfold F_X9_brineAfterDay_31 at hF
      refine z_iload cx d_X9_brineAfterDay_31 7 rfl ?_
      refine z_aload_n cx d_X9_brineAfterDay_33 0 rfl ?_
      obtain ⟨hg2, hF⟩ := gd_inv hF
      refine z_getD cx hT fg_SunnyPans_62 d_X9_brineAfterDay_34 ?_
      refine z_getI cx (td_6 hT hg2) fg_SunnyPans_127 d_X9_brineAfterDay_37 ?_
      refine z_icmp_ge cx 109 d_X9_brineAfterDay_40 (by decide) hF (fun hF => ?_) (fun hF => ?_)
      · refine z_iload cx d_X9_brineAfterDay_109 4 rfl ?_
        exact z_iret cx hr rfl hF d_X9_brineAfterDay_111
      refine z_iload cx d_X9_brineAfterDay_43 4 rfl ?_
      refine z_if_le cx 109 d_X9_brineAfterDay_45 (by decide) hF (fun hF => ?_) (fun hF => ?_)
      · refine z_iload cx d_X9_brineAfterDay_109 4 rfl ?_
        exact z_iret cx hr rfl hF d_X9_brineAfterDay_111
      refine z_aload_n cx d_X9_brineAfterDay_48 0 rfl ?_
      refine z_getR cx hT fg_SunnyPans_44 104 rfl d_X9_brineAfterDay_49 ?_
      refine z_iload_n cx d_X9_brineAfterDay_52 2 rfl ?_
      refine z_iload cx d_X9_brineAfterDay_53 5 rfl ?_
      obtain ⟨v4, M3, hc, hF⟩ := zb_inv hF
      refine z_callV cx (As := [.int b31_L2, .int b31_L5]) (rest := []) (c_X6_addedAt l cx.2.2.2.1.1 M 104 b31_L2 b31_L5 (tfX_10_104 hT) hc) (tfX_10_104 hT) zo_7 cv_SunnyPans_379 ⟨rfl, rfl, Nat.le_of_ble_eq_true rfl, Nat.le_of_ble_eq_true rfl⟩ rfl rfl ⟨Nat.zero_le _, Nat.zero_le _⟩ (Nat.le_of_ble_eq_true rfl) d_X9_brineAfterDay_55 ?_
      refine z_iload_n cx d_X9_brineAfterDay_58 1 rfl ?_
      obtain ⟨v6, M5, hc, hF⟩ := zb_inv hF
      refine z_callS cx (As := [.long v4, .int b31_L1]) (rest := []) (c_X9_has l cx.2.2.2.1.1 M3 v4 b31_L1  hc) cs_SunnyPans_231 ⟨rfl, rfl, Nat.le_of_ble_eq_true rfl, Nat.le_of_ble_eq_true rfl⟩ rfl rfl ⟨Nat.zero_le _, Nat.zero_le _⟩ (Nat.le_of_ble_eq_true rfl) d_X9_brineAfterDay_59 ?_
      refine z_if_ne cx 82 d_X9_brineAfterDay_62 (by decide) hF (fun hF => ?_) (fun hF => ?_)
      · exact hb82 self31 hs31 b31_L1 b31_L2 b31_L4 b31_L5 b31_L6 b31_L7 M5 hF
      refine z_iload cx d_X9_brineAfterDay_65 4 rfl ?_
      refine z_aload_n cx d_X9_brineAfterDay_67 0 rfl ?_
      refine z_aload_n cx d_X9_brineAfterDay_68 3 rfl ?_
      refine z_iload_n cx d_X9_brineAfterDay_69 1 rfl ?_
      refine z_iload cx d_X9_brineAfterDay_70 4 rfl ?_
      refine z_iload cx d_X9_brineAfterDay_72 5 rfl ?_
      refine z_iload cx d_X9_brineAfterDay_74 6 rfl ?_
      obtain ⟨v8, M7, hc, hF⟩ := zb_inv hF
      refine z_callV cx (As := [.ref (ad 4), .int b31_L1, .int b31_L4, .int b31_L5, .int b31_L6]) (rest := [.int b31_L4]) (c_X9_lossOf l cx.2.2.2.1.1 M5 4 b31_L1 b31_L4 b31_L5 b31_L6 hT (tfX_8_1 (tfX_10_3 hT)) hc) hT zo_10 cv_SunnyPans_326 ⟨rfl, rfl, Nat.le_of_ble_eq_true rfl, Nat.le_of_ble_eq_true rfl⟩ rfl rfl ⟨Nat.zero_le _, Nat.zero_le _⟩ (Nat.le_of_ble_eq_true rfl) d_X9_brineAfterDay_76 ?_
      refine z_isub cx d_X9_brineAfterDay_79 ?_
      refine z_nm hF (fun v9 hF => ?_)
      refine z_istore cx 4 [(4, .int v9), (0, .ref (ad 0)), (1, .int b31_L1), (2, .int b31_L2), (3, .ref (ad 4)), (5, .int b31_L5), (6, .int b31_L6), (7, .int b31_L7)] d_X9_brineAfterDay_80 (by decide) rfl ?_
      exact z_lv [1, 2, 3, 4, 0, 5, 6, 7] _ rfl (hb82 self31 hs31 b31_L1 b31_L2 v9 b31_L5 b31_L6 b31_L7 M7 hF)
  unfold F_X9_brineAfterDay at hF
  refine z_aload_n cx d_X9_brineAfterDay_0 0 rfl ?_
  refine z_getR cx hT fg_SunnyPans_19 3 rfl d_X9_brineAfterDay_1 ?_
  refine z_getR cx (tfX_10_3 hT) fg_SunnyPans_159 4 rfl d_X9_brineAfterDay_4 ?_
  refine z_astore_n cx 3 [(3, .ref (ad 4)), (0, .ref (ad 0)), (1, .int p0), (2, .int p1)] d_X9_brineAfterDay_7 rfl (by decide) rfl ?_
  refine z_aload_n cx d_X9_brineAfterDay_8 0 rfl ?_
  refine z_getR cx (tfX_8_1 (tfX_10_3 hT)) fg_SunnyPans_174 5 rfl d_X9_brineAfterDay_9 ?_
  refine z_iload_n cx d_X9_brineAfterDay_12 2 rfl ?_
  obtain ⟨hi10, hF⟩ := gin_inv hF
  refine z_iald cx (tfX_5_1 (tfX_8_1 (tfX_10_3 hT))) za_16 hi10 p0.toNatClampNeg rfl d_X9_brineAfterDay_13 ?_
  refine z_nm hF (fun v11 hF => ?_)
  refine z_istore cx 4 [(4, .int v11), (3, .ref (ad 4)), (0, .ref (ad 0)), (1, .int p0), (2, .int p1)] d_X9_brineAfterDay_14 (by decide) rfl ?_
  refine z_aload_n cx d_X9_brineAfterDay_16 1 rfl ?_
  refine z_getI cx (tfX_8_1 (tfX_10_3 hT)) fg_SunnyPans_171 d_X9_brineAfterDay_17 ?_
  refine z_nm hF (fun v12 hF => ?_)
  refine z_istore cx 5 [(5, .int v12), (4, .int v11), (3, .ref (ad 4)), (0, .ref (ad 0)), (1, .int p0), (2, .int p1)] d_X9_brineAfterDay_20 (by decide) rfl ?_
  refine z_aload_n cx d_X9_brineAfterDay_22 2 rfl ?_
  refine z_getI cx (tfX_8_1 (tfX_10_3 hT)) fg_SunnyPans_168 d_X9_brineAfterDay_23 ?_
  refine z_nm hF (fun v13 hF => ?_)
  refine z_istore cx 6 [(6, .int v13), (5, .int v12), (4, .int v11), (3, .ref (ad 4)), (0, .ref (ad 0)), (1, .int p0), (2, .int p1)] d_X9_brineAfterDay_26 (by decide) rfl ?_
  refine z_iconst (v := 0) cx d_X9_brineAfterDay_28 ki_0 ?_
  refine z_istore cx 7 [(7, .int (0 : Int32)), (6, .int v13), (5, .int v12), (4, .int v11), (3, .ref (ad 4)), (0, .ref (ad 0)), (1, .int p0), (2, .int p1)] d_X9_brineAfterDay_29 (by decide) rfl ?_
  exact z_lv [5, 6, 7, 4, 3, 2, 1, 0] _ rfl (hL31 zFuel p0 p1 v11 v12 v13 (0 : Int32) M hF)
/-! SunnyPans.linesRight -/
set_option maxRecDepth 100000 in
theorem wd_421 : Cond.fieldLink "SunnyPans" 82 "SunnyPans" "notes" "LSunnyPans$Book;" ∈ tbG := tw2 81 rfl rfl
theorem fg_SunnyPans_82 : zGetD "SunnyPans" 82 9 10 12 := ⟨RX9, TX9, 19, rfl, by decide, uw_9, wd_421, fun _ _ _ _ _ _ => ⟨_, rfl, rfl⟩⟩
theorem td_2 {n k : Nat} (h0 : zT shX n 0 10) (h : (shX k == 2) = true) : zT shX n k 2 := zT_g h (shX_b (by decide) (by decide +kernel) (by decide) h0.2.2) (by decide)
set_option maxRecDepth 100000 in
theorem wd_397 : Cond.fieldLink "SunnyPans" 145 "SunnyPans$Book" "lines" "I" ∈ tbG := tw2 57 rfl rfl
theorem fg_SunnyPans_145 : zGetI "SunnyPans" 145 1 2 2 := ⟨RX1, TX1, 4, rfl, by decide, uw_1, wd_397, fun _ _ _ _ _ _ => ⟨_, rfl, rfl⟩⟩
set_option maxRecDepth 100000 in
theorem wd_393 : Cond.fieldLink "SunnyPans" 372 "SunnyPans$Book" "place" "[I" ∈ tbG := tw2 53 rfl rfl
theorem fg_SunnyPans_372 : zGetR "SunnyPans" 372 1 2 0 1 := ⟨RX1, TX1, 4, rfl, by decide, uw_1, wd_393, fun _ _ _ _ _ _ => ⟨_, rfl, rfl⟩⟩
set_option maxRecDepth 100000 in
theorem wd_1231 : Cond.code yX9_brineAfterDay cX9_brineAfterDay 8 (some .int) ∈ tbG := tw5 171 rfl rfl
set_option maxRecDepth 100000 in
theorem wd_1228 : Cond.methodLink "SunnyPans" 375 yX9_brineAfterDay ∈ tbG := tw5 168 rfl rfl
set_option maxRecDepth 100000 in
theorem wd_1230 : Cond.instanceMethod yX9_brineAfterDay ∈ tbG := tw5 170 rfl rfl
theorem wd_34 : Cond.selects "SunnyPans" yX9_brineAfterDay yX9_brineAfterDay ∈ tbG := tw 34 (by decide +kernel) rfl
theorem cv_SunnyPans_375 : zCV "SunnyPans" 375 "SunnyPans" yX9_brineAfterDay cX9_brineAfterDay 8 (some .int) 2 := zCV_of wd_1228 wd_1230 wd_34 wd_101 wd_1231 (by decide +kernel)
set_option maxRecDepth 100000 in
theorem wd_395 : Cond.fieldLink "SunnyPans" 378 "SunnyPans$Book" "brine" "[I" ∈ tbG := tw2 55 rfl rfl
theorem fg_SunnyPans_378 : zGetR "SunnyPans" 378 1 2 1 2 := ⟨RX1, TX1, 4, rfl, by decide, uw_1, wd_395, fun _ _ _ _ _ _ => ⟨_, rfl, rfl⟩⟩
theorem d_X9_linesRight_0 : decode cX9_linesRight 0 = .ok (.iconst 0, 1) := by decide +kernel
theorem d_X9_linesRight_1 : decode cX9_linesRight 1 = .ok (.istore_n 2, 1) := by decide +kernel
theorem d_X9_linesRight_2 : decode cX9_linesRight 2 = .ok (.iload_n 2, 1) := by decide +kernel
theorem d_X9_linesRight_3 : decode cX9_linesRight 3 = .ok (.aload_n 0, 1) := by decide +kernel
theorem d_X9_linesRight_4 : decode cX9_linesRight 4 = .ok (.getfield 82, 3) := by decide +kernel
theorem d_X9_linesRight_7 : decode cX9_linesRight 7 = .ok (.getfield 145, 3) := by decide +kernel
theorem d_X9_linesRight_10 : decode cX9_linesRight 10 = .ok (.if_icmp .ge 43, 3) := by decide +kernel
theorem d_X9_linesRight_13 : decode cX9_linesRight 13 = .ok (.iload_n 2, 1) := by decide +kernel
theorem d_X9_linesRight_14 : decode cX9_linesRight 14 = .ok (.bipush 8, 2) := by decide +kernel
theorem d_X9_linesRight_16 : decode cX9_linesRight 16 = .ok (.if_icmp .ge 37, 3) := by decide +kernel
theorem d_X9_linesRight_19 : decode cX9_linesRight 19 = .ok (.aload_n 0, 1) := by decide +kernel
theorem d_X9_linesRight_20 : decode cX9_linesRight 20 = .ok (.aload_n 0, 1) := by decide +kernel
theorem d_X9_linesRight_21 : decode cX9_linesRight 21 = .ok (.getfield 82, 3) := by decide +kernel
theorem d_X9_linesRight_24 : decode cX9_linesRight 24 = .ok (.getfield 372, 3) := by decide +kernel
theorem d_X9_linesRight_27 : decode cX9_linesRight 27 = .ok (.iload_n 2, 1) := by decide +kernel
theorem d_X9_linesRight_28 : decode cX9_linesRight 28 = .ok (.iaload, 1) := by decide +kernel
theorem d_X9_linesRight_29 : decode cX9_linesRight 29 = .ok (.iload_n 1, 1) := by decide +kernel
theorem d_X9_linesRight_30 : decode cX9_linesRight 30 = .ok (.invokevirtual 375, 3) := by decide +kernel
theorem d_X9_linesRight_33 : decode cX9_linesRight 33 = .ok (.aload_n 0, 1) := by decide +kernel
theorem d_X9_linesRight_34 : decode cX9_linesRight 34 = .ok (.getfield 82, 3) := by decide +kernel
theorem d_X9_linesRight_37 : decode cX9_linesRight 37 = .ok (.getfield 378, 3) := by decide +kernel
theorem d_X9_linesRight_40 : decode cX9_linesRight 40 = .ok (.iload_n 2, 1) := by decide +kernel
theorem d_X9_linesRight_41 : decode cX9_linesRight 41 = .ok (.iaload, 1) := by decide +kernel
theorem d_X9_linesRight_42 : decode cX9_linesRight 42 = .ok (.if_icmp .eq 5, 3) := by decide +kernel
theorem d_X9_linesRight_45 : decode cX9_linesRight 45 = .ok (.iconst 0, 1) := by decide +kernel
theorem d_X9_linesRight_46 : decode cX9_linesRight 46 = .ok (.ireturn, 1) := by decide +kernel
theorem d_X9_linesRight_47 : decode cX9_linesRight 47 = .ok (.iinc 2 1, 3) := by decide +kernel
theorem d_X9_linesRight_50 : decode cX9_linesRight 50 = .ok (.goto (-48), 3) := by decide +kernel
theorem d_X9_linesRight_53 : decode cX9_linesRight 53 = .ok (.iconst 1, 1) := by decide +kernel
theorem d_X9_linesRight_54 : decode cX9_linesRight 54 = .ok (.ireturn, 1) := by decide +kernel
def F_X9_linesRight_2 (p0 : Int32) (self2 : Int32 → Int32 → zMem → Option (Int32 × zMem)) (b2_L1 : Int32) (b2_L2 : Int32) (M : zMem) : Option (Int32 × zMem) :=
  gd (shX (M.2.2 0 12) == 2) <|
  if (M.1 (M.2.2 0 12) 2) ≤ b2_L2 then
    some ((1 : Int32), M)
  else
    if (8 : Int32) ≤ b2_L2 then
      some ((1 : Int32), M)
    else
      gin b2_L2 8 <|
      zb (F_X9_brineAfterDay M (M.1 ((M.2.2 0 12) + 1) b2_L2.toNatClampNeg) b2_L1) fun v4 M3 =>
      gd (shX (M3.2.2 0 12) == 2) <|
      if v4 = (M3.1 ((M3.2.2 0 12) + 2) b2_L2.toNatClampNeg) then
        self2 b2_L1 (b2_L2 + 1) M3
      else
        some ((0 : Int32), M3)
def F_X9_linesRight (M : zMem) (p0 : Int32) : Option (Int32 × zMem) :=
  itF (fun _ _ _ => none) (F_X9_linesRight_2 p0) zFuel p0 (0 : Int32) M
def rm_X9_linesRight : Room := { frames := 7, cells := 0, slots := 0, locals := 185 }
set_option maxHeartbeats 4000000 in
set_option maxRecDepth 100000 in
theorem c_X9_linesRight (l : Launch) {G : zG} {ad : Nat → Nat} {n : Nat} (hA : zInj ad n) (M : zMem) (p0 : Int32) (hT : zT shX n 0 10) {r9 : Int32} {M9 : zMem} (hF : F_X9_linesRight M p0 = some (r9, M9)) : zM l yX9_linesRight cX9_linesRight 3 (some .boolean) rm_X9_linesRight G shX ad n M [.ref (ad 0), .int p0] (some (.int r9)) M9 := by
  refine zM_of hA (by decide +kernel) (lv := [(0, .ref (ad 0)), (1, .int p0)]) (Nat.le_of_ble_eq_true rfl) rfl (fun p e s m args below meth c A cx hr => ?_)
  have hL2 : ∀ (fuel : Nat), ∀ (b2_L1 : Int32) (b2_L2 : Int32) (M : zMem), itF (fun _ _ _ => none) (F_X9_linesRight_2 p0) fuel b2_L1 b2_L2 M = some (r9, M9) → zJ p l e rm_X9_linesRight s m args below meth c G shX ad n A 3 (MQ below (zQ G shX ad n M9 (some (.int r9)) A) args s 0 0 A) 0 0 M 2 [(0, .ref (ad 0)), (1, .int b2_L1), (2, .int b2_L2)] [] := by
    intro fuel
    induction fuel with
    | zero => intro b2_L1 b2_L2 M hF; cases hF
    | succ fuel hs2 =>
      intro b2_L1 b2_L2 M hF
      have hF : F_X9_linesRight_2 p0 (itF (fun _ _ _ => none) (F_X9_linesRight_2 p0) fuel) b2_L1 b2_L2 M = some (r9, M9) := hF
      generalize itF (fun _ _ _ => none) (F_X9_linesRight_2 p0) fuel = self2 at hs2 hF
      unfold F_X9_linesRight_2 at hF
      refine z_iload_n cx d_X9_linesRight_2 2 rfl ?_
      refine z_aload_n cx d_X9_linesRight_3 0 rfl ?_
      obtain ⟨hg1, hF⟩ := gd_inv hF
      refine z_getD cx hT fg_SunnyPans_82 d_X9_linesRight_4 ?_
      refine z_getI cx (td_2 hT hg1) fg_SunnyPans_145 d_X9_linesRight_7 ?_
      refine z_icmp_ge cx 53 d_X9_linesRight_10 (by decide) hF (fun hF => ?_) (fun hF => ?_)
      · refine z_iconst (v := 1) cx d_X9_linesRight_53 ki_1 ?_
        exact z_iret cx hr nb1 hF d_X9_linesRight_54
      refine z_iload_n cx d_X9_linesRight_13 2 rfl ?_
      refine z_bipush (v := 8) cx d_X9_linesRight_14 kb_8 ?_
      refine z_icmp_ge cx 53 d_X9_linesRight_16 (by decide) hF (fun hF => ?_) (fun hF => ?_)
      · refine z_iconst (v := 1) cx d_X9_linesRight_53 ki_1 ?_
        exact z_iret cx hr nb1 hF d_X9_linesRight_54
      refine z_aload_n cx d_X9_linesRight_19 0 rfl ?_
      refine z_aload_n cx d_X9_linesRight_20 0 rfl ?_
      refine z_getD cx hT fg_SunnyPans_82 d_X9_linesRight_21 ?_
      refine z_getR cx (td_2 hT hg1) fg_SunnyPans_372 ((M.2.2 0 12) + 1) rfl d_X9_linesRight_24 ?_
      refine z_iload_n cx d_X9_linesRight_27 2 rfl ?_
      obtain ⟨hi2, hF⟩ := gin_inv hF
      refine z_iald cx (tfX_2_1 (td_2 hT hg1)) za_26 hi2 b2_L2.toNatClampNeg rfl d_X9_linesRight_28 ?_
      refine z_iload_n cx d_X9_linesRight_29 1 rfl ?_
      obtain ⟨v4, M3, hc, hF⟩ := zb_inv hF
      refine z_callV cx (As := [.int (M.1 ((M.2.2 0 12) + 1) b2_L2.toNatClampNeg), .int b2_L1]) (rest := []) (c_X9_brineAfterDay l cx.2.2.2.1.1 M (M.1 ((M.2.2 0 12) + 1) b2_L2.toNatClampNeg) b2_L1 hT hc) hT zo_10 cv_SunnyPans_375 ⟨rfl, rfl, Nat.le_of_ble_eq_true rfl, Nat.le_of_ble_eq_true rfl⟩ rfl rfl ⟨Nat.zero_le _, Nat.zero_le _⟩ (Nat.le_of_ble_eq_true rfl) d_X9_linesRight_30 ?_
      refine z_aload_n cx d_X9_linesRight_33 0 rfl ?_
      obtain ⟨hg5, hF⟩ := gd_inv hF
      refine z_getD cx hT fg_SunnyPans_82 d_X9_linesRight_34 ?_
      refine z_getR cx (td_2 hT hg5) fg_SunnyPans_378 ((M3.2.2 0 12) + 2) rfl d_X9_linesRight_37 ?_
      refine z_iload_n cx d_X9_linesRight_40 2 rfl ?_
      refine z_iald cx (tfX_2_2 (td_2 hT hg5)) za_26 hi2 b2_L2.toNatClampNeg rfl d_X9_linesRight_41 ?_
      refine z_icmp_eq cx 47 d_X9_linesRight_42 (by decide) hF (fun hF => ?_) (fun hF => ?_)
      · refine z_iinc cx 2 1 [(2, .int (b2_L2 + 1)), (0, .ref (ad 0)), (1, .int b2_L1)] d_X9_linesRight_47 2 rfl ki_1 (by decide) rfl ?_
        refine z_goto cx 2 d_X9_linesRight_50 (by decide) ?_
        exact z_lv [1, 2, 0] _ rfl (hs2 b2_L1 (b2_L2 + 1) M3 hF)
      refine z_iconst (v := 0) cx d_X9_linesRight_45 ki_0 ?_
      exact z_iret cx hr nb0 hF d_X9_linesRight_46
  unfold F_X9_linesRight at hF
  refine z_iconst (v := 0) cx d_X9_linesRight_0 ki_0 ?_
  refine z_istore_n cx 2 [(2, .int (0 : Int32)), (0, .ref (ad 0)), (1, .int p0)] d_X9_linesRight_1 rfl (by decide) rfl ?_
  exact z_lv [1, 2, 0] _ rfl (hL2 zFuel p0 (0 : Int32) M hF)
/-! SunnyPans.fittingPlaces -/
set_option maxRecDepth 100000 in
theorem wd_1227 : Cond.code yX9_linesRight cX9_linesRight 3 (some .boolean) ∈ tbG := tw5 167 rfl rfl
set_option maxRecDepth 100000 in
theorem wd_1224 : Cond.methodLink "SunnyPans" 368 yX9_linesRight ∈ tbG := tw5 164 rfl rfl
set_option maxRecDepth 100000 in
theorem wd_1226 : Cond.instanceMethod yX9_linesRight ∈ tbG := tw5 166 rfl rfl
theorem wd_33 : Cond.selects "SunnyPans" yX9_linesRight yX9_linesRight ∈ tbG := tw 33 (by decide +kernel) rfl
theorem cv_SunnyPans_368 : zCV "SunnyPans" 368 "SunnyPans" yX9_linesRight cX9_linesRight 3 (some .boolean) 1 := zCV_of wd_1224 wd_1226 wd_33 wd_101 wd_1227 (by decide +kernel)
set_option maxRecDepth 100000 in
theorem wd_1149 : Cond.code yX9_layEverywhere cX9_layEverywhere 4 (some .long) ∈ tbG := tw5 89 rfl rfl
set_option maxRecDepth 100000 in
theorem wd_1146 : Cond.methodLink "SunnyPans" 333 yX9_layEverywhere ∈ tbG := tw5 86 rfl rfl
set_option maxRecDepth 100000 in
theorem wd_1148 : Cond.instanceMethod yX9_layEverywhere ∈ tbG := tw5 88 rfl rfl
theorem wd_31 : Cond.selects "SunnyPans" yX9_layEverywhere yX9_layEverywhere ∈ tbG := tw 31 (by decide +kernel) rfl
theorem cv_SunnyPans_333 : zCV "SunnyPans" 333 "SunnyPans" yX9_layEverywhere cX9_layEverywhere 4 (some .long) 1 := zCV_of wd_1146 wd_1148 wd_31 wd_101 wd_1149 (by decide +kernel)
theorem d_X9_fittingPlaces_0 : decode cX9_fittingPlaces 0 = .ok (.aload_n 0, 1) := by decide +kernel
theorem d_X9_fittingPlaces_1 : decode cX9_fittingPlaces 1 = .ok (.iload_n 1, 1) := by decide +kernel
theorem d_X9_fittingPlaces_2 : decode cX9_fittingPlaces 2 = .ok (.invokevirtual 333, 3) := by decide +kernel
theorem d_X9_fittingPlaces_5 : decode cX9_fittingPlaces 5 = .ok (.lstore_n 2, 1) := by decide +kernel
theorem d_X9_fittingPlaces_6 : decode cX9_fittingPlaces 6 = .ok (.lconst 0, 1) := by decide +kernel
theorem d_X9_fittingPlaces_7 : decode cX9_fittingPlaces 7 = .ok (.lstore 4, 2) := by decide +kernel
theorem d_X9_fittingPlaces_9 : decode cX9_fittingPlaces 9 = .ok (.iconst 0, 1) := by decide +kernel
theorem d_X9_fittingPlaces_10 : decode cX9_fittingPlaces 10 = .ok (.istore 6, 2) := by decide +kernel
theorem d_X9_fittingPlaces_12 : decode cX9_fittingPlaces 12 = .ok (.iload 6, 2) := by decide +kernel
theorem d_X9_fittingPlaces_14 : decode cX9_fittingPlaces 14 = .ok (.bipush 64, 2) := by decide +kernel
theorem d_X9_fittingPlaces_16 : decode cX9_fittingPlaces 16 = .ok (.if_icmp .ge 37, 3) := by decide +kernel
theorem d_X9_fittingPlaces_19 : decode cX9_fittingPlaces 19 = .ok (.lload_n 2, 1) := by decide +kernel
theorem d_X9_fittingPlaces_20 : decode cX9_fittingPlaces 20 = .ok (.iload 6, 2) := by decide +kernel
theorem d_X9_fittingPlaces_22 : decode cX9_fittingPlaces 22 = .ok (.invokestatic 231, 3) := by decide +kernel
theorem d_X9_fittingPlaces_25 : decode cX9_fittingPlaces 25 = .ok (.ifCond .eq 22, 3) := by decide +kernel
theorem d_X9_fittingPlaces_28 : decode cX9_fittingPlaces 28 = .ok (.aload_n 0, 1) := by decide +kernel
theorem d_X9_fittingPlaces_29 : decode cX9_fittingPlaces 29 = .ok (.iload 6, 2) := by decide +kernel
theorem d_X9_fittingPlaces_31 : decode cX9_fittingPlaces 31 = .ok (.invokevirtual 368, 3) := by decide +kernel
theorem d_X9_fittingPlaces_34 : decode cX9_fittingPlaces 34 = .ok (.ifCond .eq 13, 3) := by decide +kernel
theorem d_X9_fittingPlaces_37 : decode cX9_fittingPlaces 37 = .ok (.lload 4, 2) := by decide +kernel
theorem d_X9_fittingPlaces_39 : decode cX9_fittingPlaces 39 = .ok (.iload 6, 2) := by decide +kernel
theorem d_X9_fittingPlaces_41 : decode cX9_fittingPlaces 41 = .ok (.invokestatic 298, 3) := by decide +kernel
theorem d_X9_fittingPlaces_44 : decode cX9_fittingPlaces 44 = .ok (.lor, 1) := by decide +kernel
theorem d_X9_fittingPlaces_45 : decode cX9_fittingPlaces 45 = .ok (.lstore 4, 2) := by decide +kernel
theorem d_X9_fittingPlaces_47 : decode cX9_fittingPlaces 47 = .ok (.iinc 6 1, 3) := by decide +kernel
theorem d_X9_fittingPlaces_50 : decode cX9_fittingPlaces 50 = .ok (.goto (-38), 3) := by decide +kernel
theorem d_X9_fittingPlaces_53 : decode cX9_fittingPlaces 53 = .ok (.lload 4, 2) := by decide +kernel
theorem d_X9_fittingPlaces_55 : decode cX9_fittingPlaces 55 = .ok (.lreturn, 1) := by decide +kernel
def F_X9_fittingPlaces_47 (p0 : Int32) (self12 : Int64 → Int64 → Int32 → zMem → Option (Int64 × zMem)) (b47_L2 : Int64) (b47_L4 : Int64) (b47_L6 : Int32) (M : zMem) : Option (Int64 × zMem) :=
  self12 b47_L2 b47_L4 (b47_L6 + 1) M
def F_X9_fittingPlaces_12 (p0 : Int32) (self12 : Int64 → Int64 → Int32 → zMem → Option (Int64 × zMem)) (b12_L2 : Int64) (b12_L4 : Int64) (b12_L6 : Int32) (M : zMem) : Option (Int64 × zMem) :=
  if (64 : Int32) ≤ b12_L6 then
    some (b12_L4, M)
  else
    zb (F_X9_has M b12_L2 b12_L6) fun v2 M1 =>
    if v2 = 0 then
      F_X9_fittingPlaces_47 p0 self12 b12_L2 b12_L4 b12_L6 M1
    else
      zb (F_X9_linesRight M1 b12_L6) fun v4 M3 =>
      if v4 = 0 then
        F_X9_fittingPlaces_47 p0 self12 b12_L2 b12_L4 b12_L6 M3
      else
        zb (F_X9_bit M3 b12_L6) fun v6 M5 =>
        zl (b12_L4 ||| v6) fun v7 =>
        F_X9_fittingPlaces_47 p0 self12 b12_L2 v7 b12_L6 M5
def F_X9_fittingPlaces (M : zMem) (p0 : Int32) : Option (Int64 × zMem) :=
  zb (F_X9_layEverywhere M p0) fun v9 M8 =>
  itF (fun _ _ _ _ => none) (F_X9_fittingPlaces_12 p0) zFuel v9 (0 : Int64) (0 : Int32) M8
def rm_X9_fittingPlaces : Room := { frames := 8, cells := 0, slots := 0, locals := 207 }
set_option maxHeartbeats 4000000 in
set_option maxRecDepth 100000 in
theorem c_X9_fittingPlaces (l : Launch) {G : zG} {ad : Nat → Nat} {n : Nat} (hA : zInj ad n) (M : zMem) (p0 : Int32) (hT : zT shX n 0 10) {r9 : Int64} {M9 : zMem} (hF : F_X9_fittingPlaces M p0 = some (r9, M9)) : zM l yX9_fittingPlaces cX9_fittingPlaces 7 (some .long) rm_X9_fittingPlaces G shX ad n M [.ref (ad 0), .int p0] (some (.long r9)) M9 := by
  refine zM_of hA (by decide +kernel) (lv := [(0, .ref (ad 0)), (1, .int p0)]) (Nat.le_of_ble_eq_true rfl) rfl (fun p e s m args below meth c A cx hr => ?_)
  have hb47 : ∀ (self12 : Int64 → Int64 → Int32 → zMem → Option (Int64 × zMem)) (hs12 : ∀ (b12_L2 : Int64) (b12_L4 : Int64) (b12_L6 : Int32) (M : zMem), self12 b12_L2 b12_L4 b12_L6 M = some (r9, M9) → zJ p l e rm_X9_fittingPlaces s m args below meth c G shX ad n A 7 (MQ below (zQ G shX ad n M9 (some (.long r9)) A) args s 0 0 A) 0 0 M 12 [(0, .ref (ad 0)), (2, .long b12_L2), (4, .long b12_L4), (6, .int b12_L6)] []), ∀ (b47_L2 : Int64) (b47_L4 : Int64) (b47_L6 : Int32) (M : zMem), F_X9_fittingPlaces_47 p0 self12 b47_L2 b47_L4 b47_L6 M = some (r9, M9) → zJ p l e rm_X9_fittingPlaces s m args below meth c G shX ad n A 7 (MQ below (zQ G shX ad n M9 (some (.long r9)) A) args s 0 0 A) 0 0 M 47 [(0, .ref (ad 0)), (2, .long b47_L2), (4, .long b47_L4), (6, .int b47_L6)] [] := by
    intro self12 hs12 b47_L2 b47_L4 b47_L6 M hF
    unfold F_X9_fittingPlaces_47 at hF
    refine z_iinc cx 6 1 [(6, .int (b47_L6 + 1)), (0, .ref (ad 0)), (2, .long b47_L2), (4, .long b47_L4)] d_X9_fittingPlaces_47 3 rfl ki_1 (by decide) rfl ?_
    refine z_goto cx 12 d_X9_fittingPlaces_50 (by decide) ?_
    exact z_lv [1, 2, 3, 0] _ rfl (hs12 b47_L2 b47_L4 (b47_L6 + 1) M hF)
  have hL12 : ∀ (fuel : Nat), ∀ (b12_L2 : Int64) (b12_L4 : Int64) (b12_L6 : Int32) (M : zMem), itF (fun _ _ _ _ => none) (F_X9_fittingPlaces_12 p0) fuel b12_L2 b12_L4 b12_L6 M = some (r9, M9) → zJ p l e rm_X9_fittingPlaces s m args below meth c G shX ad n A 7 (MQ below (zQ G shX ad n M9 (some (.long r9)) A) args s 0 0 A) 0 0 M 12 [(0, .ref (ad 0)), (2, .long b12_L2), (4, .long b12_L4), (6, .int b12_L6)] [] := by
    intro fuel
    induction fuel with
    | zero => intro b12_L2 b12_L4 b12_L6 M hF; cases hF
    | succ fuel hs12 =>
      intro b12_L2 b12_L4 b12_L6 M hF
      have hF : F_X9_fittingPlaces_12 p0 (itF (fun _ _ _ _ => none) (F_X9_fittingPlaces_12 p0) fuel) b12_L2 b12_L4 b12_L6 M = some (r9, M9) := hF
      generalize itF (fun _ _ _ _ => none) (F_X9_fittingPlaces_12 p0) fuel = self12 at hs12 hF
      unfold F_X9_fittingPlaces_12 at hF
      refine z_iload cx d_X9_fittingPlaces_12 3 rfl ?_
      refine z_bipush (v := 64) cx d_X9_fittingPlaces_14 kb_64 ?_
      refine z_icmp_ge cx 53 d_X9_fittingPlaces_16 (by decide) hF (fun hF => ?_) (fun hF => ?_)
      · refine z_lload cx d_X9_fittingPlaces_53 2 rfl ?_
        exact z_lret cx hr hF d_X9_fittingPlaces_55
      refine z_lload_n cx d_X9_fittingPlaces_19 1 rfl ?_
      refine z_iload cx d_X9_fittingPlaces_20 3 rfl ?_
      obtain ⟨v2, M1, hc, hF⟩ := zb_inv hF
      refine z_callS cx (As := [.long b12_L2, .int b12_L6]) (rest := []) (c_X9_has l cx.2.2.2.1.1 M b12_L2 b12_L6  hc) cs_SunnyPans_231 ⟨rfl, rfl, Nat.le_of_ble_eq_true rfl, Nat.le_of_ble_eq_true rfl⟩ rfl rfl ⟨Nat.zero_le _, Nat.zero_le _⟩ (Nat.le_of_ble_eq_true rfl) d_X9_fittingPlaces_22 ?_
      refine z_if_eq cx 47 d_X9_fittingPlaces_25 (by decide) hF (fun hF => ?_) (fun hF => ?_)
      · exact hb47 self12 hs12 b12_L2 b12_L4 b12_L6 M1 hF
      refine z_aload_n cx d_X9_fittingPlaces_28 0 rfl ?_
      refine z_iload cx d_X9_fittingPlaces_29 3 rfl ?_
      obtain ⟨v4, M3, hc, hF⟩ := zb_inv hF
      refine z_callV cx (As := [.int b12_L6]) (rest := []) (c_X9_linesRight l cx.2.2.2.1.1 M1 b12_L6 hT hc) hT zo_10 cv_SunnyPans_368 ⟨rfl, rfl, Nat.le_of_ble_eq_true rfl, Nat.le_of_ble_eq_true rfl⟩ rfl rfl ⟨Nat.zero_le _, Nat.zero_le _⟩ (Nat.le_of_ble_eq_true rfl) d_X9_fittingPlaces_31 ?_
      refine z_if_eq cx 47 d_X9_fittingPlaces_34 (by decide) hF (fun hF => ?_) (fun hF => ?_)
      · exact hb47 self12 hs12 b12_L2 b12_L4 b12_L6 M3 hF
      refine z_lload cx d_X9_fittingPlaces_37 2 rfl ?_
      refine z_iload cx d_X9_fittingPlaces_39 3 rfl ?_
      obtain ⟨v6, M5, hc, hF⟩ := zb_inv hF
      refine z_callS cx (As := [.int b12_L6]) (rest := [.long b12_L4]) (c_X9_bit l cx.2.2.2.1.1 M3 b12_L6  hc) cs_SunnyPans_298 ⟨rfl, rfl, Nat.le_of_ble_eq_true rfl, Nat.le_of_ble_eq_true rfl⟩ rfl rfl ⟨Nat.zero_le _, Nat.zero_le _⟩ (Nat.le_of_ble_eq_true rfl) d_X9_fittingPlaces_41 ?_
      refine z_lor cx d_X9_fittingPlaces_44 ?_
      refine z_nml hF (fun v7 hF => ?_)
      refine z_lstore cx 4 [(4, .long v7), (0, .ref (ad 0)), (2, .long b12_L2), (6, .int b12_L6)] d_X9_fittingPlaces_45 (by decide) rfl ?_
      exact z_lv [1, 2, 0, 3] _ rfl (hb47 self12 hs12 b12_L2 v7 b12_L6 M5 hF)
  unfold F_X9_fittingPlaces at hF
  refine z_aload_n cx d_X9_fittingPlaces_0 0 rfl ?_
  refine z_iload_n cx d_X9_fittingPlaces_1 1 rfl ?_
  obtain ⟨v9, M8, hc, hF⟩ := zb_inv hF
  refine z_callV cx (As := [.int p0]) (rest := []) (c_X9_layEverywhere l cx.2.2.2.1.1 M p0 hT hc) hT zo_10 cv_SunnyPans_333 ⟨rfl, rfl, Nat.le_of_ble_eq_true rfl, Nat.le_of_ble_eq_true rfl⟩ rfl rfl ⟨Nat.zero_le _, Nat.zero_le _⟩ (Nat.le_of_ble_eq_true rfl) d_X9_fittingPlaces_2 ?_
  refine z_lstore_n cx 2 [(2, .long v9), (0, .ref (ad 0)), (1, .int p0)] d_X9_fittingPlaces_5 rfl (by decide) rfl ?_
  refine z_lconst (v := 0) cx d_X9_fittingPlaces_6 (by decide +kernel) ?_
  refine z_lstore cx 4 [(4, .long (0 : Int64)), (2, .long v9), (0, .ref (ad 0)), (1, .int p0)] d_X9_fittingPlaces_7 (by decide) rfl ?_
  refine z_iconst (v := 0) cx d_X9_fittingPlaces_9 ki_0 ?_
  refine z_istore cx 6 [(6, .int (0 : Int32)), (4, .long (0 : Int64)), (2, .long v9), (0, .ref (ad 0)), (1, .int p0)] d_X9_fittingPlaces_10 (by decide) rfl ?_
  exact z_lv [3, 2, 1, 0] _ rfl (hL12 zFuel v9 (0 : Int64) (0 : Int32) M8 hF)
/-! SunnyPans.brinesSeen -/
theorem tfX_10_173 {n k : Nat} (h : zT shX n k 10) : zT shX n (k + 173) 16 := zT_off h (shX_f (by decide) (by decide +kernel)) (by decide) (by decide)
set_option maxRecDepth 100000 in
theorem wd_416 : Cond.fieldLink "SunnyPans" 55 "SunnyPans" "seen" "[I" ∈ tbG := tw2 76 rfl rfl
theorem fg_SunnyPans_55 : zGetR "SunnyPans" 55 9 10 7 173 := ⟨RX9, TX9, 19, rfl, by decide, uw_9, wd_416, fun _ _ _ _ _ _ => ⟨_, rfl, rfl⟩⟩
set_option maxRecDepth 100000 in
theorem wd_1247 : Cond.code yX6_touchedBy cX6_touchedBy 2 (some .long) ∈ tbG := tw5 187 rfl rfl
set_option maxRecDepth 100000 in
theorem wd_1244 : Cond.methodLink "SunnyPans" 383 yX6_touchedBy ∈ tbG := tw5 184 rfl rfl
set_option maxRecDepth 100000 in
theorem wd_1245 : Cond.instanceMethod yX6_touchedBy ∈ tbG := tw5 185 rfl rfl
set_option maxRecDepth 100000 in
theorem wd_1246 : Cond.selects "SunnyPans$Shadows" yX6_touchedBy yX6_touchedBy ∈ tbG := tw5 186 rfl rfl
theorem cv_SunnyPans_383 : zCV "SunnyPans" 383 "SunnyPans$Shadows" yX6_touchedBy cX6_touchedBy 2 (some .long) 1 := zCV_of wd_1244 wd_1245 wd_1246 wd_106 wd_1247 (by decide +kernel)
theorem d_X9_brinesSeen_0 : decode cX9_brinesSeen 0 = .ok (.iconst 0, 1) := by decide +kernel
theorem d_X9_brinesSeen_1 : decode cX9_brinesSeen 1 = .ok (.istore 4, 2) := by decide +kernel
theorem d_X9_brinesSeen_3 : decode cX9_brinesSeen 3 = .ok (.iconst (-1), 1) := by decide +kernel
theorem d_X9_brinesSeen_4 : decode cX9_brinesSeen 4 = .ok (.istore 5, 2) := by decide +kernel
theorem d_X9_brinesSeen_6 : decode cX9_brinesSeen 6 = .ok (.iconst 0, 1) := by decide +kernel
theorem d_X9_brinesSeen_7 : decode cX9_brinesSeen 7 = .ok (.istore 6, 2) := by decide +kernel
theorem d_X9_brinesSeen_9 : decode cX9_brinesSeen 9 = .ok (.iload 6, 2) := by decide +kernel
theorem d_X9_brinesSeen_11 : decode cX9_brinesSeen 11 = .ok (.bipush 64, 2) := by decide +kernel
theorem d_X9_brinesSeen_13 : decode cX9_brinesSeen 13 = .ok (.if_icmp .ge 86, 3) := by decide +kernel
theorem d_X9_brinesSeen_16 : decode cX9_brinesSeen 16 = .ok (.lload_n 2, 1) := by decide +kernel
theorem d_X9_brinesSeen_17 : decode cX9_brinesSeen 17 = .ok (.iload 6, 2) := by decide +kernel
theorem d_X9_brinesSeen_19 : decode cX9_brinesSeen 19 = .ok (.invokestatic 231, 3) := by decide +kernel
theorem d_X9_brinesSeen_22 : decode cX9_brinesSeen 22 = .ok (.ifCond .ne 6, 3) := by decide +kernel
theorem d_X9_brinesSeen_25 : decode cX9_brinesSeen 25 = .ok (.goto 68, 3) := by decide +kernel
theorem d_X9_brinesSeen_28 : decode cX9_brinesSeen 28 = .ok (.aload_n 0, 1) := by decide +kernel
theorem d_X9_brinesSeen_29 : decode cX9_brinesSeen 29 = .ok (.getfield 44, 3) := by decide +kernel
theorem d_X9_brinesSeen_32 : decode cX9_brinesSeen 32 = .ok (.iload 6, 2) := by decide +kernel
theorem d_X9_brinesSeen_34 : decode cX9_brinesSeen 34 = .ok (.invokevirtual 383, 3) := by decide +kernel
theorem d_X9_brinesSeen_37 : decode cX9_brinesSeen 37 = .ok (.iload_n 1, 1) := by decide +kernel
theorem d_X9_brinesSeen_38 : decode cX9_brinesSeen 38 = .ok (.invokestatic 231, 3) := by decide +kernel
theorem d_X9_brinesSeen_41 : decode cX9_brinesSeen 41 = .ok (.ifCond .eq 20, 3) := by decide +kernel
theorem d_X9_brinesSeen_44 : decode cX9_brinesSeen 44 = .ok (.aload_n 0, 1) := by decide +kernel
theorem d_X9_brinesSeen_45 : decode cX9_brinesSeen 45 = .ok (.getfield 55, 3) := by decide +kernel
theorem d_X9_brinesSeen_48 : decode cX9_brinesSeen 48 = .ok (.iload 4, 2) := by decide +kernel
theorem d_X9_brinesSeen_50 : decode cX9_brinesSeen 50 = .ok (.aload_n 0, 1) := by decide +kernel
theorem d_X9_brinesSeen_51 : decode cX9_brinesSeen 51 = .ok (.iload_n 1, 1) := by decide +kernel
theorem d_X9_brinesSeen_52 : decode cX9_brinesSeen 52 = .ok (.iload 6, 2) := by decide +kernel
theorem d_X9_brinesSeen_54 : decode cX9_brinesSeen 54 = .ok (.invokevirtual 375, 3) := by decide +kernel
theorem d_X9_brinesSeen_57 : decode cX9_brinesSeen 57 = .ok (.iastore, 1) := by decide +kernel
theorem d_X9_brinesSeen_58 : decode cX9_brinesSeen 58 = .ok (.goto 32, 3) := by decide +kernel
theorem d_X9_brinesSeen_61 : decode cX9_brinesSeen 61 = .ok (.iload 5, 2) := by decide +kernel
theorem d_X9_brinesSeen_63 : decode cX9_brinesSeen 63 = .ok (.iconst (-1), 1) := by decide +kernel
theorem d_X9_brinesSeen_64 : decode cX9_brinesSeen 64 = .ok (.if_icmp .ne 13, 3) := by decide +kernel
theorem d_X9_brinesSeen_67 : decode cX9_brinesSeen 67 = .ok (.aload_n 0, 1) := by decide +kernel
theorem d_X9_brinesSeen_68 : decode cX9_brinesSeen 68 = .ok (.iload_n 1, 1) := by decide +kernel
theorem d_X9_brinesSeen_69 : decode cX9_brinesSeen 69 = .ok (.iload 6, 2) := by decide +kernel
theorem d_X9_brinesSeen_71 : decode cX9_brinesSeen 71 = .ok (.invokevirtual 375, 3) := by decide +kernel
theorem d_X9_brinesSeen_74 : decode cX9_brinesSeen 74 = .ok (.goto 5, 3) := by decide +kernel
theorem d_X9_brinesSeen_77 : decode cX9_brinesSeen 77 = .ok (.iload 5, 2) := by decide +kernel
theorem d_X9_brinesSeen_79 : decode cX9_brinesSeen 79 = .ok (.istore 5, 2) := by decide +kernel
theorem d_X9_brinesSeen_81 : decode cX9_brinesSeen 81 = .ok (.aload_n 0, 1) := by decide +kernel
theorem d_X9_brinesSeen_82 : decode cX9_brinesSeen 82 = .ok (.getfield 55, 3) := by decide +kernel
theorem d_X9_brinesSeen_85 : decode cX9_brinesSeen 85 = .ok (.iload 4, 2) := by decide +kernel
theorem d_X9_brinesSeen_87 : decode cX9_brinesSeen 87 = .ok (.iload 5, 2) := by decide +kernel
theorem d_X9_brinesSeen_89 : decode cX9_brinesSeen 89 = .ok (.iastore, 1) := by decide +kernel
theorem d_X9_brinesSeen_90 : decode cX9_brinesSeen 90 = .ok (.iinc 4 1, 3) := by decide +kernel
theorem d_X9_brinesSeen_93 : decode cX9_brinesSeen 93 = .ok (.iinc 6 1, 3) := by decide +kernel
theorem d_X9_brinesSeen_96 : decode cX9_brinesSeen 96 = .ok (.goto (-87), 3) := by decide +kernel
theorem d_X9_brinesSeen_99 : decode cX9_brinesSeen 99 = .ok (.iload 4, 2) := by decide +kernel
theorem d_X9_brinesSeen_101 : decode cX9_brinesSeen 101 = .ok (.ireturn, 1) := by decide +kernel
def F_X9_brinesSeen_93 (p0 : Int32) (p1 : Int64) (self9 : Int32 → Int64 → Int32 → Int32 → Int32 → zMem → Option (Int32 × zMem)) (b93_L1 : Int32) (b93_L2 : Int64) (b93_L4 : Int32) (b93_L5 : Int32) (b93_L6 : Int32) (M : zMem) : Option (Int32 × zMem) :=
  self9 b93_L1 b93_L2 b93_L4 b93_L5 (b93_L6 + 1) M
def F_X9_brinesSeen_90 (p0 : Int32) (p1 : Int64) (self9 : Int32 → Int64 → Int32 → Int32 → Int32 → zMem → Option (Int32 × zMem)) (b90_L1 : Int32) (b90_L2 : Int64) (b90_L4 : Int32) (b90_L5 : Int32) (b90_L6 : Int32) (M : zMem) : Option (Int32 × zMem) :=
  F_X9_brinesSeen_93 p0 p1 self9 b90_L1 b90_L2 (b90_L4 + 1) b90_L5 b90_L6 M
def F_X9_brinesSeen_79 (p0 : Int32) (p1 : Int64) (self9 : Int32 → Int64 → Int32 → Int32 → Int32 → zMem → Option (Int32 × zMem)) (b79_L1 : Int32) (b79_L2 : Int64) (b79_L4 : Int32) (b79_L6 : Int32) (b79_S0 : Int32) (M : zMem) : Option (Int32 × zMem) :=
  gin b79_L4 64 <|
  zl (zI M 173 b79_L4.toNatClampNeg b79_S0) fun M2 =>
  F_X9_brinesSeen_90 p0 p1 self9 b79_L1 b79_L2 b79_L4 b79_S0 b79_L6 M2
def F_X9_brinesSeen_9 (p0 : Int32) (p1 : Int64) (self9 : Int32 → Int64 → Int32 → Int32 → Int32 → zMem → Option (Int32 × zMem)) (b9_L1 : Int32) (b9_L2 : Int64) (b9_L4 : Int32) (b9_L5 : Int32) (b9_L6 : Int32) (M : zMem) : Option (Int32 × zMem) :=
  if (64 : Int32) ≤ b9_L6 then
    some (b9_L4, M)
  else
    zb (F_X9_has M b9_L2 b9_L6) fun v4 M3 =>
    if v4 = 0 then
      F_X9_brinesSeen_93 p0 p1 self9 b9_L1 b9_L2 b9_L4 b9_L5 b9_L6 M3
    else
      zb (F_X6_touchedBy M3 104 b9_L6) fun v6 M5 =>
      zb (F_X9_has M5 v6 b9_L1) fun v8 M7 =>
      if v8 = 0 then
        if b9_L5 = (-1 : Int32) then
          zb (F_X9_brineAfterDay M7 b9_L1 b9_L6) fun v10 M9 =>
          F_X9_brinesSeen_79 p0 p1 self9 b9_L1 b9_L2 b9_L4 b9_L6 v10 M9
        else
          F_X9_brinesSeen_79 p0 p1 self9 b9_L1 b9_L2 b9_L4 b9_L6 b9_L5 M7
      else
        zb (F_X9_brineAfterDay M7 b9_L1 b9_L6) fun v12 M11 =>
        gin b9_L4 64 <|
        zl (zI M11 173 b9_L4.toNatClampNeg v12) fun M14 =>
        F_X9_brinesSeen_90 p0 p1 self9 b9_L1 b9_L2 b9_L4 b9_L5 b9_L6 M14
def F_X9_brinesSeen (M : zMem) (p0 : Int32) (p1 : Int64) : Option (Int32 × zMem) :=
  itF (fun _ _ _ _ _ _ => none) (F_X9_brinesSeen_9 p0 p1) zFuel p0 p1 (0 : Int32) (-1 : Int32) (0 : Int32) M
def rm_X9_brinesSeen : Room := { frames := 7, cells := 0, slots := 0, locals := 185 }
set_option maxHeartbeats 4000000 in
set_option maxRecDepth 100000 in
theorem c_X9_brinesSeen (l : Launch) {G : zG} {ad : Nat → Nat} {n : Nat} (hA : zInj ad n) (M : zMem) (p0 : Int32) (p1 : Int64) (hT : zT shX n 0 10) {r9 : Int32} {M9 : zMem} (hF : F_X9_brinesSeen M p0 p1 = some (r9, M9)) : zM l yX9_brinesSeen cX9_brinesSeen 7 (some .int) rm_X9_brinesSeen G shX ad n M [.ref (ad 0), .int p0, .long p1] (some (.int r9)) M9 := by
  refine zM_of hA (by decide +kernel) (lv := [(0, .ref (ad 0)), (1, .int p0), (2, .long p1)]) (Nat.le_of_ble_eq_true rfl) rfl (fun p e s m args below meth c A cx hr => ?_)
  have hb93 : ∀ (self9 : Int32 → Int64 → Int32 → Int32 → Int32 → zMem → Option (Int32 × zMem)) (hs9 : ∀ (b9_L1 : Int32) (b9_L2 : Int64) (b9_L4 : Int32) (b9_L5 : Int32) (b9_L6 : Int32) (M : zMem), self9 b9_L1 b9_L2 b9_L4 b9_L5 b9_L6 M = some (r9, M9) → zJ p l e rm_X9_brinesSeen s m args below meth c G shX ad n A 7 (MQ below (zQ G shX ad n M9 (some (.int r9)) A) args s 0 0 A) 0 0 M 9 [(0, .ref (ad 0)), (1, .int b9_L1), (2, .long b9_L2), (4, .int b9_L4), (5, .int b9_L5), (6, .int b9_L6)] []), ∀ (b93_L1 : Int32) (b93_L2 : Int64) (b93_L4 : Int32) (b93_L5 : Int32) (b93_L6 : Int32) (M : zMem), F_X9_brinesSeen_93 p0 p1 self9 b93_L1 b93_L2 b93_L4 b93_L5 b93_L6 M = some (r9, M9) → zJ p l e rm_X9_brinesSeen s m args below meth c G shX ad n A 7 (MQ below (zQ G shX ad n M9 (some (.int r9)) A) args s 0 0 A) 0 0 M 93 [(0, .ref (ad 0)), (1, .int b93_L1), (2, .long b93_L2), (4, .int b93_L4), (5, .int b93_L5), (6, .int b93_L6)] [] := by
    intro self9 hs9 b93_L1 b93_L2 b93_L4 b93_L5 b93_L6 M hF
    unfold F_X9_brinesSeen_93 at hF
    refine z_iinc cx 6 1 [(6, .int (b93_L6 + 1)), (0, .ref (ad 0)), (1, .int b93_L1), (2, .long b93_L2), (4, .int b93_L4), (5, .int b93_L5)] d_X9_brinesSeen_93 5 rfl ki_1 (by decide) rfl ?_
    refine z_goto cx 9 d_X9_brinesSeen_96 (by decide) ?_
    exact z_lv [1, 2, 3, 4, 5, 0] _ rfl (hs9 b93_L1 b93_L2 b93_L4 b93_L5 (b93_L6 + 1) M hF)
  have hb90 : ∀ (self9 : Int32 → Int64 → Int32 → Int32 → Int32 → zMem → Option (Int32 × zMem)) (hs9 : ∀ (b9_L1 : Int32) (b9_L2 : Int64) (b9_L4 : Int32) (b9_L5 : Int32) (b9_L6 : Int32) (M : zMem), self9 b9_L1 b9_L2 b9_L4 b9_L5 b9_L6 M = some (r9, M9) → zJ p l e rm_X9_brinesSeen s m args below meth c G shX ad n A 7 (MQ below (zQ G shX ad n M9 (some (.int r9)) A) args s 0 0 A) 0 0 M 9 [(0, .ref (ad 0)), (1, .int b9_L1), (2, .long b9_L2), (4, .int b9_L4), (5, .int b9_L5), (6, .int b9_L6)] []), ∀ (b90_L1 : Int32) (b90_L2 : Int64) (b90_L4 : Int32) (b90_L5 : Int32) (b90_L6 : Int32) (M : zMem), F_X9_brinesSeen_90 p0 p1 self9 b90_L1 b90_L2 b90_L4 b90_L5 b90_L6 M = some (r9, M9) → zJ p l e rm_X9_brinesSeen s m args below meth c G shX ad n A 7 (MQ below (zQ G shX ad n M9 (some (.int r9)) A) args s 0 0 A) 0 0 M 90 [(0, .ref (ad 0)), (1, .int b90_L1), (2, .long b90_L2), (4, .int b90_L4), (5, .int b90_L5), (6, .int b90_L6)] [] := by
    intro self9 hs9 b90_L1 b90_L2 b90_L4 b90_L5 b90_L6 M hF
    unfold F_X9_brinesSeen_90 at hF
    refine z_iinc cx 4 1 [(4, .int (b90_L4 + 1)), (0, .ref (ad 0)), (1, .int b90_L1), (2, .long b90_L2), (5, .int b90_L5), (6, .int b90_L6)] d_X9_brinesSeen_90 3 rfl ki_1 (by decide) rfl ?_
    exact z_lv [1, 2, 3, 0, 4, 5] _ rfl (hb93 self9 hs9 b90_L1 b90_L2 (b90_L4 + 1) b90_L5 b90_L6 M hF)
  have hb79 : ∀ (self9 : Int32 → Int64 → Int32 → Int32 → Int32 → zMem → Option (Int32 × zMem)) (hs9 : ∀ (b9_L1 : Int32) (b9_L2 : Int64) (b9_L4 : Int32) (b9_L5 : Int32) (b9_L6 : Int32) (M : zMem), self9 b9_L1 b9_L2 b9_L4 b9_L5 b9_L6 M = some (r9, M9) → zJ p l e rm_X9_brinesSeen s m args below meth c G shX ad n A 7 (MQ below (zQ G shX ad n M9 (some (.int r9)) A) args s 0 0 A) 0 0 M 9 [(0, .ref (ad 0)), (1, .int b9_L1), (2, .long b9_L2), (4, .int b9_L4), (5, .int b9_L5), (6, .int b9_L6)] []), ∀ (b79_L1 : Int32) (b79_L2 : Int64) (b79_L4 : Int32) (b79_L6 : Int32) (b79_S0 : Int32) (M : zMem), F_X9_brinesSeen_79 p0 p1 self9 b79_L1 b79_L2 b79_L4 b79_L6 b79_S0 M = some (r9, M9) → zJ p l e rm_X9_brinesSeen s m args below meth c G shX ad n A 7 (MQ below (zQ G shX ad n M9 (some (.int r9)) A) args s 0 0 A) 0 0 M 79 [(0, .ref (ad 0)), (1, .int b79_L1), (2, .long b79_L2), (4, .int b79_L4), (6, .int b79_L6)] [.int b79_S0] := by
    intro self9 hs9 b79_L1 b79_L2 b79_L4 b79_L6 b79_S0 M hF
    unfold F_X9_brinesSeen_79 at hF
    refine z_istore cx 5 [(5, .int b79_S0), (0, .ref (ad 0)), (1, .int b79_L1), (2, .long b79_L2), (4, .int b79_L4), (6, .int b79_L6)] d_X9_brinesSeen_79 (by decide) rfl ?_
    refine z_aload_n cx d_X9_brinesSeen_81 1 rfl ?_
    refine z_getR cx hT fg_SunnyPans_55 173 rfl d_X9_brinesSeen_82 ?_
    refine z_iload cx d_X9_brinesSeen_85 4 rfl ?_
    refine z_iload cx d_X9_brinesSeen_87 0 rfl ?_
    obtain ⟨hi1, hF⟩ := gin_inv hF
    refine z_iast cx (tfX_10_173 hT) za_16 hi1 b79_L4.toNatClampNeg rfl d_X9_brinesSeen_89 ?_
    refine z_nmM hF (fun M2 hF => ?_)
    exact z_lv [1, 2, 3, 4, 0, 5] _ rfl (hb90 self9 hs9 b79_L1 b79_L2 b79_L4 b79_S0 b79_L6 M2 hF)
  have hL9 : ∀ (fuel : Nat), ∀ (b9_L1 : Int32) (b9_L2 : Int64) (b9_L4 : Int32) (b9_L5 : Int32) (b9_L6 : Int32) (M : zMem), itF (fun _ _ _ _ _ _ => none) (F_X9_brinesSeen_9 p0 p1) fuel b9_L1 b9_L2 b9_L4 b9_L5 b9_L6 M = some (r9, M9) → zJ p l e rm_X9_brinesSeen s m args below meth c G shX ad n A 7 (MQ below (zQ G shX ad n M9 (some (.int r9)) A) args s 0 0 A) 0 0 M 9 [(0, .ref (ad 0)), (1, .int b9_L1), (2, .long b9_L2), (4, .int b9_L4), (5, .int b9_L5), (6, .int b9_L6)] [] := by
    intro fuel
    induction fuel with
    | zero => intro b9_L1 b9_L2 b9_L4 b9_L5 b9_L6 M hF; cases hF
    | succ fuel hs9 =>
      intro b9_L1 b9_L2 b9_L4 b9_L5 b9_L6 M hF
      have hF : F_X9_brinesSeen_9 p0 p1 (itF (fun _ _ _ _ _ _ => none) (F_X9_brinesSeen_9 p0 p1) fuel) b9_L1 b9_L2 b9_L4 b9_L5 b9_L6 M = some (r9, M9) := hF
      generalize itF (fun _ _ _ _ _ _ => none) (F_X9_brinesSeen_9 p0 p1) fuel = self9 at hs9 hF
      unfold F_X9_brinesSeen_9 at hF
      refine z_iload cx d_X9_brinesSeen_9 5 rfl ?_
      refine z_bipush (v := 64) cx d_X9_brinesSeen_11 kb_64 ?_
      refine z_icmp_ge cx 99 d_X9_brinesSeen_13 (by decide) hF (fun hF => ?_) (fun hF => ?_)
      · refine z_iload cx d_X9_brinesSeen_99 3 rfl ?_
        exact z_iret cx hr rfl hF d_X9_brinesSeen_101
      refine z_lload_n cx d_X9_brinesSeen_16 2 rfl ?_
      refine z_iload cx d_X9_brinesSeen_17 5 rfl ?_
      obtain ⟨v4, M3, hc, hF⟩ := zb_inv hF
      refine z_callS cx (As := [.long b9_L2, .int b9_L6]) (rest := []) (c_X9_has l cx.2.2.2.1.1 M b9_L2 b9_L6  hc) cs_SunnyPans_231 ⟨rfl, rfl, Nat.le_of_ble_eq_true rfl, Nat.le_of_ble_eq_true rfl⟩ rfl rfl ⟨Nat.zero_le _, Nat.zero_le _⟩ (Nat.le_of_ble_eq_true rfl) d_X9_brinesSeen_19 ?_
      refine z_if_ne cx 28 d_X9_brinesSeen_22 (by decide) hF (fun hF => ?_) (fun hF => ?_)
      · refine z_aload_n cx d_X9_brinesSeen_28 0 rfl ?_
        refine z_getR cx hT fg_SunnyPans_44 104 rfl d_X9_brinesSeen_29 ?_
        refine z_iload cx d_X9_brinesSeen_32 5 rfl ?_
        obtain ⟨v6, M5, hc, hF⟩ := zb_inv hF
        refine z_callV cx (As := [.int b9_L6]) (rest := []) (c_X6_touchedBy l cx.2.2.2.1.1 M3 104 b9_L6 (tfX_10_104 hT) hc) (tfX_10_104 hT) zo_7 cv_SunnyPans_383 ⟨rfl, rfl, Nat.le_of_ble_eq_true rfl, Nat.le_of_ble_eq_true rfl⟩ rfl rfl ⟨Nat.zero_le _, Nat.zero_le _⟩ (Nat.le_of_ble_eq_true rfl) d_X9_brinesSeen_34 ?_
        refine z_iload_n cx d_X9_brinesSeen_37 1 rfl ?_
        obtain ⟨v8, M7, hc, hF⟩ := zb_inv hF
        refine z_callS cx (As := [.long v6, .int b9_L1]) (rest := []) (c_X9_has l cx.2.2.2.1.1 M5 v6 b9_L1  hc) cs_SunnyPans_231 ⟨rfl, rfl, Nat.le_of_ble_eq_true rfl, Nat.le_of_ble_eq_true rfl⟩ rfl rfl ⟨Nat.zero_le _, Nat.zero_le _⟩ (Nat.le_of_ble_eq_true rfl) d_X9_brinesSeen_38 ?_
        refine z_if_eq cx 61 d_X9_brinesSeen_41 (by decide) hF (fun hF => ?_) (fun hF => ?_)
        · refine z_iload cx d_X9_brinesSeen_61 4 rfl ?_
          refine z_iconst (v := -1) cx d_X9_brinesSeen_63 ki_m1 ?_
          refine z_icmp_ne cx 77 d_X9_brinesSeen_64 (by decide) hF (fun hF => ?_) (fun hF => ?_)
          · refine z_iload cx d_X9_brinesSeen_77 4 rfl ?_
            exact z_lv [0, 1, 2, 3, 5] _ rfl (hb79 self9 hs9 b9_L1 b9_L2 b9_L4 b9_L6 b9_L5 M7 hF)
          refine z_aload_n cx d_X9_brinesSeen_67 0 rfl ?_
          refine z_iload_n cx d_X9_brinesSeen_68 1 rfl ?_
          refine z_iload cx d_X9_brinesSeen_69 5 rfl ?_
          obtain ⟨v10, M9, hc, hF⟩ := zb_inv hF
          refine z_callV cx (As := [.int b9_L1, .int b9_L6]) (rest := []) (c_X9_brineAfterDay l cx.2.2.2.1.1 M7 b9_L1 b9_L6 hT hc) hT zo_10 cv_SunnyPans_375 ⟨rfl, rfl, Nat.le_of_ble_eq_true rfl, Nat.le_of_ble_eq_true rfl⟩ rfl rfl ⟨Nat.zero_le _, Nat.zero_le _⟩ (Nat.le_of_ble_eq_true rfl) d_X9_brinesSeen_71 ?_
          refine z_goto cx 79 d_X9_brinesSeen_74 (by decide) ?_
          exact z_lv [0, 1, 2, 3, 5] _ rfl (hb79 self9 hs9 b9_L1 b9_L2 b9_L4 b9_L6 v10 M9 hF)
        refine z_aload_n cx d_X9_brinesSeen_44 0 rfl ?_
        refine z_getR cx hT fg_SunnyPans_55 173 rfl d_X9_brinesSeen_45 ?_
        refine z_iload cx d_X9_brinesSeen_48 3 rfl ?_
        refine z_aload_n cx d_X9_brinesSeen_50 0 rfl ?_
        refine z_iload_n cx d_X9_brinesSeen_51 1 rfl ?_
        refine z_iload cx d_X9_brinesSeen_52 5 rfl ?_
        obtain ⟨v12, M11, hc, hF⟩ := zb_inv hF
        refine z_callV cx (As := [.int b9_L1, .int b9_L6]) (rest := [.int b9_L4, .ref (ad 173)]) (c_X9_brineAfterDay l cx.2.2.2.1.1 M7 b9_L1 b9_L6 hT hc) hT zo_10 cv_SunnyPans_375 ⟨rfl, rfl, Nat.le_of_ble_eq_true rfl, Nat.le_of_ble_eq_true rfl⟩ rfl rfl ⟨Nat.zero_le _, Nat.zero_le _⟩ (Nat.le_of_ble_eq_true rfl) d_X9_brinesSeen_54 ?_
        obtain ⟨hi13, hF⟩ := gin_inv hF
        refine z_iast cx (tfX_10_173 hT) za_16 hi13 b9_L4.toNatClampNeg rfl d_X9_brinesSeen_57 ?_
        refine z_nmM hF (fun M14 hF => ?_)
        refine z_goto cx 90 d_X9_brinesSeen_58 (by decide) ?_
        exact hb90 self9 hs9 b9_L1 b9_L2 b9_L4 b9_L5 b9_L6 M14 hF
      refine z_goto cx 93 d_X9_brinesSeen_25 (by decide) ?_
      exact hb93 self9 hs9 b9_L1 b9_L2 b9_L4 b9_L5 b9_L6 M3 hF
  unfold F_X9_brinesSeen at hF
  refine z_iconst (v := 0) cx d_X9_brinesSeen_0 ki_0 ?_
  refine z_istore cx 4 [(4, .int (0 : Int32)), (0, .ref (ad 0)), (1, .int p0), (2, .long p1)] d_X9_brinesSeen_1 (by decide) rfl ?_
  refine z_iconst (v := -1) cx d_X9_brinesSeen_3 ki_m1 ?_
  refine z_istore cx 5 [(5, .int (-1 : Int32)), (4, .int (0 : Int32)), (0, .ref (ad 0)), (1, .int p0), (2, .long p1)] d_X9_brinesSeen_4 (by decide) rfl ?_
  refine z_iconst (v := 0) cx d_X9_brinesSeen_6 ki_0 ?_
  refine z_istore cx 6 [(6, .int (0 : Int32)), (5, .int (-1 : Int32)), (4, .int (0 : Int32)), (0, .ref (ad 0)), (1, .int p0), (2, .long p1)] d_X9_brinesSeen_7 (by decide) rfl ?_
  exact z_lv [3, 4, 5, 2, 1, 0] _ rfl (hL9 zFuel p0 p1 (0 : Int32) (-1 : Int32) (0 : Int32) M hF)
/-! SunnyPans.mostAlike -/
set_option maxRecDepth 100000 in
theorem wd_1252 : Cond.methodLink "SunnyPans" 386 Lib.Math.max.name ∈ tbG := tw5 192 rfl rfl
theorem d_X9_mostAlike_0 : decode cX9_mostAlike 0 = .ok (.iconst 0, 1) := by decide +kernel
theorem d_X9_mostAlike_1 : decode cX9_mostAlike 1 = .ok (.istore_n 2, 1) := by decide +kernel
theorem d_X9_mostAlike_2 : decode cX9_mostAlike 2 = .ok (.iconst 0, 1) := by decide +kernel
theorem d_X9_mostAlike_3 : decode cX9_mostAlike 3 = .ok (.istore_n 3, 1) := by decide +kernel
theorem d_X9_mostAlike_4 : decode cX9_mostAlike 4 = .ok (.iload_n 3, 1) := by decide +kernel
theorem d_X9_mostAlike_5 : decode cX9_mostAlike 5 = .ok (.iload_n 1, 1) := by decide +kernel
theorem d_X9_mostAlike_6 : decode cX9_mostAlike 6 = .ok (.if_icmp .ge 60, 3) := by decide +kernel
theorem d_X9_mostAlike_9 : decode cX9_mostAlike 9 = .ok (.iconst 0, 1) := by decide +kernel
theorem d_X9_mostAlike_10 : decode cX9_mostAlike 10 = .ok (.istore 4, 2) := by decide +kernel
theorem d_X9_mostAlike_12 : decode cX9_mostAlike 12 = .ok (.iload_n 3, 1) := by decide +kernel
theorem d_X9_mostAlike_13 : decode cX9_mostAlike 13 = .ok (.istore 5, 2) := by decide +kernel
theorem d_X9_mostAlike_15 : decode cX9_mostAlike 15 = .ok (.iload 5, 2) := by decide +kernel
theorem d_X9_mostAlike_17 : decode cX9_mostAlike 17 = .ok (.iload_n 1, 1) := by decide +kernel
theorem d_X9_mostAlike_18 : decode cX9_mostAlike 18 = .ok (.if_icmp .ge 35, 3) := by decide +kernel
theorem d_X9_mostAlike_21 : decode cX9_mostAlike 21 = .ok (.iload 4, 2) := by decide +kernel
theorem d_X9_mostAlike_23 : decode cX9_mostAlike 23 = .ok (.aload_n 0, 1) := by decide +kernel
theorem d_X9_mostAlike_24 : decode cX9_mostAlike 24 = .ok (.getfield 55, 3) := by decide +kernel
theorem d_X9_mostAlike_27 : decode cX9_mostAlike 27 = .ok (.iload_n 3, 1) := by decide +kernel
theorem d_X9_mostAlike_28 : decode cX9_mostAlike 28 = .ok (.iaload, 1) := by decide +kernel
theorem d_X9_mostAlike_29 : decode cX9_mostAlike 29 = .ok (.aload_n 0, 1) := by decide +kernel
theorem d_X9_mostAlike_30 : decode cX9_mostAlike 30 = .ok (.getfield 55, 3) := by decide +kernel
theorem d_X9_mostAlike_33 : decode cX9_mostAlike 33 = .ok (.iload 5, 2) := by decide +kernel
theorem d_X9_mostAlike_35 : decode cX9_mostAlike 35 = .ok (.iaload, 1) := by decide +kernel
theorem d_X9_mostAlike_36 : decode cX9_mostAlike 36 = .ok (.if_icmp .ne 7, 3) := by decide +kernel
theorem d_X9_mostAlike_39 : decode cX9_mostAlike 39 = .ok (.iconst 1, 1) := by decide +kernel
theorem d_X9_mostAlike_40 : decode cX9_mostAlike 40 = .ok (.goto 4, 3) := by decide +kernel
theorem d_X9_mostAlike_43 : decode cX9_mostAlike 43 = .ok (.iconst 0, 1) := by decide +kernel
theorem d_X9_mostAlike_44 : decode cX9_mostAlike 44 = .ok (.iadd, 1) := by decide +kernel
theorem d_X9_mostAlike_45 : decode cX9_mostAlike 45 = .ok (.istore 4, 2) := by decide +kernel
theorem d_X9_mostAlike_47 : decode cX9_mostAlike 47 = .ok (.iinc 5 1, 3) := by decide +kernel
theorem d_X9_mostAlike_50 : decode cX9_mostAlike 50 = .ok (.goto (-35), 3) := by decide +kernel
theorem d_X9_mostAlike_53 : decode cX9_mostAlike 53 = .ok (.iload_n 2, 1) := by decide +kernel
theorem d_X9_mostAlike_54 : decode cX9_mostAlike 54 = .ok (.iload 4, 2) := by decide +kernel
theorem d_X9_mostAlike_56 : decode cX9_mostAlike 56 = .ok (.invokestatic 386, 3) := by decide +kernel
theorem d_X9_mostAlike_59 : decode cX9_mostAlike 59 = .ok (.istore_n 2, 1) := by decide +kernel
theorem d_X9_mostAlike_60 : decode cX9_mostAlike 60 = .ok (.iinc 3 1, 3) := by decide +kernel
theorem d_X9_mostAlike_63 : decode cX9_mostAlike 63 = .ok (.goto (-59), 3) := by decide +kernel
theorem d_X9_mostAlike_66 : decode cX9_mostAlike 66 = .ok (.iload_n 2, 1) := by decide +kernel
theorem d_X9_mostAlike_67 : decode cX9_mostAlike 67 = .ok (.ireturn, 1) := by decide +kernel
def F_X9_mostAlike_44 (p0 : Int32) (self4 : Int32 → Int32 → Int32 → zMem → Option (Int32 × zMem)) (self15 : Int32 → Int32 → Int32 → Int32 → Int32 → zMem → Option (Int32 × zMem)) (b44_L1 : Int32) (b44_L2 : Int32) (b44_L3 : Int32) (b44_L5 : Int32) (b44_S0 : Int32) (b44_S1 : Int32) (M : zMem) : Option (Int32 × zMem) :=
  zl (b44_S0 + b44_S1) fun v1 =>
  self15 b44_L1 b44_L2 b44_L3 v1 (b44_L5 + 1) M
def F_X9_mostAlike_15 (p0 : Int32) (self4 : Int32 → Int32 → Int32 → zMem → Option (Int32 × zMem)) (self15 : Int32 → Int32 → Int32 → Int32 → Int32 → zMem → Option (Int32 × zMem)) (b15_L1 : Int32) (b15_L2 : Int32) (b15_L3 : Int32) (b15_L4 : Int32) (b15_L5 : Int32) (M : zMem) : Option (Int32 × zMem) :=
  if b15_L1 ≤ b15_L5 then
    zl (zmax b15_L2 b15_L4) fun v2 =>
    self4 b15_L1 v2 (b15_L3 + 1) M
  else
    gin b15_L3 64 <|
    gin b15_L5 64 <|
    if (M.1 173 b15_L3.toNatClampNeg) = (M.1 173 b15_L5.toNatClampNeg) then
      F_X9_mostAlike_44 p0 self4 self15 b15_L1 b15_L2 b15_L3 b15_L5 b15_L4 (1 : Int32) M
    else
      F_X9_mostAlike_44 p0 self4 self15 b15_L1 b15_L2 b15_L3 b15_L5 b15_L4 (0 : Int32) M
def F_X9_mostAlike_4 (p0 : Int32) (self4 : Int32 → Int32 → Int32 → zMem → Option (Int32 × zMem)) (b4_L1 : Int32) (b4_L2 : Int32) (b4_L3 : Int32) (M : zMem) : Option (Int32 × zMem) :=
  if b4_L1 ≤ b4_L3 then
    some (b4_L2, M)
  else
    itF (fun _ _ _ _ _ _ => none) (F_X9_mostAlike_15 p0 self4) zFuel b4_L1 b4_L2 b4_L3 (0 : Int32) b4_L3 M
def F_X9_mostAlike (M : zMem) (p0 : Int32) : Option (Int32 × zMem) :=
  itF (fun _ _ _ _ => none) (F_X9_mostAlike_4 p0) zFuel p0 (0 : Int32) (0 : Int32) M
def rm_X9_mostAlike : Room := { frames := 3, cells := 0, slots := 0, locals := 80 }
set_option maxHeartbeats 4000000 in
set_option maxRecDepth 100000 in
theorem c_X9_mostAlike (l : Launch) {G : zG} {ad : Nat → Nat} {n : Nat} (hA : zInj ad n) (M : zMem) (p0 : Int32) (hT : zT shX n 0 10) {r9 : Int32} {M9 : zMem} (hF : F_X9_mostAlike M p0 = some (r9, M9)) : zM l yX9_mostAlike cX9_mostAlike 6 (some .int) rm_X9_mostAlike G shX ad n M [.ref (ad 0), .int p0] (some (.int r9)) M9 := by
  refine zM_of hA (by decide +kernel) (lv := [(0, .ref (ad 0)), (1, .int p0)]) (Nat.le_of_ble_eq_true rfl) rfl (fun p e s m args below meth c A cx hr => ?_)
  have hb44 : ∀ (self4 : Int32 → Int32 → Int32 → zMem → Option (Int32 × zMem)) (hs4 : ∀ (b4_L1 : Int32) (b4_L2 : Int32) (b4_L3 : Int32) (M : zMem), self4 b4_L1 b4_L2 b4_L3 M = some (r9, M9) → zJ p l e rm_X9_mostAlike s m args below meth c G shX ad n A 6 (MQ below (zQ G shX ad n M9 (some (.int r9)) A) args s 0 0 A) 0 0 M 4 [(0, .ref (ad 0)), (1, .int b4_L1), (2, .int b4_L2), (3, .int b4_L3)] []) (self15 : Int32 → Int32 → Int32 → Int32 → Int32 → zMem → Option (Int32 × zMem)) (hs15 : ∀ (b15_L1 : Int32) (b15_L2 : Int32) (b15_L3 : Int32) (b15_L4 : Int32) (b15_L5 : Int32) (M : zMem), self15 b15_L1 b15_L2 b15_L3 b15_L4 b15_L5 M = some (r9, M9) → zJ p l e rm_X9_mostAlike s m args below meth c G shX ad n A 6 (MQ below (zQ G shX ad n M9 (some (.int r9)) A) args s 0 0 A) 0 0 M 15 [(0, .ref (ad 0)), (1, .int b15_L1), (2, .int b15_L2), (3, .int b15_L3), (4, .int b15_L4), (5, .int b15_L5)] []), ∀ (b44_L1 : Int32) (b44_L2 : Int32) (b44_L3 : Int32) (b44_L5 : Int32) (b44_S0 : Int32) (b44_S1 : Int32) (M : zMem), F_X9_mostAlike_44 p0 self4 self15 b44_L1 b44_L2 b44_L3 b44_L5 b44_S0 b44_S1 M = some (r9, M9) → zJ p l e rm_X9_mostAlike s m args below meth c G shX ad n A 6 (MQ below (zQ G shX ad n M9 (some (.int r9)) A) args s 0 0 A) 0 0 M 44 [(0, .ref (ad 0)), (1, .int b44_L1), (2, .int b44_L2), (3, .int b44_L3), (5, .int b44_L5)] [.int b44_S1, .int b44_S0] := by
    intro self4 hs4 self15 hs15 b44_L1 b44_L2 b44_L3 b44_L5 b44_S0 b44_S1 M hF
    unfold F_X9_mostAlike_44 at hF
    refine z_iadd cx d_X9_mostAlike_44 ?_
    refine z_nm hF (fun v1 hF => ?_)
    refine z_istore cx 4 [(4, .int v1), (0, .ref (ad 0)), (1, .int b44_L1), (2, .int b44_L2), (3, .int b44_L3), (5, .int b44_L5)] d_X9_mostAlike_45 (by decide) rfl ?_
    refine z_iinc cx 5 1 [(5, .int (b44_L5 + 1)), (4, .int v1), (0, .ref (ad 0)), (1, .int b44_L1), (2, .int b44_L2), (3, .int b44_L3)] d_X9_mostAlike_47 5 rfl ki_1 (by decide) rfl ?_
    refine z_goto cx 15 d_X9_mostAlike_50 (by decide) ?_
    exact z_lv [2, 3, 4, 5, 1, 0] _ rfl (hs15 b44_L1 b44_L2 b44_L3 v1 (b44_L5 + 1) M hF)
  have hL15 : ∀ (self4 : Int32 → Int32 → Int32 → zMem → Option (Int32 × zMem)) (hs4 : ∀ (b4_L1 : Int32) (b4_L2 : Int32) (b4_L3 : Int32) (M : zMem), self4 b4_L1 b4_L2 b4_L3 M = some (r9, M9) → zJ p l e rm_X9_mostAlike s m args below meth c G shX ad n A 6 (MQ below (zQ G shX ad n M9 (some (.int r9)) A) args s 0 0 A) 0 0 M 4 [(0, .ref (ad 0)), (1, .int b4_L1), (2, .int b4_L2), (3, .int b4_L3)] []) (fuel : Nat), ∀ (b15_L1 : Int32) (b15_L2 : Int32) (b15_L3 : Int32) (b15_L4 : Int32) (b15_L5 : Int32) (M : zMem), itF (fun _ _ _ _ _ _ => none) (F_X9_mostAlike_15 p0 self4) fuel b15_L1 b15_L2 b15_L3 b15_L4 b15_L5 M = some (r9, M9) → zJ p l e rm_X9_mostAlike s m args below meth c G shX ad n A 6 (MQ below (zQ G shX ad n M9 (some (.int r9)) A) args s 0 0 A) 0 0 M 15 [(0, .ref (ad 0)), (1, .int b15_L1), (2, .int b15_L2), (3, .int b15_L3), (4, .int b15_L4), (5, .int b15_L5)] [] := by
    intro self4 hs4 fuel
    induction fuel with
    | zero => intro b15_L1 b15_L2 b15_L3 b15_L4 b15_L5 M hF; cases hF
    | succ fuel hs15 =>
      intro b15_L1 b15_L2 b15_L3 b15_L4 b15_L5 M hF
      have hF : F_X9_mostAlike_15 p0 self4 (itF (fun _ _ _ _ _ _ => none) (F_X9_mostAlike_15 p0 self4) fuel) b15_L1 b15_L2 b15_L3 b15_L4 b15_L5 M = some (r9, M9) := hF
      generalize itF (fun _ _ _ _ _ _ => none) (F_X9_mostAlike_15 p0 self4) fuel = self15 at hs15 hF
      unfold F_X9_mostAlike_15 at hF
      refine z_iload cx d_X9_mostAlike_15 5 rfl ?_
      refine z_iload_n cx d_X9_mostAlike_17 1 rfl ?_
      refine z_icmp_ge cx 53 d_X9_mostAlike_18 (by decide) hF (fun hF => ?_) (fun hF => ?_)
      · refine z_iload_n cx d_X9_mostAlike_53 2 rfl ?_
        refine z_iload cx d_X9_mostAlike_54 4 rfl ?_
        refine z_mmax cx ⟨wd_1252, wd_605, wd_116, wd_606⟩ ⟨Nat.le_of_ble_eq_true rfl, Nat.le_of_ble_eq_true rfl, Nat.zero_le _, Nat.zero_le _⟩ d_X9_mostAlike_56 ?_
        refine z_nm hF (fun v2 hF => ?_)
        refine z_istore_n cx 2 [(2, .int v2), (0, .ref (ad 0)), (1, .int b15_L1), (3, .int b15_L3), (4, .int b15_L4), (5, .int b15_L5)] d_X9_mostAlike_59 rfl (by decide) rfl ?_
        refine z_iinc cx 3 1 [(3, .int (b15_L3 + 1)), (2, .int v2), (0, .ref (ad 0)), (1, .int b15_L1), (4, .int b15_L4), (5, .int b15_L5)] d_X9_mostAlike_60 3 rfl ki_1 (by decide) rfl ?_
        refine z_goto cx 4 d_X9_mostAlike_63 (by decide) ?_
        exact z_lv [2, 3, 1, 0] _ rfl (hs4 b15_L1 v2 (b15_L3 + 1) M hF)
      refine z_iload cx d_X9_mostAlike_21 4 rfl ?_
      refine z_aload_n cx d_X9_mostAlike_23 0 rfl ?_
      refine z_getR cx hT fg_SunnyPans_55 173 rfl d_X9_mostAlike_24 ?_
      refine z_iload_n cx d_X9_mostAlike_27 3 rfl ?_
      obtain ⟨hi3, hF⟩ := gin_inv hF
      refine z_iald cx (tfX_10_173 hT) za_16 hi3 b15_L3.toNatClampNeg rfl d_X9_mostAlike_28 ?_
      refine z_aload_n cx d_X9_mostAlike_29 0 rfl ?_
      refine z_getR cx hT fg_SunnyPans_55 173 rfl d_X9_mostAlike_30 ?_
      refine z_iload cx d_X9_mostAlike_33 5 rfl ?_
      obtain ⟨hi4, hF⟩ := gin_inv hF
      refine z_iald cx (tfX_10_173 hT) za_16 hi4 b15_L5.toNatClampNeg rfl d_X9_mostAlike_35 ?_
      refine z_icmp_ne cx 43 d_X9_mostAlike_36 (by decide) hF (fun hF => ?_) (fun hF => ?_)
      · refine z_iconst (v := 0) cx d_X9_mostAlike_43 ki_0 ?_
        exact z_lv [0, 1, 2, 3, 5] _ rfl (hb44 self4 hs4 self15 hs15 b15_L1 b15_L2 b15_L3 b15_L5 b15_L4 (0 : Int32) M hF)
      refine z_iconst (v := 1) cx d_X9_mostAlike_39 ki_1 ?_
      refine z_goto cx 44 d_X9_mostAlike_40 (by decide) ?_
      exact z_lv [0, 1, 2, 3, 5] _ rfl (hb44 self4 hs4 self15 hs15 b15_L1 b15_L2 b15_L3 b15_L5 b15_L4 (1 : Int32) M hF)
  have hL4 : ∀ (fuel : Nat), ∀ (b4_L1 : Int32) (b4_L2 : Int32) (b4_L3 : Int32) (M : zMem), itF (fun _ _ _ _ => none) (F_X9_mostAlike_4 p0) fuel b4_L1 b4_L2 b4_L3 M = some (r9, M9) → zJ p l e rm_X9_mostAlike s m args below meth c G shX ad n A 6 (MQ below (zQ G shX ad n M9 (some (.int r9)) A) args s 0 0 A) 0 0 M 4 [(0, .ref (ad 0)), (1, .int b4_L1), (2, .int b4_L2), (3, .int b4_L3)] [] := by
    intro fuel
    induction fuel with
    | zero => intro b4_L1 b4_L2 b4_L3 M hF; cases hF
    | succ fuel hs4 =>
      intro b4_L1 b4_L2 b4_L3 M hF
      have hF : F_X9_mostAlike_4 p0 (itF (fun _ _ _ _ => none) (F_X9_mostAlike_4 p0) fuel) b4_L1 b4_L2 b4_L3 M = some (r9, M9) := hF
      generalize itF (fun _ _ _ _ => none) (F_X9_mostAlike_4 p0) fuel = self4 at hs4 hF
      unfold F_X9_mostAlike_4 at hF
      refine z_iload_n cx d_X9_mostAlike_4 3 rfl ?_
      refine z_iload_n cx d_X9_mostAlike_5 1 rfl ?_
      refine z_icmp_ge cx 66 d_X9_mostAlike_6 (by decide) hF (fun hF => ?_) (fun hF => ?_)
      · refine z_iload_n cx d_X9_mostAlike_66 2 rfl ?_
        exact z_iret cx hr rfl hF d_X9_mostAlike_67
      refine z_iconst (v := 0) cx d_X9_mostAlike_9 ki_0 ?_
      refine z_istore cx 4 [(4, .int (0 : Int32)), (0, .ref (ad 0)), (1, .int b4_L1), (2, .int b4_L2), (3, .int b4_L3)] d_X9_mostAlike_10 (by decide) rfl ?_
      refine z_iload_n cx d_X9_mostAlike_12 4 rfl ?_
      refine z_istore cx 5 [(5, .int b4_L3), (4, .int (0 : Int32)), (0, .ref (ad 0)), (1, .int b4_L1), (2, .int b4_L2), (3, .int b4_L3)] d_X9_mostAlike_13 (by decide) rfl ?_
      exact z_lv [2, 3, 4, 5, 1, 0] _ rfl (hL15 self4 hs4 zFuel b4_L1 b4_L2 b4_L3 (0 : Int32) b4_L3 M hF)
  unfold F_X9_mostAlike at hF
  refine z_iconst (v := 0) cx d_X9_mostAlike_0 ki_0 ?_
  refine z_istore_n cx 2 [(2, .int (0 : Int32)), (0, .ref (ad 0)), (1, .int p0)] d_X9_mostAlike_1 rfl (by decide) rfl ?_
  refine z_iconst (v := 0) cx d_X9_mostAlike_2 ki_0 ?_
  refine z_istore_n cx 3 [(3, .int (0 : Int32)), (2, .int (0 : Int32)), (0, .ref (ad 0)), (1, .int p0)] d_X9_mostAlike_3 rfl (by decide) rfl ?_
  exact z_lv [2, 3, 1, 0] _ rfl (hL4 zFuel p0 (0 : Int32) (0 : Int32) M hF)
/-! SunnyPans.draw -/
set_option maxRecDepth 100000 in
theorem wd_1243 : Cond.code yX9_brinesSeen cX9_brinesSeen 7 (some .int) ∈ tbG := tw5 183 rfl rfl
set_option maxRecDepth 100000 in
theorem wd_1240 : Cond.methodLink "SunnyPans" 354 yX9_brinesSeen ∈ tbG := tw5 180 rfl rfl
set_option maxRecDepth 100000 in
theorem wd_1242 : Cond.instanceMethod yX9_brinesSeen ∈ tbG := tw5 182 rfl rfl
theorem wd_35 : Cond.selects "SunnyPans" yX9_brinesSeen yX9_brinesSeen ∈ tbG := tw 35 (by decide +kernel) rfl
theorem cv_SunnyPans_354 : zCV "SunnyPans" 354 "SunnyPans" yX9_brinesSeen cX9_brinesSeen 7 (some .int) 2 := zCV_of wd_1240 wd_1242 wd_35 wd_101 wd_1243 (by decide +kernel)
set_option maxRecDepth 100000 in
theorem wd_1251 : Cond.code yX9_mostAlike cX9_mostAlike 6 (some .int) ∈ tbG := tw5 191 rfl rfl
set_option maxRecDepth 100000 in
theorem wd_1248 : Cond.methodLink "SunnyPans" 358 yX9_mostAlike ∈ tbG := tw5 188 rfl rfl
set_option maxRecDepth 100000 in
theorem wd_1250 : Cond.instanceMethod yX9_mostAlike ∈ tbG := tw5 190 rfl rfl
theorem wd_36 : Cond.selects "SunnyPans" yX9_mostAlike yX9_mostAlike ∈ tbG := tw 36 (by decide +kernel) rfl
theorem cv_SunnyPans_358 : zCV "SunnyPans" 358 "SunnyPans" yX9_mostAlike cX9_mostAlike 6 (some .int) 1 := zCV_of wd_1248 wd_1250 wd_36 wd_101 wd_1251 (by decide +kernel)
set_option maxRecDepth 100000 in
theorem wd_427 : Cond.fieldLink "SunnyPans" 393 "SunnyPans" "seedNow" "I" ∈ tbG := tw2 87 rfl rfl
theorem fg_SunnyPans_393 : zGetI "SunnyPans" 393 9 10 18 := ⟨RX9, TX9, 19, rfl, by decide, uw_9, wd_427, fun _ _ _ _ _ _ => ⟨_, rfl, rfl⟩⟩
set_option maxRecDepth 100000 in
theorem wd_1367 : Cond.constant "SunnyPans" 406 (1103515245) ∈ tbG := tw6 67 rfl rfl
theorem ks_12345 : (Int16.ofInt (12345)).toInt32 = (12345 : Int32) := by decide +kernel
theorem fp_SunnyPans_393 : zPutI "SunnyPans" 393 9 10 18 := ⟨zc_9, fg_SunnyPans_393, ⟨RX9, TX9, 19, rfl, rfl, by decide +kernel⟩, fun _ _ _ _ _ _ _ => ⟨_, rfl, Nat.le_of_ble_eq_true rfl, rfl⟩⟩
theorem ks_32767 : (Int16.ofInt (32767)).toInt32 = (32767 : Int32) := by decide +kernel
theorem d_X9_draw_0 : decode cX9_draw 0 = .ok (.aload_n 0, 1) := by decide +kernel
theorem d_X9_draw_1 : decode cX9_draw 1 = .ok (.aload_n 0, 1) := by decide +kernel
theorem d_X9_draw_2 : decode cX9_draw 2 = .ok (.getfield 393, 3) := by decide +kernel
theorem d_X9_draw_5 : decode cX9_draw 5 = .ok (.ldc_w 406, 3) := by decide +kernel
theorem d_X9_draw_8 : decode cX9_draw 8 = .ok (.imul, 1) := by decide +kernel
theorem d_X9_draw_9 : decode cX9_draw 9 = .ok (.sipush 12345, 3) := by decide +kernel
theorem d_X9_draw_12 : decode cX9_draw 12 = .ok (.iadd, 1) := by decide +kernel
theorem d_X9_draw_13 : decode cX9_draw 13 = .ok (.putfield 393, 3) := by decide +kernel
theorem d_X9_draw_16 : decode cX9_draw 16 = .ok (.iload_n 1, 1) := by decide +kernel
theorem d_X9_draw_17 : decode cX9_draw 17 = .ok (.ifCond .le 19, 3) := by decide +kernel
theorem d_X9_draw_20 : decode cX9_draw 20 = .ok (.aload_n 0, 1) := by decide +kernel
theorem d_X9_draw_21 : decode cX9_draw 21 = .ok (.getfield 393, 3) := by decide +kernel
theorem d_X9_draw_24 : decode cX9_draw 24 = .ok (.bipush 16, 2) := by decide +kernel
theorem d_X9_draw_26 : decode cX9_draw 26 = .ok (.iushr, 1) := by decide +kernel
theorem d_X9_draw_27 : decode cX9_draw 27 = .ok (.sipush 32767, 3) := by decide +kernel
theorem d_X9_draw_30 : decode cX9_draw 30 = .ok (.iand, 1) := by decide +kernel
theorem d_X9_draw_31 : decode cX9_draw 31 = .ok (.iload_n 1, 1) := by decide +kernel
theorem d_X9_draw_32 : decode cX9_draw 32 = .ok (.irem, 1) := by decide +kernel
theorem d_X9_draw_33 : decode cX9_draw 33 = .ok (.goto 4, 3) := by decide +kernel
theorem d_X9_draw_36 : decode cX9_draw 36 = .ok (.iconst 0, 1) := by decide +kernel
theorem d_X9_draw_37 : decode cX9_draw 37 = .ok (.ireturn, 1) := by decide +kernel
def F_X9_draw (M : zMem) (p0 : Int32) : Option (Int32 × zMem) :=
  zl (zI M 0 18 (((M.1 0 18) * (1103515245 : Int32)) + (12345 : Int32))) fun M1 =>
  if p0 ≤ 0 then
    some ((0 : Int32), M1)
  else
    gd (!(p0 == 0)) <|
    some (((((M1.1 0 18).toUInt32 >>> ((16 : Int32).toUInt32 &&& Int32.toUInt32 31)).toInt32 &&& (32767 : Int32)) - (((M1.1 0 18).toUInt32 >>> ((16 : Int32).toUInt32 &&& Int32.toUInt32 31)).toInt32 &&& (32767 : Int32)) / p0 * p0), M1)
def rm_X9_draw : Room := { frames := 2, cells := 0, slots := 0, locals := 80 }
set_option maxHeartbeats 4000000 in
set_option maxRecDepth 100000 in
theorem c_X9_draw (l : Launch) {G : zG} {ad : Nat → Nat} {n : Nat} (hA : zInj ad n) (M : zMem) (p0 : Int32) (hT : zT shX n 0 10) {r9 : Int32} {M9 : zMem} (hF : F_X9_draw M p0 = some (r9, M9)) : zM l yX9_draw cX9_draw 2 (some .int) rm_X9_draw G shX ad n M [.ref (ad 0), .int p0] (some (.int r9)) M9 := by
  refine zM_of hA (by decide +kernel) (lv := [(0, .ref (ad 0)), (1, .int p0)]) (Nat.le_of_ble_eq_true rfl) rfl (fun p e s m args below meth c A cx hr => ?_)
  unfold F_X9_draw at hF
  refine z_aload_n cx d_X9_draw_0 0 rfl ?_
  refine z_aload_n cx d_X9_draw_1 0 rfl ?_
  refine z_getI cx hT fg_SunnyPans_393 d_X9_draw_2 ?_
  refine z_ldcw cx wd_1367 d_X9_draw_5 ?_
  refine z_imul cx d_X9_draw_8 ?_
  refine z_sipush (v := 12345) cx d_X9_draw_9 ks_12345 ?_
  refine z_iadd cx d_X9_draw_12 ?_
  refine z_putI cx hT fp_SunnyPans_393 d_X9_draw_13 ?_
  refine z_nmM hF (fun M1 hF => ?_)
  refine z_iload_n cx d_X9_draw_16 1 rfl ?_
  refine z_if_le cx 36 d_X9_draw_17 (by decide) hF (fun hF => ?_) (fun hF => ?_)
  · refine z_iconst (v := 0) cx d_X9_draw_36 ki_0 ?_
    exact z_iret cx hr rfl hF d_X9_draw_37
  refine z_aload_n cx d_X9_draw_20 0 rfl ?_
  refine z_getI cx hT fg_SunnyPans_393 d_X9_draw_21 ?_
  refine z_bipush (v := 16) cx d_X9_draw_24 kb_16 ?_
  refine z_iushr cx d_X9_draw_26 ?_
  refine z_sipush (v := 32767) cx d_X9_draw_27 ks_32767 ?_
  refine z_iand cx d_X9_draw_30 ?_
  refine z_iload_n cx d_X9_draw_31 1 rfl ?_
  obtain ⟨hz2, hF⟩ := gd_inv hF
  refine z_irem cx d_X9_draw_32 (zne hz2) ?_
  refine z_goto cx 37 d_X9_draw_33 (by decide) ?_
  exact z_iret cx hr rfl hF d_X9_draw_37
/-! SunnyPans.runSummer -/
set_option maxRecDepth 100000 in
theorem wd_1366 : Cond.code yX9_draw cX9_draw 2 (some .int) ∈ tbG := tw6 66 rfl rfl
set_option maxRecDepth 100000 in
theorem wd_1363 : Cond.methodLink "SunnyPans" 396 yX9_draw ∈ tbG := tw6 63 rfl rfl
set_option maxRecDepth 100000 in
theorem wd_1365 : Cond.instanceMethod yX9_draw ∈ tbG := tw6 65 rfl rfl
theorem wd_40 : Cond.selects "SunnyPans" yX9_draw yX9_draw ∈ tbG := tw 40 (by decide +kernel) rfl
theorem cv_SunnyPans_396 : zCV "SunnyPans" 396 "SunnyPans" yX9_draw cX9_draw 2 (some .int) 1 := zCV_of wd_1363 wd_1365 wd_40 wd_101 wd_1366 (by decide +kernel)
set_option maxRecDepth 100000 in
theorem wd_490 : Cond.code yX4_copyFrom cX4_copyFrom 2 none ∈ tbG := tw2 150 rfl rfl
set_option maxRecDepth 100000 in
theorem wd_1105 : Cond.methodLink "SunnyPans" 307 yX4_copyFrom ∈ tbG := tw5 45 rfl rfl
set_option maxRecDepth 100000 in
theorem wd_488 : Cond.instanceMethod yX4_copyFrom ∈ tbG := tw2 148 rfl rfl
set_option maxRecDepth 100000 in
theorem wd_489 : Cond.selects "SunnyPans$Pans" yX4_copyFrom yX4_copyFrom ∈ tbG := tw2 149 rfl rfl
theorem cv_SunnyPans_307 : zCV "SunnyPans" 307 "SunnyPans$Pans" yX4_copyFrom cX4_copyFrom 2 none 1 := zCV_of wd_1105 wd_488 wd_489 wd_104 wd_490 (by decide +kernel)
theorem d_X9_runSummer_0 : decode cX9_runSummer 0 = .ok (.aload_n 0, 1) := by decide +kernel
theorem d_X9_runSummer_1 : decode cX9_runSummer 1 = .ok (.getfield 37, 3) := by decide +kernel
theorem d_X9_runSummer_4 : decode cX9_runSummer 4 = .ok (.aload_n 0, 1) := by decide +kernel
theorem d_X9_runSummer_5 : decode cX9_runSummer 5 = .ok (.getfield 19, 3) := by decide +kernel
theorem d_X9_runSummer_8 : decode cX9_runSummer 8 = .ok (.getfield 159, 3) := by decide +kernel
theorem d_X9_runSummer_11 : decode cX9_runSummer 11 = .ok (.invokevirtual 307, 3) := by decide +kernel
theorem d_X9_runSummer_14 : decode cX9_runSummer 14 = .ok (.aload_n 0, 1) := by decide +kernel
theorem d_X9_runSummer_15 : decode cX9_runSummer 15 = .ok (.iload_n 1, 1) := by decide +kernel
theorem d_X9_runSummer_16 : decode cX9_runSummer 16 = .ok (.putfield 393, 3) := by decide +kernel
theorem d_X9_runSummer_19 : decode cX9_runSummer 19 = .ok (.iconst 0, 1) := by decide +kernel
theorem d_X9_runSummer_20 : decode cX9_runSummer 20 = .ok (.istore 4, 2) := by decide +kernel
theorem d_X9_runSummer_22 : decode cX9_runSummer 22 = .ok (.iload 4, 2) := by decide +kernel
theorem d_X9_runSummer_24 : decode cX9_runSummer 24 = .ok (.iload_n 2, 1) := by decide +kernel
theorem d_X9_runSummer_25 : decode cX9_runSummer 25 = .ok (.if_icmp .ge 108, 3) := by decide +kernel
theorem d_X9_runSummer_28 : decode cX9_runSummer 28 = .ok (.aload_n 0, 1) := by decide +kernel
theorem d_X9_runSummer_29 : decode cX9_runSummer 29 = .ok (.aload_n 0, 1) := by decide +kernel
theorem d_X9_runSummer_30 : decode cX9_runSummer 30 = .ok (.getfield 62, 3) := by decide +kernel
theorem d_X9_runSummer_33 : decode cX9_runSummer 33 = .ok (.getfield 162, 3) := by decide +kernel
theorem d_X9_runSummer_36 : decode cX9_runSummer 36 = .ok (.invokevirtual 396, 3) := by decide +kernel
theorem d_X9_runSummer_39 : decode cX9_runSummer 39 = .ok (.istore 5, 2) := by decide +kernel
theorem d_X9_runSummer_41 : decode cX9_runSummer 41 = .ok (.aload_n 0, 1) := by decide +kernel
theorem d_X9_runSummer_42 : decode cX9_runSummer 42 = .ok (.aload_n 0, 1) := by decide +kernel
theorem d_X9_runSummer_43 : decode cX9_runSummer 43 = .ok (.getfield 62, 3) := by decide +kernel
theorem d_X9_runSummer_46 : decode cX9_runSummer 46 = .ok (.getfield 165, 3) := by decide +kernel
theorem d_X9_runSummer_49 : decode cX9_runSummer 49 = .ok (.invokevirtual 396, 3) := by decide +kernel
theorem d_X9_runSummer_52 : decode cX9_runSummer 52 = .ok (.istore 6, 2) := by decide +kernel
theorem d_X9_runSummer_54 : decode cX9_runSummer 54 = .ok (.aload_n 0, 1) := by decide +kernel
theorem d_X9_runSummer_55 : decode cX9_runSummer 55 = .ok (.bipush 16, 2) := by decide +kernel
theorem d_X9_runSummer_57 : decode cX9_runSummer 57 = .ok (.invokevirtual 396, 3) := by decide +kernel
theorem d_X9_runSummer_60 : decode cX9_runSummer 60 = .ok (.iload_n 3, 1) := by decide +kernel
theorem d_X9_runSummer_61 : decode cX9_runSummer 61 = .ok (.if_icmp .ge 29, 3) := by decide +kernel
theorem d_X9_runSummer_64 : decode cX9_runSummer 64 = .ok (.aload_n 0, 1) := by decide +kernel
theorem d_X9_runSummer_65 : decode cX9_runSummer 65 = .ok (.getfield 37, 3) := by decide +kernel
theorem d_X9_runSummer_68 : decode cX9_runSummer 68 = .ok (.iload 5, 2) := by decide +kernel
theorem d_X9_runSummer_70 : decode cX9_runSummer 70 = .ok (.iload 6, 2) := by decide +kernel
theorem d_X9_runSummer_72 : decode cX9_runSummer 72 = .ok (.invokestatic 213, 3) := by decide +kernel
theorem d_X9_runSummer_75 : decode cX9_runSummer 75 = .ok (.iconst 1, 1) := by decide +kernel
theorem d_X9_runSummer_76 : decode cX9_runSummer 76 = .ok (.aload_n 0, 1) := by decide +kernel
theorem d_X9_runSummer_77 : decode cX9_runSummer 77 = .ok (.bipush 99, 2) := by decide +kernel
theorem d_X9_runSummer_79 : decode cX9_runSummer 79 = .ok (.invokevirtual 396, 3) := by decide +kernel
theorem d_X9_runSummer_82 : decode cX9_runSummer 82 = .ok (.iadd, 1) := by decide +kernel
theorem d_X9_runSummer_83 : decode cX9_runSummer 83 = .ok (.invokevirtual 399, 3) := by decide +kernel
theorem d_X9_runSummer_86 : decode cX9_runSummer 86 = .ok (.pop, 1) := by decide +kernel
theorem d_X9_runSummer_87 : decode cX9_runSummer 87 = .ok (.goto 22, 3) := by decide +kernel
theorem d_X9_runSummer_90 : decode cX9_runSummer 90 = .ok (.aload_n 0, 1) := by decide +kernel
theorem d_X9_runSummer_91 : decode cX9_runSummer 91 = .ok (.getfield 37, 3) := by decide +kernel
theorem d_X9_runSummer_94 : decode cX9_runSummer 94 = .ok (.aload_n 0, 1) := by decide +kernel
theorem d_X9_runSummer_95 : decode cX9_runSummer 95 = .ok (.getfield 62, 3) := by decide +kernel
theorem d_X9_runSummer_98 : decode cX9_runSummer 98 = .ok (.iload 5, 2) := by decide +kernel
theorem d_X9_runSummer_100 : decode cX9_runSummer 100 = .ok (.iload 6, 2) := by decide +kernel
theorem d_X9_runSummer_102 : decode cX9_runSummer 102 = .ok (.invokestatic 213, 3) := by decide +kernel
theorem d_X9_runSummer_105 : decode cX9_runSummer 105 = .ok (.invokevirtual 402, 3) := by decide +kernel
theorem d_X9_runSummer_108 : decode cX9_runSummer 108 = .ok (.pop, 1) := by decide +kernel
theorem d_X9_runSummer_109 : decode cX9_runSummer 109 = .ok (.aload_n 0, 1) := by decide +kernel
theorem d_X9_runSummer_110 : decode cX9_runSummer 110 = .ok (.getfield 62, 3) := by decide +kernel
theorem d_X9_runSummer_113 : decode cX9_runSummer 113 = .ok (.getfield 127, 3) := by decide +kernel
theorem d_X9_runSummer_116 : decode cX9_runSummer 116 = .ok (.ifCond .le 11, 3) := by decide +kernel
theorem d_X9_runSummer_119 : decode cX9_runSummer 119 = .ok (.aload_n 0, 1) := by decide +kernel
theorem d_X9_runSummer_120 : decode cX9_runSummer 120 = .ok (.aload_n 0, 1) := by decide +kernel
theorem d_X9_runSummer_121 : decode cX9_runSummer 121 = .ok (.getfield 37, 3) := by decide +kernel
theorem d_X9_runSummer_124 : decode cX9_runSummer 124 = .ok (.invokevirtual 311, 3) := by decide +kernel
theorem d_X9_runSummer_127 : decode cX9_runSummer 127 = .ok (.iinc 4 1, 3) := by decide +kernel
theorem d_X9_runSummer_130 : decode cX9_runSummer 130 = .ok (.goto (-108), 3) := by decide +kernel
theorem d_X9_runSummer_133 : decode cX9_runSummer 133 = .ok (.return_, 1) := by decide +kernel
def F_X9_runSummer_127 (p0 : Int32) (p1 : Int32) (p2 : Int32) (self22 : Int32 → Int32 → Int32 → zMem → Option (zMem)) (b127_L2 : Int32) (b127_L3 : Int32) (b127_L4 : Int32) (M : zMem) : Option (zMem) :=
  self22 b127_L2 b127_L3 (b127_L4 + 1) M
def F_X9_runSummer_109 (p0 : Int32) (p1 : Int32) (p2 : Int32) (self22 : Int32 → Int32 → Int32 → zMem → Option (zMem)) (b109_L2 : Int32) (b109_L3 : Int32) (b109_L4 : Int32) (M : zMem) : Option (zMem) :=
  gd (shX (M.2.2 0 8) == 6) <|
  if (M.1 (M.2.2 0 8) 2) ≤ 0 then
    F_X9_runSummer_127 p0 p1 p2 self22 b109_L2 b109_L3 b109_L4 M
  else
    zbv (F_X9_passHour M 99) fun M2 =>
    F_X9_runSummer_127 p0 p1 p2 self22 b109_L2 b109_L3 b109_L4 M2
def F_X9_runSummer_22 (p0 : Int32) (p1 : Int32) (p2 : Int32) (self22 : Int32 → Int32 → Int32 → zMem → Option (zMem)) (b22_L2 : Int32) (b22_L3 : Int32) (b22_L4 : Int32) (M : zMem) : Option (zMem) :=
  if b22_L2 ≤ b22_L4 then
    some M
  else
    gd (shX (M.2.2 0 8) == 6) <|
    zb (F_X9_draw M (M.1 (M.2.2 0 8) 0)) fun v5 M4 =>
    gd (shX (M4.2.2 0 8) == 6) <|
    zb (F_X9_draw M4 (M4.1 (M4.2.2 0 8) 1)) fun v8 M7 =>
    zb (F_X9_draw M7 (16 : Int32)) fun v10 M9 =>
    if b22_L3 ≤ v10 then
      gd (shX (M9.2.2 0 8) == 6) <|
      zb (F_X9_placeOf M9 v5 v8) fun v13 M12 =>
      zb (F_X4_haul M12 99 (M9.2.2 0 8) v13) fun v15 M14 =>
      F_X9_runSummer_109 p0 p1 p2 self22 b22_L2 b22_L3 b22_L4 M14
    else
      zb (F_X9_placeOf M9 v5 v8) fun v17 M16 =>
      zb (F_X9_draw M16 (99 : Int32)) fun v19 M18 =>
      zb (F_X4_pour M18 99 v17 ((1 : Int32) + v19)) fun v21 M20 =>
      F_X9_runSummer_109 p0 p1 p2 self22 b22_L2 b22_L3 b22_L4 M20
def F_X9_runSummer (M : zMem) (p0 : Int32) (p1 : Int32) (p2 : Int32) : Option (zMem) :=
  zbv (F_X4_copyFrom M 99 4) fun M22 =>
  zl (zI M22 0 18 p0) fun M23 =>
  itF (fun _ _ _ _ => none) (F_X9_runSummer_22 p0 p1 p2) zFuel p1 p2 (0 : Int32) M23
def rm_X9_runSummer : Room := { frames := 7, cells := 0, slots := 0, locals := 180 }
set_option maxHeartbeats 4000000 in
set_option maxRecDepth 100000 in
theorem c_X9_runSummer (l : Launch) {G : zG} {ad : Nat → Nat} {n : Nat} (hA : zInj ad n) (M : zMem) (p0 : Int32) (p1 : Int32) (p2 : Int32) (hT : zT shX n 0 10) {M9 : zMem} (hF : F_X9_runSummer M p0 p1 p2 = some M9) : zM l yX9_runSummer cX9_runSummer 7 none rm_X9_runSummer G shX ad n M [.ref (ad 0), .int p0, .int p1, .int p2] none M9 := by
  refine zM_of hA (by decide +kernel) (lv := [(0, .ref (ad 0)), (1, .int p0), (2, .int p1), (3, .int p2)]) (Nat.le_of_ble_eq_true rfl) rfl (fun p e s m args below meth c A cx hr => ?_)
  have hb127 : ∀ (self22 : Int32 → Int32 → Int32 → zMem → Option (zMem)) (hs22 : ∀ (b22_L2 : Int32) (b22_L3 : Int32) (b22_L4 : Int32) (M : zMem), self22 b22_L2 b22_L3 b22_L4 M = some M9 → zJ p l e rm_X9_runSummer s m args below meth c G shX ad n A 7 (MQ below (zQ G shX ad n M9 none A) args s 0 0 A) 0 0 M 22 [(0, .ref (ad 0)), (2, .int b22_L2), (3, .int b22_L3), (4, .int b22_L4)] []), ∀ (b127_L2 : Int32) (b127_L3 : Int32) (b127_L4 : Int32) (M : zMem), F_X9_runSummer_127 p0 p1 p2 self22 b127_L2 b127_L3 b127_L4 M = some M9 → zJ p l e rm_X9_runSummer s m args below meth c G shX ad n A 7 (MQ below (zQ G shX ad n M9 none A) args s 0 0 A) 0 0 M 127 [(0, .ref (ad 0)), (2, .int b127_L2), (3, .int b127_L3), (4, .int b127_L4)] [] := by
    intro self22 hs22 b127_L2 b127_L3 b127_L4 M hF
    unfold F_X9_runSummer_127 at hF
    refine z_iinc cx 4 1 [(4, .int (b127_L4 + 1)), (0, .ref (ad 0)), (2, .int b127_L2), (3, .int b127_L3)] d_X9_runSummer_127 3 rfl ki_1 (by decide) rfl ?_
    refine z_goto cx 22 d_X9_runSummer_130 (by decide) ?_
    exact z_lv [1, 2, 3, 0] _ rfl (hs22 b127_L2 b127_L3 (b127_L4 + 1) M hF)
  have hb109 : ∀ (self22 : Int32 → Int32 → Int32 → zMem → Option (zMem)) (hs22 : ∀ (b22_L2 : Int32) (b22_L3 : Int32) (b22_L4 : Int32) (M : zMem), self22 b22_L2 b22_L3 b22_L4 M = some M9 → zJ p l e rm_X9_runSummer s m args below meth c G shX ad n A 7 (MQ below (zQ G shX ad n M9 none A) args s 0 0 A) 0 0 M 22 [(0, .ref (ad 0)), (2, .int b22_L2), (3, .int b22_L3), (4, .int b22_L4)] []), ∀ (b109_L2 : Int32) (b109_L3 : Int32) (b109_L4 : Int32) (M : zMem), F_X9_runSummer_109 p0 p1 p2 self22 b109_L2 b109_L3 b109_L4 M = some M9 → zJ p l e rm_X9_runSummer s m args below meth c G shX ad n A 7 (MQ below (zQ G shX ad n M9 none A) args s 0 0 A) 0 0 M 109 [(0, .ref (ad 0)), (2, .int b109_L2), (3, .int b109_L3), (4, .int b109_L4)] [] := by
    intro self22 hs22 b109_L2 b109_L3 b109_L4 M hF
    unfold F_X9_runSummer_109 at hF
    refine z_aload_n cx d_X9_runSummer_109 0 rfl ?_
    obtain ⟨hg1, hF⟩ := gd_inv hF
    refine z_getD cx hT fg_SunnyPans_62 d_X9_runSummer_110 ?_
    refine z_getI cx (td_6 hT hg1) fg_SunnyPans_127 d_X9_runSummer_113 ?_
    refine z_if_le cx 127 d_X9_runSummer_116 (by decide) hF (fun hF => ?_) (fun hF => ?_)
    · exact hb127 self22 hs22 b109_L2 b109_L3 b109_L4 M hF
    refine z_aload_n cx d_X9_runSummer_119 0 rfl ?_
    refine z_aload_n cx d_X9_runSummer_120 0 rfl ?_
    refine z_getR cx hT fg_SunnyPans_37 99 rfl d_X9_runSummer_121 ?_
    obtain ⟨M2, hc, hF⟩ := zbv_inv hF
    refine z_callV cx (As := [.ref (ad 99)]) (rest := []) (c_X9_passHour l cx.2.2.2.1.1 M 99 hT (tfX_10_99 hT) hc) hT zo_10 cv_SunnyPans_311 ⟨rfl, rfl, Nat.le_of_ble_eq_true rfl, Nat.le_of_ble_eq_true rfl⟩ rfl rfl ⟨Nat.zero_le _, Nat.zero_le _⟩ (Nat.le_of_ble_eq_true rfl) d_X9_runSummer_124 ?_
    exact hb127 self22 hs22 b109_L2 b109_L3 b109_L4 M2 hF
  have hL22 : ∀ (fuel : Nat), ∀ (b22_L2 : Int32) (b22_L3 : Int32) (b22_L4 : Int32) (M : zMem), itF (fun _ _ _ _ => none) (F_X9_runSummer_22 p0 p1 p2) fuel b22_L2 b22_L3 b22_L4 M = some M9 → zJ p l e rm_X9_runSummer s m args below meth c G shX ad n A 7 (MQ below (zQ G shX ad n M9 none A) args s 0 0 A) 0 0 M 22 [(0, .ref (ad 0)), (2, .int b22_L2), (3, .int b22_L3), (4, .int b22_L4)] [] := by
    intro fuel
    induction fuel with
    | zero => intro b22_L2 b22_L3 b22_L4 M hF; cases hF
    | succ fuel hs22 =>
      intro b22_L2 b22_L3 b22_L4 M hF
      have hF : F_X9_runSummer_22 p0 p1 p2 (itF (fun _ _ _ _ => none) (F_X9_runSummer_22 p0 p1 p2) fuel) b22_L2 b22_L3 b22_L4 M = some M9 := hF
      generalize itF (fun _ _ _ _ => none) (F_X9_runSummer_22 p0 p1 p2) fuel = self22 at hs22 hF
      unfold F_X9_runSummer_22 at hF
      refine z_iload cx d_X9_runSummer_22 3 rfl ?_
      refine z_iload_n cx d_X9_runSummer_24 1 rfl ?_
      refine z_icmp_ge cx 133 d_X9_runSummer_25 (by decide) hF (fun hF => ?_) (fun hF => ?_)
      · exact z_vret cx hr hF d_X9_runSummer_133
      refine z_aload_n cx d_X9_runSummer_28 0 rfl ?_
      refine z_aload_n cx d_X9_runSummer_29 0 rfl ?_
      obtain ⟨hg3, hF⟩ := gd_inv hF
      refine z_getD cx hT fg_SunnyPans_62 d_X9_runSummer_30 ?_
      refine z_getI cx (td_6 hT hg3) fg_SunnyPans_162 d_X9_runSummer_33 ?_
      obtain ⟨v5, M4, hc, hF⟩ := zb_inv hF
      refine z_callV cx (As := [.int (M.1 (M.2.2 0 8) 0)]) (rest := []) (c_X9_draw l cx.2.2.2.1.1 M (M.1 (M.2.2 0 8) 0) hT hc) hT zo_10 cv_SunnyPans_396 ⟨rfl, rfl, Nat.le_of_ble_eq_true rfl, Nat.le_of_ble_eq_true rfl⟩ rfl rfl ⟨Nat.zero_le _, Nat.zero_le _⟩ (Nat.le_of_ble_eq_true rfl) d_X9_runSummer_36 ?_
      refine z_istore cx 5 [(5, .int v5), (0, .ref (ad 0)), (2, .int b22_L2), (3, .int b22_L3), (4, .int b22_L4)] d_X9_runSummer_39 (by decide) rfl ?_
      refine z_aload_n cx d_X9_runSummer_41 1 rfl ?_
      refine z_aload_n cx d_X9_runSummer_42 1 rfl ?_
      obtain ⟨hg6, hF⟩ := gd_inv hF
      refine z_getD cx hT fg_SunnyPans_62 d_X9_runSummer_43 ?_
      refine z_getI cx (td_6 hT hg6) fg_SunnyPans_165 d_X9_runSummer_46 ?_
      obtain ⟨v8, M7, hc, hF⟩ := zb_inv hF
      refine z_callV cx (As := [.int (M4.1 (M4.2.2 0 8) 1)]) (rest := []) (c_X9_draw l cx.2.2.2.1.1 M4 (M4.1 (M4.2.2 0 8) 1) hT hc) hT zo_10 cv_SunnyPans_396 ⟨rfl, rfl, Nat.le_of_ble_eq_true rfl, Nat.le_of_ble_eq_true rfl⟩ rfl rfl ⟨Nat.zero_le _, Nat.zero_le _⟩ (Nat.le_of_ble_eq_true rfl) d_X9_runSummer_49 ?_
      refine z_istore cx 6 [(6, .int v8), (5, .int v5), (0, .ref (ad 0)), (2, .int b22_L2), (3, .int b22_L3), (4, .int b22_L4)] d_X9_runSummer_52 (by decide) rfl ?_
      refine z_aload_n cx d_X9_runSummer_54 2 rfl ?_
      refine z_bipush (v := 16) cx d_X9_runSummer_55 kb_16 ?_
      obtain ⟨v10, M9, hc, hF⟩ := zb_inv hF
      refine z_callV cx (As := [.int (16 : Int32)]) (rest := []) (c_X9_draw l cx.2.2.2.1.1 M7 (16 : Int32) hT hc) hT zo_10 cv_SunnyPans_396 ⟨rfl, rfl, Nat.le_of_ble_eq_true rfl, Nat.le_of_ble_eq_true rfl⟩ rfl rfl ⟨Nat.zero_le _, Nat.zero_le _⟩ (Nat.le_of_ble_eq_true rfl) d_X9_runSummer_57 ?_
      refine z_iload_n cx d_X9_runSummer_60 4 rfl ?_
      refine z_icmp_ge cx 90 d_X9_runSummer_61 (by decide) hF (fun hF => ?_) (fun hF => ?_)
      · refine z_aload_n cx d_X9_runSummer_90 2 rfl ?_
        refine z_getR cx hT fg_SunnyPans_37 99 rfl d_X9_runSummer_91 ?_
        refine z_aload_n cx d_X9_runSummer_94 2 rfl ?_
        obtain ⟨hg11, hF⟩ := gd_inv hF
        refine z_getD cx hT fg_SunnyPans_62 d_X9_runSummer_95 ?_
        refine z_iload cx d_X9_runSummer_98 1 rfl ?_
        refine z_iload cx d_X9_runSummer_100 0 rfl ?_
        obtain ⟨v13, M12, hc, hF⟩ := zb_inv hF
        refine z_callS cx (As := [.int v5, .int v8]) (rest := [.ref (ad (M9.2.2 0 8)), .ref (ad 99)]) (c_X9_placeOf l cx.2.2.2.1.1 M9 v5 v8  hc) cs_SunnyPans_213 ⟨rfl, rfl, Nat.le_of_ble_eq_true rfl, Nat.le_of_ble_eq_true rfl⟩ rfl rfl ⟨Nat.zero_le _, Nat.zero_le _⟩ (Nat.le_of_ble_eq_true rfl) d_X9_runSummer_102 ?_
        obtain ⟨v15, M14, hc, hF⟩ := zb_inv hF
        refine z_callV cx (As := [.ref (ad (M9.2.2 0 8)), .int v13]) (rest := []) (c_X4_haul l cx.2.2.2.1.1 M12 99 (M9.2.2 0 8) v13 (tfX_10_99 hT) (td_6 hT hg11) hc) (tfX_10_99 hT) zo_5 cv_SunnyPans_402 ⟨rfl, rfl, Nat.le_of_ble_eq_true rfl, Nat.le_of_ble_eq_true rfl⟩ rfl rfl ⟨Nat.zero_le _, Nat.zero_le _⟩ (Nat.le_of_ble_eq_true rfl) d_X9_runSummer_105 ?_
        refine z_pop cx d_X9_runSummer_108 rfl ?_
        exact z_lv [2, 3, 4, 5] _ rfl (hb109 self22 hs22 b22_L2 b22_L3 b22_L4 M14 hF)
      refine z_aload_n cx d_X9_runSummer_64 2 rfl ?_
      refine z_getR cx hT fg_SunnyPans_37 99 rfl d_X9_runSummer_65 ?_
      refine z_iload cx d_X9_runSummer_68 1 rfl ?_
      refine z_iload cx d_X9_runSummer_70 0 rfl ?_
      obtain ⟨v17, M16, hc, hF⟩ := zb_inv hF
      refine z_callS cx (As := [.int v5, .int v8]) (rest := [.ref (ad 99)]) (c_X9_placeOf l cx.2.2.2.1.1 M9 v5 v8  hc) cs_SunnyPans_213 ⟨rfl, rfl, Nat.le_of_ble_eq_true rfl, Nat.le_of_ble_eq_true rfl⟩ rfl rfl ⟨Nat.zero_le _, Nat.zero_le _⟩ (Nat.le_of_ble_eq_true rfl) d_X9_runSummer_72 ?_
      refine z_iconst (v := 1) cx d_X9_runSummer_75 ki_1 ?_
      refine z_aload_n cx d_X9_runSummer_76 2 rfl ?_
      refine z_bipush (v := 99) cx d_X9_runSummer_77 kb_99 ?_
      obtain ⟨v19, M18, hc, hF⟩ := zb_inv hF
      refine z_callV cx (As := [.int (99 : Int32)]) (rest := [.int (1 : Int32), .int v17, .ref (ad 99)]) (c_X9_draw l cx.2.2.2.1.1 M16 (99 : Int32) hT hc) hT zo_10 cv_SunnyPans_396 ⟨rfl, rfl, Nat.le_of_ble_eq_true rfl, Nat.le_of_ble_eq_true rfl⟩ rfl rfl ⟨Nat.zero_le _, Nat.zero_le _⟩ (Nat.le_of_ble_eq_true rfl) d_X9_runSummer_79 ?_
      refine z_iadd cx d_X9_runSummer_82 ?_
      obtain ⟨v21, M20, hc, hF⟩ := zb_inv hF
      refine z_callV cx (As := [.int v17, .int ((1 : Int32) + v19)]) (rest := []) (c_X4_pour l cx.2.2.2.1.1 M18 99 v17 ((1 : Int32) + v19) (tfX_10_99 hT) hc) (tfX_10_99 hT) zo_5 cv_SunnyPans_399 ⟨rfl, rfl, Nat.le_of_ble_eq_true rfl, Nat.le_of_ble_eq_true rfl⟩ rfl rfl ⟨Nat.zero_le _, Nat.zero_le _⟩ (Nat.le_of_ble_eq_true rfl) d_X9_runSummer_83 ?_
      refine z_pop cx d_X9_runSummer_86 rfl ?_
      refine z_goto cx 109 d_X9_runSummer_87 (by decide) ?_
      exact z_lv [2, 3, 4, 5] _ rfl (hb109 self22 hs22 b22_L2 b22_L3 b22_L4 M20 hF)
  unfold F_X9_runSummer at hF
  refine z_aload_n cx d_X9_runSummer_0 0 rfl ?_
  refine z_getR cx hT fg_SunnyPans_37 99 rfl d_X9_runSummer_1 ?_
  refine z_aload_n cx d_X9_runSummer_4 0 rfl ?_
  refine z_getR cx hT fg_SunnyPans_19 3 rfl d_X9_runSummer_5 ?_
  refine z_getR cx (tfX_10_3 hT) fg_SunnyPans_159 4 rfl d_X9_runSummer_8 ?_
  obtain ⟨M22, hc, hF⟩ := zbv_inv hF
  refine z_callV cx (As := [.ref (ad 4)]) (rest := []) (c_X4_copyFrom l cx.2.2.2.1.1 M 99 4 (tfX_10_99 hT) (tfX_8_1 (tfX_10_3 hT)) hc) (tfX_10_99 hT) zo_5 cv_SunnyPans_307 ⟨rfl, rfl, Nat.le_of_ble_eq_true rfl, Nat.le_of_ble_eq_true rfl⟩ rfl rfl ⟨Nat.zero_le _, Nat.zero_le _⟩ (Nat.le_of_ble_eq_true rfl) d_X9_runSummer_11 ?_
  refine z_aload_n cx d_X9_runSummer_14 0 rfl ?_
  refine z_iload_n cx d_X9_runSummer_15 1 rfl ?_
  refine z_putI cx hT fp_SunnyPans_393 d_X9_runSummer_16 ?_
  refine z_nmM hF (fun M23 hF => ?_)
  refine z_iconst (v := 0) cx d_X9_runSummer_19 ki_0 ?_
  refine z_istore cx 4 [(4, .int (0 : Int32)), (0, .ref (ad 0)), (1, .int p0), (2, .int p1), (3, .int p2)] d_X9_runSummer_20 (by decide) rfl ?_
  exact z_lv [1, 3, 4, 0] _ rfl (hL22 zFuel p1 p2 (0 : Int32) M23 hF)
/-! SunnyPans.status -/
set_option maxRecDepth 100000 in
theorem wd_1362 : Cond.code yX9_runSummer cX9_runSummer 7 none ∈ tbG := tw6 62 rfl rfl
set_option maxRecDepth 100000 in
theorem wd_1359 : Cond.methodLink "SunnyPans" 389 yX9_runSummer ∈ tbG := tw6 59 rfl rfl
set_option maxRecDepth 100000 in
theorem wd_1361 : Cond.instanceMethod yX9_runSummer ∈ tbG := tw6 61 rfl rfl
theorem wd_39 : Cond.selects "SunnyPans" yX9_runSummer yX9_runSummer ∈ tbG := tw 39 (by decide +kernel) rfl
theorem cv_SunnyPans_389 : zCV "SunnyPans" 389 "SunnyPans" yX9_runSummer cX9_runSummer 7 none 3 := zCV_of wd_1359 wd_1361 wd_39 wd_101 wd_1362 (by decide +kernel)
set_option maxRecDepth 100000 in
theorem wd_982 : Cond.code yX9_sumOf cX9_sumOf 3 (some .int) ∈ tbG := tw4 162 rfl rfl
set_option maxRecDepth 100000 in
theorem wd_980 : Cond.methodLink "SunnyPans" 177 yX9_sumOf ∈ tbG := tw4 160 rfl rfl
set_option maxRecDepth 100000 in
theorem wd_981 : Cond.static yX9_sumOf ∈ tbG := tw4 161 rfl rfl
theorem cs_SunnyPans_177 : zCS "SunnyPans" 177 yX9_sumOf cX9_sumOf 3 (some .int) 1 := zCS_of wd_980 wd_981 wd_101 wd_982 (by decide +kernel)
theorem tfX_10_90 {n k : Nat} (h : zT shX n k 10) : zT shX n (k + 90) 20 := zT_off h (shX_f (by decide) (by decide +kernel)) (by decide) (by decide)
set_option maxRecDepth 100000 in
theorem wd_423 : Cond.fieldLink "SunnyPans" 121 "SunnyPans" "imageCount" "I" ∈ tbG := tw2 83 rfl rfl
theorem fg_SunnyPans_121 : zGetI "SunnyPans" 121 9 10 14 := ⟨RX9, TX9, 19, rfl, by decide, uw_9, wd_423, fun _ _ _ _ _ _ => ⟨_, rfl, rfl⟩⟩
set_option maxRecDepth 100000 in
theorem wd_411 : Cond.fieldLink "SunnyPans" 23 "SunnyPans" "images" "[LSunnyPans$Stand;" ∈ tbG := tw2 71 rfl rfl
theorem fg_SunnyPans_23 : zGetR "SunnyPans" 23 9 10 2 90 := ⟨RX9, TX9, 19, rfl, by decide, uw_9, wd_411, fun _ _ _ _ _ _ => ⟨_, rfl, rfl⟩⟩
theorem za_20 : zArrR 20 3 3 110 87 := ⟨by decide, fun _ _ _ _ _ _ => rfl⟩
theorem teX_20 {n : Nat} {i : Int32} (h : zT shX n 0 10) (hi : vp_in i 3) : zT shX n (90 + (110 + 87 * i.toNatClampNeg)) 8 := by
  have hlt : i.toNatClampNeg < 3 := Nat.not_le.mp fun q => hi (Or.inr q)
  have h2 : 0 + 461 ≤ n := h.2.2
  have e : ∀ j, j < 3 → shX (90 + (110 + 87 * j)) = 8 := by decide +kernel
  exact ⟨e _ hlt, by omega, by show _ + 87 ≤ n; omega⟩
set_option maxRecDepth 100000 in
theorem wd_426 : Cond.fieldLink "SunnyPans" 413 "SunnyPans" "refusedArguments" "I" ∈ tbG := tw2 86 rfl rfl
theorem fg_SunnyPans_413 : zGetI "SunnyPans" 413 9 10 17 := ⟨RX9, TX9, 19, rfl, by decide, uw_9, wd_426, fun _ _ _ _ _ _ => ⟨_, rfl, rfl⟩⟩
set_option maxRecDepth 100000 in
theorem wd_425 : Cond.fieldLink "SunnyPans" 410 "SunnyPans" "refusedPlaces" "I" ∈ tbG := tw2 85 rfl rfl
theorem fg_SunnyPans_410 : zGetI "SunnyPans" 410 9 10 16 := ⟨RX9, TX9, 19, rfl, by decide, uw_9, wd_425, fun _ _ _ _ _ _ => ⟨_, rfl, rfl⟩⟩
theorem d_X9_status_0 : decode cX9_status 0 = .ok (.iload_n 1, 1) := by decide +kernel
theorem d_X9_status_1 : decode cX9_status 1 = .ok (.ifCond .ne 8, 3) := by decide +kernel
theorem d_X9_status_4 : decode cX9_status 4 = .ok (.aload_n 0, 1) := by decide +kernel
theorem d_X9_status_5 : decode cX9_status 5 = .ok (.getfield 410, 3) := by decide +kernel
theorem d_X9_status_8 : decode cX9_status 8 = .ok (.ireturn, 1) := by decide +kernel
theorem d_X9_status_9 : decode cX9_status 9 = .ok (.iload_n 1, 1) := by decide +kernel
theorem d_X9_status_10 : decode cX9_status 10 = .ok (.iconst 1, 1) := by decide +kernel
theorem d_X9_status_11 : decode cX9_status 11 = .ok (.if_icmp .ne 10, 3) := by decide +kernel
theorem d_X9_status_14 : decode cX9_status 14 = .ok (.aload_n 0, 1) := by decide +kernel
theorem d_X9_status_15 : decode cX9_status 15 = .ok (.getfield 413, 3) := by decide +kernel
theorem d_X9_status_18 : decode cX9_status 18 = .ok (.goto 4, 3) := by decide +kernel
theorem d_X9_status_21 : decode cX9_status 21 = .ok (.iconst (-1), 1) := by decide +kernel
theorem d_X9_status_22 : decode cX9_status 22 = .ok (.ireturn, 1) := by decide +kernel
def F_X9_status (M : zMem) (p0 : Int32) : Option (Int32 × zMem) :=
  if p0 = 0 then
    some ((M.1 0 16), M)
  else
    if p0 = (1 : Int32) then
      some ((M.1 0 17), M)
    else
      some ((-1 : Int32), M)
def rm_X9_status : Room := { frames := 2, cells := 0, slots := 0, locals := 80 }
set_option maxHeartbeats 4000000 in
set_option maxRecDepth 100000 in
theorem c_X9_status (l : Launch) {G : zG} {ad : Nat → Nat} {n : Nat} (hA : zInj ad n) (M : zMem) (p0 : Int32) (hT : zT shX n 0 10) {r9 : Int32} {M9 : zMem} (hF : F_X9_status M p0 = some (r9, M9)) : zM l yX9_status cX9_status 2 (some .int) rm_X9_status G shX ad n M [.ref (ad 0), .int p0] (some (.int r9)) M9 := by
  refine zM_of hA (by decide +kernel) (lv := [(0, .ref (ad 0)), (1, .int p0)]) (Nat.le_of_ble_eq_true rfl) rfl (fun p e s m args below meth c A cx hr => ?_)
  unfold F_X9_status at hF
  refine z_iload_n cx d_X9_status_0 1 rfl ?_
  refine z_if_ne cx 9 d_X9_status_1 (by decide) hF (fun hF => ?_) (fun hF => ?_)
  · refine z_iload_n cx d_X9_status_9 1 rfl ?_
    refine z_iconst (v := 1) cx d_X9_status_10 ki_1 ?_
    refine z_icmp_ne cx 21 d_X9_status_11 (by decide) hF (fun hF => ?_) (fun hF => ?_)
    · refine z_iconst (v := -1) cx d_X9_status_21 ki_m1 ?_
      exact z_iret cx hr rfl hF d_X9_status_22
    refine z_aload_n cx d_X9_status_14 0 rfl ?_
    refine z_getI cx hT fg_SunnyPans_413 d_X9_status_15 ?_
    refine z_goto cx 22 d_X9_status_18 (by decide) ?_
    exact z_iret cx hr rfl hF d_X9_status_22
  refine z_aload_n cx d_X9_status_4 0 rfl ?_
  refine z_getI cx hT fg_SunnyPans_410 d_X9_status_5 ?_
  exact z_iret cx hr rfl hF d_X9_status_8
/-! SunnyPans.count -/
set_option maxRecDepth 100000 in
theorem wd_217 : Cond.fieldLink "SunnyPans" 131 "SunnyPans$Stand" "kept" "I" ∈ tbG := tw1 117 rfl rfl
theorem fg_SunnyPans_131 : zGetI "SunnyPans" 131 7 8 1 := ⟨RX7, TX7, 3, rfl, by decide, uw_7, wd_217, fun _ _ _ _ _ _ => ⟨_, rfl, rfl⟩⟩
theorem d_X9_count_0 : decode cX9_count 0 = .ok (.iload_n 1, 1) := by decide +kernel
theorem d_X9_count_1 : decode cX9_count 1 = .ok (.tableswitch 48 0 2 #[27, 32, 40], 27) := by decide +kernel
theorem d_X9_count_28 : decode cX9_count 28 = .ok (.aload_n 0, 1) := by decide +kernel
theorem d_X9_count_29 : decode cX9_count 29 = .ok (.getfield 121, 3) := by decide +kernel
theorem d_X9_count_32 : decode cX9_count 32 = .ok (.ireturn, 1) := by decide +kernel
theorem d_X9_count_33 : decode cX9_count 33 = .ok (.aload_n 0, 1) := by decide +kernel
theorem d_X9_count_34 : decode cX9_count 34 = .ok (.getfield 10, 3) := by decide +kernel
theorem d_X9_count_37 : decode cX9_count 37 = .ok (.getfield 89, 3) := by decide +kernel
theorem d_X9_count_40 : decode cX9_count 40 = .ok (.ireturn, 1) := by decide +kernel
theorem d_X9_count_41 : decode cX9_count 41 = .ok (.aload_n 0, 1) := by decide +kernel
theorem d_X9_count_42 : decode cX9_count 42 = .ok (.getfield 19, 3) := by decide +kernel
theorem d_X9_count_45 : decode cX9_count 45 = .ok (.getfield 131, 3) := by decide +kernel
theorem d_X9_count_48 : decode cX9_count 48 = .ok (.ireturn, 1) := by decide +kernel
theorem d_X9_count_49 : decode cX9_count 49 = .ok (.iconst (-1), 1) := by decide +kernel
theorem d_X9_count_50 : decode cX9_count 50 = .ok (.ireturn, 1) := by decide +kernel
def F_X9_count_41 (p0 : Int32) (M : zMem) : Option (Int32 × zMem) :=
  some ((M.1 3 1), M)
def F_X9_count_33 (p0 : Int32) (M : zMem) : Option (Int32 × zMem) :=
  some ((M.1 1 1), M)
def F_X9_count_28 (p0 : Int32) (M : zMem) : Option (Int32 × zMem) :=
  some ((M.1 0 14), M)
def F_X9_count (M : zMem) (p0 : Int32) : Option (Int32 × zMem) :=
  if p0 = 0 then
    F_X9_count_28 p0 M
  else
  if p0 = 1 then
    F_X9_count_33 p0 M
  else
  if p0 = 2 then
    F_X9_count_41 p0 M
  else
  some ((-1 : Int32), M)
def rm_X9_count : Room := { frames := 2, cells := 0, slots := 0, locals := 80 }
set_option maxHeartbeats 4000000 in
set_option maxRecDepth 100000 in
theorem c_X9_count (l : Launch) {G : zG} {ad : Nat → Nat} {n : Nat} (hA : zInj ad n) (M : zMem) (p0 : Int32) (hT : zT shX n 0 10) {r9 : Int32} {M9 : zMem} (hF : F_X9_count M p0 = some (r9, M9)) : zM l yX9_count cX9_count 2 (some .int) rm_X9_count G shX ad n M [.ref (ad 0), .int p0] (some (.int r9)) M9 := by
  refine zM_of hA (by decide +kernel) (lv := [(0, .ref (ad 0)), (1, .int p0)]) (Nat.le_of_ble_eq_true rfl) rfl (fun p e s m args below meth c A cx hr => ?_)
  have hb41 : ∀ (M : zMem), F_X9_count_41 p0 M = some (r9, M9) → zJ p l e rm_X9_count s m args below meth c G shX ad n A 2 (MQ below (zQ G shX ad n M9 (some (.int r9)) A) args s 0 0 A) 0 0 M 41 [(0, .ref (ad 0))] [] := by
    intro M hF
    unfold F_X9_count_41 at hF
    refine z_aload_n cx d_X9_count_41 0 rfl ?_
    refine z_getR cx hT fg_SunnyPans_19 3 rfl d_X9_count_42 ?_
    refine z_getI cx (tfX_10_3 hT) fg_SunnyPans_131 d_X9_count_45 ?_
    exact z_iret cx hr rfl hF d_X9_count_48
  have hb33 : ∀ (M : zMem), F_X9_count_33 p0 M = some (r9, M9) → zJ p l e rm_X9_count s m args below meth c G shX ad n A 2 (MQ below (zQ G shX ad n M9 (some (.int r9)) A) args s 0 0 A) 0 0 M 33 [(0, .ref (ad 0))] [] := by
    intro M hF
    unfold F_X9_count_33 at hF
    refine z_aload_n cx d_X9_count_33 0 rfl ?_
    refine z_getR cx hT fg_SunnyPans_10 1 rfl d_X9_count_34 ?_
    refine z_getI cx (tfX_10_1 hT) fg_SunnyPans_89 d_X9_count_37 ?_
    exact z_iret cx hr rfl hF d_X9_count_40
  have hb28 : ∀ (M : zMem), F_X9_count_28 p0 M = some (r9, M9) → zJ p l e rm_X9_count s m args below meth c G shX ad n A 2 (MQ below (zQ G shX ad n M9 (some (.int r9)) A) args s 0 0 A) 0 0 M 28 [(0, .ref (ad 0))] [] := by
    intro M hF
    unfold F_X9_count_28 at hF
    refine z_aload_n cx d_X9_count_28 0 rfl ?_
    refine z_getI cx hT fg_SunnyPans_121 d_X9_count_29 ?_
    exact z_iret cx hr rfl hF d_X9_count_32
  unfold F_X9_count at hF
  refine z_iload_n cx d_X9_count_0 1 rfl ?_
  by_cases q0 : p0 = 0
  · rw [if_pos q0] at hF
    refine z_tabIn cx 28 d_X9_count_1 (by rw [q0]; decide +kernel) (by rw [q0]; decide +kernel) (by rw [q0]; rfl) (by decide) ?_
    exact z_lv [0] _ rfl (hb28 M hF)
  rw [if_neg q0] at hF
  by_cases q1 : p0 = 1
  · rw [if_pos q1] at hF
    refine z_tabIn cx 33 d_X9_count_1 (by rw [q1]; decide +kernel) (by rw [q1]; decide +kernel) (by rw [q1]; rfl) (by decide) ?_
    exact z_lv [0] _ rfl (hb33 M hF)
  rw [if_neg q1] at hF
  by_cases q2 : p0 = 2
  · rw [if_pos q2] at hF
    refine z_tabIn cx 41 d_X9_count_1 (by rw [q2]; decide +kernel) (by rw [q2]; decide +kernel) (by rw [q2]; rfl) (by decide) ?_
    exact z_lv [0] _ rfl (hb41 M hF)
  rw [if_neg q2] at hF
  refine z_tabOut cx 49 d_X9_count_1 (by have w0 := lv_neT q0 (a := 0) (by decide +kernel); have w1 := lv_neT q1 (a := 1) (by decide +kernel); have w2 := lv_neT q2 (a := 2) (by decide +kernel); omega) (by decide) ?_
  refine z_iconst (v := -1) cx d_X9_count_49 ki_m1 ?_
  exact z_iret cx hr rfl hF d_X9_count_50
/-! SunnyPansModel.tellsNothing -/
theorem tfM_11_3 {n k : Nat} (h : zT shM n k 11) : zT shM n (k + 3) 28 := zT_off h (shM_f (by decide) (by decide +kernel)) (by decide) (by decide)
theorem tfM_11_5 {n k : Nat} (h : zT shM n k 11) : zT shM n (k + 5) 29 := zT_off h (shM_f (by decide) (by decide +kernel)) (by decide) (by decide)
theorem ks_192 : (Int16.ofInt (192)).toInt32 = (192 : Int32) := by decide +kernel
set_option maxRecDepth 100000 in
theorem wd_1407 : Cond.fieldLink "SunnyPansModel" 26 "SunnyPansModel" "readPlaces" "[I" ∈ tbG := tw6 107 rfl rfl
theorem uw_10 : ∀ w ∈ u_ws RX10 TX10 40, w ∈ tbG := zUW _ [1434, 1436, 1438, 1440, 1442, 1444, 1446, 1448, 1450, 1452, 1454, 1456, 1458, 1460, 1462, 1464, 1466, 1468, 1470, 1472, 1474, 1476, 1478, 1480, 1482, 1484, 1486, 1488, 1490, 1492, 1494, 1496, 1498, 1500, 1502, 1504, 1506, 1508, 1510, 1512] (by decide +kernel) (by decide +kernel)
theorem fg_SunnyPansModel_26 : zGetR "SunnyPansModel" 26 10 11 13 5 := ⟨RX10, TX10, 40, rfl, by decide, uw_10, wd_1407, fun _ _ _ _ _ _ => ⟨_, rfl, rfl⟩⟩
theorem za_29 : zArrI 29 192 := fun _ _ _ _ _ _ => rfl
set_option maxRecDepth 100000 in
theorem wd_1405 : Cond.fieldLink "SunnyPansModel" 20 "SunnyPansModel" "readTold" "[I" ∈ tbG := tw6 105 rfl rfl
theorem fg_SunnyPansModel_20 : zGetR "SunnyPansModel" 20 10 11 11 3 := ⟨RX10, TX10, 40, rfl, by decide, uw_10, wd_1405, fun _ _ _ _ _ _ => ⟨_, rfl, rfl⟩⟩
theorem za_28 : zArrI 28 3 := fun _ _ _ _ _ _ => rfl
theorem d_X10_tellsNothing_0 : decode cX10_tellsNothing 0 = .ok (.aload_n 0, 1) := by decide +kernel
theorem d_X10_tellsNothing_1 : decode cX10_tellsNothing 1 = .ok (.getfield 20, 3) := by decide +kernel
theorem d_X10_tellsNothing_4 : decode cX10_tellsNothing 4 = .ok (.iconst 0, 1) := by decide +kernel
theorem d_X10_tellsNothing_5 : decode cX10_tellsNothing 5 = .ok (.iconst 4, 1) := by decide +kernel
theorem d_X10_tellsNothing_6 : decode cX10_tellsNothing 6 = .ok (.iastore, 1) := by decide +kernel
theorem d_X10_tellsNothing_7 : decode cX10_tellsNothing 7 = .ok (.aload_n 0, 1) := by decide +kernel
theorem d_X10_tellsNothing_8 : decode cX10_tellsNothing 8 = .ok (.getfield 20, 3) := by decide +kernel
theorem d_X10_tellsNothing_11 : decode cX10_tellsNothing 11 = .ok (.iconst 1, 1) := by decide +kernel
theorem d_X10_tellsNothing_12 : decode cX10_tellsNothing 12 = .ok (.iconst 4, 1) := by decide +kernel
theorem d_X10_tellsNothing_13 : decode cX10_tellsNothing 13 = .ok (.iastore, 1) := by decide +kernel
theorem d_X10_tellsNothing_14 : decode cX10_tellsNothing 14 = .ok (.aload_n 0, 1) := by decide +kernel
theorem d_X10_tellsNothing_15 : decode cX10_tellsNothing 15 = .ok (.getfield 20, 3) := by decide +kernel
theorem d_X10_tellsNothing_18 : decode cX10_tellsNothing 18 = .ok (.iconst 2, 1) := by decide +kernel
theorem d_X10_tellsNothing_19 : decode cX10_tellsNothing 19 = .ok (.iconst 0, 1) := by decide +kernel
theorem d_X10_tellsNothing_20 : decode cX10_tellsNothing 20 = .ok (.iastore, 1) := by decide +kernel
theorem d_X10_tellsNothing_21 : decode cX10_tellsNothing 21 = .ok (.iconst 0, 1) := by decide +kernel
theorem d_X10_tellsNothing_22 : decode cX10_tellsNothing 22 = .ok (.istore_n 1, 1) := by decide +kernel
theorem d_X10_tellsNothing_23 : decode cX10_tellsNothing 23 = .ok (.iload_n 1, 1) := by decide +kernel
theorem d_X10_tellsNothing_24 : decode cX10_tellsNothing 24 = .ok (.sipush 192, 3) := by decide +kernel
theorem d_X10_tellsNothing_27 : decode cX10_tellsNothing 27 = .ok (.if_icmp .ge 16, 3) := by decide +kernel
theorem d_X10_tellsNothing_30 : decode cX10_tellsNothing 30 = .ok (.aload_n 0, 1) := by decide +kernel
theorem d_X10_tellsNothing_31 : decode cX10_tellsNothing 31 = .ok (.getfield 26, 3) := by decide +kernel
theorem d_X10_tellsNothing_34 : decode cX10_tellsNothing 34 = .ok (.iload_n 1, 1) := by decide +kernel
theorem d_X10_tellsNothing_35 : decode cX10_tellsNothing 35 = .ok (.iconst 0, 1) := by decide +kernel
theorem d_X10_tellsNothing_36 : decode cX10_tellsNothing 36 = .ok (.iastore, 1) := by decide +kernel
theorem d_X10_tellsNothing_37 : decode cX10_tellsNothing 37 = .ok (.iinc 1 1, 3) := by decide +kernel
theorem d_X10_tellsNothing_40 : decode cX10_tellsNothing 40 = .ok (.goto (-17), 3) := by decide +kernel
theorem d_X10_tellsNothing_43 : decode cX10_tellsNothing 43 = .ok (.return_, 1) := by decide +kernel
def F_X10_tellsNothing_23 (self23 : Int32 → zMem → Option (zMem)) (b23_L1 : Int32) (M : zMem) : Option (zMem) :=
  if (192 : Int32) ≤ b23_L1 then
    some M
  else
    gin b23_L1 192 <|
    zl (zI M 5 b23_L1.toNatClampNeg (0 : Int32)) fun M2 =>
    self23 (b23_L1 + 1) M2
def F_X10_tellsNothing (M : zMem)  : Option (zMem) :=
  zl (zI M 3 0 (4 : Int32)) fun M3 =>
  zl (zI M3 3 1 (4 : Int32)) fun M4 =>
  zl (zI M4 3 2 (0 : Int32)) fun M5 =>
  itF (fun _ _ => none) (F_X10_tellsNothing_23) zFuel (0 : Int32) M5
def rm_X10_tellsNothing : Room := { frames := 2, cells := 0, slots := 0, locals := 80 }
set_option maxHeartbeats 4000000 in
set_option maxRecDepth 100000 in
theorem c_X10_tellsNothing (l : Launch) {G : zG} {ad : Nat → Nat} {n : Nat} (hA : zInj ad n) (M : zMem)  (hT : zT shM n 0 11) {M9 : zMem} (hF : F_X10_tellsNothing M  = some M9) : zM l yX10_tellsNothing cX10_tellsNothing 2 none rm_X10_tellsNothing G shM ad n M [.ref (ad 0)] none M9 := by
  refine zM_of hA (by decide +kernel) (lv := [(0, .ref (ad 0))]) (Nat.le_of_ble_eq_true rfl) rfl (fun p e s m args below meth c A cx hr => ?_)
  have hL23 : ∀ (fuel : Nat), ∀ (b23_L1 : Int32) (M : zMem), itF (fun _ _ => none) (F_X10_tellsNothing_23) fuel b23_L1 M = some M9 → zJ p l e rm_X10_tellsNothing s m args below meth c G shM ad n A 2 (MQ below (zQ G shM ad n M9 none A) args s 0 0 A) 0 0 M 23 [(0, .ref (ad 0)), (1, .int b23_L1)] [] := by
    intro fuel
    induction fuel with
    | zero => intro b23_L1 M hF; cases hF
    | succ fuel hs23 =>
      intro b23_L1 M hF
      have hF : F_X10_tellsNothing_23 (itF (fun _ _ => none) (F_X10_tellsNothing_23) fuel) b23_L1 M = some M9 := hF
      generalize itF (fun _ _ => none) (F_X10_tellsNothing_23) fuel = self23 at hs23 hF
      unfold F_X10_tellsNothing_23 at hF
      refine z_iload_n cx d_X10_tellsNothing_23 1 rfl ?_
      refine z_sipush (v := 192) cx d_X10_tellsNothing_24 ks_192 ?_
      refine z_icmp_ge cx 43 d_X10_tellsNothing_27 (by decide) hF (fun hF => ?_) (fun hF => ?_)
      · exact z_vret cx hr hF d_X10_tellsNothing_43
      refine z_aload_n cx d_X10_tellsNothing_30 0 rfl ?_
      refine z_getR cx hT fg_SunnyPansModel_26 5 rfl d_X10_tellsNothing_31 ?_
      refine z_iload_n cx d_X10_tellsNothing_34 1 rfl ?_
      refine z_iconst (v := 0) cx d_X10_tellsNothing_35 ki_0 ?_
      obtain ⟨hi1, hF⟩ := gin_inv hF
      refine z_iast cx (tfM_11_5 hT) za_29 hi1 b23_L1.toNatClampNeg rfl d_X10_tellsNothing_36 ?_
      refine z_nmM hF (fun M2 hF => ?_)
      refine z_iinc cx 1 1 [(1, .int (b23_L1 + 1)), (0, .ref (ad 0))] d_X10_tellsNothing_37 1 rfl ki_1 (by decide) rfl ?_
      refine z_goto cx 23 d_X10_tellsNothing_40 (by decide) ?_
      exact z_lv [1, 0] _ rfl (hs23 (b23_L1 + 1) M2 hF)
  unfold F_X10_tellsNothing at hF
  refine z_aload_n cx d_X10_tellsNothing_0 0 rfl ?_
  refine z_getR cx hT fg_SunnyPansModel_20 3 rfl d_X10_tellsNothing_1 ?_
  refine z_iconst (v := 0) cx d_X10_tellsNothing_4 ki_0 ?_
  refine z_iconst (v := 4) cx d_X10_tellsNothing_5 ki_4 ?_
  refine z_iast cx (tfM_11_3 hT) za_28 (zvp (by decide +kernel)) 0 rfl d_X10_tellsNothing_6 ?_
  refine z_nmM hF (fun M3 hF => ?_)
  refine z_aload_n cx d_X10_tellsNothing_7 0 rfl ?_
  refine z_getR cx hT fg_SunnyPansModel_20 3 rfl d_X10_tellsNothing_8 ?_
  refine z_iconst (v := 1) cx d_X10_tellsNothing_11 ki_1 ?_
  refine z_iconst (v := 4) cx d_X10_tellsNothing_12 ki_4 ?_
  refine z_iast cx (tfM_11_3 hT) za_28 (zvp (by decide +kernel)) 1 rfl d_X10_tellsNothing_13 ?_
  refine z_nmM hF (fun M4 hF => ?_)
  refine z_aload_n cx d_X10_tellsNothing_14 0 rfl ?_
  refine z_getR cx hT fg_SunnyPansModel_20 3 rfl d_X10_tellsNothing_15 ?_
  refine z_iconst (v := 2) cx d_X10_tellsNothing_18 ki_2 ?_
  refine z_iconst (v := 0) cx d_X10_tellsNothing_19 ki_0 ?_
  refine z_iast cx (tfM_11_3 hT) za_28 (zvp (by decide +kernel)) 2 rfl d_X10_tellsNothing_20 ?_
  refine z_nmM hF (fun M5 hF => ?_)
  refine z_iconst (v := 0) cx d_X10_tellsNothing_21 ki_0 ?_
  refine z_istore_n cx 1 [(1, .int (0 : Int32)), (0, .ref (ad 0))] d_X10_tellsNothing_22 rfl (by decide) rfl ?_
  exact z_lv [1, 0] _ rfl (hL23 zFuel (0 : Int32) M5 hF)
/-! SunnyPansModel.thrown -/
theorem tfM_11_6 {n k : Nat} (h : zT shM n k 11) : zT shM n (k + 6) 30 := zT_off h (shM_f (by decide) (by decide +kernel)) (by decide) (by decide)
theorem tfM_11_17 {n k : Nat} (h : zT shM n k 11) : zT shM n (k + 17) 30 := zT_off h (shM_f (by decide) (by decide +kernel)) (by decide) (by decide)
theorem tfM_11_4 {n k : Nat} (h : zT shM n k 11) : zT shM n (k + 4) 28 := zT_off h (shM_f (by decide) (by decide +kernel)) (by decide) (by decide)
theorem tfM_11_451 {n k : Nat} (h : zT shM n k 11) : zT shM n (k + 451) 36 := zT_off h (shM_f (by decide) (by decide +kernel)) (by decide) (by decide)
theorem za_36 : zArrI 36 195 := fun _ _ _ _ _ _ => rfl
set_option maxRecDepth 100000 in
theorem wd_1420 : Cond.fieldLink "SunnyPansModel" 58 "SunnyPansModel" "now" "[I" ∈ tbG := tw6 120 rfl rfl
theorem fg_SunnyPansModel_58 : zGetR "SunnyPansModel" 58 10 11 26 451 := ⟨RX10, TX10, 40, rfl, by decide, uw_10, wd_1420, fun _ _ _ _ _ _ => ⟨_, rfl, rfl⟩⟩
theorem ks_128 : (Int16.ofInt (128)).toInt32 = (128 : Int32) := by decide +kernel
set_option maxRecDepth 100000 in
theorem wd_1410 : Cond.fieldLink "SunnyPansModel" 172 "SunnyPansModel" "lawMany" "I" ∈ tbG := tw6 110 rfl rfl
theorem fg_SunnyPansModel_172 : zGetI "SunnyPansModel" 172 10 11 16 := ⟨RX10, TX10, 40, rfl, by decide, uw_10, wd_1410, fun _ _ _ _ _ _ => ⟨_, rfl, rfl⟩⟩
theorem zc_10 : zCls 10 := ⟨RX10, TX10, 40, tyX10, rfl, tyX10_ok, nmX10⟩
theorem fp_SunnyPansModel_172 : zPutI "SunnyPansModel" 172 10 11 16 := ⟨zc_10, fg_SunnyPansModel_172, ⟨RX10, TX10, 40, rfl, rfl, by decide +kernel⟩, fun _ _ _ _ _ _ _ => ⟨_, rfl, Nat.le_of_ble_eq_true rfl, rfl⟩⟩
set_option maxRecDepth 100000 in
theorem wd_1424 : Cond.fieldLink "SunnyPansModel" 175 "SunnyPansModel" "lines" "I" ∈ tbG := tw6 124 rfl rfl
theorem fg_SunnyPansModel_175 : zGetI "SunnyPansModel" 175 10 11 30 := ⟨RX10, TX10, 40, rfl, by decide, uw_10, wd_1424, fun _ _ _ _ _ _ => ⟨_, rfl, rfl⟩⟩
theorem fp_SunnyPansModel_175 : zPutI "SunnyPansModel" 175 10 11 30 := ⟨zc_10, fg_SunnyPansModel_175, ⟨RX10, TX10, 40, rfl, rfl, by decide +kernel⟩, fun _ _ _ _ _ _ _ => ⟨_, rfl, Nat.le_of_ble_eq_true rfl, rfl⟩⟩
set_option maxRecDepth 100000 in
theorem wd_1425 : Cond.fieldLink "SunnyPansModel" 178 "SunnyPansModel" "works" "I" ∈ tbG := tw6 125 rfl rfl
theorem fg_SunnyPansModel_178 : zGetI "SunnyPansModel" 178 10 11 31 := ⟨RX10, TX10, 40, rfl, by decide, uw_10, wd_1425, fun _ _ _ _ _ _ => ⟨_, rfl, rfl⟩⟩
theorem fp_SunnyPansModel_178 : zPutI "SunnyPansModel" 178 10 11 31 := ⟨zc_10, fg_SunnyPansModel_178, ⟨RX10, TX10, 40, rfl, rfl, by decide +kernel⟩, fun _ _ _ _ _ _ _ => ⟨_, rfl, Nat.le_of_ble_eq_true rfl, rfl⟩⟩
set_option maxRecDepth 100000 in
theorem wd_1426 : Cond.fieldLink "SunnyPansModel" 181 "SunnyPansModel" "refusedSteps" "I" ∈ tbG := tw6 126 rfl rfl
theorem fg_SunnyPansModel_181 : zGetI "SunnyPansModel" 181 10 11 32 := ⟨RX10, TX10, 40, rfl, by decide, uw_10, wd_1426, fun _ _ _ _ _ _ => ⟨_, rfl, rfl⟩⟩
theorem fp_SunnyPansModel_181 : zPutI "SunnyPansModel" 181 10 11 32 := ⟨zc_10, fg_SunnyPansModel_181, ⟨RX10, TX10, 40, rfl, rfl, by decide +kernel⟩, fun _ _ _ _ _ _ _ => ⟨_, rfl, Nat.le_of_ble_eq_true rfl, rfl⟩⟩
set_option maxRecDepth 100000 in
theorem wd_1427 : Cond.fieldLink "SunnyPansModel" 184 "SunnyPansModel" "images" "I" ∈ tbG := tw6 127 rfl rfl
theorem fg_SunnyPansModel_184 : zGetI "SunnyPansModel" 184 10 11 33 := ⟨RX10, TX10, 40, rfl, by decide, uw_10, wd_1427, fun _ _ _ _ _ _ => ⟨_, rfl, rfl⟩⟩
theorem fp_SunnyPansModel_184 : zPutI "SunnyPansModel" 184 10 11 33 := ⟨zc_10, fg_SunnyPansModel_184, ⟨RX10, TX10, 40, rfl, rfl, by decide +kernel⟩, fun _ _ _ _ _ _ _ => ⟨_, rfl, Nat.le_of_ble_eq_true rfl, rfl⟩⟩
set_option maxRecDepth 100000 in
theorem wd_1406 : Cond.fieldLink "SunnyPansModel" 23 "SunnyPansModel" "told" "[I" ∈ tbG := tw6 106 rfl rfl
theorem fg_SunnyPansModel_23 : zGetR "SunnyPansModel" 23 10 11 12 4 := ⟨RX10, TX10, 40, rfl, by decide, uw_10, wd_1406, fun _ _ _ _ _ _ => ⟨_, rfl, rfl⟩⟩
theorem ks_195 : (Int16.ofInt (195)).toInt32 = (195 : Int32) := by decide +kernel
set_option maxRecDepth 100000 in
theorem wd_1408 : Cond.fieldLink "SunnyPansModel" 31 "SunnyPansModel" "readHour" "[[I" ∈ tbG := tw6 108 rfl rfl
theorem fg_SunnyPansModel_31 : zGetR "SunnyPansModel" 31 10 11 14 6 := ⟨RX10, TX10, 40, rfl, by decide, uw_10, wd_1408, fun _ _ _ _ _ _ => ⟨_, rfl, rfl⟩⟩
set_option maxRecDepth 100000 in
theorem wd_1409 : Cond.fieldLink "SunnyPansModel" 34 "SunnyPansModel" "hour" "[[I" ∈ tbG := tw6 109 rfl rfl
theorem fg_SunnyPansModel_34 : zGetR "SunnyPansModel" 34 10 11 15 17 := ⟨RX10, TX10, 40, rfl, by decide, uw_10, wd_1409, fun _ _ _ _ _ _ => ⟨_, rfl, rfl⟩⟩
set_option maxRecDepth 100000 in
theorem wd_1394 : Cond.fieldLink "SunnyPansModel" 82 "SunnyPansModel" "thrown" "I" ∈ tbG := tw6 94 rfl rfl
theorem fg_SunnyPansModel_82 : zGetI "SunnyPansModel" 82 10 11 0 := ⟨RX10, TX10, 40, rfl, by decide, uw_10, wd_1394, fun _ _ _ _ _ _ => ⟨_, rfl, rfl⟩⟩
theorem d_X10_thrown_0 : decode cX10_thrown 0 = .ok (.aload_n 0, 1) := by decide +kernel
theorem d_X10_thrown_1 : decode cX10_thrown 1 = .ok (.getfield 82, 3) := by decide +kernel
theorem d_X10_thrown_4 : decode cX10_thrown 4 = .ok (.ireturn, 1) := by decide +kernel
def F_X10_thrown (M : zMem)  : Option (Int32 × zMem) :=
  some ((M.1 0 0), M)
def rm_X10_thrown : Room := { frames := 2, cells := 0, slots := 0, locals := 80 }
set_option maxHeartbeats 4000000 in
set_option maxRecDepth 100000 in
theorem c_X10_thrown (l : Launch) {G : zG} {ad : Nat → Nat} {n : Nat} (hA : zInj ad n) (M : zMem)  (hT : zT shM n 0 11) {r9 : Int32} {M9 : zMem} (hF : F_X10_thrown M  = some (r9, M9)) : zM l yX10_thrown cX10_thrown 1 (some .int) rm_X10_thrown G shM ad n M [.ref (ad 0)] (some (.int r9)) M9 := by
  refine zM_of hA (by decide +kernel) (lv := [(0, .ref (ad 0))]) (Nat.le_of_ble_eq_true rfl) rfl (fun p e s m args below meth c A cx hr => ?_)
  unfold F_X10_thrown at hF
  refine z_aload_n cx d_X10_thrown_0 0 rfl ?_
  refine z_getI cx hT fg_SunnyPansModel_82 d_X10_thrown_1 ?_
  exact z_iret cx hr rfl hF d_X10_thrown_4
/-! SunnyPansModel.bad -/
theorem tfM_11_2 {n k : Nat} (h : zT shM n k 11) : zT shM n (k + 2) 27 := zT_off h (shM_f (by decide) (by decide +kernel)) (by decide) (by decide)
theorem fp_SunnyPansModel_82 : zPutI "SunnyPansModel" 82 10 11 0 := ⟨zc_10, fg_SunnyPansModel_82, ⟨RX10, TX10, 40, rfl, rfl, by decide +kernel⟩, fun _ _ _ _ _ _ _ => ⟨_, rfl, Nat.le_of_ble_eq_true rfl, rfl⟩⟩
set_option maxRecDepth 100000 in
theorem wd_1404 : Cond.fieldLink "SunnyPansModel" 17 "SunnyPansModel" "refused" "[I" ∈ tbG := tw6 104 rfl rfl
theorem fg_SunnyPansModel_17 : zGetR "SunnyPansModel" 17 10 11 10 2 := ⟨RX10, TX10, 40, rfl, by decide, uw_10, wd_1404, fun _ _ _ _ _ _ => ⟨_, rfl, rfl⟩⟩
theorem za_27 : zArrI 27 2 := fun _ _ _ _ _ _ => rfl
theorem d_X10_bad_0 : decode cX10_bad 0 = .ok (.iload_n 1, 1) := by decide +kernel
theorem d_X10_bad_1 : decode cX10_bad 1 = .ok (.ifCond .eq 25, 3) := by decide +kernel
theorem d_X10_bad_4 : decode cX10_bad 4 = .ok (.aload_n 0, 1) := by decide +kernel
theorem d_X10_bad_5 : decode cX10_bad 5 = .ok (.getfield 82, 3) := by decide +kernel
theorem d_X10_bad_8 : decode cX10_bad 8 = .ok (.ifCond .ne 18, 3) := by decide +kernel
theorem d_X10_bad_11 : decode cX10_bad 11 = .ok (.aload_n 0, 1) := by decide +kernel
theorem d_X10_bad_12 : decode cX10_bad 12 = .ok (.iload_n 2, 1) := by decide +kernel
theorem d_X10_bad_13 : decode cX10_bad 13 = .ok (.putfield 82, 3) := by decide +kernel
theorem d_X10_bad_16 : decode cX10_bad 16 = .ok (.aload_n 0, 1) := by decide +kernel
theorem d_X10_bad_17 : decode cX10_bad 17 = .ok (.getfield 17, 3) := by decide +kernel
theorem d_X10_bad_20 : decode cX10_bad 20 = .ok (.iload_n 3, 1) := by decide +kernel
theorem d_X10_bad_21 : decode cX10_bad 21 = .ok (.dup2, 1) := by decide +kernel
theorem d_X10_bad_22 : decode cX10_bad 22 = .ok (.iaload, 1) := by decide +kernel
theorem d_X10_bad_23 : decode cX10_bad 23 = .ok (.iconst 1, 1) := by decide +kernel
theorem d_X10_bad_24 : decode cX10_bad 24 = .ok (.iadd, 1) := by decide +kernel
theorem d_X10_bad_25 : decode cX10_bad 25 = .ok (.iastore, 1) := by decide +kernel
theorem d_X10_bad_26 : decode cX10_bad 26 = .ok (.aload_n 0, 1) := by decide +kernel
theorem d_X10_bad_27 : decode cX10_bad 27 = .ok (.getfield 82, 3) := by decide +kernel
theorem d_X10_bad_30 : decode cX10_bad 30 = .ok (.ifCond .eq 7, 3) := by decide +kernel
theorem d_X10_bad_33 : decode cX10_bad 33 = .ok (.iconst 1, 1) := by decide +kernel
theorem d_X10_bad_34 : decode cX10_bad 34 = .ok (.goto 4, 3) := by decide +kernel
theorem d_X10_bad_37 : decode cX10_bad 37 = .ok (.iconst 0, 1) := by decide +kernel
theorem d_X10_bad_38 : decode cX10_bad 38 = .ok (.ireturn, 1) := by decide +kernel
def F_X10_bad_26 (p0 : Int32) (p1 : Int32) (p2 : Int32) (M : zMem) : Option (Int32 × zMem) :=
  if (M.1 0 0) = 0 then
    some ((0 : Int32), M)
  else
    some ((1 : Int32), M)
def F_X10_bad (M : zMem) (p0 : Int32) (p1 : Int32) (p2 : Int32) : Option (Int32 × zMem) :=
  if p0 = 0 then
    F_X10_bad_26 p0 p1 p2 M
  else
    if (M.1 0 0) = 0 then
      zl (zI M 0 0 p1) fun M1 =>
      gin p2 2 <|
      zl (zI M1 2 p2.toNatClampNeg ((M1.1 2 p2.toNatClampNeg) + (1 : Int32))) fun M3 =>
      F_X10_bad_26 p0 p1 p2 M3
    else
      F_X10_bad_26 p0 p1 p2 M
def rm_X10_bad : Room := { frames := 2, cells := 0, slots := 0, locals := 80 }
set_option maxHeartbeats 4000000 in
set_option maxRecDepth 100000 in
theorem c_X10_bad (l : Launch) {G : zG} {ad : Nat → Nat} {n : Nat} (hA : zInj ad n) (M : zMem) (p0 : Int32) (p1 : Int32) (p2 : Int32) (hT : zT shM n 0 11) {r9 : Int32} {M9 : zMem} (hF : F_X10_bad M p0 p1 p2 = some (r9, M9)) : zM l yX10_bad cX10_bad 4 (some .boolean) rm_X10_bad G shM ad n M [.ref (ad 0), .int p0, .int p1, .int p2] (some (.int r9)) M9 := by
  refine zM_of hA (by decide +kernel) (lv := [(0, .ref (ad 0)), (1, .int p0), (2, .int p1), (3, .int p2)]) (Nat.le_of_ble_eq_true rfl) rfl (fun p e s m args below meth c A cx hr => ?_)
  have hb26 : ∀ (M : zMem), F_X10_bad_26 p0 p1 p2 M = some (r9, M9) → zJ p l e rm_X10_bad s m args below meth c G shM ad n A 4 (MQ below (zQ G shM ad n M9 (some (.int r9)) A) args s 0 0 A) 0 0 M 26 [(0, .ref (ad 0))] [] := by
    intro M hF
    unfold F_X10_bad_26 at hF
    refine z_aload_n cx d_X10_bad_26 0 rfl ?_
    refine z_getI cx hT fg_SunnyPansModel_82 d_X10_bad_27 ?_
    refine z_if_eq cx 37 d_X10_bad_30 (by decide) hF (fun hF => ?_) (fun hF => ?_)
    · refine z_iconst (v := 0) cx d_X10_bad_37 ki_0 ?_
      exact z_iret cx hr nb0 hF d_X10_bad_38
    refine z_iconst (v := 1) cx d_X10_bad_33 ki_1 ?_
    refine z_goto cx 38 d_X10_bad_34 (by decide) ?_
    exact z_iret cx hr nb1 hF d_X10_bad_38
  unfold F_X10_bad at hF
  refine z_iload_n cx d_X10_bad_0 1 rfl ?_
  refine z_if_eq cx 26 d_X10_bad_1 (by decide) hF (fun hF => ?_) (fun hF => ?_)
  · exact z_lv [0] _ rfl (hb26 M hF)
  refine z_aload_n cx d_X10_bad_4 0 rfl ?_
  refine z_getI cx hT fg_SunnyPansModel_82 d_X10_bad_5 ?_
  refine z_if_ne cx 26 d_X10_bad_8 (by decide) hF (fun hF => ?_) (fun hF => ?_)
  · exact z_lv [0] _ rfl (hb26 M hF)
  refine z_aload_n cx d_X10_bad_11 0 rfl ?_
  refine z_iload_n cx d_X10_bad_12 2 rfl ?_
  refine z_putI cx hT fp_SunnyPansModel_82 d_X10_bad_13 ?_
  refine z_nmM hF (fun M1 hF => ?_)
  refine z_aload_n cx d_X10_bad_16 0 rfl ?_
  refine z_getR cx hT fg_SunnyPansModel_17 2 rfl d_X10_bad_17 ?_
  refine z_iload_n cx d_X10_bad_20 3 rfl ?_
  refine z_dup2 cx d_X10_bad_21 rfl rfl ?_
  obtain ⟨hi2, hF⟩ := gin_inv hF
  refine z_iald cx (tfM_11_2 hT) za_27 hi2 p2.toNatClampNeg rfl d_X10_bad_22 ?_
  refine z_iconst (v := 1) cx d_X10_bad_23 ki_1 ?_
  refine z_iadd cx d_X10_bad_24 ?_
  refine z_iast cx (tfM_11_2 hT) za_27 hi2 p2.toNatClampNeg rfl d_X10_bad_25 ?_
  refine z_nmM hF (fun M3 hF => ?_)
  exact z_lv [0] _ rfl (hb26 M3 hF)
/-! SunnyPansModel.in -/
theorem d_X10_in_0 : decode cX10_in 0 = .ok (.iload_n 0, 1) := by decide +kernel
theorem d_X10_in_1 : decode cX10_in 1 = .ok (.iload_n 1, 1) := by decide +kernel
theorem d_X10_in_2 : decode cX10_in 2 = .ok (.if_icmp .lt 12, 3) := by decide +kernel
theorem d_X10_in_5 : decode cX10_in 5 = .ok (.iload_n 0, 1) := by decide +kernel
theorem d_X10_in_6 : decode cX10_in 6 = .ok (.iload_n 2, 1) := by decide +kernel
theorem d_X10_in_7 : decode cX10_in 7 = .ok (.if_icmp .gt 7, 3) := by decide +kernel
theorem d_X10_in_10 : decode cX10_in 10 = .ok (.iconst 1, 1) := by decide +kernel
theorem d_X10_in_11 : decode cX10_in 11 = .ok (.goto 4, 3) := by decide +kernel
theorem d_X10_in_14 : decode cX10_in 14 = .ok (.iconst 0, 1) := by decide +kernel
theorem d_X10_in_15 : decode cX10_in 15 = .ok (.ireturn, 1) := by decide +kernel
def F_X10_in (M : zMem) (p0 : Int32) (p1 : Int32) (p2 : Int32) : Option (Int32 × zMem) :=
  if p0 < p1 then
    some ((0 : Int32), M)
  else
    if p2 < p0 then
      some ((0 : Int32), M)
    else
      some ((1 : Int32), M)
def rm_X10_in : Room := { frames := 2, cells := 0, slots := 0, locals := 80 }
set_option maxHeartbeats 4000000 in
set_option maxRecDepth 100000 in
theorem c_X10_in (l : Launch) {G : zG} {ad : Nat → Nat} {n : Nat} (hA : zInj ad n) (M : zMem) (p0 : Int32) (p1 : Int32) (p2 : Int32) {r9 : Int32} {M9 : zMem} (hF : F_X10_in M p0 p1 p2 = some (r9, M9)) : zM l yX10_in cX10_in 3 (some .boolean) rm_X10_in G shM ad n M [.int p0, .int p1, .int p2] (some (.int r9)) M9 := by
  refine zM_of hA (by decide +kernel) (lv := [(0, .int p0), (1, .int p1), (2, .int p2)]) (Nat.le_of_ble_eq_true rfl) rfl (fun p e s m args below meth c A cx hr => ?_)
  unfold F_X10_in at hF
  refine z_iload_n cx d_X10_in_0 0 rfl ?_
  refine z_iload_n cx d_X10_in_1 1 rfl ?_
  refine z_icmp_lt cx 14 d_X10_in_2 (by decide) hF (fun hF => ?_) (fun hF => ?_)
  · refine z_iconst (v := 0) cx d_X10_in_14 ki_0 ?_
    exact z_iret cx hr nb0 hF d_X10_in_15
  refine z_iload_n cx d_X10_in_5 0 rfl ?_
  refine z_iload_n cx d_X10_in_6 2 rfl ?_
  refine z_icmp_gt cx 14 d_X10_in_7 (by decide) hF (fun hF => ?_) (fun hF => ?_)
  · refine z_iconst (v := 0) cx d_X10_in_14 ki_0 ?_
    exact z_iret cx hr nb0 hF d_X10_in_15
  refine z_iconst (v := 1) cx d_X10_in_10 ki_1 ?_
  refine z_goto cx 15 d_X10_in_11 (by decide) ?_
  exact z_iret cx hr nb1 hF d_X10_in_15
/-! SunnyPansModel.less -/
theorem d_X10_less_0 : decode cX10_less 0 = .ok (.iload_n 0, 1) := by decide +kernel
theorem d_X10_less_1 : decode cX10_less 1 = .ok (.iload_n 1, 1) := by decide +kernel
theorem d_X10_less_2 : decode cX10_less 2 = .ok (.if_icmp .ge 7, 3) := by decide +kernel
theorem d_X10_less_5 : decode cX10_less 5 = .ok (.iload_n 0, 1) := by decide +kernel
theorem d_X10_less_6 : decode cX10_less 6 = .ok (.goto 4, 3) := by decide +kernel
theorem d_X10_less_9 : decode cX10_less 9 = .ok (.iload_n 1, 1) := by decide +kernel
theorem d_X10_less_10 : decode cX10_less 10 = .ok (.ireturn, 1) := by decide +kernel
def F_X10_less (M : zMem) (p0 : Int32) (p1 : Int32) : Option (Int32 × zMem) :=
  if p1 ≤ p0 then
    some (p1, M)
  else
    some (p0, M)
def rm_X10_less : Room := { frames := 2, cells := 0, slots := 0, locals := 80 }
set_option maxHeartbeats 4000000 in
set_option maxRecDepth 100000 in
theorem c_X10_less (l : Launch) {G : zG} {ad : Nat → Nat} {n : Nat} (hA : zInj ad n) (M : zMem) (p0 : Int32) (p1 : Int32) {r9 : Int32} {M9 : zMem} (hF : F_X10_less M p0 p1 = some (r9, M9)) : zM l yX10_less cX10_less 2 (some .int) rm_X10_less G shM ad n M [.int p0, .int p1] (some (.int r9)) M9 := by
  refine zM_of hA (by decide +kernel) (lv := [(0, .int p0), (1, .int p1)]) (Nat.le_of_ble_eq_true rfl) rfl (fun p e s m args below meth c A cx hr => ?_)
  unfold F_X10_less at hF
  refine z_iload_n cx d_X10_less_0 0 rfl ?_
  refine z_iload_n cx d_X10_less_1 1 rfl ?_
  refine z_icmp_ge cx 9 d_X10_less_2 (by decide) hF (fun hF => ?_) (fun hF => ?_)
  · refine z_iload_n cx d_X10_less_9 1 rfl ?_
    exact z_iret cx hr rfl hF d_X10_less_10
  refine z_iload_n cx d_X10_less_5 0 rfl ?_
  refine z_goto cx 10 d_X10_less_6 (by decide) ?_
  exact z_iret cx hr rfl hF d_X10_less_10
/-! SunnyPansModel.more -/
theorem d_X10_more_0 : decode cX10_more 0 = .ok (.iload_n 0, 1) := by decide +kernel
theorem d_X10_more_1 : decode cX10_more 1 = .ok (.iload_n 1, 1) := by decide +kernel
theorem d_X10_more_2 : decode cX10_more 2 = .ok (.if_icmp .le 7, 3) := by decide +kernel
theorem d_X10_more_5 : decode cX10_more 5 = .ok (.iload_n 0, 1) := by decide +kernel
theorem d_X10_more_6 : decode cX10_more 6 = .ok (.goto 4, 3) := by decide +kernel
theorem d_X10_more_9 : decode cX10_more 9 = .ok (.iload_n 1, 1) := by decide +kernel
theorem d_X10_more_10 : decode cX10_more 10 = .ok (.ireturn, 1) := by decide +kernel
def F_X10_more (M : zMem) (p0 : Int32) (p1 : Int32) : Option (Int32 × zMem) :=
  if p0 ≤ p1 then
    some (p1, M)
  else
    some (p0, M)
def rm_X10_more : Room := { frames := 2, cells := 0, slots := 0, locals := 80 }
set_option maxHeartbeats 4000000 in
set_option maxRecDepth 100000 in
theorem c_X10_more (l : Launch) {G : zG} {ad : Nat → Nat} {n : Nat} (hA : zInj ad n) (M : zMem) (p0 : Int32) (p1 : Int32) {r9 : Int32} {M9 : zMem} (hF : F_X10_more M p0 p1 = some (r9, M9)) : zM l yX10_more cX10_more 2 (some .int) rm_X10_more G shM ad n M [.int p0, .int p1] (some (.int r9)) M9 := by
  refine zM_of hA (by decide +kernel) (lv := [(0, .int p0), (1, .int p1)]) (Nat.le_of_ble_eq_true rfl) rfl (fun p e s m args below meth c A cx hr => ?_)
  unfold F_X10_more at hF
  refine z_iload_n cx d_X10_more_0 0 rfl ?_
  refine z_iload_n cx d_X10_more_1 1 rfl ?_
  refine z_icmp_le cx 9 d_X10_more_2 (by decide) hF (fun hF => ?_) (fun hF => ?_)
  · refine z_iload_n cx d_X10_more_9 1 rfl ?_
    exact z_iret cx hr rfl hF d_X10_more_10
  refine z_iload_n cx d_X10_more_5 0 rfl ?_
  refine z_goto cx 10 d_X10_more_6 (by decide) ?_
  exact z_iret cx hr rfl hF d_X10_more_10
/-! SunnyPansModel.has -/
theorem d_X10_has_0 : decode cX10_has 0 = .ok (.iload_n 0, 1) := by decide +kernel
theorem d_X10_has_1 : decode cX10_has 1 = .ok (.iload_n 1, 1) := by decide +kernel
theorem d_X10_has_2 : decode cX10_has 2 = .ok (.ishr, 1) := by decide +kernel
theorem d_X10_has_3 : decode cX10_has 3 = .ok (.iconst 1, 1) := by decide +kernel
theorem d_X10_has_4 : decode cX10_has 4 = .ok (.iand, 1) := by decide +kernel
theorem d_X10_has_5 : decode cX10_has 5 = .ok (.iconst 1, 1) := by decide +kernel
theorem d_X10_has_6 : decode cX10_has 6 = .ok (.if_icmp .ne 7, 3) := by decide +kernel
theorem d_X10_has_9 : decode cX10_has 9 = .ok (.iconst 1, 1) := by decide +kernel
theorem d_X10_has_10 : decode cX10_has 10 = .ok (.goto 4, 3) := by decide +kernel
theorem d_X10_has_13 : decode cX10_has 13 = .ok (.iconst 0, 1) := by decide +kernel
theorem d_X10_has_14 : decode cX10_has 14 = .ok (.ireturn, 1) := by decide +kernel
def F_X10_has (M : zMem) (p0 : Int32) (p1 : Int32) : Option (Int32 × zMem) :=
  if ((p0 >>> (p1 &&& 31)) &&& (1 : Int32)) = (1 : Int32) then
    some ((1 : Int32), M)
  else
    some ((0 : Int32), M)
def rm_X10_has : Room := { frames := 2, cells := 0, slots := 0, locals := 80 }
set_option maxHeartbeats 4000000 in
set_option maxRecDepth 100000 in
theorem c_X10_has (l : Launch) {G : zG} {ad : Nat → Nat} {n : Nat} (hA : zInj ad n) (M : zMem) (p0 : Int32) (p1 : Int32) {r9 : Int32} {M9 : zMem} (hF : F_X10_has M p0 p1 = some (r9, M9)) : zM l yX10_has cX10_has 2 (some .boolean) rm_X10_has G shM ad n M [.int p0, .int p1] (some (.int r9)) M9 := by
  refine zM_of hA (by decide +kernel) (lv := [(0, .int p0), (1, .int p1)]) (Nat.le_of_ble_eq_true rfl) rfl (fun p e s m args below meth c A cx hr => ?_)
  unfold F_X10_has at hF
  refine z_iload_n cx d_X10_has_0 0 rfl ?_
  refine z_iload_n cx d_X10_has_1 1 rfl ?_
  refine z_ishr cx d_X10_has_2 ?_
  refine z_iconst (v := 1) cx d_X10_has_3 ki_1 ?_
  refine z_iand cx d_X10_has_4 ?_
  refine z_iconst (v := 1) cx d_X10_has_5 ki_1 ?_
  refine z_icmp_ne cx 13 d_X10_has_6 (by decide) hF (fun hF => ?_) (fun hF => ?_)
  · refine z_iconst (v := 0) cx d_X10_has_13 ki_0 ?_
    exact z_iret cx hr nb0 hF d_X10_has_14
  refine z_iconst (v := 1) cx d_X10_has_9 ki_1 ?_
  refine z_goto cx 14 d_X10_has_10 (by decide) ?_
  exact z_iret cx hr nb1 hF d_X10_has_14
/-! SunnyPansModel.feed -/
theorem tfM_11_1 {n k : Nat} (h : zT shM n k 11) : zT shM n (k + 1) 17 := zT_off h (shM_f (by decide) (by decide +kernel)) (by decide) (by decide)
set_option maxRecDepth 100000 in
theorem wd_1403 : Cond.fieldLink "SunnyPansModel" 13 "SunnyPansModel" "fed" "[I" ∈ tbG := tw6 103 rfl rfl
theorem fg_SunnyPansModel_13 : zGetR "SunnyPansModel" 13 10 11 9 1 := ⟨RX10, TX10, 40, rfl, by decide, uw_10, wd_1403, fun _ _ _ _ _ _ => ⟨_, rfl, rfl⟩⟩
set_option maxRecDepth 100000 in
theorem wd_1395 : Cond.fieldLink "SunnyPansModel" 85 "SunnyPansModel" "tape" "I" ∈ tbG := tw6 95 rfl rfl
theorem fg_SunnyPansModel_85 : zGetI "SunnyPansModel" 85 10 11 1 := ⟨RX10, TX10, 40, rfl, by decide, uw_10, wd_1395, fun _ _ _ _ _ _ => ⟨_, rfl, rfl⟩⟩
theorem fp_SunnyPansModel_85 : zPutI "SunnyPansModel" 85 10 11 1 := ⟨zc_10, fg_SunnyPansModel_85, ⟨RX10, TX10, 40, rfl, rfl, by decide +kernel⟩, fun _ _ _ _ _ _ _ => ⟨_, rfl, Nat.le_of_ble_eq_true rfl, rfl⟩⟩
theorem kb_12 : (Int8.ofInt (12)).toInt32 = (12 : Int32) := by decide +kernel
theorem d_X10_feed_0 : decode cX10_feed 0 = .ok (.aload_n 0, 1) := by decide +kernel
theorem d_X10_feed_1 : decode cX10_feed 1 = .ok (.iconst 0, 1) := by decide +kernel
theorem d_X10_feed_2 : decode cX10_feed 2 = .ok (.putfield 82, 3) := by decide +kernel
theorem d_X10_feed_5 : decode cX10_feed 5 = .ok (.aload_n 0, 1) := by decide +kernel
theorem d_X10_feed_6 : decode cX10_feed 6 = .ok (.getfield 85, 3) := by decide +kernel
theorem d_X10_feed_9 : decode cX10_feed 9 = .ok (.bipush 20, 2) := by decide +kernel
theorem d_X10_feed_11 : decode cX10_feed 11 = .ok (.iadd, 1) := by decide +kernel
theorem d_X10_feed_12 : decode cX10_feed 12 = .ok (.sipush 600, 3) := by decide +kernel
theorem d_X10_feed_15 : decode cX10_feed 15 = .ok (.if_icmp .le 5, 3) := by decide +kernel
theorem d_X10_feed_18 : decode cX10_feed 18 = .ok (.iconst (-1), 1) := by decide +kernel
theorem d_X10_feed_19 : decode cX10_feed 19 = .ok (.ireturn, 1) := by decide +kernel
theorem d_X10_feed_20 : decode cX10_feed 20 = .ok (.iconst 0, 1) := by decide +kernel
theorem d_X10_feed_21 : decode cX10_feed 21 = .ok (.istore 6, 2) := by decide +kernel
theorem d_X10_feed_23 : decode cX10_feed 23 = .ok (.iload 6, 2) := by decide +kernel
theorem d_X10_feed_25 : decode cX10_feed 25 = .ok (.bipush 20, 2) := by decide +kernel
theorem d_X10_feed_27 : decode cX10_feed 27 = .ok (.if_icmp .ge 93, 3) := by decide +kernel
theorem d_X10_feed_30 : decode cX10_feed 30 = .ok (.iload 6, 2) := by decide +kernel
theorem d_X10_feed_32 : decode cX10_feed 32 = .ok (.iconst 4, 1) := by decide +kernel
theorem d_X10_feed_33 : decode cX10_feed 33 = .ok (.if_icmp .ge 7, 3) := by decide +kernel
theorem d_X10_feed_36 : decode cX10_feed 36 = .ok (.iload_n 1, 1) := by decide +kernel
theorem d_X10_feed_37 : decode cX10_feed 37 = .ok (.goto 39, 3) := by decide +kernel
theorem d_X10_feed_40 : decode cX10_feed 40 = .ok (.iload 6, 2) := by decide +kernel
theorem d_X10_feed_42 : decode cX10_feed 42 = .ok (.bipush 8, 2) := by decide +kernel
theorem d_X10_feed_44 : decode cX10_feed 44 = .ok (.if_icmp .ge 7, 3) := by decide +kernel
theorem d_X10_feed_47 : decode cX10_feed 47 = .ok (.iload_n 2, 1) := by decide +kernel
theorem d_X10_feed_48 : decode cX10_feed 48 = .ok (.goto 28, 3) := by decide +kernel
theorem d_X10_feed_51 : decode cX10_feed 51 = .ok (.iload 6, 2) := by decide +kernel
theorem d_X10_feed_53 : decode cX10_feed 53 = .ok (.bipush 12, 2) := by decide +kernel
theorem d_X10_feed_55 : decode cX10_feed 55 = .ok (.if_icmp .ge 7, 3) := by decide +kernel
theorem d_X10_feed_58 : decode cX10_feed 58 = .ok (.iload_n 3, 1) := by decide +kernel
theorem d_X10_feed_59 : decode cX10_feed 59 = .ok (.goto 17, 3) := by decide +kernel
theorem d_X10_feed_62 : decode cX10_feed 62 = .ok (.iload 6, 2) := by decide +kernel
theorem d_X10_feed_64 : decode cX10_feed 64 = .ok (.bipush 16, 2) := by decide +kernel
theorem d_X10_feed_66 : decode cX10_feed 66 = .ok (.if_icmp .ge 8, 3) := by decide +kernel
theorem d_X10_feed_69 : decode cX10_feed 69 = .ok (.iload 4, 2) := by decide +kernel
theorem d_X10_feed_71 : decode cX10_feed 71 = .ok (.goto 5, 3) := by decide +kernel
theorem d_X10_feed_74 : decode cX10_feed 74 = .ok (.iload 5, 2) := by decide +kernel
theorem d_X10_feed_76 : decode cX10_feed 76 = .ok (.istore 7, 2) := by decide +kernel
theorem d_X10_feed_78 : decode cX10_feed 78 = .ok (.aload_n 0, 1) := by decide +kernel
theorem d_X10_feed_79 : decode cX10_feed 79 = .ok (.getfield 13, 3) := by decide +kernel
theorem d_X10_feed_82 : decode cX10_feed 82 = .ok (.aload_n 0, 1) := by decide +kernel
theorem d_X10_feed_83 : decode cX10_feed 83 = .ok (.getfield 85, 3) := by decide +kernel
theorem d_X10_feed_86 : decode cX10_feed 86 = .ok (.iload 7, 2) := by decide +kernel
theorem d_X10_feed_88 : decode cX10_feed 88 = .ok (.bipush 24, 2) := by decide +kernel
theorem d_X10_feed_90 : decode cX10_feed 90 = .ok (.bipush 8, 2) := by decide +kernel
theorem d_X10_feed_92 : decode cX10_feed 92 = .ok (.iload 6, 2) := by decide +kernel
theorem d_X10_feed_94 : decode cX10_feed 94 = .ok (.iconst 4, 1) := by decide +kernel
theorem d_X10_feed_95 : decode cX10_feed 95 = .ok (.irem, 1) := by decide +kernel
theorem d_X10_feed_96 : decode cX10_feed 96 = .ok (.imul, 1) := by decide +kernel
theorem d_X10_feed_97 : decode cX10_feed 97 = .ok (.isub, 1) := by decide +kernel
theorem d_X10_feed_98 : decode cX10_feed 98 = .ok (.ishr, 1) := by decide +kernel
theorem d_X10_feed_99 : decode cX10_feed 99 = .ok (.sipush 255, 3) := by decide +kernel
theorem d_X10_feed_102 : decode cX10_feed 102 = .ok (.iand, 1) := by decide +kernel
theorem d_X10_feed_103 : decode cX10_feed 103 = .ok (.iastore, 1) := by decide +kernel
theorem d_X10_feed_104 : decode cX10_feed 104 = .ok (.aload_n 0, 1) := by decide +kernel
theorem d_X10_feed_105 : decode cX10_feed 105 = .ok (.dup, 1) := by decide +kernel
theorem d_X10_feed_106 : decode cX10_feed 106 = .ok (.getfield 85, 3) := by decide +kernel
theorem d_X10_feed_109 : decode cX10_feed 109 = .ok (.iconst 1, 1) := by decide +kernel
theorem d_X10_feed_110 : decode cX10_feed 110 = .ok (.iadd, 1) := by decide +kernel
theorem d_X10_feed_111 : decode cX10_feed 111 = .ok (.putfield 85, 3) := by decide +kernel
theorem d_X10_feed_114 : decode cX10_feed 114 = .ok (.iinc 6 1, 3) := by decide +kernel
theorem d_X10_feed_117 : decode cX10_feed 117 = .ok (.goto (-94), 3) := by decide +kernel
theorem d_X10_feed_120 : decode cX10_feed 120 = .ok (.aload_n 0, 1) := by decide +kernel
theorem d_X10_feed_121 : decode cX10_feed 121 = .ok (.getfield 85, 3) := by decide +kernel
theorem d_X10_feed_124 : decode cX10_feed 124 = .ok (.ireturn, 1) := by decide +kernel
def F_X10_feed_76 (p0 : Int32) (p1 : Int32) (p2 : Int32) (p3 : Int32) (p4 : Int32) (self23 : Int32 → Int32 → Int32 → Int32 → Int32 → Int32 → zMem → Option (Int32 × zMem)) (b76_L1 : Int32) (b76_L2 : Int32) (b76_L3 : Int32) (b76_L4 : Int32) (b76_L5 : Int32) (b76_L6 : Int32) (b76_S0 : Int32) (M : zMem) : Option (Int32 × zMem) :=
  gin (M.1 0 1) 600 <|
  zl (zI M 1 ((M.1 0 1).toNatClampNeg) ((b76_S0 >>> (((24 : Int32) - ((8 : Int32) * (b76_L6 - b76_L6 / (4 : Int32) * (4 : Int32)))) &&& 31)) &&& (255 : Int32))) fun M2 =>
  zl (zI M2 0 1 ((M2.1 0 1) + (1 : Int32))) fun M3 =>
  self23 b76_L1 b76_L2 b76_L3 b76_L4 b76_L5 (b76_L6 + 1) M3
def F_X10_feed_23 (p0 : Int32) (p1 : Int32) (p2 : Int32) (p3 : Int32) (p4 : Int32) (self23 : Int32 → Int32 → Int32 → Int32 → Int32 → Int32 → zMem → Option (Int32 × zMem)) (b23_L1 : Int32) (b23_L2 : Int32) (b23_L3 : Int32) (b23_L4 : Int32) (b23_L5 : Int32) (b23_L6 : Int32) (M : zMem) : Option (Int32 × zMem) :=
  if (20 : Int32) ≤ b23_L6 then
    some ((M.1 0 1), M)
  else
    if (4 : Int32) ≤ b23_L6 then
      if (8 : Int32) ≤ b23_L6 then
        if (12 : Int32) ≤ b23_L6 then
          if (16 : Int32) ≤ b23_L6 then
            F_X10_feed_76 p0 p1 p2 p3 p4 self23 b23_L1 b23_L2 b23_L3 b23_L4 b23_L5 b23_L6 b23_L5 M
          else
            F_X10_feed_76 p0 p1 p2 p3 p4 self23 b23_L1 b23_L2 b23_L3 b23_L4 b23_L5 b23_L6 b23_L4 M
        else
          F_X10_feed_76 p0 p1 p2 p3 p4 self23 b23_L1 b23_L2 b23_L3 b23_L4 b23_L5 b23_L6 b23_L3 M
      else
        F_X10_feed_76 p0 p1 p2 p3 p4 self23 b23_L1 b23_L2 b23_L3 b23_L4 b23_L5 b23_L6 b23_L2 M
    else
      F_X10_feed_76 p0 p1 p2 p3 p4 self23 b23_L1 b23_L2 b23_L3 b23_L4 b23_L5 b23_L6 b23_L1 M
def F_X10_feed (M : zMem) (p0 : Int32) (p1 : Int32) (p2 : Int32) (p3 : Int32) (p4 : Int32) : Option (Int32 × zMem) :=
  zl (zI M 0 0 (0 : Int32)) fun M4 =>
  if ((M4.1 0 1) + (20 : Int32)) ≤ (600 : Int32) then
    itF (fun _ _ _ _ _ _ _ => none) (F_X10_feed_23 p0 p1 p2 p3 p4) zFuel p0 p1 p2 p3 p4 (0 : Int32) M4
  else
    some ((-1 : Int32), M4)
def rm_X10_feed : Room := { frames := 2, cells := 0, slots := 0, locals := 80 }
set_option maxHeartbeats 4000000 in
set_option maxRecDepth 100000 in
theorem c_X10_feed (l : Launch) {G : zG} {ad : Nat → Nat} {n : Nat} (hA : zInj ad n) (M : zMem) (p0 : Int32) (p1 : Int32) (p2 : Int32) (p3 : Int32) (p4 : Int32) (hT : zT shM n 0 11) {r9 : Int32} {M9 : zMem} (hF : F_X10_feed M p0 p1 p2 p3 p4 = some (r9, M9)) : zM l yX10_feed cX10_feed 8 (some .int) rm_X10_feed G shM ad n M [.ref (ad 0), .int p0, .int p1, .int p2, .int p3, .int p4] (some (.int r9)) M9 := by
  refine zM_of hA (by decide +kernel) (lv := [(0, .ref (ad 0)), (1, .int p0), (2, .int p1), (3, .int p2), (4, .int p3), (5, .int p4)]) (Nat.le_of_ble_eq_true rfl) rfl (fun p e s m args below meth c A cx hr => ?_)
  have hb76 : ∀ (self23 : Int32 → Int32 → Int32 → Int32 → Int32 → Int32 → zMem → Option (Int32 × zMem)) (hs23 : ∀ (b23_L1 : Int32) (b23_L2 : Int32) (b23_L3 : Int32) (b23_L4 : Int32) (b23_L5 : Int32) (b23_L6 : Int32) (M : zMem), self23 b23_L1 b23_L2 b23_L3 b23_L4 b23_L5 b23_L6 M = some (r9, M9) → zJ p l e rm_X10_feed s m args below meth c G shM ad n A 8 (MQ below (zQ G shM ad n M9 (some (.int r9)) A) args s 0 0 A) 0 0 M 23 [(0, .ref (ad 0)), (1, .int b23_L1), (2, .int b23_L2), (3, .int b23_L3), (4, .int b23_L4), (5, .int b23_L5), (6, .int b23_L6)] []), ∀ (b76_L1 : Int32) (b76_L2 : Int32) (b76_L3 : Int32) (b76_L4 : Int32) (b76_L5 : Int32) (b76_L6 : Int32) (b76_S0 : Int32) (M : zMem), F_X10_feed_76 p0 p1 p2 p3 p4 self23 b76_L1 b76_L2 b76_L3 b76_L4 b76_L5 b76_L6 b76_S0 M = some (r9, M9) → zJ p l e rm_X10_feed s m args below meth c G shM ad n A 8 (MQ below (zQ G shM ad n M9 (some (.int r9)) A) args s 0 0 A) 0 0 M 76 [(0, .ref (ad 0)), (1, .int b76_L1), (2, .int b76_L2), (3, .int b76_L3), (4, .int b76_L4), (5, .int b76_L5), (6, .int b76_L6)] [.int b76_S0] := by
    intro self23 hs23 b76_L1 b76_L2 b76_L3 b76_L4 b76_L5 b76_L6 b76_S0 M hF
    unfold F_X10_feed_76 at hF
    refine z_istore cx 7 [(7, .int b76_S0), (0, .ref (ad 0)), (1, .int b76_L1), (2, .int b76_L2), (3, .int b76_L3), (4, .int b76_L4), (5, .int b76_L5), (6, .int b76_L6)] d_X10_feed_76 (by decide) rfl ?_
    refine z_aload_n cx d_X10_feed_78 1 rfl ?_
    refine z_getR cx hT fg_SunnyPansModel_13 1 rfl d_X10_feed_79 ?_
    refine z_aload_n cx d_X10_feed_82 1 rfl ?_
    refine z_getI cx hT fg_SunnyPansModel_85 d_X10_feed_83 ?_
    refine z_iload cx d_X10_feed_86 0 rfl ?_
    refine z_bipush (v := 24) cx d_X10_feed_88 kb_24 ?_
    refine z_bipush (v := 8) cx d_X10_feed_90 kb_8 ?_
    refine z_iload cx d_X10_feed_92 7 rfl ?_
    refine z_iconst (v := 4) cx d_X10_feed_94 ki_4 ?_
    refine z_irem cx d_X10_feed_95 (by decide) ?_
    refine z_imul cx d_X10_feed_96 ?_
    refine z_isub cx d_X10_feed_97 ?_
    refine z_ishr cx d_X10_feed_98 ?_
    refine z_sipush (v := 255) cx d_X10_feed_99 ks_255 ?_
    refine z_iand cx d_X10_feed_102 ?_
    obtain ⟨hi1, hF⟩ := gin_inv hF
    refine z_iast cx (tfM_11_1 hT) za_17 hi1 ((M.1 0 1).toNatClampNeg) rfl d_X10_feed_103 ?_
    refine z_nmM hF (fun M2 hF => ?_)
    refine z_aload_n cx d_X10_feed_104 1 rfl ?_
    refine z_dup cx d_X10_feed_105 rfl ?_
    refine z_getI cx hT fg_SunnyPansModel_85 d_X10_feed_106 ?_
    refine z_iconst (v := 1) cx d_X10_feed_109 ki_1 ?_
    refine z_iadd cx d_X10_feed_110 ?_
    refine z_putI cx hT fp_SunnyPansModel_85 d_X10_feed_111 ?_
    refine z_nmM hF (fun M3 hF => ?_)
    refine z_iinc cx 6 1 [(6, .int (b76_L6 + 1)), (7, .int b76_S0), (0, .ref (ad 0)), (1, .int b76_L1), (2, .int b76_L2), (3, .int b76_L3), (4, .int b76_L4), (5, .int b76_L5)] d_X10_feed_114 7 rfl ki_1 (by decide) rfl ?_
    refine z_goto cx 23 d_X10_feed_117 (by decide) ?_
    exact z_lv [2, 3, 4, 5, 6, 7, 0] _ rfl (hs23 b76_L1 b76_L2 b76_L3 b76_L4 b76_L5 (b76_L6 + 1) M3 hF)
  have hL23 : ∀ (fuel : Nat), ∀ (b23_L1 : Int32) (b23_L2 : Int32) (b23_L3 : Int32) (b23_L4 : Int32) (b23_L5 : Int32) (b23_L6 : Int32) (M : zMem), itF (fun _ _ _ _ _ _ _ => none) (F_X10_feed_23 p0 p1 p2 p3 p4) fuel b23_L1 b23_L2 b23_L3 b23_L4 b23_L5 b23_L6 M = some (r9, M9) → zJ p l e rm_X10_feed s m args below meth c G shM ad n A 8 (MQ below (zQ G shM ad n M9 (some (.int r9)) A) args s 0 0 A) 0 0 M 23 [(0, .ref (ad 0)), (1, .int b23_L1), (2, .int b23_L2), (3, .int b23_L3), (4, .int b23_L4), (5, .int b23_L5), (6, .int b23_L6)] [] := by
    intro fuel
    induction fuel with
    | zero => intro b23_L1 b23_L2 b23_L3 b23_L4 b23_L5 b23_L6 M hF; cases hF
    | succ fuel hs23 =>
      intro b23_L1 b23_L2 b23_L3 b23_L4 b23_L5 b23_L6 M hF
      have hF : F_X10_feed_23 p0 p1 p2 p3 p4 (itF (fun _ _ _ _ _ _ _ => none) (F_X10_feed_23 p0 p1 p2 p3 p4) fuel) b23_L1 b23_L2 b23_L3 b23_L4 b23_L5 b23_L6 M = some (r9, M9) := hF
      generalize itF (fun _ _ _ _ _ _ _ => none) (F_X10_feed_23 p0 p1 p2 p3 p4) fuel = self23 at hs23 hF
      unfold F_X10_feed_23 at hF
      refine z_iload cx d_X10_feed_23 6 rfl ?_
      refine z_bipush (v := 20) cx d_X10_feed_25 kb_20 ?_
      refine z_icmp_ge cx 120 d_X10_feed_27 (by decide) hF (fun hF => ?_) (fun hF => ?_)
      · refine z_aload_n cx d_X10_feed_120 0 rfl ?_
        refine z_getI cx hT fg_SunnyPansModel_85 d_X10_feed_121 ?_
        exact z_iret cx hr rfl hF d_X10_feed_124
      refine z_iload cx d_X10_feed_30 6 rfl ?_
      refine z_iconst (v := 4) cx d_X10_feed_32 ki_4 ?_
      refine z_icmp_ge cx 40 d_X10_feed_33 (by decide) hF (fun hF => ?_) (fun hF => ?_)
      · refine z_iload cx d_X10_feed_40 6 rfl ?_
        refine z_bipush (v := 8) cx d_X10_feed_42 kb_8 ?_
        refine z_icmp_ge cx 51 d_X10_feed_44 (by decide) hF (fun hF => ?_) (fun hF => ?_)
        · refine z_iload cx d_X10_feed_51 6 rfl ?_
          refine z_bipush (v := 12) cx d_X10_feed_53 kb_12 ?_
          refine z_icmp_ge cx 62 d_X10_feed_55 (by decide) hF (fun hF => ?_) (fun hF => ?_)
          · refine z_iload cx d_X10_feed_62 6 rfl ?_
            refine z_bipush (v := 16) cx d_X10_feed_64 kb_16 ?_
            refine z_icmp_ge cx 74 d_X10_feed_66 (by decide) hF (fun hF => ?_) (fun hF => ?_)
            · refine z_iload cx d_X10_feed_74 5 rfl ?_
              exact hb76 self23 hs23 b23_L1 b23_L2 b23_L3 b23_L4 b23_L5 b23_L6 b23_L5 M hF
            refine z_iload cx d_X10_feed_69 4 rfl ?_
            refine z_goto cx 76 d_X10_feed_71 (by decide) ?_
            exact hb76 self23 hs23 b23_L1 b23_L2 b23_L3 b23_L4 b23_L5 b23_L6 b23_L4 M hF
          refine z_iload_n cx d_X10_feed_58 3 rfl ?_
          refine z_goto cx 76 d_X10_feed_59 (by decide) ?_
          exact hb76 self23 hs23 b23_L1 b23_L2 b23_L3 b23_L4 b23_L5 b23_L6 b23_L3 M hF
        refine z_iload_n cx d_X10_feed_47 2 rfl ?_
        refine z_goto cx 76 d_X10_feed_48 (by decide) ?_
        exact hb76 self23 hs23 b23_L1 b23_L2 b23_L3 b23_L4 b23_L5 b23_L6 b23_L2 M hF
      refine z_iload_n cx d_X10_feed_36 1 rfl ?_
      refine z_goto cx 76 d_X10_feed_37 (by decide) ?_
      exact hb76 self23 hs23 b23_L1 b23_L2 b23_L3 b23_L4 b23_L5 b23_L6 b23_L1 M hF
  unfold F_X10_feed at hF
  refine z_aload_n cx d_X10_feed_0 0 rfl ?_
  refine z_iconst (v := 0) cx d_X10_feed_1 ki_0 ?_
  refine z_putI cx hT fp_SunnyPansModel_82 d_X10_feed_2 ?_
  refine z_nmM hF (fun M4 hF => ?_)
  refine z_aload_n cx d_X10_feed_5 0 rfl ?_
  refine z_getI cx hT fg_SunnyPansModel_85 d_X10_feed_6 ?_
  refine z_bipush (v := 20) cx d_X10_feed_9 kb_20 ?_
  refine z_iadd cx d_X10_feed_11 ?_
  refine z_sipush (v := 600) cx d_X10_feed_12 ks_600 ?_
  refine z_icmp_le cx 20 d_X10_feed_15 (by decide) hF (fun hF => ?_) (fun hF => ?_)
  · refine z_iconst (v := 0) cx d_X10_feed_20 ki_0 ?_
    refine z_istore cx 6 [(6, .int (0 : Int32)), (0, .ref (ad 0)), (1, .int p0), (2, .int p1), (3, .int p2), (4, .int p3), (5, .int p4)] d_X10_feed_21 (by decide) rfl ?_
    exact z_lv [1, 2, 3, 4, 5, 6, 0] _ rfl (hL23 zFuel p0 p1 p2 p3 p4 (0 : Int32) M4 hF)
  refine z_iconst (v := -1) cx d_X10_feed_18 ki_m1 ?_
  exact z_iret cx hr rfl hF d_X10_feed_19
/-! SunnyPansModel.byteAt -/
set_option maxRecDepth 100000 in
theorem wd_1396 : Cond.fieldLink "SunnyPansModel" 88 "SunnyPansModel" "size" "I" ∈ tbG := tw6 96 rfl rfl
theorem fg_SunnyPansModel_88 : zGetI "SunnyPansModel" 88 10 11 2 := ⟨RX10, TX10, 40, rfl, by decide, uw_10, wd_1396, fun _ _ _ _ _ _ => ⟨_, rfl, rfl⟩⟩
theorem d_X10_byteAt_0 : decode cX10_byteAt 0 = .ok (.iload_n 1, 1) := by decide +kernel
theorem d_X10_byteAt_1 : decode cX10_byteAt 1 = .ok (.aload_n 0, 1) := by decide +kernel
theorem d_X10_byteAt_2 : decode cX10_byteAt 2 = .ok (.getfield 88, 3) := by decide +kernel
theorem d_X10_byteAt_5 : decode cX10_byteAt 5 = .ok (.if_icmp .lt 7, 3) := by decide +kernel
theorem d_X10_byteAt_8 : decode cX10_byteAt 8 = .ok (.iconst (-1), 1) := by decide +kernel
theorem d_X10_byteAt_9 : decode cX10_byteAt 9 = .ok (.goto 9, 3) := by decide +kernel
theorem d_X10_byteAt_12 : decode cX10_byteAt 12 = .ok (.aload_n 0, 1) := by decide +kernel
theorem d_X10_byteAt_13 : decode cX10_byteAt 13 = .ok (.getfield 13, 3) := by decide +kernel
theorem d_X10_byteAt_16 : decode cX10_byteAt 16 = .ok (.iload_n 1, 1) := by decide +kernel
theorem d_X10_byteAt_17 : decode cX10_byteAt 17 = .ok (.iaload, 1) := by decide +kernel
theorem d_X10_byteAt_18 : decode cX10_byteAt 18 = .ok (.ireturn, 1) := by decide +kernel
def F_X10_byteAt (M : zMem) (p0 : Int32) : Option (Int32 × zMem) :=
  if p0 < (M.1 0 2) then
    gin p0 600 <|
    some ((M.1 1 p0.toNatClampNeg), M)
  else
    some ((-1 : Int32), M)
def rm_X10_byteAt : Room := { frames := 2, cells := 0, slots := 0, locals := 80 }
set_option maxHeartbeats 4000000 in
set_option maxRecDepth 100000 in
theorem c_X10_byteAt (l : Launch) {G : zG} {ad : Nat → Nat} {n : Nat} (hA : zInj ad n) (M : zMem) (p0 : Int32) (hT : zT shM n 0 11) {r9 : Int32} {M9 : zMem} (hF : F_X10_byteAt M p0 = some (r9, M9)) : zM l yX10_byteAt cX10_byteAt 2 (some .int) rm_X10_byteAt G shM ad n M [.ref (ad 0), .int p0] (some (.int r9)) M9 := by
  refine zM_of hA (by decide +kernel) (lv := [(0, .ref (ad 0)), (1, .int p0)]) (Nat.le_of_ble_eq_true rfl) rfl (fun p e s m args below meth c A cx hr => ?_)
  unfold F_X10_byteAt at hF
  refine z_iload_n cx d_X10_byteAt_0 1 rfl ?_
  refine z_aload_n cx d_X10_byteAt_1 0 rfl ?_
  refine z_getI cx hT fg_SunnyPansModel_88 d_X10_byteAt_2 ?_
  refine z_icmp_lt cx 12 d_X10_byteAt_5 (by decide) hF (fun hF => ?_) (fun hF => ?_)
  · refine z_aload_n cx d_X10_byteAt_12 0 rfl ?_
    refine z_getR cx hT fg_SunnyPansModel_13 1 rfl d_X10_byteAt_13 ?_
    refine z_iload_n cx d_X10_byteAt_16 1 rfl ?_
    obtain ⟨hi1, hF⟩ := gin_inv hF
    refine z_iald cx (tfM_11_1 hT) za_17 hi1 p0.toNatClampNeg rfl d_X10_byteAt_17 ?_
    exact z_iret cx hr rfl hF d_X10_byteAt_18
  refine z_iconst (v := -1) cx d_X10_byteAt_8 ki_m1 ?_
  refine z_goto cx 18 d_X10_byteAt_9 (by decide) ?_
  exact z_iret cx hr rfl hF d_X10_byteAt_18
/-! SunnyPansModel.blanks -/
set_option maxRecDepth 100000 in
theorem wd_1398 : Cond.fieldLink "SunnyPansModel" 91 "SunnyPansModel" "at" "I" ∈ tbG := tw6 98 rfl rfl
theorem fg_SunnyPansModel_91 : zGetI "SunnyPansModel" 91 10 11 4 := ⟨RX10, TX10, 40, rfl, by decide, uw_10, wd_1398, fun _ _ _ _ _ _ => ⟨_, rfl, rfl⟩⟩
set_option maxRecDepth 100000 in
theorem wd_1545 : Cond.code yX10_byteAt cX10_byteAt 2 (some .int) ∈ tbG := tw7 5 rfl rfl
set_option maxRecDepth 100000 in
theorem wd_1542 : Cond.methodLink "SunnyPansModel" 94 yX10_byteAt ∈ tbG := tw7 2 rfl rfl
set_option maxRecDepth 100000 in
theorem wd_1544 : Cond.instanceMethod yX10_byteAt ∈ tbG := tw7 4 rfl rfl
theorem wd_46 : Cond.selects "SunnyPansModel" yX10_byteAt yX10_byteAt ∈ tbG := tw 46 (by decide +kernel) rfl
set_option maxRecDepth 100000 in
theorem wd_111 : Cond.initialized "SunnyPansModel" ∈ tbG := tw1 11 rfl rfl
theorem cv_SunnyPansModel_94 : zCV "SunnyPansModel" 94 "SunnyPansModel" yX10_byteAt cX10_byteAt 2 (some .int) 1 := zCV_of wd_1542 wd_1544 wd_46 wd_111 wd_1545 (by decide +kernel)
theorem zo_11 : zObj "SunnyPansModel" 11 := ⟨10, (RX10, TX10, 40), rfl, rfl, fun _ _ _ _ _ _ => ⟨_, rfl⟩⟩
theorem fp_SunnyPansModel_91 : zPutI "SunnyPansModel" 91 10 11 4 := ⟨zc_10, fg_SunnyPansModel_91, ⟨RX10, TX10, 40, rfl, rfl, by decide +kernel⟩, fun _ _ _ _ _ _ _ => ⟨_, rfl, Nat.le_of_ble_eq_true rfl, rfl⟩⟩
theorem d_X10_blanks_0 : decode cX10_blanks 0 = .ok (.aload_n 0, 1) := by decide +kernel
theorem d_X10_blanks_1 : decode cX10_blanks 1 = .ok (.aload_n 0, 1) := by decide +kernel
theorem d_X10_blanks_2 : decode cX10_blanks 2 = .ok (.getfield 91, 3) := by decide +kernel
theorem d_X10_blanks_5 : decode cX10_blanks 5 = .ok (.invokevirtual 94, 3) := by decide +kernel
theorem d_X10_blanks_8 : decode cX10_blanks 8 = .ok (.bipush 32, 2) := by decide +kernel
theorem d_X10_blanks_10 : decode cX10_blanks 10 = .ok (.if_icmp .ne 16, 3) := by decide +kernel
theorem d_X10_blanks_13 : decode cX10_blanks 13 = .ok (.aload_n 0, 1) := by decide +kernel
theorem d_X10_blanks_14 : decode cX10_blanks 14 = .ok (.dup, 1) := by decide +kernel
theorem d_X10_blanks_15 : decode cX10_blanks 15 = .ok (.getfield 91, 3) := by decide +kernel
theorem d_X10_blanks_18 : decode cX10_blanks 18 = .ok (.iconst 1, 1) := by decide +kernel
theorem d_X10_blanks_19 : decode cX10_blanks 19 = .ok (.iadd, 1) := by decide +kernel
theorem d_X10_blanks_20 : decode cX10_blanks 20 = .ok (.putfield 91, 3) := by decide +kernel
theorem d_X10_blanks_23 : decode cX10_blanks 23 = .ok (.goto (-23), 3) := by decide +kernel
theorem d_X10_blanks_26 : decode cX10_blanks 26 = .ok (.return_, 1) := by decide +kernel
def F_X10_blanks_0 (self0 : zMem → Option (zMem)) (M : zMem) : Option (zMem) :=
  zb (F_X10_byteAt M (M.1 0 4)) fun v2 M1 =>
  if v2 = (32 : Int32) then
    zl (zI M1 0 4 ((M1.1 0 4) + (1 : Int32))) fun M3 =>
    self0  M3
  else
    some M1
def F_X10_blanks (M : zMem)  : Option (zMem) :=
  itF (fun _ => none) (F_X10_blanks_0) zFuel  M
def rm_X10_blanks : Room := { frames := 3, cells := 0, slots := 0, locals := 101 }
set_option maxHeartbeats 4000000 in
set_option maxRecDepth 100000 in
theorem c_X10_blanks (l : Launch) {G : zG} {ad : Nat → Nat} {n : Nat} (hA : zInj ad n) (M : zMem)  (hT : zT shM n 0 11) {M9 : zMem} (hF : F_X10_blanks M  = some M9) : zM l yX10_blanks cX10_blanks 1 none rm_X10_blanks G shM ad n M [.ref (ad 0)] none M9 := by
  refine zM_of hA (by decide +kernel) (lv := [(0, .ref (ad 0))]) (Nat.le_of_ble_eq_true rfl) rfl (fun p e s m args below meth c A cx hr => ?_)
  have hL0 : ∀ (fuel : Nat), ∀ (M : zMem), itF (fun _ => none) (F_X10_blanks_0) fuel M = some M9 → zJ p l e rm_X10_blanks s m args below meth c G shM ad n A 1 (MQ below (zQ G shM ad n M9 none A) args s 0 0 A) 0 0 M 0 [(0, .ref (ad 0))] [] := by
    intro fuel
    induction fuel with
    | zero => intro M hF; cases hF
    | succ fuel hs0 =>
      intro M hF
      have hF : F_X10_blanks_0 (itF (fun _ => none) (F_X10_blanks_0) fuel) M = some M9 := hF
      generalize itF (fun _ => none) (F_X10_blanks_0) fuel = self0 at hs0 hF
      unfold F_X10_blanks_0 at hF
      refine z_aload_n cx d_X10_blanks_0 0 rfl ?_
      refine z_aload_n cx d_X10_blanks_1 0 rfl ?_
      refine z_getI cx hT fg_SunnyPansModel_91 d_X10_blanks_2 ?_
      obtain ⟨v2, M1, hc, hF⟩ := zb_inv hF
      refine z_callV cx (As := [.int (M.1 0 4)]) (rest := []) (c_X10_byteAt l cx.2.2.2.1.1 M (M.1 0 4) hT hc) hT zo_11 cv_SunnyPansModel_94 ⟨rfl, rfl, Nat.le_of_ble_eq_true rfl, Nat.le_of_ble_eq_true rfl⟩ rfl rfl ⟨Nat.zero_le _, Nat.zero_le _⟩ (Nat.le_of_ble_eq_true rfl) d_X10_blanks_5 ?_
      refine z_bipush (v := 32) cx d_X10_blanks_8 kb_32 ?_
      refine z_icmp_ne cx 26 d_X10_blanks_10 (by decide) hF (fun hF => ?_) (fun hF => ?_)
      · exact z_vret cx hr hF d_X10_blanks_26
      refine z_aload_n cx d_X10_blanks_13 0 rfl ?_
      refine z_dup cx d_X10_blanks_14 rfl ?_
      refine z_getI cx hT fg_SunnyPansModel_91 d_X10_blanks_15 ?_
      refine z_iconst (v := 1) cx d_X10_blanks_18 ki_1 ?_
      refine z_iadd cx d_X10_blanks_19 ?_
      refine z_putI cx hT fp_SunnyPansModel_91 d_X10_blanks_20 ?_
      refine z_nmM hF (fun M3 hF => ?_)
      refine z_goto cx 0 d_X10_blanks_23 (by decide) ?_
      exact hs0 M3 hF
  unfold F_X10_blanks at hF
  exact hL0 zFuel M hF
/-! SunnyPansModel.wrong -/
set_option maxRecDepth 100000 in
theorem wd_1399 : Cond.fieldLink "SunnyPansModel" 98 "SunnyPansModel" "fault" "I" ∈ tbG := tw6 99 rfl rfl
theorem fg_SunnyPansModel_98 : zGetI "SunnyPansModel" 98 10 11 5 := ⟨RX10, TX10, 40, rfl, by decide, uw_10, wd_1399, fun _ _ _ _ _ _ => ⟨_, rfl, rfl⟩⟩
theorem fp_SunnyPansModel_98 : zPutI "SunnyPansModel" 98 10 11 5 := ⟨zc_10, fg_SunnyPansModel_98, ⟨RX10, TX10, 40, rfl, rfl, by decide +kernel⟩, fun _ _ _ _ _ _ _ => ⟨_, rfl, Nat.le_of_ble_eq_true rfl, rfl⟩⟩
set_option maxRecDepth 100000 in
theorem wd_1400 : Cond.fieldLink "SunnyPansModel" 101 "SunnyPansModel" "faultAt" "I" ∈ tbG := tw6 100 rfl rfl
theorem fg_SunnyPansModel_101 : zGetI "SunnyPansModel" 101 10 11 6 := ⟨RX10, TX10, 40, rfl, by decide, uw_10, wd_1400, fun _ _ _ _ _ _ => ⟨_, rfl, rfl⟩⟩
theorem fp_SunnyPansModel_101 : zPutI "SunnyPansModel" 101 10 11 6 := ⟨zc_10, fg_SunnyPansModel_101, ⟨RX10, TX10, 40, rfl, rfl, by decide +kernel⟩, fun _ _ _ _ _ _ _ => ⟨_, rfl, Nat.le_of_ble_eq_true rfl, rfl⟩⟩
theorem d_X10_wrong_0 : decode cX10_wrong 0 = .ok (.aload_n 0, 1) := by decide +kernel
theorem d_X10_wrong_1 : decode cX10_wrong 1 = .ok (.getfield 98, 3) := by decide +kernel
theorem d_X10_wrong_4 : decode cX10_wrong 4 = .ok (.ifCond .ne 13, 3) := by decide +kernel
theorem d_X10_wrong_7 : decode cX10_wrong 7 = .ok (.aload_n 0, 1) := by decide +kernel
theorem d_X10_wrong_8 : decode cX10_wrong 8 = .ok (.iload_n 1, 1) := by decide +kernel
theorem d_X10_wrong_9 : decode cX10_wrong 9 = .ok (.putfield 98, 3) := by decide +kernel
theorem d_X10_wrong_12 : decode cX10_wrong 12 = .ok (.aload_n 0, 1) := by decide +kernel
theorem d_X10_wrong_13 : decode cX10_wrong 13 = .ok (.iload_n 2, 1) := by decide +kernel
theorem d_X10_wrong_14 : decode cX10_wrong 14 = .ok (.putfield 101, 3) := by decide +kernel
theorem d_X10_wrong_17 : decode cX10_wrong 17 = .ok (.return_, 1) := by decide +kernel
def F_X10_wrong (M : zMem) (p0 : Int32) (p1 : Int32) : Option (zMem) :=
  if (M.1 0 5) = 0 then
    zl (zI M 0 5 p0) fun M1 =>
    zl (zI M1 0 6 p1) fun M2 =>
    some M2
  else
    some M
def rm_X10_wrong : Room := { frames := 2, cells := 0, slots := 0, locals := 80 }
set_option maxHeartbeats 4000000 in
set_option maxRecDepth 100000 in
theorem c_X10_wrong (l : Launch) {G : zG} {ad : Nat → Nat} {n : Nat} (hA : zInj ad n) (M : zMem) (p0 : Int32) (p1 : Int32) (hT : zT shM n 0 11) {M9 : zMem} (hF : F_X10_wrong M p0 p1 = some M9) : zM l yX10_wrong cX10_wrong 3 none rm_X10_wrong G shM ad n M [.ref (ad 0), .int p0, .int p1] none M9 := by
  refine zM_of hA (by decide +kernel) (lv := [(0, .ref (ad 0)), (1, .int p0), (2, .int p1)]) (Nat.le_of_ble_eq_true rfl) rfl (fun p e s m args below meth c A cx hr => ?_)
  unfold F_X10_wrong at hF
  refine z_aload_n cx d_X10_wrong_0 0 rfl ?_
  refine z_getI cx hT fg_SunnyPansModel_98 d_X10_wrong_1 ?_
  refine z_if_ne cx 17 d_X10_wrong_4 (by decide) hF (fun hF => ?_) (fun hF => ?_)
  · exact z_vret cx hr hF d_X10_wrong_17
  refine z_aload_n cx d_X10_wrong_7 0 rfl ?_
  refine z_iload_n cx d_X10_wrong_8 1 rfl ?_
  refine z_putI cx hT fp_SunnyPansModel_98 d_X10_wrong_9 ?_
  refine z_nmM hF (fun M1 hF => ?_)
  refine z_aload_n cx d_X10_wrong_12 0 rfl ?_
  refine z_iload_n cx d_X10_wrong_13 2 rfl ?_
  refine z_putI cx hT fp_SunnyPansModel_101 d_X10_wrong_14 ?_
  refine z_nmM hF (fun M2 hF => ?_)
  exact z_vret cx hr hF d_X10_wrong_17
/-! SunnyPansModel.isDigit -/
theorem d_X10_isDigit_0 : decode cX10_isDigit 0 = .ok (.iload_n 0, 1) := by decide +kernel
theorem d_X10_isDigit_1 : decode cX10_isDigit 1 = .ok (.bipush 48, 2) := by decide +kernel
theorem d_X10_isDigit_3 : decode cX10_isDigit 3 = .ok (.if_icmp .lt 13, 3) := by decide +kernel
theorem d_X10_isDigit_6 : decode cX10_isDigit 6 = .ok (.iload_n 0, 1) := by decide +kernel
theorem d_X10_isDigit_7 : decode cX10_isDigit 7 = .ok (.bipush 57, 2) := by decide +kernel
theorem d_X10_isDigit_9 : decode cX10_isDigit 9 = .ok (.if_icmp .gt 7, 3) := by decide +kernel
theorem d_X10_isDigit_12 : decode cX10_isDigit 12 = .ok (.iconst 1, 1) := by decide +kernel
theorem d_X10_isDigit_13 : decode cX10_isDigit 13 = .ok (.goto 4, 3) := by decide +kernel
theorem d_X10_isDigit_16 : decode cX10_isDigit 16 = .ok (.iconst 0, 1) := by decide +kernel
theorem d_X10_isDigit_17 : decode cX10_isDigit 17 = .ok (.ireturn, 1) := by decide +kernel
def F_X10_isDigit (M : zMem) (p0 : Int32) : Option (Int32 × zMem) :=
  if p0 < (48 : Int32) then
    some ((0 : Int32), M)
  else
    if (57 : Int32) < p0 then
      some ((0 : Int32), M)
    else
      some ((1 : Int32), M)
def rm_X10_isDigit : Room := { frames := 2, cells := 0, slots := 0, locals := 80 }
set_option maxHeartbeats 4000000 in
set_option maxRecDepth 100000 in
theorem c_X10_isDigit (l : Launch) {G : zG} {ad : Nat → Nat} {n : Nat} (hA : zInj ad n) (M : zMem) (p0 : Int32) {r9 : Int32} {M9 : zMem} (hF : F_X10_isDigit M p0 = some (r9, M9)) : zM l yX10_isDigit cX10_isDigit 1 (some .boolean) rm_X10_isDigit G shM ad n M [.int p0] (some (.int r9)) M9 := by
  refine zM_of hA (by decide +kernel) (lv := [(0, .int p0)]) (Nat.le_of_ble_eq_true rfl) rfl (fun p e s m args below meth c A cx hr => ?_)
  unfold F_X10_isDigit at hF
  refine z_iload_n cx d_X10_isDigit_0 0 rfl ?_
  refine z_bipush (v := 48) cx d_X10_isDigit_1 kb_48 ?_
  refine z_icmp_lt cx 16 d_X10_isDigit_3 (by decide) hF (fun hF => ?_) (fun hF => ?_)
  · refine z_iconst (v := 0) cx d_X10_isDigit_16 ki_0 ?_
    exact z_iret cx hr nb0 hF d_X10_isDigit_17
  refine z_iload_n cx d_X10_isDigit_6 0 rfl ?_
  refine z_bipush (v := 57) cx d_X10_isDigit_7 kb_57 ?_
  refine z_icmp_gt cx 16 d_X10_isDigit_9 (by decide) hF (fun hF => ?_) (fun hF => ?_)
  · refine z_iconst (v := 0) cx d_X10_isDigit_16 ki_0 ?_
    exact z_iret cx hr nb0 hF d_X10_isDigit_17
  refine z_iconst (v := 1) cx d_X10_isDigit_12 ki_1 ?_
  refine z_goto cx 17 d_X10_isDigit_13 (by decide) ?_
  exact z_iret cx hr nb1 hF d_X10_isDigit_17
/-! SunnyPansModel.isSmall -/
theorem d_X10_isSmall_0 : decode cX10_isSmall 0 = .ok (.iload_n 0, 1) := by decide +kernel
theorem d_X10_isSmall_1 : decode cX10_isSmall 1 = .ok (.bipush 97, 2) := by decide +kernel
theorem d_X10_isSmall_3 : decode cX10_isSmall 3 = .ok (.if_icmp .lt 13, 3) := by decide +kernel
theorem d_X10_isSmall_6 : decode cX10_isSmall 6 = .ok (.iload_n 0, 1) := by decide +kernel
theorem d_X10_isSmall_7 : decode cX10_isSmall 7 = .ok (.bipush 122, 2) := by decide +kernel
theorem d_X10_isSmall_9 : decode cX10_isSmall 9 = .ok (.if_icmp .gt 7, 3) := by decide +kernel
theorem d_X10_isSmall_12 : decode cX10_isSmall 12 = .ok (.iconst 1, 1) := by decide +kernel
theorem d_X10_isSmall_13 : decode cX10_isSmall 13 = .ok (.goto 4, 3) := by decide +kernel
theorem d_X10_isSmall_16 : decode cX10_isSmall 16 = .ok (.iconst 0, 1) := by decide +kernel
theorem d_X10_isSmall_17 : decode cX10_isSmall 17 = .ok (.ireturn, 1) := by decide +kernel
def F_X10_isSmall (M : zMem) (p0 : Int32) : Option (Int32 × zMem) :=
  if p0 < (97 : Int32) then
    some ((0 : Int32), M)
  else
    if (122 : Int32) < p0 then
      some ((0 : Int32), M)
    else
      some ((1 : Int32), M)
def rm_X10_isSmall : Room := { frames := 2, cells := 0, slots := 0, locals := 80 }
set_option maxHeartbeats 4000000 in
set_option maxRecDepth 100000 in
theorem c_X10_isSmall (l : Launch) {G : zG} {ad : Nat → Nat} {n : Nat} (hA : zInj ad n) (M : zMem) (p0 : Int32) {r9 : Int32} {M9 : zMem} (hF : F_X10_isSmall M p0 = some (r9, M9)) : zM l yX10_isSmall cX10_isSmall 1 (some .boolean) rm_X10_isSmall G shM ad n M [.int p0] (some (.int r9)) M9 := by
  refine zM_of hA (by decide +kernel) (lv := [(0, .int p0)]) (Nat.le_of_ble_eq_true rfl) rfl (fun p e s m args below meth c A cx hr => ?_)
  unfold F_X10_isSmall at hF
  refine z_iload_n cx d_X10_isSmall_0 0 rfl ?_
  refine z_bipush (v := 97) cx d_X10_isSmall_1 kb_97 ?_
  refine z_icmp_lt cx 16 d_X10_isSmall_3 (by decide) hF (fun hF => ?_) (fun hF => ?_)
  · refine z_iconst (v := 0) cx d_X10_isSmall_16 ki_0 ?_
    exact z_iret cx hr nb0 hF d_X10_isSmall_17
  refine z_iload_n cx d_X10_isSmall_6 0 rfl ?_
  refine z_bipush (v := 122) cx d_X10_isSmall_7 kb_122 ?_
  refine z_icmp_gt cx 16 d_X10_isSmall_9 (by decide) hF (fun hF => ?_) (fun hF => ?_)
  · refine z_iconst (v := 0) cx d_X10_isSmall_16 ki_0 ?_
    exact z_iret cx hr nb0 hF d_X10_isSmall_17
  refine z_iconst (v := 1) cx d_X10_isSmall_12 ki_1 ?_
  refine z_goto cx 17 d_X10_isSmall_13 (by decide) ?_
  exact z_iret cx hr nb1 hF d_X10_isSmall_17
