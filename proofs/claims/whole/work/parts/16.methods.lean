/-! SunnyPansModel.thrown -/
set_option maxRecDepth 100000 in
theorem wd_1395 : Cond.fieldLink "SunnyPansModel" 82 "SunnyPansModel" "thrown" "I" ∈ tbG := tw6 95 rfl rfl
theorem fg_SunnyPansModel_82 : zGetI "SunnyPansModel" 82 10 11 0 := ⟨RX10, TX10, 40, rfl, by decide, uw_10, wd_1395, fun _ _ _ _ _ _ => ⟨_, rfl, rfl⟩⟩
theorem d_X10_thrown_0 : decode cX10_thrown 0 = .ok (.aload_n 0, 1) := by decide +kernel
theorem d_X10_thrown_1 : decode cX10_thrown 1 = .ok (.getfield 82, 3) := by decide +kernel
theorem d_X10_thrown_4 : decode cX10_thrown 4 = .ok (.ireturn, 1) := by decide +kernel
noncomputable def F_X10_thrown (M : zMem)  : Option (Int32 × zMem) :=
  some ((M.1 0 0), M)
def rm_X10_thrown : Room := { frames := 2, cells := 0, slots := 0, locals := 80 }
set_option maxHeartbeats 4000000 in
set_option maxRecDepth 100000 in
theorem c_X10_thrown (l : Launch) {G : zG} {ad : Nat → Nat} {n : Nat} (hA : zInj ad n) (M : zMem)  (hT : zT shM n 0 11) {r9 : Int32} {M9 : zMem} (hF : F_X10_thrown M  = some (r9, M9)) : zM l yX10_thrown cX10_thrown 1 (some .int) rm_X10_thrown G shM ad n M [.ref (ad 0)] (some (.int r9)) M9 := by
  refine zM_of hA (by decide +kernel) (lv := [(0, .ref (ad 0))]) (Nat.le_of_ble_eq_true rfl) rfl (fun p e s m args below meth c A cx hr => ?_)
  unfold F_X10_thrown at hF
  refine z_aload_n cx d_X10_thrown_0 0 rfl ?_
  refine z_getI cx hT fg_SunnyPansModel_82 d_X10_thrown_1 ?_
  exact z_iret cx hr rfl hF d_X10_thrown_4
/-! SunnyPansModel.bad -/
theorem tfM_11_2 {n k : Nat} (h : zT shM n k 11) : zT shM n (k + 2) 27 := zT_off h (shM_f (by decide) (by decide +kernel)) (by decide) (by decide)
theorem fp_SunnyPansModel_82 : zPutI "SunnyPansModel" 82 10 11 0 := ⟨zc_10, fg_SunnyPansModel_82, ⟨RX10, TX10, 40, rfl, rfl, by decide +kernel⟩, fun _ _ _ _ _ _ _ => ⟨_, rfl, Nat.le_of_ble_eq_true rfl, rfl⟩⟩
set_option maxRecDepth 100000 in
theorem wd_1405 : Cond.fieldLink "SunnyPansModel" 17 "SunnyPansModel" "refused" "[I" ∈ tbG := tw6 105 rfl rfl
theorem fg_SunnyPansModel_17 : zGetR "SunnyPansModel" 17 10 11 10 2 := ⟨RX10, TX10, 40, rfl, by decide, uw_10, wd_1405, fun _ _ _ _ _ _ => ⟨_, rfl, rfl⟩⟩
theorem d_X10_bad_0 : decode cX10_bad 0 = .ok (.iload_n 1, 1) := by decide +kernel
theorem d_X10_bad_1 : decode cX10_bad 1 = .ok (.ifCond .eq 25, 3) := by decide +kernel
theorem d_X10_bad_4 : decode cX10_bad 4 = .ok (.aload_n 0, 1) := by decide +kernel
theorem d_X10_bad_5 : decode cX10_bad 5 = .ok (.getfield 82, 3) := by decide +kernel
theorem d_X10_bad_8 : decode cX10_bad 8 = .ok (.ifCond .ne 18, 3) := by decide +kernel
theorem d_X10_bad_11 : decode cX10_bad 11 = .ok (.aload_n 0, 1) := by decide +kernel
theorem d_X10_bad_12 : decode cX10_bad 12 = .ok (.iload_n 2, 1) := by decide +kernel
theorem d_X10_bad_13 : decode cX10_bad 13 = .ok (.putfield 82, 3) := by decide +kernel
theorem d_X10_bad_16 : decode cX10_bad 16 = .ok (.aload_n 0, 1) := by decide +kernel
theorem d_X10_bad_17 : decode cX10_bad 17 = .ok (.getfield 17, 3) := by decide +kernel
theorem d_X10_bad_20 : decode cX10_bad 20 = .ok (.iload_n 3, 1) := by decide +kernel
theorem d_X10_bad_21 : decode cX10_bad 21 = .ok (.dup2, 1) := by decide +kernel
theorem d_X10_bad_22 : decode cX10_bad 22 = .ok (.iaload, 1) := by decide +kernel
theorem d_X10_bad_23 : decode cX10_bad 23 = .ok (.iconst 1, 1) := by decide +kernel
theorem d_X10_bad_24 : decode cX10_bad 24 = .ok (.iadd, 1) := by decide +kernel
theorem d_X10_bad_25 : decode cX10_bad 25 = .ok (.iastore, 1) := by decide +kernel
theorem d_X10_bad_26 : decode cX10_bad 26 = .ok (.aload_n 0, 1) := by decide +kernel
theorem d_X10_bad_27 : decode cX10_bad 27 = .ok (.getfield 82, 3) := by decide +kernel
theorem d_X10_bad_30 : decode cX10_bad 30 = .ok (.ifCond .eq 7, 3) := by decide +kernel
theorem d_X10_bad_33 : decode cX10_bad 33 = .ok (.iconst 1, 1) := by decide +kernel
theorem d_X10_bad_34 : decode cX10_bad 34 = .ok (.goto 4, 3) := by decide +kernel
theorem d_X10_bad_37 : decode cX10_bad 37 = .ok (.iconst 0, 1) := by decide +kernel
theorem d_X10_bad_38 : decode cX10_bad 38 = .ok (.ireturn, 1) := by decide +kernel
noncomputable def F_X10_bad_26 (p0 : Int32) (p1 : Int32) (p2 : Int32) (M : zMem) : Option (Int32 × zMem) :=
  if (M.1 0 0) = 0 then
    some ((0 : Int32), M)
  else
    some ((1 : Int32), M)
noncomputable def F_X10_bad (M : zMem) (p0 : Int32) (p1 : Int32) (p2 : Int32) : Option (Int32 × zMem) :=
  if p0 = 0 then
    F_X10_bad_26 p0 p1 p2 M
  else
    if (M.1 0 0) = 0 then
      zl (zI M 0 0 p1) fun M1 =>
      gin p2 2 <|
      zl (zI M1 2 p2.toNatClampNeg ((M1.1 2 p2.toNatClampNeg) + (1 : Int32))) fun M3 =>
      F_X10_bad_26 p0 p1 p2 M3
    else
      F_X10_bad_26 p0 p1 p2 M
def rm_X10_bad : Room := { frames := 2, cells := 0, slots := 0, locals := 80 }
set_option maxHeartbeats 4000000 in
set_option maxRecDepth 100000 in
theorem c_X10_bad (l : Launch) {G : zG} {ad : Nat → Nat} {n : Nat} (hA : zInj ad n) (M : zMem) (p0 : Int32) (p1 : Int32) (p2 : Int32) (hT : zT shM n 0 11) {r9 : Int32} {M9 : zMem} (hF : F_X10_bad M p0 p1 p2 = some (r9, M9)) : zM l yX10_bad cX10_bad 4 (some .boolean) rm_X10_bad G shM ad n M [.ref (ad 0), .int p0, .int p1, .int p2] (some (.int r9)) M9 := by
  refine zM_of hA (by decide +kernel) (lv := [(0, .ref (ad 0)), (1, .int p0), (2, .int p1), (3, .int p2)]) (Nat.le_of_ble_eq_true rfl) rfl (fun p e s m args below meth c A cx hr => ?_)
  have hb26 : ∀ (M : zMem), F_X10_bad_26 p0 p1 p2 M = some (r9, M9) → zJ p l e rm_X10_bad s m args below meth c G shM ad n A 4 (MQ below (zQ G shM ad n M9 (some (.int r9)) A) args s 0 0 A) 0 0 M 26 [(0, .ref (ad 0))] [] := by
    intro M hF
    unfold F_X10_bad_26 at hF
    refine z_aload_n cx d_X10_bad_26 0 rfl ?_
    refine z_getI cx hT fg_SunnyPansModel_82 d_X10_bad_27 ?_
    refine z_if_eq cx 37 d_X10_bad_30 (by decide) hF (fun hF => ?_) (fun hF => ?_)
    · refine z_iconst (v := 0) cx d_X10_bad_37 ki_0 ?_
      exact z_iret cx hr nb0 hF d_X10_bad_38
    refine z_iconst (v := 1) cx d_X10_bad_33 ki_1 ?_
    refine z_goto cx 38 d_X10_bad_34 (by decide) ?_
    exact z_iret cx hr nb1 hF d_X10_bad_38
  unfold F_X10_bad at hF
  refine z_iload_n cx d_X10_bad_0 1 rfl ?_
  refine z_if_eq cx 26 d_X10_bad_1 (by decide) hF (fun hF => ?_) (fun hF => ?_)
  · exact z_lv [0] _ rfl (hb26 M hF)
  refine z_aload_n cx d_X10_bad_4 0 rfl ?_
  refine z_getI cx hT fg_SunnyPansModel_82 d_X10_bad_5 ?_
  refine z_if_ne cx 26 d_X10_bad_8 (by decide) hF (fun hF => ?_) (fun hF => ?_)
  · exact z_lv [0] _ rfl (hb26 M hF)
  refine z_aload_n cx d_X10_bad_11 0 rfl ?_
  refine z_iload_n cx d_X10_bad_12 2 rfl ?_
  refine z_putI cx hT fp_SunnyPansModel_82 d_X10_bad_13 ?_
  refine z_nmM hF (fun M1 hF => ?_)
  refine z_aload_n cx d_X10_bad_16 0 rfl ?_
  refine z_getR cx hT fg_SunnyPansModel_17 2 rfl d_X10_bad_17 ?_
  refine z_iload_n cx d_X10_bad_20 3 rfl ?_
  refine z_dup2 cx d_X10_bad_21 rfl rfl ?_
  obtain ⟨hi2, hF⟩ := gin_inv hF
  refine z_iald cx (tfM_11_2 hT) za_27 hi2 p2.toNatClampNeg rfl d_X10_bad_22 ?_
  refine z_iconst (v := 1) cx d_X10_bad_23 ki_1 ?_
  refine z_iadd cx d_X10_bad_24 ?_
  refine z_iast cx (tfM_11_2 hT) za_27 hi2 p2.toNatClampNeg rfl d_X10_bad_25 ?_
  refine z_nmM hF (fun M3 hF => ?_)
  exact z_lv [0] _ rfl (hb26 M3 hF)
/-! SunnyPansModel.in -/
theorem d_X10_in_0 : decode cX10_in 0 = .ok (.iload_n 0, 1) := by decide +kernel
theorem d_X10_in_1 : decode cX10_in 1 = .ok (.iload_n 1, 1) := by decide +kernel
theorem d_X10_in_2 : decode cX10_in 2 = .ok (.if_icmp .lt 12, 3) := by decide +kernel
theorem d_X10_in_5 : decode cX10_in 5 = .ok (.iload_n 0, 1) := by decide +kernel
theorem d_X10_in_6 : decode cX10_in 6 = .ok (.iload_n 2, 1) := by decide +kernel
theorem d_X10_in_7 : decode cX10_in 7 = .ok (.if_icmp .gt 7, 3) := by decide +kernel
theorem d_X10_in_10 : decode cX10_in 10 = .ok (.iconst 1, 1) := by decide +kernel
theorem d_X10_in_11 : decode cX10_in 11 = .ok (.goto 4, 3) := by decide +kernel
theorem d_X10_in_14 : decode cX10_in 14 = .ok (.iconst 0, 1) := by decide +kernel
theorem d_X10_in_15 : decode cX10_in 15 = .ok (.ireturn, 1) := by decide +kernel
noncomputable def F_X10_in (M : zMem) (p0 : Int32) (p1 : Int32) (p2 : Int32) : Option (Int32 × zMem) :=
  if p0 < p1 then
    some ((0 : Int32), M)
  else
    if p2 < p0 then
      some ((0 : Int32), M)
    else
      some ((1 : Int32), M)
def rm_X10_in : Room := { frames := 2, cells := 0, slots := 0, locals := 80 }
set_option maxHeartbeats 4000000 in
set_option maxRecDepth 100000 in
theorem c_X10_in (l : Launch) {G : zG} {ad : Nat → Nat} {n : Nat} (hA : zInj ad n) (M : zMem) (p0 : Int32) (p1 : Int32) (p2 : Int32) {r9 : Int32} {M9 : zMem} (hF : F_X10_in M p0 p1 p2 = some (r9, M9)) : zM l yX10_in cX10_in 3 (some .boolean) rm_X10_in G shM ad n M [.int p0, .int p1, .int p2] (some (.int r9)) M9 := by
  refine zM_of hA (by decide +kernel) (lv := [(0, .int p0), (1, .int p1), (2, .int p2)]) (Nat.le_of_ble_eq_true rfl) rfl (fun p e s m args below meth c A cx hr => ?_)
  unfold F_X10_in at hF
  refine z_iload_n cx d_X10_in_0 0 rfl ?_
  refine z_iload_n cx d_X10_in_1 1 rfl ?_
  refine z_icmp_lt cx 14 d_X10_in_2 (by decide) hF (fun hF => ?_) (fun hF => ?_)
  · refine z_iconst (v := 0) cx d_X10_in_14 ki_0 ?_
    exact z_iret cx hr nb0 hF d_X10_in_15
  refine z_iload_n cx d_X10_in_5 0 rfl ?_
  refine z_iload_n cx d_X10_in_6 2 rfl ?_
  refine z_icmp_gt cx 14 d_X10_in_7 (by decide) hF (fun hF => ?_) (fun hF => ?_)
  · refine z_iconst (v := 0) cx d_X10_in_14 ki_0 ?_
    exact z_iret cx hr nb0 hF d_X10_in_15
  refine z_iconst (v := 1) cx d_X10_in_10 ki_1 ?_
  refine z_goto cx 15 d_X10_in_11 (by decide) ?_
  exact z_iret cx hr nb1 hF d_X10_in_15
/-! SunnyPansModel.less -/
theorem d_X10_less_0 : decode cX10_less 0 = .ok (.iload_n 0, 1) := by decide +kernel
theorem d_X10_less_1 : decode cX10_less 1 = .ok (.iload_n 1, 1) := by decide +kernel
theorem d_X10_less_2 : decode cX10_less 2 = .ok (.if_icmp .ge 7, 3) := by decide +kernel
theorem d_X10_less_5 : decode cX10_less 5 = .ok (.iload_n 0, 1) := by decide +kernel
theorem d_X10_less_6 : decode cX10_less 6 = .ok (.goto 4, 3) := by decide +kernel
theorem d_X10_less_9 : decode cX10_less 9 = .ok (.iload_n 1, 1) := by decide +kernel
theorem d_X10_less_10 : decode cX10_less 10 = .ok (.ireturn, 1) := by decide +kernel
noncomputable def F_X10_less (M : zMem) (p0 : Int32) (p1 : Int32) : Option (Int32 × zMem) :=
  if p1 ≤ p0 then
    some (p1, M)
  else
    some (p0, M)
def rm_X10_less : Room := { frames := 2, cells := 0, slots := 0, locals := 80 }
set_option maxHeartbeats 4000000 in
set_option maxRecDepth 100000 in
theorem c_X10_less (l : Launch) {G : zG} {ad : Nat → Nat} {n : Nat} (hA : zInj ad n) (M : zMem) (p0 : Int32) (p1 : Int32) {r9 : Int32} {M9 : zMem} (hF : F_X10_less M p0 p1 = some (r9, M9)) : zM l yX10_less cX10_less 2 (some .int) rm_X10_less G shM ad n M [.int p0, .int p1] (some (.int r9)) M9 := by
  refine zM_of hA (by decide +kernel) (lv := [(0, .int p0), (1, .int p1)]) (Nat.le_of_ble_eq_true rfl) rfl (fun p e s m args below meth c A cx hr => ?_)
  unfold F_X10_less at hF
  refine z_iload_n cx d_X10_less_0 0 rfl ?_
  refine z_iload_n cx d_X10_less_1 1 rfl ?_
  refine z_icmp_ge cx 9 d_X10_less_2 (by decide) hF (fun hF => ?_) (fun hF => ?_)
  · refine z_iload_n cx d_X10_less_9 1 rfl ?_
    exact z_iret cx hr rfl hF d_X10_less_10
  refine z_iload_n cx d_X10_less_5 0 rfl ?_
  refine z_goto cx 10 d_X10_less_6 (by decide) ?_
  exact z_iret cx hr rfl hF d_X10_less_10
/-! SunnyPansModel.more -/
theorem d_X10_more_0 : decode cX10_more 0 = .ok (.iload_n 0, 1) := by decide +kernel
theorem d_X10_more_1 : decode cX10_more 1 = .ok (.iload_n 1, 1) := by decide +kernel
theorem d_X10_more_2 : decode cX10_more 2 = .ok (.if_icmp .le 7, 3) := by decide +kernel
theorem d_X10_more_5 : decode cX10_more 5 = .ok (.iload_n 0, 1) := by decide +kernel
theorem d_X10_more_6 : decode cX10_more 6 = .ok (.goto 4, 3) := by decide +kernel
theorem d_X10_more_9 : decode cX10_more 9 = .ok (.iload_n 1, 1) := by decide +kernel
theorem d_X10_more_10 : decode cX10_more 10 = .ok (.ireturn, 1) := by decide +kernel
noncomputable def F_X10_more (M : zMem) (p0 : Int32) (p1 : Int32) : Option (Int32 × zMem) :=
  if p0 ≤ p1 then
    some (p1, M)
  else
    some (p0, M)
def rm_X10_more : Room := { frames := 2, cells := 0, slots := 0, locals := 80 }
set_option maxHeartbeats 4000000 in
set_option maxRecDepth 100000 in
theorem c_X10_more (l : Launch) {G : zG} {ad : Nat → Nat} {n : Nat} (hA : zInj ad n) (M : zMem) (p0 : Int32) (p1 : Int32) {r9 : Int32} {M9 : zMem} (hF : F_X10_more M p0 p1 = some (r9, M9)) : zM l yX10_more cX10_more 2 (some .int) rm_X10_more G shM ad n M [.int p0, .int p1] (some (.int r9)) M9 := by
  refine zM_of hA (by decide +kernel) (lv := [(0, .int p0), (1, .int p1)]) (Nat.le_of_ble_eq_true rfl) rfl (fun p e s m args below meth c A cx hr => ?_)
  unfold F_X10_more at hF
  refine z_iload_n cx d_X10_more_0 0 rfl ?_
  refine z_iload_n cx d_X10_more_1 1 rfl ?_
  refine z_icmp_le cx 9 d_X10_more_2 (by decide) hF (fun hF => ?_) (fun hF => ?_)
  · refine z_iload_n cx d_X10_more_9 1 rfl ?_
    exact z_iret cx hr rfl hF d_X10_more_10
  refine z_iload_n cx d_X10_more_5 0 rfl ?_
  refine z_goto cx 10 d_X10_more_6 (by decide) ?_
  exact z_iret cx hr rfl hF d_X10_more_10
/-! SunnyPansModel.has -/
theorem d_X10_has_0 : decode cX10_has 0 = .ok (.iload_n 0, 1) := by decide +kernel
theorem d_X10_has_1 : decode cX10_has 1 = .ok (.iload_n 1, 1) := by decide +kernel
theorem d_X10_has_2 : decode cX10_has 2 = .ok (.ishr, 1) := by decide +kernel
theorem d_X10_has_3 : decode cX10_has 3 = .ok (.iconst 1, 1) := by decide +kernel
theorem d_X10_has_4 : decode cX10_has 4 = .ok (.iand, 1) := by decide +kernel
theorem d_X10_has_5 : decode cX10_has 5 = .ok (.iconst 1, 1) := by decide +kernel
theorem d_X10_has_6 : decode cX10_has 6 = .ok (.if_icmp .ne 7, 3) := by decide +kernel
theorem d_X10_has_9 : decode cX10_has 9 = .ok (.iconst 1, 1) := by decide +kernel
theorem d_X10_has_10 : decode cX10_has 10 = .ok (.goto 4, 3) := by decide +kernel
theorem d_X10_has_13 : decode cX10_has 13 = .ok (.iconst 0, 1) := by decide +kernel
theorem d_X10_has_14 : decode cX10_has 14 = .ok (.ireturn, 1) := by decide +kernel
noncomputable def F_X10_has (M : zMem) (p0 : Int32) (p1 : Int32) : Option (Int32 × zMem) :=
  if ((p0 >>> (p1 &&& 31)) &&& (1 : Int32)) = (1 : Int32) then
    some ((1 : Int32), M)
  else
    some ((0 : Int32), M)
def rm_X10_has : Room := { frames := 2, cells := 0, slots := 0, locals := 80 }
set_option maxHeartbeats 4000000 in
set_option maxRecDepth 100000 in
theorem c_X10_has (l : Launch) {G : zG} {ad : Nat → Nat} {n : Nat} (hA : zInj ad n) (M : zMem) (p0 : Int32) (p1 : Int32) {r9 : Int32} {M9 : zMem} (hF : F_X10_has M p0 p1 = some (r9, M9)) : zM l yX10_has cX10_has 2 (some .boolean) rm_X10_has G shM ad n M [.int p0, .int p1] (some (.int r9)) M9 := by
  refine zM_of hA (by decide +kernel) (lv := [(0, .int p0), (1, .int p1)]) (Nat.le_of_ble_eq_true rfl) rfl (fun p e s m args below meth c A cx hr => ?_)
  unfold F_X10_has at hF
  refine z_iload_n cx d_X10_has_0 0 rfl ?_
  refine z_iload_n cx d_X10_has_1 1 rfl ?_
  refine z_ishr cx d_X10_has_2 ?_
  refine z_iconst (v := 1) cx d_X10_has_3 ki_1 ?_
  refine z_iand cx d_X10_has_4 ?_
  refine z_iconst (v := 1) cx d_X10_has_5 ki_1 ?_
  refine z_icmp_ne cx 13 d_X10_has_6 (by decide) hF (fun hF => ?_) (fun hF => ?_)
  · refine z_iconst (v := 0) cx d_X10_has_13 ki_0 ?_
    exact z_iret cx hr nb0 hF d_X10_has_14
  refine z_iconst (v := 1) cx d_X10_has_9 ki_1 ?_
  refine z_goto cx 14 d_X10_has_10 (by decide) ?_
  exact z_iret cx hr nb1 hF d_X10_has_14
/-! SunnyPansModel.feed -/
theorem tfM_11_1 {n k : Nat} (h : zT shM n k 11) : zT shM n (k + 1) 17 := zT_off h (shM_f (by decide) (by decide +kernel)) (by decide) (by decide)
set_option maxRecDepth 100000 in
theorem wd_1404 : Cond.fieldLink "SunnyPansModel" 13 "SunnyPansModel" "fed" "[I" ∈ tbG := tw6 104 rfl rfl
theorem fg_SunnyPansModel_13 : zGetR "SunnyPansModel" 13 10 11 9 1 := ⟨RX10, TX10, 40, rfl, by decide, uw_10, wd_1404, fun _ _ _ _ _ _ => ⟨_, rfl, rfl⟩⟩
set_option maxRecDepth 100000 in
theorem wd_1396 : Cond.fieldLink "SunnyPansModel" 85 "SunnyPansModel" "tape" "I" ∈ tbG := tw6 96 rfl rfl
theorem fg_SunnyPansModel_85 : zGetI "SunnyPansModel" 85 10 11 1 := ⟨RX10, TX10, 40, rfl, by decide, uw_10, wd_1396, fun _ _ _ _ _ _ => ⟨_, rfl, rfl⟩⟩
theorem fp_SunnyPansModel_85 : zPutI "SunnyPansModel" 85 10 11 1 := ⟨zc_10, fg_SunnyPansModel_85, ⟨RX10, TX10, 40, rfl, rfl, by decide +kernel⟩, fun _ _ _ _ _ _ _ => ⟨_, rfl, Nat.le_of_ble_eq_true rfl, rfl⟩⟩
theorem d_X10_feed_0 : decode cX10_feed 0 = .ok (.aload_n 0, 1) := by decide +kernel
theorem d_X10_feed_1 : decode cX10_feed 1 = .ok (.iconst 0, 1) := by decide +kernel
theorem d_X10_feed_2 : decode cX10_feed 2 = .ok (.putfield 82, 3) := by decide +kernel
theorem d_X10_feed_5 : decode cX10_feed 5 = .ok (.aload_n 0, 1) := by decide +kernel
theorem d_X10_feed_6 : decode cX10_feed 6 = .ok (.getfield 85, 3) := by decide +kernel
theorem d_X10_feed_9 : decode cX10_feed 9 = .ok (.bipush 20, 2) := by decide +kernel
theorem d_X10_feed_11 : decode cX10_feed 11 = .ok (.iadd, 1) := by decide +kernel
theorem d_X10_feed_12 : decode cX10_feed 12 = .ok (.sipush 600, 3) := by decide +kernel
theorem d_X10_feed_15 : decode cX10_feed 15 = .ok (.if_icmp .le 5, 3) := by decide +kernel
theorem d_X10_feed_18 : decode cX10_feed 18 = .ok (.iconst (-1), 1) := by decide +kernel
theorem d_X10_feed_19 : decode cX10_feed 19 = .ok (.ireturn, 1) := by decide +kernel
theorem d_X10_feed_20 : decode cX10_feed 20 = .ok (.iconst 0, 1) := by decide +kernel
theorem d_X10_feed_21 : decode cX10_feed 21 = .ok (.istore 6, 2) := by decide +kernel
theorem d_X10_feed_23 : decode cX10_feed 23 = .ok (.iload 6, 2) := by decide +kernel
theorem d_X10_feed_25 : decode cX10_feed 25 = .ok (.bipush 20, 2) := by decide +kernel
theorem d_X10_feed_27 : decode cX10_feed 27 = .ok (.if_icmp .ge 93, 3) := by decide +kernel
theorem d_X10_feed_30 : decode cX10_feed 30 = .ok (.iload 6, 2) := by decide +kernel
theorem d_X10_feed_32 : decode cX10_feed 32 = .ok (.iconst 4, 1) := by decide +kernel
theorem d_X10_feed_33 : decode cX10_feed 33 = .ok (.if_icmp .ge 7, 3) := by decide +kernel
theorem d_X10_feed_36 : decode cX10_feed 36 = .ok (.iload_n 1, 1) := by decide +kernel
theorem d_X10_feed_37 : decode cX10_feed 37 = .ok (.goto 39, 3) := by decide +kernel
theorem d_X10_feed_40 : decode cX10_feed 40 = .ok (.iload 6, 2) := by decide +kernel
theorem d_X10_feed_42 : decode cX10_feed 42 = .ok (.bipush 8, 2) := by decide +kernel
theorem d_X10_feed_44 : decode cX10_feed 44 = .ok (.if_icmp .ge 7, 3) := by decide +kernel
theorem d_X10_feed_47 : decode cX10_feed 47 = .ok (.iload_n 2, 1) := by decide +kernel
theorem d_X10_feed_48 : decode cX10_feed 48 = .ok (.goto 28, 3) := by decide +kernel
theorem d_X10_feed_51 : decode cX10_feed 51 = .ok (.iload 6, 2) := by decide +kernel
theorem d_X10_feed_53 : decode cX10_feed 53 = .ok (.bipush 12, 2) := by decide +kernel
theorem d_X10_feed_55 : decode cX10_feed 55 = .ok (.if_icmp .ge 7, 3) := by decide +kernel
theorem d_X10_feed_58 : decode cX10_feed 58 = .ok (.iload_n 3, 1) := by decide +kernel
theorem d_X10_feed_59 : decode cX10_feed 59 = .ok (.goto 17, 3) := by decide +kernel
theorem d_X10_feed_62 : decode cX10_feed 62 = .ok (.iload 6, 2) := by decide +kernel
theorem d_X10_feed_64 : decode cX10_feed 64 = .ok (.bipush 16, 2) := by decide +kernel
theorem d_X10_feed_66 : decode cX10_feed 66 = .ok (.if_icmp .ge 8, 3) := by decide +kernel
theorem d_X10_feed_69 : decode cX10_feed 69 = .ok (.iload 4, 2) := by decide +kernel
theorem d_X10_feed_71 : decode cX10_feed 71 = .ok (.goto 5, 3) := by decide +kernel
theorem d_X10_feed_74 : decode cX10_feed 74 = .ok (.iload 5, 2) := by decide +kernel
theorem d_X10_feed_76 : decode cX10_feed 76 = .ok (.istore 7, 2) := by decide +kernel
theorem d_X10_feed_78 : decode cX10_feed 78 = .ok (.aload_n 0, 1) := by decide +kernel
theorem d_X10_feed_79 : decode cX10_feed 79 = .ok (.getfield 13, 3) := by decide +kernel
theorem d_X10_feed_82 : decode cX10_feed 82 = .ok (.aload_n 0, 1) := by decide +kernel
theorem d_X10_feed_83 : decode cX10_feed 83 = .ok (.getfield 85, 3) := by decide +kernel
theorem d_X10_feed_86 : decode cX10_feed 86 = .ok (.iload 7, 2) := by decide +kernel
theorem d_X10_feed_88 : decode cX10_feed 88 = .ok (.bipush 24, 2) := by decide +kernel
theorem d_X10_feed_90 : decode cX10_feed 90 = .ok (.bipush 8, 2) := by decide +kernel
theorem d_X10_feed_92 : decode cX10_feed 92 = .ok (.iload 6, 2) := by decide +kernel
theorem d_X10_feed_94 : decode cX10_feed 94 = .ok (.iconst 4, 1) := by decide +kernel
theorem d_X10_feed_95 : decode cX10_feed 95 = .ok (.irem, 1) := by decide +kernel
theorem d_X10_feed_96 : decode cX10_feed 96 = .ok (.imul, 1) := by decide +kernel
theorem d_X10_feed_97 : decode cX10_feed 97 = .ok (.isub, 1) := by decide +kernel
theorem d_X10_feed_98 : decode cX10_feed 98 = .ok (.ishr, 1) := by decide +kernel
theorem d_X10_feed_99 : decode cX10_feed 99 = .ok (.sipush 255, 3) := by decide +kernel
theorem d_X10_feed_102 : decode cX10_feed 102 = .ok (.iand, 1) := by decide +kernel
theorem d_X10_feed_103 : decode cX10_feed 103 = .ok (.iastore, 1) := by decide +kernel
theorem d_X10_feed_104 : decode cX10_feed 104 = .ok (.aload_n 0, 1) := by decide +kernel
theorem d_X10_feed_105 : decode cX10_feed 105 = .ok (.dup, 1) := by decide +kernel
theorem d_X10_feed_106 : decode cX10_feed 106 = .ok (.getfield 85, 3) := by decide +kernel
theorem d_X10_feed_109 : decode cX10_feed 109 = .ok (.iconst 1, 1) := by decide +kernel
theorem d_X10_feed_110 : decode cX10_feed 110 = .ok (.iadd, 1) := by decide +kernel
theorem d_X10_feed_111 : decode cX10_feed 111 = .ok (.putfield 85, 3) := by decide +kernel
theorem d_X10_feed_114 : decode cX10_feed 114 = .ok (.iinc 6 1, 3) := by decide +kernel
theorem d_X10_feed_117 : decode cX10_feed 117 = .ok (.goto (-94), 3) := by decide +kernel
theorem d_X10_feed_120 : decode cX10_feed 120 = .ok (.aload_n 0, 1) := by decide +kernel
theorem d_X10_feed_121 : decode cX10_feed 121 = .ok (.getfield 85, 3) := by decide +kernel
theorem d_X10_feed_124 : decode cX10_feed 124 = .ok (.ireturn, 1) := by decide +kernel
noncomputable def F_X10_feed_76 (p0 : Int32) (p1 : Int32) (p2 : Int32) (p3 : Int32) (p4 : Int32) (self23 : Int32 → Int32 → Int32 → Int32 → Int32 → Int32 → zMem → Option (Int32 × zMem)) (b76_L1 : Int32) (b76_L2 : Int32) (b76_L3 : Int32) (b76_L4 : Int32) (b76_L5 : Int32) (b76_L6 : Int32) (b76_S0 : Int32) (M : zMem) : Option (Int32 × zMem) :=
  gin (M.1 0 1) 600 <|
  zl (zI M 1 ((M.1 0 1).toNatClampNeg) ((b76_S0 >>> (((24 : Int32) - ((8 : Int32) * (b76_L6 - b76_L6 / (4 : Int32) * (4 : Int32)))) &&& 31)) &&& (255 : Int32))) fun M2 =>
  zl (zI M2 0 1 ((M2.1 0 1) + (1 : Int32))) fun M3 =>
  self23 b76_L1 b76_L2 b76_L3 b76_L4 b76_L5 (b76_L6 + 1) M3
noncomputable def F_X10_feed_23 (p0 : Int32) (p1 : Int32) (p2 : Int32) (p3 : Int32) (p4 : Int32) (self23 : Int32 → Int32 → Int32 → Int32 → Int32 → Int32 → zMem → Option (Int32 × zMem)) (b23_L1 : Int32) (b23_L2 : Int32) (b23_L3 : Int32) (b23_L4 : Int32) (b23_L5 : Int32) (b23_L6 : Int32) (M : zMem) : Option (Int32 × zMem) :=
  if (20 : Int32) ≤ b23_L6 then
    some ((M.1 0 1), M)
  else
    if (4 : Int32) ≤ b23_L6 then
      if (8 : Int32) ≤ b23_L6 then
        if (12 : Int32) ≤ b23_L6 then
          if (16 : Int32) ≤ b23_L6 then
            F_X10_feed_76 p0 p1 p2 p3 p4 self23 b23_L1 b23_L2 b23_L3 b23_L4 b23_L5 b23_L6 b23_L5 M
          else
            F_X10_feed_76 p0 p1 p2 p3 p4 self23 b23_L1 b23_L2 b23_L3 b23_L4 b23_L5 b23_L6 b23_L4 M
        else
          F_X10_feed_76 p0 p1 p2 p3 p4 self23 b23_L1 b23_L2 b23_L3 b23_L4 b23_L5 b23_L6 b23_L3 M
      else
        F_X10_feed_76 p0 p1 p2 p3 p4 self23 b23_L1 b23_L2 b23_L3 b23_L4 b23_L5 b23_L6 b23_L2 M
    else
      F_X10_feed_76 p0 p1 p2 p3 p4 self23 b23_L1 b23_L2 b23_L3 b23_L4 b23_L5 b23_L6 b23_L1 M
noncomputable def F_X10_feed (M : zMem) (p0 : Int32) (p1 : Int32) (p2 : Int32) (p3 : Int32) (p4 : Int32) : Option (Int32 × zMem) :=
  zl (zI M 0 0 (0 : Int32)) fun M4 =>
  if ((M4.1 0 1) + (20 : Int32)) ≤ (600 : Int32) then
    itF (fun _ _ _ _ _ _ _ => none) (F_X10_feed_23 p0 p1 p2 p3 p4) zFuel p0 p1 p2 p3 p4 (0 : Int32) M4
  else
    some ((-1 : Int32), M4)
def rm_X10_feed : Room := { frames := 2, cells := 0, slots := 0, locals := 80 }
set_option maxHeartbeats 4000000 in
set_option maxRecDepth 100000 in
theorem c_X10_feed (l : Launch) {G : zG} {ad : Nat → Nat} {n : Nat} (hA : zInj ad n) (M : zMem) (p0 : Int32) (p1 : Int32) (p2 : Int32) (p3 : Int32) (p4 : Int32) (hT : zT shM n 0 11) {r9 : Int32} {M9 : zMem} (hF : F_X10_feed M p0 p1 p2 p3 p4 = some (r9, M9)) : zM l yX10_feed cX10_feed 8 (some .int) rm_X10_feed G shM ad n M [.ref (ad 0), .int p0, .int p1, .int p2, .int p3, .int p4] (some (.int r9)) M9 := by
  refine zM_of hA (by decide +kernel) (lv := [(0, .ref (ad 0)), (1, .int p0), (2, .int p1), (3, .int p2), (4, .int p3), (5, .int p4)]) (Nat.le_of_ble_eq_true rfl) rfl (fun p e s m args below meth c A cx hr => ?_)
  have hb76 : ∀ (self23 : Int32 → Int32 → Int32 → Int32 → Int32 → Int32 → zMem → Option (Int32 × zMem)) (hs23 : ∀ (b23_L1 : Int32) (b23_L2 : Int32) (b23_L3 : Int32) (b23_L4 : Int32) (b23_L5 : Int32) (b23_L6 : Int32) (M : zMem), self23 b23_L1 b23_L2 b23_L3 b23_L4 b23_L5 b23_L6 M = some (r9, M9) → zJ p l e rm_X10_feed s m args below meth c G shM ad n A 8 (MQ below (zQ G shM ad n M9 (some (.int r9)) A) args s 0 0 A) 0 0 M 23 [(0, .ref (ad 0)), (1, .int b23_L1), (2, .int b23_L2), (3, .int b23_L3), (4, .int b23_L4), (5, .int b23_L5), (6, .int b23_L6)] []), ∀ (b76_L1 : Int32) (b76_L2 : Int32) (b76_L3 : Int32) (b76_L4 : Int32) (b76_L5 : Int32) (b76_L6 : Int32) (b76_S0 : Int32) (M : zMem), F_X10_feed_76 p0 p1 p2 p3 p4 self23 b76_L1 b76_L2 b76_L3 b76_L4 b76_L5 b76_L6 b76_S0 M = some (r9, M9) → zJ p l e rm_X10_feed s m args below meth c G shM ad n A 8 (MQ below (zQ G shM ad n M9 (some (.int r9)) A) args s 0 0 A) 0 0 M 76 [(0, .ref (ad 0)), (1, .int b76_L1), (2, .int b76_L2), (3, .int b76_L3), (4, .int b76_L4), (5, .int b76_L5), (6, .int b76_L6)] [.int b76_S0] := by
    intro self23 hs23 b76_L1 b76_L2 b76_L3 b76_L4 b76_L5 b76_L6 b76_S0 M hF
    unfold F_X10_feed_76 at hF
    refine z_istore cx 7 [(7, .int b76_S0), (0, .ref (ad 0)), (1, .int b76_L1), (2, .int b76_L2), (3, .int b76_L3), (4, .int b76_L4), (5, .int b76_L5), (6, .int b76_L6)] d_X10_feed_76 (by decide) rfl ?_
    refine z_aload_n cx d_X10_feed_78 1 rfl ?_
    refine z_getR cx hT fg_SunnyPansModel_13 1 rfl d_X10_feed_79 ?_
    refine z_aload_n cx d_X10_feed_82 1 rfl ?_
    refine z_getI cx hT fg_SunnyPansModel_85 d_X10_feed_83 ?_
    refine z_iload cx d_X10_feed_86 0 rfl ?_
    refine z_bipush (v := 24) cx d_X10_feed_88 kb_24 ?_
    refine z_bipush (v := 8) cx d_X10_feed_90 kb_8 ?_
    refine z_iload cx d_X10_feed_92 7 rfl ?_
    refine z_iconst (v := 4) cx d_X10_feed_94 ki_4 ?_
    refine z_irem cx d_X10_feed_95 (by decide) ?_
    refine z_imul cx d_X10_feed_96 ?_
    refine z_isub cx d_X10_feed_97 ?_
    refine z_ishr cx d_X10_feed_98 ?_
    refine z_sipush (v := 255) cx d_X10_feed_99 ks_255 ?_
    refine z_iand cx d_X10_feed_102 ?_
    obtain ⟨hi1, hF⟩ := gin_inv hF
    refine z_iast cx (tfM_11_1 hT) za_17 hi1 ((M.1 0 1).toNatClampNeg) rfl d_X10_feed_103 ?_
    refine z_nmM hF (fun M2 hF => ?_)
    refine z_aload_n cx d_X10_feed_104 1 rfl ?_
    refine z_dup cx d_X10_feed_105 rfl ?_
    refine z_getI cx hT fg_SunnyPansModel_85 d_X10_feed_106 ?_
    refine z_iconst (v := 1) cx d_X10_feed_109 ki_1 ?_
    refine z_iadd cx d_X10_feed_110 ?_
    refine z_putI cx hT fp_SunnyPansModel_85 d_X10_feed_111 ?_
    refine z_nmM hF (fun M3 hF => ?_)
    refine z_iinc cx 6 1 [(6, .int (b76_L6 + 1)), (7, .int b76_S0), (0, .ref (ad 0)), (1, .int b76_L1), (2, .int b76_L2), (3, .int b76_L3), (4, .int b76_L4), (5, .int b76_L5)] d_X10_feed_114 7 rfl ki_1 (by decide) rfl ?_
    refine z_goto cx 23 d_X10_feed_117 (by decide) ?_
    exact z_lv [2, 3, 4, 5, 6, 7, 0] _ rfl (hs23 b76_L1 b76_L2 b76_L3 b76_L4 b76_L5 (b76_L6 + 1) M3 hF)
  have hL23 : ∀ (fuel : Nat), ∀ (b23_L1 : Int32) (b23_L2 : Int32) (b23_L3 : Int32) (b23_L4 : Int32) (b23_L5 : Int32) (b23_L6 : Int32) (M : zMem), itF (fun _ _ _ _ _ _ _ => none) (F_X10_feed_23 p0 p1 p2 p3 p4) fuel b23_L1 b23_L2 b23_L3 b23_L4 b23_L5 b23_L6 M = some (r9, M9) → zJ p l e rm_X10_feed s m args below meth c G shM ad n A 8 (MQ below (zQ G shM ad n M9 (some (.int r9)) A) args s 0 0 A) 0 0 M 23 [(0, .ref (ad 0)), (1, .int b23_L1), (2, .int b23_L2), (3, .int b23_L3), (4, .int b23_L4), (5, .int b23_L5), (6, .int b23_L6)] [] := by
    intro fuel
    induction fuel with
    | zero => intro b23_L1 b23_L2 b23_L3 b23_L4 b23_L5 b23_L6 M hF; cases hF
    | succ fuel hs23 =>
      intro b23_L1 b23_L2 b23_L3 b23_L4 b23_L5 b23_L6 M hF
      have hF : F_X10_feed_23 p0 p1 p2 p3 p4 (itF (fun _ _ _ _ _ _ _ => none) (F_X10_feed_23 p0 p1 p2 p3 p4) fuel) b23_L1 b23_L2 b23_L3 b23_L4 b23_L5 b23_L6 M = some (r9, M9) := hF
      generalize itF (fun _ _ _ _ _ _ _ => none) (F_X10_feed_23 p0 p1 p2 p3 p4) fuel = self23 at hs23 hF
      unfold F_X10_feed_23 at hF
      refine z_iload cx d_X10_feed_23 6 rfl ?_
      refine z_bipush (v := 20) cx d_X10_feed_25 kb_20 ?_
      refine z_icmp_ge cx 120 d_X10_feed_27 (by decide) hF (fun hF => ?_) (fun hF => ?_)
      · refine z_aload_n cx d_X10_feed_120 0 rfl ?_
        refine z_getI cx hT fg_SunnyPansModel_85 d_X10_feed_121 ?_
        exact z_iret cx hr rfl hF d_X10_feed_124
      refine z_iload cx d_X10_feed_30 6 rfl ?_
      refine z_iconst (v := 4) cx d_X10_feed_32 ki_4 ?_
      refine z_icmp_ge cx 40 d_X10_feed_33 (by decide) hF (fun hF => ?_) (fun hF => ?_)
      · refine z_iload cx d_X10_feed_40 6 rfl ?_
        refine z_bipush (v := 8) cx d_X10_feed_42 kb_8 ?_
        refine z_icmp_ge cx 51 d_X10_feed_44 (by decide) hF (fun hF => ?_) (fun hF => ?_)
        · refine z_iload cx d_X10_feed_51 6 rfl ?_
          refine z_bipush (v := 12) cx d_X10_feed_53 kb_12 ?_
          refine z_icmp_ge cx 62 d_X10_feed_55 (by decide) hF (fun hF => ?_) (fun hF => ?_)
          · refine z_iload cx d_X10_feed_62 6 rfl ?_
            refine z_bipush (v := 16) cx d_X10_feed_64 kb_16 ?_
            refine z_icmp_ge cx 74 d_X10_feed_66 (by decide) hF (fun hF => ?_) (fun hF => ?_)
            · refine z_iload cx d_X10_feed_74 5 rfl ?_
              exact hb76 self23 hs23 b23_L1 b23_L2 b23_L3 b23_L4 b23_L5 b23_L6 b23_L5 M hF
            refine z_iload cx d_X10_feed_69 4 rfl ?_
            refine z_goto cx 76 d_X10_feed_71 (by decide) ?_
            exact hb76 self23 hs23 b23_L1 b23_L2 b23_L3 b23_L4 b23_L5 b23_L6 b23_L4 M hF
          refine z_iload_n cx d_X10_feed_58 3 rfl ?_
          refine z_goto cx 76 d_X10_feed_59 (by decide) ?_
          exact hb76 self23 hs23 b23_L1 b23_L2 b23_L3 b23_L4 b23_L5 b23_L6 b23_L3 M hF
        refine z_iload_n cx d_X10_feed_47 2 rfl ?_
        refine z_goto cx 76 d_X10_feed_48 (by decide) ?_
        exact hb76 self23 hs23 b23_L1 b23_L2 b23_L3 b23_L4 b23_L5 b23_L6 b23_L2 M hF
      refine z_iload_n cx d_X10_feed_36 1 rfl ?_
      refine z_goto cx 76 d_X10_feed_37 (by decide) ?_
      exact hb76 self23 hs23 b23_L1 b23_L2 b23_L3 b23_L4 b23_L5 b23_L6 b23_L1 M hF
  unfold F_X10_feed at hF
  refine z_aload_n cx d_X10_feed_0 0 rfl ?_
  refine z_iconst (v := 0) cx d_X10_feed_1 ki_0 ?_
  refine z_putI cx hT fp_SunnyPansModel_82 d_X10_feed_2 ?_
  refine z_nmM hF (fun M4 hF => ?_)
  refine z_aload_n cx d_X10_feed_5 0 rfl ?_
  refine z_getI cx hT fg_SunnyPansModel_85 d_X10_feed_6 ?_
  refine z_bipush (v := 20) cx d_X10_feed_9 kb_20 ?_
  refine z_iadd cx d_X10_feed_11 ?_
  refine z_sipush (v := 600) cx d_X10_feed_12 ks_600 ?_
  refine z_icmp_le cx 20 d_X10_feed_15 (by decide) hF (fun hF => ?_) (fun hF => ?_)
  · refine z_iconst (v := 0) cx d_X10_feed_20 ki_0 ?_
    refine z_istore cx 6 [(6, .int (0 : Int32)), (0, .ref (ad 0)), (1, .int p0), (2, .int p1), (3, .int p2), (4, .int p3), (5, .int p4)] d_X10_feed_21 (by decide) rfl ?_
    exact z_lv [1, 2, 3, 4, 5, 6, 0] _ rfl (hL23 zFuel p0 p1 p2 p3 p4 (0 : Int32) M4 hF)
  refine z_iconst (v := -1) cx d_X10_feed_18 ki_m1 ?_
  exact z_iret cx hr rfl hF d_X10_feed_19
/-! SunnyPansModel.byteAt -/
set_option maxRecDepth 100000 in
theorem wd_1397 : Cond.fieldLink "SunnyPansModel" 88 "SunnyPansModel" "size" "I" ∈ tbG := tw6 97 rfl rfl
theorem fg_SunnyPansModel_88 : zGetI "SunnyPansModel" 88 10 11 2 := ⟨RX10, TX10, 40, rfl, by decide, uw_10, wd_1397, fun _ _ _ _ _ _ => ⟨_, rfl, rfl⟩⟩
theorem d_X10_byteAt_0 : decode cX10_byteAt 0 = .ok (.iload_n 1, 1) := by decide +kernel
theorem d_X10_byteAt_1 : decode cX10_byteAt 1 = .ok (.aload_n 0, 1) := by decide +kernel
theorem d_X10_byteAt_2 : decode cX10_byteAt 2 = .ok (.getfield 88, 3) := by decide +kernel
theorem d_X10_byteAt_5 : decode cX10_byteAt 5 = .ok (.if_icmp .lt 7, 3) := by decide +kernel
theorem d_X10_byteAt_8 : decode cX10_byteAt 8 = .ok (.iconst (-1), 1) := by decide +kernel
theorem d_X10_byteAt_9 : decode cX10_byteAt 9 = .ok (.goto 9, 3) := by decide +kernel
theorem d_X10_byteAt_12 : decode cX10_byteAt 12 = .ok (.aload_n 0, 1) := by decide +kernel
theorem d_X10_byteAt_13 : decode cX10_byteAt 13 = .ok (.getfield 13, 3) := by decide +kernel
theorem d_X10_byteAt_16 : decode cX10_byteAt 16 = .ok (.iload_n 1, 1) := by decide +kernel
theorem d_X10_byteAt_17 : decode cX10_byteAt 17 = .ok (.iaload, 1) := by decide +kernel
theorem d_X10_byteAt_18 : decode cX10_byteAt 18 = .ok (.ireturn, 1) := by decide +kernel
noncomputable def F_X10_byteAt (M : zMem) (p0 : Int32) : Option (Int32 × zMem) :=
  if p0 < (M.1 0 2) then
    gin p0 600 <|
    some ((M.1 1 p0.toNatClampNeg), M)
  else
    some ((-1 : Int32), M)
def rm_X10_byteAt : Room := { frames := 2, cells := 0, slots := 0, locals := 80 }
set_option maxHeartbeats 4000000 in
set_option maxRecDepth 100000 in
theorem c_X10_byteAt (l : Launch) {G : zG} {ad : Nat → Nat} {n : Nat} (hA : zInj ad n) (M : zMem) (p0 : Int32) (hT : zT shM n 0 11) {r9 : Int32} {M9 : zMem} (hF : F_X10_byteAt M p0 = some (r9, M9)) : zM l yX10_byteAt cX10_byteAt 2 (some .int) rm_X10_byteAt G shM ad n M [.ref (ad 0), .int p0] (some (.int r9)) M9 := by
  refine zM_of hA (by decide +kernel) (lv := [(0, .ref (ad 0)), (1, .int p0)]) (Nat.le_of_ble_eq_true rfl) rfl (fun p e s m args below meth c A cx hr => ?_)
  unfold F_X10_byteAt at hF
  refine z_iload_n cx d_X10_byteAt_0 1 rfl ?_
  refine z_aload_n cx d_X10_byteAt_1 0 rfl ?_
  refine z_getI cx hT fg_SunnyPansModel_88 d_X10_byteAt_2 ?_
  refine z_icmp_lt cx 12 d_X10_byteAt_5 (by decide) hF (fun hF => ?_) (fun hF => ?_)
  · refine z_aload_n cx d_X10_byteAt_12 0 rfl ?_
    refine z_getR cx hT fg_SunnyPansModel_13 1 rfl d_X10_byteAt_13 ?_
    refine z_iload_n cx d_X10_byteAt_16 1 rfl ?_
    obtain ⟨hi1, hF⟩ := gin_inv hF
    refine z_iald cx (tfM_11_1 hT) za_17 hi1 p0.toNatClampNeg rfl d_X10_byteAt_17 ?_
    exact z_iret cx hr rfl hF d_X10_byteAt_18
  refine z_iconst (v := -1) cx d_X10_byteAt_8 ki_m1 ?_
  refine z_goto cx 18 d_X10_byteAt_9 (by decide) ?_
  exact z_iret cx hr rfl hF d_X10_byteAt_18
/-! SunnyPansModel.blanks -/
set_option maxRecDepth 100000 in
theorem wd_1399 : Cond.fieldLink "SunnyPansModel" 91 "SunnyPansModel" "at" "I" ∈ tbG := tw6 99 rfl rfl
theorem fg_SunnyPansModel_91 : zGetI "SunnyPansModel" 91 10 11 4 := ⟨RX10, TX10, 40, rfl, by decide, uw_10, wd_1399, fun _ _ _ _ _ _ => ⟨_, rfl, rfl⟩⟩
set_option maxRecDepth 100000 in
theorem wd_1546 : Cond.code yX10_byteAt cX10_byteAt 2 (some .int) ∈ tbG := tw7 6 rfl rfl
set_option maxRecDepth 100000 in
theorem wd_1543 : Cond.methodLink "SunnyPansModel" 94 yX10_byteAt ∈ tbG := tw7 3 rfl rfl
set_option maxRecDepth 100000 in
theorem wd_1545 : Cond.instanceMethod yX10_byteAt ∈ tbG := tw7 5 rfl rfl
theorem wd_46 : Cond.selects "SunnyPansModel" yX10_byteAt yX10_byteAt ∈ tbG := tw 46 (by decide +kernel) rfl
theorem cv_SunnyPansModel_94 : zCV "SunnyPansModel" 94 "SunnyPansModel" yX10_byteAt cX10_byteAt 2 (some .int) 1 := zCV_of wd_1543 wd_1545 wd_46 wd_111 wd_1546 (by decide +kernel)
theorem zo_11 : zObj "SunnyPansModel" 11 := ⟨10, (RX10, TX10, 40), rfl, rfl, fun _ _ _ _ _ _ => ⟨_, rfl⟩⟩
theorem fp_SunnyPansModel_91 : zPutI "SunnyPansModel" 91 10 11 4 := ⟨zc_10, fg_SunnyPansModel_91, ⟨RX10, TX10, 40, rfl, rfl, by decide +kernel⟩, fun _ _ _ _ _ _ _ => ⟨_, rfl, Nat.le_of_ble_eq_true rfl, rfl⟩⟩
theorem d_X10_blanks_0 : decode cX10_blanks 0 = .ok (.aload_n 0, 1) := by decide +kernel
theorem d_X10_blanks_1 : decode cX10_blanks 1 = .ok (.aload_n 0, 1) := by decide +kernel
theorem d_X10_blanks_2 : decode cX10_blanks 2 = .ok (.getfield 91, 3) := by decide +kernel
theorem d_X10_blanks_5 : decode cX10_blanks 5 = .ok (.invokevirtual 94, 3) := by decide +kernel
theorem d_X10_blanks_8 : decode cX10_blanks 8 = .ok (.bipush 32, 2) := by decide +kernel
theorem d_X10_blanks_10 : decode cX10_blanks 10 = .ok (.if_icmp .ne 16, 3) := by decide +kernel
theorem d_X10_blanks_13 : decode cX10_blanks 13 = .ok (.aload_n 0, 1) := by decide +kernel
theorem d_X10_blanks_14 : decode cX10_blanks 14 = .ok (.dup, 1) := by decide +kernel
theorem d_X10_blanks_15 : decode cX10_blanks 15 = .ok (.getfield 91, 3) := by decide +kernel
theorem d_X10_blanks_18 : decode cX10_blanks 18 = .ok (.iconst 1, 1) := by decide +kernel
theorem d_X10_blanks_19 : decode cX10_blanks 19 = .ok (.iadd, 1) := by decide +kernel
theorem d_X10_blanks_20 : decode cX10_blanks 20 = .ok (.putfield 91, 3) := by decide +kernel
theorem d_X10_blanks_23 : decode cX10_blanks 23 = .ok (.goto (-23), 3) := by decide +kernel
theorem d_X10_blanks_26 : decode cX10_blanks 26 = .ok (.return_, 1) := by decide +kernel
noncomputable def F_X10_blanks_0 (self0 : zMem → Option (zMem)) (M : zMem) : Option (zMem) :=
  zb (F_X10_byteAt M (M.1 0 4)) fun v2 M1 =>
  if v2 = (32 : Int32) then
    zl (zI M1 0 4 ((M1.1 0 4) + (1 : Int32))) fun M3 =>
    self0  M3
  else
    some M1
noncomputable def F_X10_blanks (M : zMem)  : Option (zMem) :=
  itF (fun _ => none) (F_X10_blanks_0) zFuel  M
def rm_X10_blanks : Room := { frames := 3, cells := 0, slots := 0, locals := 101 }
set_option maxHeartbeats 4000000 in
set_option maxRecDepth 100000 in
theorem c_X10_blanks (l : Launch) {G : zG} {ad : Nat → Nat} {n : Nat} (hA : zInj ad n) (M : zMem)  (hT : zT shM n 0 11) {M9 : zMem} (hF : F_X10_blanks M  = some M9) : zM l yX10_blanks cX10_blanks 1 none rm_X10_blanks G shM ad n M [.ref (ad 0)] none M9 := by
  refine zM_of hA (by decide +kernel) (lv := [(0, .ref (ad 0))]) (Nat.le_of_ble_eq_true rfl) rfl (fun p e s m args below meth c A cx hr => ?_)
  have hL0 : ∀ (fuel : Nat), ∀ (M : zMem), itF (fun _ => none) (F_X10_blanks_0) fuel M = some M9 → zJ p l e rm_X10_blanks s m args below meth c G shM ad n A 1 (MQ below (zQ G shM ad n M9 none A) args s 0 0 A) 0 0 M 0 [(0, .ref (ad 0))] [] := by
    intro fuel
    induction fuel with
    | zero => intro M hF; cases hF
    | succ fuel hs0 =>
      intro M hF
      have hF : F_X10_blanks_0 (itF (fun _ => none) (F_X10_blanks_0) fuel) M = some M9 := hF
      generalize itF (fun _ => none) (F_X10_blanks_0) fuel = self0 at hs0 hF
      unfold F_X10_blanks_0 at hF
      refine z_aload_n cx d_X10_blanks_0 0 rfl ?_
      refine z_aload_n cx d_X10_blanks_1 0 rfl ?_
      refine z_getI cx hT fg_SunnyPansModel_91 d_X10_blanks_2 ?_
      obtain ⟨v2, M1, hc, hF⟩ := zb_inv hF
      refine z_callV cx (As := [.int (M.1 0 4)]) (rest := []) (c_X10_byteAt l cx.2.2.2.1.1 M (M.1 0 4) hT hc) hT zo_11 cv_SunnyPansModel_94 ⟨rfl, rfl, Nat.le_of_ble_eq_true rfl, Nat.le_of_ble_eq_true rfl⟩ rfl rfl ⟨Nat.zero_le _, Nat.zero_le _⟩ (Nat.le_of_ble_eq_true rfl) d_X10_blanks_5 ?_
      refine z_bipush (v := 32) cx d_X10_blanks_8 kb_32 ?_
      refine z_icmp_ne cx 26 d_X10_blanks_10 (by decide) hF (fun hF => ?_) (fun hF => ?_)
      · exact z_vret cx hr hF d_X10_blanks_26
      refine z_aload_n cx d_X10_blanks_13 0 rfl ?_
      refine z_dup cx d_X10_blanks_14 rfl ?_
      refine z_getI cx hT fg_SunnyPansModel_91 d_X10_blanks_15 ?_
      refine z_iconst (v := 1) cx d_X10_blanks_18 ki_1 ?_
      refine z_iadd cx d_X10_blanks_19 ?_
      refine z_putI cx hT fp_SunnyPansModel_91 d_X10_blanks_20 ?_
      refine z_nmM hF (fun M3 hF => ?_)
      refine z_goto cx 0 d_X10_blanks_23 (by decide) ?_
      exact hs0 M3 hF
  unfold F_X10_blanks at hF
  exact hL0 zFuel M hF
/-! SunnyPansModel.wrong -/
set_option maxRecDepth 100000 in
theorem wd_1400 : Cond.fieldLink "SunnyPansModel" 98 "SunnyPansModel" "fault" "I" ∈ tbG := tw6 100 rfl rfl
theorem fg_SunnyPansModel_98 : zGetI "SunnyPansModel" 98 10 11 5 := ⟨RX10, TX10, 40, rfl, by decide, uw_10, wd_1400, fun _ _ _ _ _ _ => ⟨_, rfl, rfl⟩⟩
theorem fp_SunnyPansModel_98 : zPutI "SunnyPansModel" 98 10 11 5 := ⟨zc_10, fg_SunnyPansModel_98, ⟨RX10, TX10, 40, rfl, rfl, by decide +kernel⟩, fun _ _ _ _ _ _ _ => ⟨_, rfl, Nat.le_of_ble_eq_true rfl, rfl⟩⟩
set_option maxRecDepth 100000 in
theorem wd_1401 : Cond.fieldLink "SunnyPansModel" 101 "SunnyPansModel" "faultAt" "I" ∈ tbG := tw6 101 rfl rfl
theorem fg_SunnyPansModel_101 : zGetI "SunnyPansModel" 101 10 11 6 := ⟨RX10, TX10, 40, rfl, by decide, uw_10, wd_1401, fun _ _ _ _ _ _ => ⟨_, rfl, rfl⟩⟩
theorem fp_SunnyPansModel_101 : zPutI "SunnyPansModel" 101 10 11 6 := ⟨zc_10, fg_SunnyPansModel_101, ⟨RX10, TX10, 40, rfl, rfl, by decide +kernel⟩, fun _ _ _ _ _ _ _ => ⟨_, rfl, Nat.le_of_ble_eq_true rfl, rfl⟩⟩
theorem d_X10_wrong_0 : decode cX10_wrong 0 = .ok (.aload_n 0, 1) := by decide +kernel
theorem d_X10_wrong_1 : decode cX10_wrong 1 = .ok (.getfield 98, 3) := by decide +kernel
theorem d_X10_wrong_4 : decode cX10_wrong 4 = .ok (.ifCond .ne 13, 3) := by decide +kernel
theorem d_X10_wrong_7 : decode cX10_wrong 7 = .ok (.aload_n 0, 1) := by decide +kernel
theorem d_X10_wrong_8 : decode cX10_wrong 8 = .ok (.iload_n 1, 1) := by decide +kernel
theorem d_X10_wrong_9 : decode cX10_wrong 9 = .ok (.putfield 98, 3) := by decide +kernel
theorem d_X10_wrong_12 : decode cX10_wrong 12 = .ok (.aload_n 0, 1) := by decide +kernel
theorem d_X10_wrong_13 : decode cX10_wrong 13 = .ok (.iload_n 2, 1) := by decide +kernel
theorem d_X10_wrong_14 : decode cX10_wrong 14 = .ok (.putfield 101, 3) := by decide +kernel
theorem d_X10_wrong_17 : decode cX10_wrong 17 = .ok (.return_, 1) := by decide +kernel
noncomputable def F_X10_wrong (M : zMem) (p0 : Int32) (p1 : Int32) : Option (zMem) :=
  if (M.1 0 5) = 0 then
    zl (zI M 0 5 p0) fun M1 =>
    zl (zI M1 0 6 p1) fun M2 =>
    some M2
  else
    some M
def rm_X10_wrong : Room := { frames := 2, cells := 0, slots := 0, locals := 80 }
set_option maxHeartbeats 4000000 in
set_option maxRecDepth 100000 in
theorem c_X10_wrong (l : Launch) {G : zG} {ad : Nat → Nat} {n : Nat} (hA : zInj ad n) (M : zMem) (p0 : Int32) (p1 : Int32) (hT : zT shM n 0 11) {M9 : zMem} (hF : F_X10_wrong M p0 p1 = some M9) : zM l yX10_wrong cX10_wrong 3 none rm_X10_wrong G shM ad n M [.ref (ad 0), .int p0, .int p1] none M9 := by
  refine zM_of hA (by decide +kernel) (lv := [(0, .ref (ad 0)), (1, .int p0), (2, .int p1)]) (Nat.le_of_ble_eq_true rfl) rfl (fun p e s m args below meth c A cx hr => ?_)
  unfold F_X10_wrong at hF
  refine z_aload_n cx d_X10_wrong_0 0 rfl ?_
  refine z_getI cx hT fg_SunnyPansModel_98 d_X10_wrong_1 ?_
  refine z_if_ne cx 17 d_X10_wrong_4 (by decide) hF (fun hF => ?_) (fun hF => ?_)
  · exact z_vret cx hr hF d_X10_wrong_17
  refine z_aload_n cx d_X10_wrong_7 0 rfl ?_
  refine z_iload_n cx d_X10_wrong_8 1 rfl ?_
  refine z_putI cx hT fp_SunnyPansModel_98 d_X10_wrong_9 ?_
  refine z_nmM hF (fun M1 hF => ?_)
  refine z_aload_n cx d_X10_wrong_12 0 rfl ?_
  refine z_iload_n cx d_X10_wrong_13 2 rfl ?_
  refine z_putI cx hT fp_SunnyPansModel_101 d_X10_wrong_14 ?_
  refine z_nmM hF (fun M2 hF => ?_)
  exact z_vret cx hr hF d_X10_wrong_17
/-! SunnyPansModel.isDigit -/
theorem d_X10_isDigit_0 : decode cX10_isDigit 0 = .ok (.iload_n 0, 1) := by decide +kernel
theorem d_X10_isDigit_1 : decode cX10_isDigit 1 = .ok (.bipush 48, 2) := by decide +kernel
theorem d_X10_isDigit_3 : decode cX10_isDigit 3 = .ok (.if_icmp .lt 13, 3) := by decide +kernel
theorem d_X10_isDigit_6 : decode cX10_isDigit 6 = .ok (.iload_n 0, 1) := by decide +kernel
theorem d_X10_isDigit_7 : decode cX10_isDigit 7 = .ok (.bipush 57, 2) := by decide +kernel
theorem d_X10_isDigit_9 : decode cX10_isDigit 9 = .ok (.if_icmp .gt 7, 3) := by decide +kernel
theorem d_X10_isDigit_12 : decode cX10_isDigit 12 = .ok (.iconst 1, 1) := by decide +kernel
theorem d_X10_isDigit_13 : decode cX10_isDigit 13 = .ok (.goto 4, 3) := by decide +kernel
theorem d_X10_isDigit_16 : decode cX10_isDigit 16 = .ok (.iconst 0, 1) := by decide +kernel
theorem d_X10_isDigit_17 : decode cX10_isDigit 17 = .ok (.ireturn, 1) := by decide +kernel
noncomputable def F_X10_isDigit (M : zMem) (p0 : Int32) : Option (Int32 × zMem) :=
  if p0 < (48 : Int32) then
    some ((0 : Int32), M)
  else
    if (57 : Int32) < p0 then
      some ((0 : Int32), M)
    else
      some ((1 : Int32), M)
def rm_X10_isDigit : Room := { frames := 2, cells := 0, slots := 0, locals := 80 }
set_option maxHeartbeats 4000000 in
set_option maxRecDepth 100000 in
theorem c_X10_isDigit (l : Launch) {G : zG} {ad : Nat → Nat} {n : Nat} (hA : zInj ad n) (M : zMem) (p0 : Int32) {r9 : Int32} {M9 : zMem} (hF : F_X10_isDigit M p0 = some (r9, M9)) : zM l yX10_isDigit cX10_isDigit 1 (some .boolean) rm_X10_isDigit G shM ad n M [.int p0] (some (.int r9)) M9 := by
  refine zM_of hA (by decide +kernel) (lv := [(0, .int p0)]) (Nat.le_of_ble_eq_true rfl) rfl (fun p e s m args below meth c A cx hr => ?_)
  unfold F_X10_isDigit at hF
  refine z_iload_n cx d_X10_isDigit_0 0 rfl ?_
  refine z_bipush (v := 48) cx d_X10_isDigit_1 kb_48 ?_
  refine z_icmp_lt cx 16 d_X10_isDigit_3 (by decide) hF (fun hF => ?_) (fun hF => ?_)
  · refine z_iconst (v := 0) cx d_X10_isDigit_16 ki_0 ?_
    exact z_iret cx hr nb0 hF d_X10_isDigit_17
  refine z_iload_n cx d_X10_isDigit_6 0 rfl ?_
  refine z_bipush (v := 57) cx d_X10_isDigit_7 kb_57 ?_
  refine z_icmp_gt cx 16 d_X10_isDigit_9 (by decide) hF (fun hF => ?_) (fun hF => ?_)
  · refine z_iconst (v := 0) cx d_X10_isDigit_16 ki_0 ?_
    exact z_iret cx hr nb0 hF d_X10_isDigit_17
  refine z_iconst (v := 1) cx d_X10_isDigit_12 ki_1 ?_
  refine z_goto cx 17 d_X10_isDigit_13 (by decide) ?_
  exact z_iret cx hr nb1 hF d_X10_isDigit_17
/-! SunnyPansModel.isSmall -/
theorem d_X10_isSmall_0 : decode cX10_isSmall 0 = .ok (.iload_n 0, 1) := by decide +kernel
theorem d_X10_isSmall_1 : decode cX10_isSmall 1 = .ok (.bipush 97, 2) := by decide +kernel
theorem d_X10_isSmall_3 : decode cX10_isSmall 3 = .ok (.if_icmp .lt 13, 3) := by decide +kernel
theorem d_X10_isSmall_6 : decode cX10_isSmall 6 = .ok (.iload_n 0, 1) := by decide +kernel
theorem d_X10_isSmall_7 : decode cX10_isSmall 7 = .ok (.bipush 122, 2) := by decide +kernel
theorem d_X10_isSmall_9 : decode cX10_isSmall 9 = .ok (.if_icmp .gt 7, 3) := by decide +kernel
theorem d_X10_isSmall_12 : decode cX10_isSmall 12 = .ok (.iconst 1, 1) := by decide +kernel
theorem d_X10_isSmall_13 : decode cX10_isSmall 13 = .ok (.goto 4, 3) := by decide +kernel
theorem d_X10_isSmall_16 : decode cX10_isSmall 16 = .ok (.iconst 0, 1) := by decide +kernel
theorem d_X10_isSmall_17 : decode cX10_isSmall 17 = .ok (.ireturn, 1) := by decide +kernel
noncomputable def F_X10_isSmall (M : zMem) (p0 : Int32) : Option (Int32 × zMem) :=
  if p0 < (97 : Int32) then
    some ((0 : Int32), M)
  else
    if (122 : Int32) < p0 then
      some ((0 : Int32), M)
    else
      some ((1 : Int32), M)
def rm_X10_isSmall : Room := { frames := 2, cells := 0, slots := 0, locals := 80 }
set_option maxHeartbeats 4000000 in
set_option maxRecDepth 100000 in
theorem c_X10_isSmall (l : Launch) {G : zG} {ad : Nat → Nat} {n : Nat} (hA : zInj ad n) (M : zMem) (p0 : Int32) {r9 : Int32} {M9 : zMem} (hF : F_X10_isSmall M p0 = some (r9, M9)) : zM l yX10_isSmall cX10_isSmall 1 (some .boolean) rm_X10_isSmall G shM ad n M [.int p0] (some (.int r9)) M9 := by
  refine zM_of hA (by decide +kernel) (lv := [(0, .int p0)]) (Nat.le_of_ble_eq_true rfl) rfl (fun p e s m args below meth c A cx hr => ?_)
  unfold F_X10_isSmall at hF
  refine z_iload_n cx d_X10_isSmall_0 0 rfl ?_
  refine z_bipush (v := 97) cx d_X10_isSmall_1 kb_97 ?_
  refine z_icmp_lt cx 16 d_X10_isSmall_3 (by decide) hF (fun hF => ?_) (fun hF => ?_)
  · refine z_iconst (v := 0) cx d_X10_isSmall_16 ki_0 ?_
    exact z_iret cx hr nb0 hF d_X10_isSmall_17
  refine z_iload_n cx d_X10_isSmall_6 0 rfl ?_
  refine z_bipush (v := 122) cx d_X10_isSmall_7 kb_122 ?_
  refine z_icmp_gt cx 16 d_X10_isSmall_9 (by decide) hF (fun hF => ?_) (fun hF => ?_)
  · refine z_iconst (v := 0) cx d_X10_isSmall_16 ki_0 ?_
    exact z_iret cx hr nb0 hF d_X10_isSmall_17
  refine z_iconst (v := 1) cx d_X10_isSmall_12 ki_1 ?_
  refine z_goto cx 17 d_X10_isSmall_13 (by decide) ?_
  exact z_iret cx hr nb1 hF d_X10_isSmall_17
/-! SunnyPansModel.number -/
set_option maxRecDepth 100000 in
theorem wd_1583 : Cond.code yX10_isDigit cX10_isDigit 1 (some .boolean) ∈ tbG := tw7 43 rfl rfl
set_option maxRecDepth 100000 in
theorem wd_1581 : Cond.methodLink "SunnyPansModel" 107 yX10_isDigit ∈ tbG := tw7 41 rfl rfl
set_option maxRecDepth 100000 in
theorem wd_1582 : Cond.static yX10_isDigit ∈ tbG := tw7 42 rfl rfl
theorem cs_SunnyPansModel_107 : zCS "SunnyPansModel" 107 yX10_isDigit cX10_isDigit 1 (some .boolean) 1 := zCS_of wd_1581 wd_1582 wd_111 wd_1583 (by decide +kernel)
set_option maxRecDepth 100000 in
theorem wd_1530 : Cond.code yX10_in cX10_in 3 (some .boolean) ∈ tbG := tw6 230 rfl rfl
set_option maxRecDepth 100000 in
theorem wd_1528 : Cond.methodLink "SunnyPansModel" 116 yX10_in ∈ tbG := tw6 228 rfl rfl
set_option maxRecDepth 100000 in
theorem wd_1529 : Cond.static yX10_in ∈ tbG := tw6 229 rfl rfl
theorem cs_SunnyPansModel_116 : zCS "SunnyPansModel" 116 yX10_in cX10_in 3 (some .boolean) 3 := zCS_of wd_1528 wd_1529 wd_111 wd_1530 (by decide +kernel)
set_option maxRecDepth 100000 in
theorem wd_1572 : Cond.code yX10_wrong cX10_wrong 3 none ∈ tbG := tw7 32 rfl rfl
set_option maxRecDepth 100000 in
theorem wd_1569 : Cond.methodLink "SunnyPansModel" 111 yX10_wrong ∈ tbG := tw7 29 rfl rfl
set_option maxRecDepth 100000 in
theorem wd_1571 : Cond.instanceMethod yX10_wrong ∈ tbG := tw7 31 rfl rfl
theorem wd_51 : Cond.selects "SunnyPansModel" yX10_wrong yX10_wrong ∈ tbG := tw 51 (by decide +kernel) rfl
theorem cv_SunnyPansModel_111 : zCV "SunnyPansModel" 111 "SunnyPansModel" yX10_wrong cX10_wrong 3 none 2 := zCV_of wd_1569 wd_1571 wd_51 wd_111 wd_1572 (by decide +kernel)
set_option maxRecDepth 100000 in
theorem wd_1584 : Cond.constant "SunnyPansModel" 115 (100000) ∈ tbG := tw7 44 rfl rfl
set_option maxRecDepth 100000 in
theorem wd_1542 : Cond.code yX10_blanks cX10_blanks 1 none ∈ tbG := tw7 2 rfl rfl
set_option maxRecDepth 100000 in
theorem wd_1539 : Cond.methodLink "SunnyPansModel" 104 yX10_blanks ∈ tbG := tw6 239 rfl rfl
set_option maxRecDepth 100000 in
theorem wd_1541 : Cond.instanceMethod yX10_blanks ∈ tbG := tw7 1 rfl rfl
theorem wd_45 : Cond.selects "SunnyPansModel" yX10_blanks yX10_blanks ∈ tbG := tw 45 (by decide +kernel) rfl
theorem cv_SunnyPansModel_104 : zCV "SunnyPansModel" 104 "SunnyPansModel" yX10_blanks cX10_blanks 1 none 0 := zCV_of wd_1539 wd_1541 wd_45 wd_111 wd_1542 (by decide +kernel)
theorem d_X10_number_0 : decode cX10_number 0 = .ok (.aload_n 0, 1) := by decide +kernel
theorem d_X10_number_1 : decode cX10_number 1 = .ok (.getfield 98, 3) := by decide +kernel
theorem d_X10_number_4 : decode cX10_number 4 = .ok (.ifCond .eq 5, 3) := by decide +kernel
theorem d_X10_number_7 : decode cX10_number 7 = .ok (.iconst 0, 1) := by decide +kernel
theorem d_X10_number_8 : decode cX10_number 8 = .ok (.ireturn, 1) := by decide +kernel
theorem d_X10_number_9 : decode cX10_number 9 = .ok (.aload_n 0, 1) := by decide +kernel
theorem d_X10_number_10 : decode cX10_number 10 = .ok (.invokevirtual 104, 3) := by decide +kernel
theorem d_X10_number_13 : decode cX10_number 13 = .ok (.aload_n 0, 1) := by decide +kernel
theorem d_X10_number_14 : decode cX10_number 14 = .ok (.getfield 91, 3) := by decide +kernel
theorem d_X10_number_17 : decode cX10_number 17 = .ok (.istore_n 3, 1) := by decide +kernel
theorem d_X10_number_18 : decode cX10_number 18 = .ok (.iconst 0, 1) := by decide +kernel
theorem d_X10_number_19 : decode cX10_number 19 = .ok (.istore 4, 2) := by decide +kernel
theorem d_X10_number_21 : decode cX10_number 21 = .ok (.aload_n 0, 1) := by decide +kernel
theorem d_X10_number_22 : decode cX10_number 22 = .ok (.aload_n 0, 1) := by decide +kernel
theorem d_X10_number_23 : decode cX10_number 23 = .ok (.getfield 91, 3) := by decide +kernel
theorem d_X10_number_26 : decode cX10_number 26 = .ok (.invokevirtual 94, 3) := by decide +kernel
theorem d_X10_number_29 : decode cX10_number 29 = .ok (.invokestatic 107, 3) := by decide +kernel
theorem d_X10_number_32 : decode cX10_number 32 = .ok (.ifCond .ne 12, 3) := by decide +kernel
theorem d_X10_number_35 : decode cX10_number 35 = .ok (.aload_n 0, 1) := by decide +kernel
theorem d_X10_number_36 : decode cX10_number 36 = .ok (.iconst 1, 1) := by decide +kernel
theorem d_X10_number_37 : decode cX10_number 37 = .ok (.aload_n 0, 1) := by decide +kernel
theorem d_X10_number_38 : decode cX10_number 38 = .ok (.getfield 91, 3) := by decide +kernel
theorem d_X10_number_41 : decode cX10_number 41 = .ok (.invokevirtual 111, 3) := by decide +kernel
theorem d_X10_number_44 : decode cX10_number 44 = .ok (.aload_n 0, 1) := by decide +kernel
theorem d_X10_number_45 : decode cX10_number 45 = .ok (.aload_n 0, 1) := by decide +kernel
theorem d_X10_number_46 : decode cX10_number 46 = .ok (.getfield 91, 3) := by decide +kernel
theorem d_X10_number_49 : decode cX10_number 49 = .ok (.invokevirtual 94, 3) := by decide +kernel
theorem d_X10_number_52 : decode cX10_number 52 = .ok (.invokestatic 107, 3) := by decide +kernel
theorem d_X10_number_55 : decode cX10_number 55 = .ok (.ifCond .eq 51, 3) := by decide +kernel
theorem d_X10_number_58 : decode cX10_number 58 = .ok (.bipush 10, 2) := by decide +kernel
theorem d_X10_number_60 : decode cX10_number 60 = .ok (.iload 4, 2) := by decide +kernel
theorem d_X10_number_62 : decode cX10_number 62 = .ok (.imul, 1) := by decide +kernel
theorem d_X10_number_63 : decode cX10_number 63 = .ok (.aload_n 0, 1) := by decide +kernel
theorem d_X10_number_64 : decode cX10_number 64 = .ok (.aload_n 0, 1) := by decide +kernel
theorem d_X10_number_65 : decode cX10_number 65 = .ok (.getfield 91, 3) := by decide +kernel
theorem d_X10_number_68 : decode cX10_number 68 = .ok (.invokevirtual 94, 3) := by decide +kernel
theorem d_X10_number_71 : decode cX10_number 71 = .ok (.iadd, 1) := by decide +kernel
theorem d_X10_number_72 : decode cX10_number 72 = .ok (.bipush 48, 2) := by decide +kernel
theorem d_X10_number_74 : decode cX10_number 74 = .ok (.isub, 1) := by decide +kernel
theorem d_X10_number_75 : decode cX10_number 75 = .ok (.istore 4, 2) := by decide +kernel
theorem d_X10_number_77 : decode cX10_number 77 = .ok (.iload 4, 2) := by decide +kernel
theorem d_X10_number_79 : decode cX10_number 79 = .ok (.ldc 115, 2) := by decide +kernel
theorem d_X10_number_81 : decode cX10_number 81 = .ok (.if_icmp .le 8, 3) := by decide +kernel
theorem d_X10_number_84 : decode cX10_number 84 = .ok (.ldc 115, 2) := by decide +kernel
theorem d_X10_number_86 : decode cX10_number 86 = .ok (.goto 5, 3) := by decide +kernel
theorem d_X10_number_89 : decode cX10_number 89 = .ok (.iload 4, 2) := by decide +kernel
theorem d_X10_number_91 : decode cX10_number 91 = .ok (.istore 4, 2) := by decide +kernel
theorem d_X10_number_93 : decode cX10_number 93 = .ok (.aload_n 0, 1) := by decide +kernel
theorem d_X10_number_94 : decode cX10_number 94 = .ok (.dup, 1) := by decide +kernel
theorem d_X10_number_95 : decode cX10_number 95 = .ok (.getfield 91, 3) := by decide +kernel
theorem d_X10_number_98 : decode cX10_number 98 = .ok (.iconst 1, 1) := by decide +kernel
theorem d_X10_number_99 : decode cX10_number 99 = .ok (.iadd, 1) := by decide +kernel
theorem d_X10_number_100 : decode cX10_number 100 = .ok (.putfield 91, 3) := by decide +kernel
theorem d_X10_number_103 : decode cX10_number 103 = .ok (.goto (-59), 3) := by decide +kernel
theorem d_X10_number_106 : decode cX10_number 106 = .ok (.iload 4, 2) := by decide +kernel
theorem d_X10_number_108 : decode cX10_number 108 = .ok (.iload_n 1, 1) := by decide +kernel
theorem d_X10_number_109 : decode cX10_number 109 = .ok (.iload_n 2, 1) := by decide +kernel
theorem d_X10_number_110 : decode cX10_number 110 = .ok (.invokestatic 116, 3) := by decide +kernel
theorem d_X10_number_113 : decode cX10_number 113 = .ok (.ifCond .ne 9, 3) := by decide +kernel
theorem d_X10_number_116 : decode cX10_number 116 = .ok (.aload_n 0, 1) := by decide +kernel
theorem d_X10_number_117 : decode cX10_number 117 = .ok (.iconst 2, 1) := by decide +kernel
theorem d_X10_number_118 : decode cX10_number 118 = .ok (.iload_n 3, 1) := by decide +kernel
theorem d_X10_number_119 : decode cX10_number 119 = .ok (.invokevirtual 111, 3) := by decide +kernel
theorem d_X10_number_122 : decode cX10_number 122 = .ok (.aload_n 0, 1) := by decide +kernel
theorem d_X10_number_123 : decode cX10_number 123 = .ok (.getfield 98, 3) := by decide +kernel
theorem d_X10_number_126 : decode cX10_number 126 = .ok (.ifCond .ne 8, 3) := by decide +kernel
theorem d_X10_number_129 : decode cX10_number 129 = .ok (.iload 4, 2) := by decide +kernel
theorem d_X10_number_131 : decode cX10_number 131 = .ok (.goto 4, 3) := by decide +kernel
theorem d_X10_number_134 : decode cX10_number 134 = .ok (.iconst 0, 1) := by decide +kernel
theorem d_X10_number_135 : decode cX10_number 135 = .ok (.ireturn, 1) := by decide +kernel
noncomputable def F_X10_number_122 (p0 : Int32) (p1 : Int32) (b122_L4 : Int32) (M : zMem) : Option (Int32 × zMem) :=
  if (M.1 0 5) = 0 then
    some (b122_L4, M)
  else
    some ((0 : Int32), M)
noncomputable def F_X10_number_91 (p0 : Int32) (p1 : Int32) (self44 : Int32 → Int32 → Int32 → Int32 → zMem → Option (Int32 × zMem)) (b91_L1 : Int32) (b91_L2 : Int32) (b91_L3 : Int32) (b91_S0 : Int32) (M : zMem) : Option (Int32 × zMem) :=
  zl (zI M 0 4 ((M.1 0 4) + (1 : Int32))) fun M1 =>
  self44 b91_L1 b91_L2 b91_L3 b91_S0 M1
noncomputable def F_X10_number_44 (p0 : Int32) (p1 : Int32) (self44 : Int32 → Int32 → Int32 → Int32 → zMem → Option (Int32 × zMem)) (b44_L1 : Int32) (b44_L2 : Int32) (b44_L3 : Int32) (b44_L4 : Int32) (M : zMem) : Option (Int32 × zMem) :=
  zb (F_X10_byteAt M (M.1 0 4)) fun v3 M2 =>
  zb (F_X10_isDigit M2 v3) fun v5 M4 =>
  if v5 = 0 then
    zb (F_X10_in M4 b44_L4 b44_L1 b44_L2) fun v7 M6 =>
    if v7 = 0 then
      zbv (F_X10_wrong M6 (2 : Int32) b44_L3) fun M8 =>
      F_X10_number_122 p0 p1 b44_L4 M8
    else
      F_X10_number_122 p0 p1 b44_L4 M6
  else
    zb (F_X10_byteAt M4 (M4.1 0 4)) fun v10 M9 =>
    zl ((((10 : Int32) * b44_L4) + v10) - (48 : Int32)) fun v11 =>
    if v11 ≤ (100000 : Int32) then
      F_X10_number_91 p0 p1 self44 b44_L1 b44_L2 b44_L3 v11 M9
    else
      F_X10_number_91 p0 p1 self44 b44_L1 b44_L2 b44_L3 (100000 : Int32) M9
noncomputable def F_X10_number (M : zMem) (p0 : Int32) (p1 : Int32) : Option (Int32 × zMem) :=
  if (M.1 0 5) = 0 then
    zbv (F_X10_blanks M) fun M12 =>
    zl (M12.1 0 4) fun v13 =>
    zb (F_X10_byteAt M12 (M12.1 0 4)) fun v15 M14 =>
    zb (F_X10_isDigit M14 v15) fun v17 M16 =>
    if v17 = 0 then
      zbv (F_X10_wrong M16 (1 : Int32) (M16.1 0 4)) fun M18 =>
      itF (fun _ _ _ _ _ => none) (F_X10_number_44 p0 p1) zFuel p0 p1 v13 (0 : Int32) M18
    else
      itF (fun _ _ _ _ _ => none) (F_X10_number_44 p0 p1) zFuel p0 p1 v13 (0 : Int32) M16
  else
    some ((0 : Int32), M)
def rm_X10_number : Room := { frames := 4, cells := 0, slots := 0, locals := 121 }
set_option maxHeartbeats 4000000 in
set_option maxRecDepth 100000 in
theorem c_X10_number (l : Launch) {G : zG} {ad : Nat → Nat} {n : Nat} (hA : zInj ad n) (M : zMem) (p0 : Int32) (p1 : Int32) (hT : zT shM n 0 11) {r9 : Int32} {M9 : zMem} (hF : F_X10_number M p0 p1 = some (r9, M9)) : zM l yX10_number cX10_number 5 (some .int) rm_X10_number G shM ad n M [.ref (ad 0), .int p0, .int p1] (some (.int r9)) M9 := by
  refine zM_of hA (by decide +kernel) (lv := [(0, .ref (ad 0)), (1, .int p0), (2, .int p1)]) (Nat.le_of_ble_eq_true rfl) rfl (fun p e s m args below meth c A cx hr => ?_)
  have hb122 : ∀ (b122_L4 : Int32) (M : zMem), F_X10_number_122 p0 p1 b122_L4 M = some (r9, M9) → zJ p l e rm_X10_number s m args below meth c G shM ad n A 5 (MQ below (zQ G shM ad n M9 (some (.int r9)) A) args s 0 0 A) 0 0 M 122 [(0, .ref (ad 0)), (4, .int b122_L4)] [] := by
    intro b122_L4 M hF
    unfold F_X10_number_122 at hF
    refine z_aload_n cx d_X10_number_122 0 rfl ?_
    refine z_getI cx hT fg_SunnyPansModel_98 d_X10_number_123 ?_
    refine z_if_ne cx 134 d_X10_number_126 (by decide) hF (fun hF => ?_) (fun hF => ?_)
    · refine z_iconst (v := 0) cx d_X10_number_134 ki_0 ?_
      exact z_iret cx hr rfl hF d_X10_number_135
    refine z_iload cx d_X10_number_129 1 rfl ?_
    refine z_goto cx 135 d_X10_number_131 (by decide) ?_
    exact z_iret cx hr rfl hF d_X10_number_135
  have hb91 : ∀ (self44 : Int32 → Int32 → Int32 → Int32 → zMem → Option (Int32 × zMem)) (hs44 : ∀ (b44_L1 : Int32) (b44_L2 : Int32) (b44_L3 : Int32) (b44_L4 : Int32) (M : zMem), self44 b44_L1 b44_L2 b44_L3 b44_L4 M = some (r9, M9) → zJ p l e rm_X10_number s m args below meth c G shM ad n A 5 (MQ below (zQ G shM ad n M9 (some (.int r9)) A) args s 0 0 A) 0 0 M 44 [(0, .ref (ad 0)), (1, .int b44_L1), (2, .int b44_L2), (3, .int b44_L3), (4, .int b44_L4)] []), ∀ (b91_L1 : Int32) (b91_L2 : Int32) (b91_L3 : Int32) (b91_S0 : Int32) (M : zMem), F_X10_number_91 p0 p1 self44 b91_L1 b91_L2 b91_L3 b91_S0 M = some (r9, M9) → zJ p l e rm_X10_number s m args below meth c G shM ad n A 5 (MQ below (zQ G shM ad n M9 (some (.int r9)) A) args s 0 0 A) 0 0 M 91 [(0, .ref (ad 0)), (1, .int b91_L1), (2, .int b91_L2), (3, .int b91_L3)] [.int b91_S0] := by
    intro self44 hs44 b91_L1 b91_L2 b91_L3 b91_S0 M hF
    unfold F_X10_number_91 at hF
    refine z_istore cx 4 [(4, .int b91_S0), (0, .ref (ad 0)), (1, .int b91_L1), (2, .int b91_L2), (3, .int b91_L3)] d_X10_number_91 (by decide) rfl ?_
    refine z_aload_n cx d_X10_number_93 1 rfl ?_
    refine z_dup cx d_X10_number_94 rfl ?_
    refine z_getI cx hT fg_SunnyPansModel_91 d_X10_number_95 ?_
    refine z_iconst (v := 1) cx d_X10_number_98 ki_1 ?_
    refine z_iadd cx d_X10_number_99 ?_
    refine z_putI cx hT fp_SunnyPansModel_91 d_X10_number_100 ?_
    refine z_nmM hF (fun M1 hF => ?_)
    refine z_goto cx 44 d_X10_number_103 (by decide) ?_
    exact z_lv [1, 2, 3, 4, 0] _ rfl (hs44 b91_L1 b91_L2 b91_L3 b91_S0 M1 hF)
  have hL44 : ∀ (fuel : Nat), ∀ (b44_L1 : Int32) (b44_L2 : Int32) (b44_L3 : Int32) (b44_L4 : Int32) (M : zMem), itF (fun _ _ _ _ _ => none) (F_X10_number_44 p0 p1) fuel b44_L1 b44_L2 b44_L3 b44_L4 M = some (r9, M9) → zJ p l e rm_X10_number s m args below meth c G shM ad n A 5 (MQ below (zQ G shM ad n M9 (some (.int r9)) A) args s 0 0 A) 0 0 M 44 [(0, .ref (ad 0)), (1, .int b44_L1), (2, .int b44_L2), (3, .int b44_L3), (4, .int b44_L4)] [] := by
    intro fuel
    induction fuel with
    | zero => intro b44_L1 b44_L2 b44_L3 b44_L4 M hF; cases hF
    | succ fuel hs44 =>
      intro b44_L1 b44_L2 b44_L3 b44_L4 M hF
      have hF : F_X10_number_44 p0 p1 (itF (fun _ _ _ _ _ => none) (F_X10_number_44 p0 p1) fuel) b44_L1 b44_L2 b44_L3 b44_L4 M = some (r9, M9) := hF
      generalize itF (fun _ _ _ _ _ => none) (F_X10_number_44 p0 p1) fuel = self44 at hs44 hF
      unfold F_X10_number_44 at hF
      refine z_aload_n cx d_X10_number_44 0 rfl ?_
      refine z_aload_n cx d_X10_number_45 0 rfl ?_
      refine z_getI cx hT fg_SunnyPansModel_91 d_X10_number_46 ?_
      obtain ⟨v3, M2, hc, hF⟩ := zb_inv hF
      refine z_callV cx (As := [.int (M.1 0 4)]) (rest := []) (c_X10_byteAt l cx.2.2.2.1.1 M (M.1 0 4) hT hc) hT zo_11 cv_SunnyPansModel_94 ⟨rfl, rfl, Nat.le_of_ble_eq_true rfl, Nat.le_of_ble_eq_true rfl⟩ rfl rfl ⟨Nat.zero_le _, Nat.zero_le _⟩ (Nat.le_of_ble_eq_true rfl) d_X10_number_49 ?_
      obtain ⟨v5, M4, hc, hF⟩ := zb_inv hF
      refine z_callS cx (As := [.int v3]) (rest := []) (c_X10_isDigit l cx.2.2.2.1.1 M2 v3  hc) cs_SunnyPansModel_107 ⟨rfl, rfl, Nat.le_of_ble_eq_true rfl, Nat.le_of_ble_eq_true rfl⟩ rfl rfl ⟨Nat.zero_le _, Nat.zero_le _⟩ (Nat.le_of_ble_eq_true rfl) d_X10_number_52 ?_
      refine z_if_eq cx 106 d_X10_number_55 (by decide) hF (fun hF => ?_) (fun hF => ?_)
      · refine z_iload cx d_X10_number_106 4 rfl ?_
        refine z_iload_n cx d_X10_number_108 1 rfl ?_
        refine z_iload_n cx d_X10_number_109 2 rfl ?_
        obtain ⟨v7, M6, hc, hF⟩ := zb_inv hF
        refine z_callS cx (As := [.int b44_L4, .int b44_L1, .int b44_L2]) (rest := []) (c_X10_in l cx.2.2.2.1.1 M4 b44_L4 b44_L1 b44_L2  hc) cs_SunnyPansModel_116 ⟨rfl, rfl, Nat.le_of_ble_eq_true rfl, Nat.le_of_ble_eq_true rfl⟩ rfl rfl ⟨Nat.zero_le _, Nat.zero_le _⟩ (Nat.le_of_ble_eq_true rfl) d_X10_number_110 ?_
        refine z_if_ne cx 122 d_X10_number_113 (by decide) hF (fun hF => ?_) (fun hF => ?_)
        · exact z_lv [0, 4] _ rfl (hb122 b44_L4 M6 hF)
        refine z_aload_n cx d_X10_number_116 0 rfl ?_
        refine z_iconst (v := 2) cx d_X10_number_117 ki_2 ?_
        refine z_iload_n cx d_X10_number_118 3 rfl ?_
        obtain ⟨M8, hc, hF⟩ := zbv_inv hF
        refine z_callV cx (As := [.int (2 : Int32), .int b44_L3]) (rest := []) (c_X10_wrong l cx.2.2.2.1.1 M6 (2 : Int32) b44_L3 hT hc) hT zo_11 cv_SunnyPansModel_111 ⟨rfl, rfl, Nat.le_of_ble_eq_true rfl, Nat.le_of_ble_eq_true rfl⟩ rfl rfl ⟨Nat.zero_le _, Nat.zero_le _⟩ (Nat.le_of_ble_eq_true rfl) d_X10_number_119 ?_
        exact z_lv [0, 4] _ rfl (hb122 b44_L4 M8 hF)
      refine z_bipush (v := 10) cx d_X10_number_58 kb_10 ?_
      refine z_iload cx d_X10_number_60 4 rfl ?_
      refine z_imul cx d_X10_number_62 ?_
      refine z_aload_n cx d_X10_number_63 0 rfl ?_
      refine z_aload_n cx d_X10_number_64 0 rfl ?_
      refine z_getI cx hT fg_SunnyPansModel_91 d_X10_number_65 ?_
      obtain ⟨v10, M9, hc, hF⟩ := zb_inv hF
      refine z_callV cx (As := [.int (M4.1 0 4)]) (rest := [.int ((10 : Int32) * b44_L4)]) (c_X10_byteAt l cx.2.2.2.1.1 M4 (M4.1 0 4) hT hc) hT zo_11 cv_SunnyPansModel_94 ⟨rfl, rfl, Nat.le_of_ble_eq_true rfl, Nat.le_of_ble_eq_true rfl⟩ rfl rfl ⟨Nat.zero_le _, Nat.zero_le _⟩ (Nat.le_of_ble_eq_true rfl) d_X10_number_68 ?_
      refine z_iadd cx d_X10_number_71 ?_
      refine z_bipush (v := 48) cx d_X10_number_72 kb_48 ?_
      refine z_isub cx d_X10_number_74 ?_
      refine z_nm hF (fun v11 hF => ?_)
      refine z_istore cx 4 [(4, .int v11), (0, .ref (ad 0)), (1, .int b44_L1), (2, .int b44_L2), (3, .int b44_L3)] d_X10_number_75 (by decide) rfl ?_
      refine z_iload cx d_X10_number_77 0 rfl ?_
      refine z_ldc cx wd_1584 d_X10_number_79 ?_
      refine z_icmp_le cx 89 d_X10_number_81 (by decide) hF (fun hF => ?_) (fun hF => ?_)
      · refine z_iload cx d_X10_number_89 0 rfl ?_
        exact z_lv [1, 2, 3, 4] _ rfl (hb91 self44 hs44 b44_L1 b44_L2 b44_L3 v11 M9 hF)
      refine z_ldc cx wd_1584 d_X10_number_84 ?_
      refine z_goto cx 91 d_X10_number_86 (by decide) ?_
      exact z_lv [1, 2, 3, 4] _ rfl (hb91 self44 hs44 b44_L1 b44_L2 b44_L3 (100000 : Int32) M9 hF)
  unfold F_X10_number at hF
  refine z_aload_n cx d_X10_number_0 0 rfl ?_
  refine z_getI cx hT fg_SunnyPansModel_98 d_X10_number_1 ?_
  refine z_if_eq cx 9 d_X10_number_4 (by decide) hF (fun hF => ?_) (fun hF => ?_)
  · refine z_aload_n cx d_X10_number_9 0 rfl ?_
    obtain ⟨M12, hc, hF⟩ := zbv_inv hF
    refine z_callV cx (As := []) (rest := []) (c_X10_blanks l cx.2.2.2.1.1 M hT hc) hT zo_11 cv_SunnyPansModel_104 ⟨rfl, rfl, Nat.le_of_ble_eq_true rfl, Nat.le_of_ble_eq_true rfl⟩ rfl rfl ⟨Nat.zero_le _, Nat.zero_le _⟩ (Nat.le_of_ble_eq_true rfl) d_X10_number_10 ?_
    refine z_aload_n cx d_X10_number_13 0 rfl ?_
    refine z_getI cx hT fg_SunnyPansModel_91 d_X10_number_14 ?_
    refine z_nm hF (fun v13 hF => ?_)
    refine z_istore_n cx 3 [(3, .int v13), (0, .ref (ad 0)), (1, .int p0), (2, .int p1)] d_X10_number_17 rfl (by decide) rfl ?_
    refine z_iconst (v := 0) cx d_X10_number_18 ki_0 ?_
    refine z_istore cx 4 [(4, .int (0 : Int32)), (3, .int v13), (0, .ref (ad 0)), (1, .int p0), (2, .int p1)] d_X10_number_19 (by decide) rfl ?_
    refine z_aload_n cx d_X10_number_21 2 rfl ?_
    refine z_aload_n cx d_X10_number_22 2 rfl ?_
    refine z_getI cx hT fg_SunnyPansModel_91 d_X10_number_23 ?_
    obtain ⟨v15, M14, hc, hF⟩ := zb_inv hF
    refine z_callV cx (As := [.int (M12.1 0 4)]) (rest := []) (c_X10_byteAt l cx.2.2.2.1.1 M12 (M12.1 0 4) hT hc) hT zo_11 cv_SunnyPansModel_94 ⟨rfl, rfl, Nat.le_of_ble_eq_true rfl, Nat.le_of_ble_eq_true rfl⟩ rfl rfl ⟨Nat.zero_le _, Nat.zero_le _⟩ (Nat.le_of_ble_eq_true rfl) d_X10_number_26 ?_
    obtain ⟨v17, M16, hc, hF⟩ := zb_inv hF
    refine z_callS cx (As := [.int v15]) (rest := []) (c_X10_isDigit l cx.2.2.2.1.1 M14 v15  hc) cs_SunnyPansModel_107 ⟨rfl, rfl, Nat.le_of_ble_eq_true rfl, Nat.le_of_ble_eq_true rfl⟩ rfl rfl ⟨Nat.zero_le _, Nat.zero_le _⟩ (Nat.le_of_ble_eq_true rfl) d_X10_number_29 ?_
    refine z_if_ne cx 44 d_X10_number_32 (by decide) hF (fun hF => ?_) (fun hF => ?_)
    · exact z_lv [2, 3, 4, 1, 0] _ rfl (hL44 zFuel p0 p1 v13 (0 : Int32) M16 hF)
    refine z_aload_n cx d_X10_number_35 2 rfl ?_
    refine z_iconst (v := 1) cx d_X10_number_36 ki_1 ?_
    refine z_aload_n cx d_X10_number_37 2 rfl ?_
    refine z_getI cx hT fg_SunnyPansModel_91 d_X10_number_38 ?_
    obtain ⟨M18, hc, hF⟩ := zbv_inv hF
    refine z_callV cx (As := [.int (1 : Int32), .int (M16.1 0 4)]) (rest := []) (c_X10_wrong l cx.2.2.2.1.1 M16 (1 : Int32) (M16.1 0 4) hT hc) hT zo_11 cv_SunnyPansModel_111 ⟨rfl, rfl, Nat.le_of_ble_eq_true rfl, Nat.le_of_ble_eq_true rfl⟩ rfl rfl ⟨Nat.zero_le _, Nat.zero_le _⟩ (Nat.le_of_ble_eq_true rfl) d_X10_number_41 ?_
    exact z_lv [2, 3, 4, 1, 0] _ rfl (hL44 zFuel p0 p1 v13 (0 : Int32) M18 hF)
  refine z_iconst (v := 0) cx d_X10_number_7 ki_0 ?_
  exact z_iret cx hr rfl hF d_X10_number_8
/-! SunnyPansModel.wordHere -/
set_option maxRecDepth 100000 in
theorem wd_1565 : Cond.code yX10_isSmall cX10_isSmall 1 (some .boolean) ∈ tbG := tw7 25 rfl rfl
set_option maxRecDepth 100000 in
theorem wd_1563 : Cond.methodLink "SunnyPansModel" 120 yX10_isSmall ∈ tbG := tw7 23 rfl rfl
set_option maxRecDepth 100000 in
theorem wd_1564 : Cond.static yX10_isSmall ∈ tbG := tw7 24 rfl rfl
theorem cs_SunnyPansModel_120 : zCS "SunnyPansModel" 120 yX10_isSmall cX10_isSmall 1 (some .boolean) 1 := zCS_of wd_1563 wd_1564 wd_111 wd_1565 (by decide +kernel)
theorem kb_27 : (Int8.ofInt (27)).toInt32 = (27 : Int32) := by decide +kernel
theorem d_X10_wordHere_0 : decode cX10_wordHere 0 = .ok (.aload_n 0, 1) := by decide +kernel
theorem d_X10_wordHere_1 : decode cX10_wordHere 1 = .ok (.invokevirtual 104, 3) := by decide +kernel
theorem d_X10_wordHere_4 : decode cX10_wordHere 4 = .ok (.iconst 0, 1) := by decide +kernel
theorem d_X10_wordHere_5 : decode cX10_wordHere 5 = .ok (.istore_n 1, 1) := by decide +kernel
theorem d_X10_wordHere_6 : decode cX10_wordHere 6 = .ok (.iconst 0, 1) := by decide +kernel
theorem d_X10_wordHere_7 : decode cX10_wordHere 7 = .ok (.istore_n 2, 1) := by decide +kernel
theorem d_X10_wordHere_8 : decode cX10_wordHere 8 = .ok (.aload_n 0, 1) := by decide +kernel
theorem d_X10_wordHere_9 : decode cX10_wordHere 9 = .ok (.aload_n 0, 1) := by decide +kernel
theorem d_X10_wordHere_10 : decode cX10_wordHere 10 = .ok (.getfield 91, 3) := by decide +kernel
theorem d_X10_wordHere_13 : decode cX10_wordHere 13 = .ok (.iload_n 2, 1) := by decide +kernel
theorem d_X10_wordHere_14 : decode cX10_wordHere 14 = .ok (.iadd, 1) := by decide +kernel
theorem d_X10_wordHere_15 : decode cX10_wordHere 15 = .ok (.invokevirtual 94, 3) := by decide +kernel
theorem d_X10_wordHere_18 : decode cX10_wordHere 18 = .ok (.invokestatic 120, 3) := by decide +kernel
theorem d_X10_wordHere_21 : decode cX10_wordHere 21 = .ok (.ifCond .eq 40, 3) := by decide +kernel
theorem d_X10_wordHere_24 : decode cX10_wordHere 24 = .ok (.iload_n 2, 1) := by decide +kernel
theorem d_X10_wordHere_25 : decode cX10_wordHere 25 = .ok (.bipush 6, 2) := by decide +kernel
theorem d_X10_wordHere_27 : decode cX10_wordHere 27 = .ok (.if_icmp .ge 26, 3) := by decide +kernel
theorem d_X10_wordHere_30 : decode cX10_wordHere 30 = .ok (.bipush 27, 2) := by decide +kernel
theorem d_X10_wordHere_32 : decode cX10_wordHere 32 = .ok (.iload_n 1, 1) := by decide +kernel
theorem d_X10_wordHere_33 : decode cX10_wordHere 33 = .ok (.imul, 1) := by decide +kernel
theorem d_X10_wordHere_34 : decode cX10_wordHere 34 = .ok (.aload_n 0, 1) := by decide +kernel
theorem d_X10_wordHere_35 : decode cX10_wordHere 35 = .ok (.aload_n 0, 1) := by decide +kernel
theorem d_X10_wordHere_36 : decode cX10_wordHere 36 = .ok (.getfield 91, 3) := by decide +kernel
theorem d_X10_wordHere_39 : decode cX10_wordHere 39 = .ok (.iload_n 2, 1) := by decide +kernel
theorem d_X10_wordHere_40 : decode cX10_wordHere 40 = .ok (.iadd, 1) := by decide +kernel
theorem d_X10_wordHere_41 : decode cX10_wordHere 41 = .ok (.invokevirtual 94, 3) := by decide +kernel
theorem d_X10_wordHere_44 : decode cX10_wordHere 44 = .ok (.iadd, 1) := by decide +kernel
theorem d_X10_wordHere_45 : decode cX10_wordHere 45 = .ok (.bipush 97, 2) := by decide +kernel
theorem d_X10_wordHere_47 : decode cX10_wordHere 47 = .ok (.isub, 1) := by decide +kernel
theorem d_X10_wordHere_48 : decode cX10_wordHere 48 = .ok (.iconst 1, 1) := by decide +kernel
theorem d_X10_wordHere_49 : decode cX10_wordHere 49 = .ok (.iadd, 1) := by decide +kernel
theorem d_X10_wordHere_50 : decode cX10_wordHere 50 = .ok (.goto 4, 3) := by decide +kernel
theorem d_X10_wordHere_53 : decode cX10_wordHere 53 = .ok (.iload_n 1, 1) := by decide +kernel
theorem d_X10_wordHere_54 : decode cX10_wordHere 54 = .ok (.istore_n 1, 1) := by decide +kernel
theorem d_X10_wordHere_55 : decode cX10_wordHere 55 = .ok (.iinc 2 1, 3) := by decide +kernel
theorem d_X10_wordHere_58 : decode cX10_wordHere 58 = .ok (.goto (-50), 3) := by decide +kernel
theorem d_X10_wordHere_61 : decode cX10_wordHere 61 = .ok (.iload_n 2, 1) := by decide +kernel
theorem d_X10_wordHere_62 : decode cX10_wordHere 62 = .ok (.bipush 6, 2) := by decide +kernel
theorem d_X10_wordHere_64 : decode cX10_wordHere 64 = .ok (.if_icmp .le 7, 3) := by decide +kernel
theorem d_X10_wordHere_67 : decode cX10_wordHere 67 = .ok (.iconst (-1), 1) := by decide +kernel
theorem d_X10_wordHere_68 : decode cX10_wordHere 68 = .ok (.goto 4, 3) := by decide +kernel
theorem d_X10_wordHere_71 : decode cX10_wordHere 71 = .ok (.iload_n 1, 1) := by decide +kernel
theorem d_X10_wordHere_72 : decode cX10_wordHere 72 = .ok (.ireturn, 1) := by decide +kernel
noncomputable def F_X10_wordHere_54 (self8 : Int32 → Int32 → zMem → Option (Int32 × zMem)) (b54_L2 : Int32) (b54_S0 : Int32) (M : zMem) : Option (Int32 × zMem) :=
  self8 b54_S0 (b54_L2 + 1) M
noncomputable def F_X10_wordHere_8 (self8 : Int32 → Int32 → zMem → Option (Int32 × zMem)) (b8_L1 : Int32) (b8_L2 : Int32) (M : zMem) : Option (Int32 × zMem) :=
  zb (F_X10_byteAt M ((M.1 0 4) + b8_L2)) fun v2 M1 =>
  zb (F_X10_isSmall M1 v2) fun v4 M3 =>
  if v4 = 0 then
    if b8_L2 ≤ (6 : Int32) then
      some (b8_L1, M3)
    else
      some ((-1 : Int32), M3)
  else
    if (6 : Int32) ≤ b8_L2 then
      F_X10_wordHere_54 self8 b8_L2 b8_L1 M3
    else
      zb (F_X10_byteAt M3 ((M3.1 0 4) + b8_L2)) fun v6 M5 =>
      F_X10_wordHere_54 self8 b8_L2 (((((27 : Int32) * b8_L1) + v6) - (97 : Int32)) + (1 : Int32)) M5
noncomputable def F_X10_wordHere (M : zMem)  : Option (Int32 × zMem) :=
  zbv (F_X10_blanks M) fun M7 =>
  itF (fun _ _ _ => none) (F_X10_wordHere_8) zFuel (0 : Int32) (0 : Int32) M7
def rm_X10_wordHere : Room := { frames := 4, cells := 0, slots := 0, locals := 121 }
set_option maxHeartbeats 4000000 in
set_option maxRecDepth 100000 in
theorem c_X10_wordHere (l : Launch) {G : zG} {ad : Nat → Nat} {n : Nat} (hA : zInj ad n) (M : zMem)  (hT : zT shM n 0 11) {r9 : Int32} {M9 : zMem} (hF : F_X10_wordHere M  = some (r9, M9)) : zM l yX10_wordHere cX10_wordHere 3 (some .int) rm_X10_wordHere G shM ad n M [.ref (ad 0)] (some (.int r9)) M9 := by
  refine zM_of hA (by decide +kernel) (lv := [(0, .ref (ad 0))]) (Nat.le_of_ble_eq_true rfl) rfl (fun p e s m args below meth c A cx hr => ?_)
  have hb54 : ∀ (self8 : Int32 → Int32 → zMem → Option (Int32 × zMem)) (hs8 : ∀ (b8_L1 : Int32) (b8_L2 : Int32) (M : zMem), self8 b8_L1 b8_L2 M = some (r9, M9) → zJ p l e rm_X10_wordHere s m args below meth c G shM ad n A 3 (MQ below (zQ G shM ad n M9 (some (.int r9)) A) args s 0 0 A) 0 0 M 8 [(0, .ref (ad 0)), (1, .int b8_L1), (2, .int b8_L2)] []), ∀ (b54_L2 : Int32) (b54_S0 : Int32) (M : zMem), F_X10_wordHere_54 self8 b54_L2 b54_S0 M = some (r9, M9) → zJ p l e rm_X10_wordHere s m args below meth c G shM ad n A 3 (MQ below (zQ G shM ad n M9 (some (.int r9)) A) args s 0 0 A) 0 0 M 54 [(0, .ref (ad 0)), (2, .int b54_L2)] [.int b54_S0] := by
    intro self8 hs8 b54_L2 b54_S0 M hF
    unfold F_X10_wordHere_54 at hF
    refine z_istore_n cx 1 [(1, .int b54_S0), (0, .ref (ad 0)), (2, .int b54_L2)] d_X10_wordHere_54 rfl (by decide) rfl ?_
    refine z_iinc cx 2 1 [(2, .int (b54_L2 + 1)), (1, .int b54_S0), (0, .ref (ad 0))] d_X10_wordHere_55 2 rfl ki_1 (by decide) rfl ?_
    refine z_goto cx 8 d_X10_wordHere_58 (by decide) ?_
    exact z_lv [2, 1, 0] _ rfl (hs8 b54_S0 (b54_L2 + 1) M hF)
  have hL8 : ∀ (fuel : Nat), ∀ (b8_L1 : Int32) (b8_L2 : Int32) (M : zMem), itF (fun _ _ _ => none) (F_X10_wordHere_8) fuel b8_L1 b8_L2 M = some (r9, M9) → zJ p l e rm_X10_wordHere s m args below meth c G shM ad n A 3 (MQ below (zQ G shM ad n M9 (some (.int r9)) A) args s 0 0 A) 0 0 M 8 [(0, .ref (ad 0)), (1, .int b8_L1), (2, .int b8_L2)] [] := by
    intro fuel
    induction fuel with
    | zero => intro b8_L1 b8_L2 M hF; cases hF
    | succ fuel hs8 =>
      intro b8_L1 b8_L2 M hF
      have hF : F_X10_wordHere_8 (itF (fun _ _ _ => none) (F_X10_wordHere_8) fuel) b8_L1 b8_L2 M = some (r9, M9) := hF
      generalize itF (fun _ _ _ => none) (F_X10_wordHere_8) fuel = self8 at hs8 hF
      unfold F_X10_wordHere_8 at hF
      refine z_aload_n cx d_X10_wordHere_8 0 rfl ?_
      refine z_aload_n cx d_X10_wordHere_9 0 rfl ?_
      refine z_getI cx hT fg_SunnyPansModel_91 d_X10_wordHere_10 ?_
      refine z_iload_n cx d_X10_wordHere_13 2 rfl ?_
      refine z_iadd cx d_X10_wordHere_14 ?_
      obtain ⟨v2, M1, hc, hF⟩ := zb_inv hF
      refine z_callV cx (As := [.int ((M.1 0 4) + b8_L2)]) (rest := []) (c_X10_byteAt l cx.2.2.2.1.1 M ((M.1 0 4) + b8_L2) hT hc) hT zo_11 cv_SunnyPansModel_94 ⟨rfl, rfl, Nat.le_of_ble_eq_true rfl, Nat.le_of_ble_eq_true rfl⟩ rfl rfl ⟨Nat.zero_le _, Nat.zero_le _⟩ (Nat.le_of_ble_eq_true rfl) d_X10_wordHere_15 ?_
      obtain ⟨v4, M3, hc, hF⟩ := zb_inv hF
      refine z_callS cx (As := [.int v2]) (rest := []) (c_X10_isSmall l cx.2.2.2.1.1 M1 v2  hc) cs_SunnyPansModel_120 ⟨rfl, rfl, Nat.le_of_ble_eq_true rfl, Nat.le_of_ble_eq_true rfl⟩ rfl rfl ⟨Nat.zero_le _, Nat.zero_le _⟩ (Nat.le_of_ble_eq_true rfl) d_X10_wordHere_18 ?_
      refine z_if_eq cx 61 d_X10_wordHere_21 (by decide) hF (fun hF => ?_) (fun hF => ?_)
      · refine z_iload_n cx d_X10_wordHere_61 2 rfl ?_
        refine z_bipush (v := 6) cx d_X10_wordHere_62 kb_6 ?_
        refine z_icmp_le cx 71 d_X10_wordHere_64 (by decide) hF (fun hF => ?_) (fun hF => ?_)
        · refine z_iload_n cx d_X10_wordHere_71 1 rfl ?_
          exact z_iret cx hr rfl hF d_X10_wordHere_72
        refine z_iconst (v := -1) cx d_X10_wordHere_67 ki_m1 ?_
        refine z_goto cx 72 d_X10_wordHere_68 (by decide) ?_
        exact z_iret cx hr rfl hF d_X10_wordHere_72
      refine z_iload_n cx d_X10_wordHere_24 2 rfl ?_
      refine z_bipush (v := 6) cx d_X10_wordHere_25 kb_6 ?_
      refine z_icmp_ge cx 53 d_X10_wordHere_27 (by decide) hF (fun hF => ?_) (fun hF => ?_)
      · refine z_iload_n cx d_X10_wordHere_53 1 rfl ?_
        exact z_lv [0, 2] _ rfl (hb54 self8 hs8 b8_L2 b8_L1 M3 hF)
      refine z_bipush (v := 27) cx d_X10_wordHere_30 kb_27 ?_
      refine z_iload_n cx d_X10_wordHere_32 1 rfl ?_
      refine z_imul cx d_X10_wordHere_33 ?_
      refine z_aload_n cx d_X10_wordHere_34 0 rfl ?_
      refine z_aload_n cx d_X10_wordHere_35 0 rfl ?_
      refine z_getI cx hT fg_SunnyPansModel_91 d_X10_wordHere_36 ?_
      refine z_iload_n cx d_X10_wordHere_39 2 rfl ?_
      refine z_iadd cx d_X10_wordHere_40 ?_
      obtain ⟨v6, M5, hc, hF⟩ := zb_inv hF
      refine z_callV cx (As := [.int ((M3.1 0 4) + b8_L2)]) (rest := [.int ((27 : Int32) * b8_L1)]) (c_X10_byteAt l cx.2.2.2.1.1 M3 ((M3.1 0 4) + b8_L2) hT hc) hT zo_11 cv_SunnyPansModel_94 ⟨rfl, rfl, Nat.le_of_ble_eq_true rfl, Nat.le_of_ble_eq_true rfl⟩ rfl rfl ⟨Nat.zero_le _, Nat.zero_le _⟩ (Nat.le_of_ble_eq_true rfl) d_X10_wordHere_41 ?_
      refine z_iadd cx d_X10_wordHere_44 ?_
      refine z_bipush (v := 97) cx d_X10_wordHere_45 kb_97 ?_
      refine z_isub cx d_X10_wordHere_47 ?_
      refine z_iconst (v := 1) cx d_X10_wordHere_48 ki_1 ?_
      refine z_iadd cx d_X10_wordHere_49 ?_
      refine z_goto cx 54 d_X10_wordHere_50 (by decide) ?_
      exact z_lv [0, 2] _ rfl (hb54 self8 hs8 b8_L2 (((((27 : Int32) * b8_L1) + v6) - (97 : Int32)) + (1 : Int32)) M5 hF)
  unfold F_X10_wordHere at hF
  refine z_aload_n cx d_X10_wordHere_0 0 rfl ?_
  obtain ⟨M7, hc, hF⟩ := zbv_inv hF
  refine z_callV cx (As := []) (rest := []) (c_X10_blanks l cx.2.2.2.1.1 M hT hc) hT zo_11 cv_SunnyPansModel_104 ⟨rfl, rfl, Nat.le_of_ble_eq_true rfl, Nat.le_of_ble_eq_true rfl⟩ rfl rfl ⟨Nat.zero_le _, Nat.zero_le _⟩ (Nat.le_of_ble_eq_true rfl) d_X10_wordHere_1 ?_
  refine z_iconst (v := 0) cx d_X10_wordHere_4 ki_0 ?_
  refine z_istore_n cx 1 [(1, .int (0 : Int32)), (0, .ref (ad 0))] d_X10_wordHere_5 rfl (by decide) rfl ?_
  refine z_iconst (v := 0) cx d_X10_wordHere_6 ki_0 ?_
  refine z_istore_n cx 2 [(2, .int (0 : Int32)), (1, .int (0 : Int32)), (0, .ref (ad 0))] d_X10_wordHere_7 rfl (by decide) rfl ?_
  exact z_lv [2, 1, 0] _ rfl (hL8 zFuel (0 : Int32) (0 : Int32) M7 hF)
/-! SunnyPansModel.six -/
theorem d_X10_six_0 : decode cX10_six 0 = .ok (.bipush 27, 2) := by decide +kernel
theorem d_X10_six_2 : decode cX10_six 2 = .ok (.bipush 27, 2) := by decide +kernel
theorem d_X10_six_4 : decode cX10_six 4 = .ok (.iload_n 0, 1) := by decide +kernel
theorem d_X10_six_5 : decode cX10_six 5 = .ok (.imul, 1) := by decide +kernel
theorem d_X10_six_6 : decode cX10_six 6 = .ok (.iload_n 1, 1) := by decide +kernel
theorem d_X10_six_7 : decode cX10_six 7 = .ok (.iadd, 1) := by decide +kernel
theorem d_X10_six_8 : decode cX10_six 8 = .ok (.imul, 1) := by decide +kernel
theorem d_X10_six_9 : decode cX10_six 9 = .ok (.iload_n 2, 1) := by decide +kernel
theorem d_X10_six_10 : decode cX10_six 10 = .ok (.iadd, 1) := by decide +kernel
theorem d_X10_six_11 : decode cX10_six 11 = .ok (.istore 6, 2) := by decide +kernel
theorem d_X10_six_13 : decode cX10_six 13 = .ok (.iload_n 3, 1) := by decide +kernel
theorem d_X10_six_14 : decode cX10_six 14 = .ok (.ifCond .ne 8, 3) := by decide +kernel
theorem d_X10_six_17 : decode cX10_six 17 = .ok (.iload 6, 2) := by decide +kernel
theorem d_X10_six_19 : decode cX10_six 19 = .ok (.goto 10, 3) := by decide +kernel
theorem d_X10_six_22 : decode cX10_six 22 = .ok (.bipush 27, 2) := by decide +kernel
theorem d_X10_six_24 : decode cX10_six 24 = .ok (.iload 6, 2) := by decide +kernel
theorem d_X10_six_26 : decode cX10_six 26 = .ok (.imul, 1) := by decide +kernel
theorem d_X10_six_27 : decode cX10_six 27 = .ok (.iload_n 3, 1) := by decide +kernel
theorem d_X10_six_28 : decode cX10_six 28 = .ok (.iadd, 1) := by decide +kernel
theorem d_X10_six_29 : decode cX10_six 29 = .ok (.istore 6, 2) := by decide +kernel
theorem d_X10_six_31 : decode cX10_six 31 = .ok (.iload 4, 2) := by decide +kernel
theorem d_X10_six_33 : decode cX10_six 33 = .ok (.ifCond .ne 8, 3) := by decide +kernel
theorem d_X10_six_36 : decode cX10_six 36 = .ok (.iload 6, 2) := by decide +kernel
theorem d_X10_six_38 : decode cX10_six 38 = .ok (.goto 11, 3) := by decide +kernel
theorem d_X10_six_41 : decode cX10_six 41 = .ok (.bipush 27, 2) := by decide +kernel
theorem d_X10_six_43 : decode cX10_six 43 = .ok (.iload 6, 2) := by decide +kernel
theorem d_X10_six_45 : decode cX10_six 45 = .ok (.imul, 1) := by decide +kernel
theorem d_X10_six_46 : decode cX10_six 46 = .ok (.iload 4, 2) := by decide +kernel
theorem d_X10_six_48 : decode cX10_six 48 = .ok (.iadd, 1) := by decide +kernel
theorem d_X10_six_49 : decode cX10_six 49 = .ok (.istore 6, 2) := by decide +kernel
theorem d_X10_six_51 : decode cX10_six 51 = .ok (.iload 5, 2) := by decide +kernel
theorem d_X10_six_53 : decode cX10_six 53 = .ok (.ifCond .ne 8, 3) := by decide +kernel
theorem d_X10_six_56 : decode cX10_six 56 = .ok (.iload 6, 2) := by decide +kernel
theorem d_X10_six_58 : decode cX10_six 58 = .ok (.goto 11, 3) := by decide +kernel
theorem d_X10_six_61 : decode cX10_six 61 = .ok (.bipush 27, 2) := by decide +kernel
theorem d_X10_six_63 : decode cX10_six 63 = .ok (.iload 6, 2) := by decide +kernel
theorem d_X10_six_65 : decode cX10_six 65 = .ok (.imul, 1) := by decide +kernel
theorem d_X10_six_66 : decode cX10_six 66 = .ok (.iload 5, 2) := by decide +kernel
theorem d_X10_six_68 : decode cX10_six 68 = .ok (.iadd, 1) := by decide +kernel
theorem d_X10_six_69 : decode cX10_six 69 = .ok (.ireturn, 1) := by decide +kernel
noncomputable def F_X10_six_49 (p0 : Int32) (p1 : Int32) (p2 : Int32) (p3 : Int32) (p4 : Int32) (p5 : Int32) (b49_L5 : Int32) (b49_S0 : Int32) (M : zMem) : Option (Int32 × zMem) :=
  if b49_L5 = 0 then
    some (b49_S0, M)
  else
    some ((((27 : Int32) * b49_S0) + b49_L5), M)
noncomputable def F_X10_six_29 (p0 : Int32) (p1 : Int32) (p2 : Int32) (p3 : Int32) (p4 : Int32) (p5 : Int32) (b29_L4 : Int32) (b29_L5 : Int32) (b29_S0 : Int32) (M : zMem) : Option (Int32 × zMem) :=
  if b29_L4 = 0 then
    F_X10_six_49 p0 p1 p2 p3 p4 p5 b29_L5 b29_S0 M
  else
    F_X10_six_49 p0 p1 p2 p3 p4 p5 b29_L5 (((27 : Int32) * b29_S0) + b29_L4) M
noncomputable def F_X10_six (M : zMem) (p0 : Int32) (p1 : Int32) (p2 : Int32) (p3 : Int32) (p4 : Int32) (p5 : Int32) : Option (Int32 × zMem) :=
  zl (((27 : Int32) * (((27 : Int32) * p0) + p1)) + p2) fun v1 =>
  if p3 = 0 then
    F_X10_six_29 p0 p1 p2 p3 p4 p5 p4 p5 v1 M
  else
    F_X10_six_29 p0 p1 p2 p3 p4 p5 p4 p5 (((27 : Int32) * v1) + p3) M
def rm_X10_six : Room := { frames := 2, cells := 0, slots := 0, locals := 80 }
set_option maxHeartbeats 4000000 in
set_option maxRecDepth 100000 in
theorem c_X10_six (l : Launch) {G : zG} {ad : Nat → Nat} {n : Nat} (hA : zInj ad n) (M : zMem) (p0 : Int32) (p1 : Int32) (p2 : Int32) (p3 : Int32) (p4 : Int32) (p5 : Int32) {r9 : Int32} {M9 : zMem} (hF : F_X10_six M p0 p1 p2 p3 p4 p5 = some (r9, M9)) : zM l yX10_six cX10_six 7 (some .int) rm_X10_six G shM ad n M [.int p0, .int p1, .int p2, .int p3, .int p4, .int p5] (some (.int r9)) M9 := by
  refine zM_of hA (by decide +kernel) (lv := [(0, .int p0), (1, .int p1), (2, .int p2), (3, .int p3), (4, .int p4), (5, .int p5)]) (Nat.le_of_ble_eq_true rfl) rfl (fun p e s m args below meth c A cx hr => ?_)
  have hb49 : ∀ (b49_L5 : Int32) (b49_S0 : Int32) (M : zMem), F_X10_six_49 p0 p1 p2 p3 p4 p5 b49_L5 b49_S0 M = some (r9, M9) → zJ p l e rm_X10_six s m args below meth c G shM ad n A 7 (MQ below (zQ G shM ad n M9 (some (.int r9)) A) args s 0 0 A) 0 0 M 49 [(5, .int b49_L5)] [.int b49_S0] := by
    intro b49_L5 b49_S0 M hF
    unfold F_X10_six_49 at hF
    refine z_istore cx 6 [(6, .int b49_S0), (5, .int b49_L5)] d_X10_six_49 (by decide) rfl ?_
    refine z_iload cx d_X10_six_51 1 rfl ?_
    refine z_if_ne cx 61 d_X10_six_53 (by decide) hF (fun hF => ?_) (fun hF => ?_)
    · refine z_bipush (v := 27) cx d_X10_six_61 kb_27 ?_
      refine z_iload cx d_X10_six_63 0 rfl ?_
      refine z_imul cx d_X10_six_65 ?_
      refine z_iload cx d_X10_six_66 1 rfl ?_
      refine z_iadd cx d_X10_six_68 ?_
      exact z_iret cx hr rfl hF d_X10_six_69
    refine z_iload cx d_X10_six_56 0 rfl ?_
    refine z_goto cx 69 d_X10_six_58 (by decide) ?_
    exact z_iret cx hr rfl hF d_X10_six_69
  have hb29 : ∀ (b29_L4 : Int32) (b29_L5 : Int32) (b29_S0 : Int32) (M : zMem), F_X10_six_29 p0 p1 p2 p3 p4 p5 b29_L4 b29_L5 b29_S0 M = some (r9, M9) → zJ p l e rm_X10_six s m args below meth c G shM ad n A 7 (MQ below (zQ G shM ad n M9 (some (.int r9)) A) args s 0 0 A) 0 0 M 29 [(4, .int b29_L4), (5, .int b29_L5)] [.int b29_S0] := by
    intro b29_L4 b29_L5 b29_S0 M hF
    unfold F_X10_six_29 at hF
    refine z_istore cx 6 [(6, .int b29_S0), (4, .int b29_L4), (5, .int b29_L5)] d_X10_six_29 (by decide) rfl ?_
    refine z_iload cx d_X10_six_31 1 rfl ?_
    refine z_if_ne cx 41 d_X10_six_33 (by decide) hF (fun hF => ?_) (fun hF => ?_)
    · refine z_bipush (v := 27) cx d_X10_six_41 kb_27 ?_
      refine z_iload cx d_X10_six_43 0 rfl ?_
      refine z_imul cx d_X10_six_45 ?_
      refine z_iload cx d_X10_six_46 1 rfl ?_
      refine z_iadd cx d_X10_six_48 ?_
      exact z_lv [2] _ rfl (hb49 b29_L5 (((27 : Int32) * b29_S0) + b29_L4) M hF)
    refine z_iload cx d_X10_six_36 0 rfl ?_
    refine z_goto cx 49 d_X10_six_38 (by decide) ?_
    exact z_lv [2] _ rfl (hb49 b29_L5 b29_S0 M hF)
  unfold F_X10_six at hF
  refine z_bipush (v := 27) cx d_X10_six_0 kb_27 ?_
  refine z_bipush (v := 27) cx d_X10_six_2 kb_27 ?_
  refine z_iload_n cx d_X10_six_4 0 rfl ?_
  refine z_imul cx d_X10_six_5 ?_
  refine z_iload_n cx d_X10_six_6 1 rfl ?_
  refine z_iadd cx d_X10_six_7 ?_
  refine z_imul cx d_X10_six_8 ?_
  refine z_iload_n cx d_X10_six_9 2 rfl ?_
  refine z_iadd cx d_X10_six_10 ?_
  refine z_nm hF (fun v1 hF => ?_)
  refine z_istore cx 6 [(6, .int v1), (0, .int p0), (1, .int p1), (2, .int p2), (3, .int p3), (4, .int p4), (5, .int p5)] d_X10_six_11 (by decide) rfl ?_
  refine z_iload_n cx d_X10_six_13 4 rfl ?_
  refine z_if_ne cx 22 d_X10_six_14 (by decide) hF (fun hF => ?_) (fun hF => ?_)
  · refine z_bipush (v := 27) cx d_X10_six_22 kb_27 ?_
    refine z_iload cx d_X10_six_24 0 rfl ?_
    refine z_imul cx d_X10_six_26 ?_
    refine z_iload_n cx d_X10_six_27 4 rfl ?_
    refine z_iadd cx d_X10_six_28 ?_
    exact z_lv [5, 6] _ rfl (hb29 p4 p5 (((27 : Int32) * v1) + p3) M hF)
  refine z_iload cx d_X10_six_17 0 rfl ?_
  refine z_goto cx 29 d_X10_six_19 (by decide) ?_
  exact z_lv [5, 6] _ rfl (hb29 p4 p5 v1 M hF)
/-! SunnyPansModel.isWord -/
set_option maxRecDepth 100000 in
theorem wd_1562 : Cond.code yX10_wordHere cX10_wordHere 3 (some .int) ∈ tbG := tw7 22 rfl rfl
set_option maxRecDepth 100000 in
theorem wd_1559 : Cond.methodLink "SunnyPansModel" 123 yX10_wordHere ∈ tbG := tw7 19 rfl rfl
set_option maxRecDepth 100000 in
theorem wd_1561 : Cond.instanceMethod yX10_wordHere ∈ tbG := tw7 21 rfl rfl
theorem wd_50 : Cond.selects "SunnyPansModel" yX10_wordHere yX10_wordHere ∈ tbG := tw 50 (by decide +kernel) rfl
theorem cv_SunnyPansModel_123 : zCV "SunnyPansModel" 123 "SunnyPansModel" yX10_wordHere cX10_wordHere 3 (some .int) 0 := zCV_of wd_1559 wd_1561 wd_50 wd_111 wd_1562 (by decide +kernel)
set_option maxRecDepth 100000 in
theorem wd_1568 : Cond.code yX10_six cX10_six 7 (some .int) ∈ tbG := tw7 28 rfl rfl
set_option maxRecDepth 100000 in
theorem wd_1566 : Cond.methodLink "SunnyPansModel" 127 yX10_six ∈ tbG := tw7 26 rfl rfl
set_option maxRecDepth 100000 in
theorem wd_1567 : Cond.static yX10_six ∈ tbG := tw7 27 rfl rfl
theorem cs_SunnyPansModel_127 : zCS "SunnyPansModel" 127 yX10_six cX10_six 7 (some .int) 6 := zCS_of wd_1566 wd_1567 wd_111 wd_1568 (by decide +kernel)
theorem d_X10_isWord_0 : decode cX10_isWord 0 = .ok (.aload_n 0, 1) := by decide +kernel
theorem d_X10_isWord_1 : decode cX10_isWord 1 = .ok (.getfield 98, 3) := by decide +kernel
theorem d_X10_isWord_4 : decode cX10_isWord 4 = .ok (.ifCond .ne 26, 3) := by decide +kernel
theorem d_X10_isWord_7 : decode cX10_isWord 7 = .ok (.aload_n 0, 1) := by decide +kernel
theorem d_X10_isWord_8 : decode cX10_isWord 8 = .ok (.invokevirtual 123, 3) := by decide +kernel
theorem d_X10_isWord_11 : decode cX10_isWord 11 = .ok (.iload_n 1, 1) := by decide +kernel
theorem d_X10_isWord_12 : decode cX10_isWord 12 = .ok (.iload_n 2, 1) := by decide +kernel
theorem d_X10_isWord_13 : decode cX10_isWord 13 = .ok (.iload_n 3, 1) := by decide +kernel
theorem d_X10_isWord_14 : decode cX10_isWord 14 = .ok (.iload 4, 2) := by decide +kernel
theorem d_X10_isWord_16 : decode cX10_isWord 16 = .ok (.iload 5, 2) := by decide +kernel
theorem d_X10_isWord_18 : decode cX10_isWord 18 = .ok (.iload 6, 2) := by decide +kernel
theorem d_X10_isWord_20 : decode cX10_isWord 20 = .ok (.invokestatic 127, 3) := by decide +kernel
theorem d_X10_isWord_23 : decode cX10_isWord 23 = .ok (.if_icmp .ne 7, 3) := by decide +kernel
theorem d_X10_isWord_26 : decode cX10_isWord 26 = .ok (.iconst 1, 1) := by decide +kernel
theorem d_X10_isWord_27 : decode cX10_isWord 27 = .ok (.goto 4, 3) := by decide +kernel
theorem d_X10_isWord_30 : decode cX10_isWord 30 = .ok (.iconst 0, 1) := by decide +kernel
theorem d_X10_isWord_31 : decode cX10_isWord 31 = .ok (.ireturn, 1) := by decide +kernel
noncomputable def F_X10_isWord (M : zMem) (p0 : Int32) (p1 : Int32) (p2 : Int32) (p3 : Int32) (p4 : Int32) (p5 : Int32) : Option (Int32 × zMem) :=
  if (M.1 0 5) = 0 then
    zb (F_X10_wordHere M) fun v2 M1 =>
    zb (F_X10_six M1 p0 p1 p2 p3 p4 p5) fun v4 M3 =>
    if v2 = v4 then
      some ((1 : Int32), M3)
    else
      some ((0 : Int32), M3)
  else
    some ((0 : Int32), M)
def rm_X10_isWord : Room := { frames := 5, cells := 0, slots := 0, locals := 143 }
set_option maxHeartbeats 4000000 in
set_option maxRecDepth 100000 in
theorem c_X10_isWord (l : Launch) {G : zG} {ad : Nat → Nat} {n : Nat} (hA : zInj ad n) (M : zMem) (p0 : Int32) (p1 : Int32) (p2 : Int32) (p3 : Int32) (p4 : Int32) (p5 : Int32) (hT : zT shM n 0 11) {r9 : Int32} {M9 : zMem} (hF : F_X10_isWord M p0 p1 p2 p3 p4 p5 = some (r9, M9)) : zM l yX10_isWord cX10_isWord 7 (some .boolean) rm_X10_isWord G shM ad n M [.ref (ad 0), .int p0, .int p1, .int p2, .int p3, .int p4, .int p5] (some (.int r9)) M9 := by
  refine zM_of hA (by decide +kernel) (lv := [(0, .ref (ad 0)), (1, .int p0), (2, .int p1), (3, .int p2), (4, .int p3), (5, .int p4), (6, .int p5)]) (Nat.le_of_ble_eq_true rfl) rfl (fun p e s m args below meth c A cx hr => ?_)
  unfold F_X10_isWord at hF
  refine z_aload_n cx d_X10_isWord_0 0 rfl ?_
  refine z_getI cx hT fg_SunnyPansModel_98 d_X10_isWord_1 ?_
  refine z_if_ne cx 30 d_X10_isWord_4 (by decide) hF (fun hF => ?_) (fun hF => ?_)
  · refine z_iconst (v := 0) cx d_X10_isWord_30 ki_0 ?_
    exact z_iret cx hr nb0 hF d_X10_isWord_31
  refine z_aload_n cx d_X10_isWord_7 0 rfl ?_
  obtain ⟨v2, M1, hc, hF⟩ := zb_inv hF
  refine z_callV cx (As := []) (rest := []) (c_X10_wordHere l cx.2.2.2.1.1 M hT hc) hT zo_11 cv_SunnyPansModel_123 ⟨rfl, rfl, Nat.le_of_ble_eq_true rfl, Nat.le_of_ble_eq_true rfl⟩ rfl rfl ⟨Nat.zero_le _, Nat.zero_le _⟩ (Nat.le_of_ble_eq_true rfl) d_X10_isWord_8 ?_
  refine z_iload_n cx d_X10_isWord_11 1 rfl ?_
  refine z_iload_n cx d_X10_isWord_12 2 rfl ?_
  refine z_iload_n cx d_X10_isWord_13 3 rfl ?_
  refine z_iload cx d_X10_isWord_14 4 rfl ?_
  refine z_iload cx d_X10_isWord_16 5 rfl ?_
  refine z_iload cx d_X10_isWord_18 6 rfl ?_
  obtain ⟨v4, M3, hc, hF⟩ := zb_inv hF
  refine z_callS cx (As := [.int p0, .int p1, .int p2, .int p3, .int p4, .int p5]) (rest := [.int v2]) (c_X10_six l cx.2.2.2.1.1 M1 p0 p1 p2 p3 p4 p5  hc) cs_SunnyPansModel_127 ⟨rfl, rfl, Nat.le_of_ble_eq_true rfl, Nat.le_of_ble_eq_true rfl⟩ rfl rfl ⟨Nat.zero_le _, Nat.zero_le _⟩ (Nat.le_of_ble_eq_true rfl) d_X10_isWord_20 ?_
  refine z_icmp_ne cx 30 d_X10_isWord_23 (by decide) hF (fun hF => ?_) (fun hF => ?_)
  · refine z_iconst (v := 0) cx d_X10_isWord_30 ki_0 ?_
    exact z_iret cx hr nb0 hF d_X10_isWord_31
  refine z_iconst (v := 1) cx d_X10_isWord_26 ki_1 ?_
  refine z_goto cx 31 d_X10_isWord_27 (by decide) ?_
  exact z_iret cx hr nb1 hF d_X10_isWord_31
/-! SunnyPansModel.skipWord -/
theorem d_X10_skipWord_0 : decode cX10_skipWord 0 = .ok (.aload_n 0, 1) := by decide +kernel
theorem d_X10_skipWord_1 : decode cX10_skipWord 1 = .ok (.aload_n 0, 1) := by decide +kernel
theorem d_X10_skipWord_2 : decode cX10_skipWord 2 = .ok (.getfield 91, 3) := by decide +kernel
theorem d_X10_skipWord_5 : decode cX10_skipWord 5 = .ok (.invokevirtual 94, 3) := by decide +kernel
theorem d_X10_skipWord_8 : decode cX10_skipWord 8 = .ok (.invokestatic 120, 3) := by decide +kernel
theorem d_X10_skipWord_11 : decode cX10_skipWord 11 = .ok (.ifCond .eq 16, 3) := by decide +kernel
theorem d_X10_skipWord_14 : decode cX10_skipWord 14 = .ok (.aload_n 0, 1) := by decide +kernel
theorem d_X10_skipWord_15 : decode cX10_skipWord 15 = .ok (.dup, 1) := by decide +kernel
theorem d_X10_skipWord_16 : decode cX10_skipWord 16 = .ok (.getfield 91, 3) := by decide +kernel
theorem d_X10_skipWord_19 : decode cX10_skipWord 19 = .ok (.iconst 1, 1) := by decide +kernel
theorem d_X10_skipWord_20 : decode cX10_skipWord 20 = .ok (.iadd, 1) := by decide +kernel
theorem d_X10_skipWord_21 : decode cX10_skipWord 21 = .ok (.putfield 91, 3) := by decide +kernel
theorem d_X10_skipWord_24 : decode cX10_skipWord 24 = .ok (.goto (-24), 3) := by decide +kernel
theorem d_X10_skipWord_27 : decode cX10_skipWord 27 = .ok (.return_, 1) := by decide +kernel
noncomputable def F_X10_skipWord_0 (self0 : zMem → Option (zMem)) (M : zMem) : Option (zMem) :=
  zb (F_X10_byteAt M (M.1 0 4)) fun v2 M1 =>
  zb (F_X10_isSmall M1 v2) fun v4 M3 =>
  if v4 = 0 then
    some M3
  else
    zl (zI M3 0 4 ((M3.1 0 4) + (1 : Int32))) fun M5 =>
    self0  M5
noncomputable def F_X10_skipWord (M : zMem)  : Option (zMem) :=
  itF (fun _ => none) (F_X10_skipWord_0) zFuel  M
def rm_X10_skipWord : Room := { frames := 3, cells := 0, slots := 0, locals := 101 }
set_option maxHeartbeats 4000000 in
set_option maxRecDepth 100000 in
theorem c_X10_skipWord (l : Launch) {G : zG} {ad : Nat → Nat} {n : Nat} (hA : zInj ad n) (M : zMem)  (hT : zT shM n 0 11) {M9 : zMem} (hF : F_X10_skipWord M  = some M9) : zM l yX10_skipWord cX10_skipWord 1 none rm_X10_skipWord G shM ad n M [.ref (ad 0)] none M9 := by
  refine zM_of hA (by decide +kernel) (lv := [(0, .ref (ad 0))]) (Nat.le_of_ble_eq_true rfl) rfl (fun p e s m args below meth c A cx hr => ?_)
  have hL0 : ∀ (fuel : Nat), ∀ (M : zMem), itF (fun _ => none) (F_X10_skipWord_0) fuel M = some M9 → zJ p l e rm_X10_skipWord s m args below meth c G shM ad n A 1 (MQ below (zQ G shM ad n M9 none A) args s 0 0 A) 0 0 M 0 [(0, .ref (ad 0))] [] := by
    intro fuel
    induction fuel with
    | zero => intro M hF; cases hF
    | succ fuel hs0 =>
      intro M hF
      have hF : F_X10_skipWord_0 (itF (fun _ => none) (F_X10_skipWord_0) fuel) M = some M9 := hF
      generalize itF (fun _ => none) (F_X10_skipWord_0) fuel = self0 at hs0 hF
      unfold F_X10_skipWord_0 at hF
      refine z_aload_n cx d_X10_skipWord_0 0 rfl ?_
      refine z_aload_n cx d_X10_skipWord_1 0 rfl ?_
      refine z_getI cx hT fg_SunnyPansModel_91 d_X10_skipWord_2 ?_
      obtain ⟨v2, M1, hc, hF⟩ := zb_inv hF
      refine z_callV cx (As := [.int (M.1 0 4)]) (rest := []) (c_X10_byteAt l cx.2.2.2.1.1 M (M.1 0 4) hT hc) hT zo_11 cv_SunnyPansModel_94 ⟨rfl, rfl, Nat.le_of_ble_eq_true rfl, Nat.le_of_ble_eq_true rfl⟩ rfl rfl ⟨Nat.zero_le _, Nat.zero_le _⟩ (Nat.le_of_ble_eq_true rfl) d_X10_skipWord_5 ?_
      obtain ⟨v4, M3, hc, hF⟩ := zb_inv hF
      refine z_callS cx (As := [.int v2]) (rest := []) (c_X10_isSmall l cx.2.2.2.1.1 M1 v2  hc) cs_SunnyPansModel_120 ⟨rfl, rfl, Nat.le_of_ble_eq_true rfl, Nat.le_of_ble_eq_true rfl⟩ rfl rfl ⟨Nat.zero_le _, Nat.zero_le _⟩ (Nat.le_of_ble_eq_true rfl) d_X10_skipWord_8 ?_
      refine z_if_eq cx 27 d_X10_skipWord_11 (by decide) hF (fun hF => ?_) (fun hF => ?_)
      · exact z_vret cx hr hF d_X10_skipWord_27
      refine z_aload_n cx d_X10_skipWord_14 0 rfl ?_
      refine z_dup cx d_X10_skipWord_15 rfl ?_
      refine z_getI cx hT fg_SunnyPansModel_91 d_X10_skipWord_16 ?_
      refine z_iconst (v := 1) cx d_X10_skipWord_19 ki_1 ?_
      refine z_iadd cx d_X10_skipWord_20 ?_
      refine z_putI cx hT fp_SunnyPansModel_91 d_X10_skipWord_21 ?_
      refine z_nmM hF (fun M5 hF => ?_)
      refine z_goto cx 0 d_X10_skipWord_24 (by decide) ?_
      exact hs0 M5 hF
  unfold F_X10_skipWord at hF
  exact hL0 zFuel M hF
/-! SunnyPansModel.takes -/
set_option maxRecDepth 100000 in
theorem wd_1558 : Cond.code yX10_isWord cX10_isWord 7 (some .boolean) ∈ tbG := tw7 18 rfl rfl
set_option maxRecDepth 100000 in
theorem wd_1555 : Cond.methodLink "SunnyPansModel" 131 yX10_isWord ∈ tbG := tw7 15 rfl rfl
set_option maxRecDepth 100000 in
theorem wd_1557 : Cond.instanceMethod yX10_isWord ∈ tbG := tw7 17 rfl rfl
theorem wd_49 : Cond.selects "SunnyPansModel" yX10_isWord yX10_isWord ∈ tbG := tw 49 (by decide +kernel) rfl
theorem cv_SunnyPansModel_131 : zCV "SunnyPansModel" 131 "SunnyPansModel" yX10_isWord cX10_isWord 7 (some .boolean) 6 := zCV_of wd_1555 wd_1557 wd_49 wd_111 wd_1558 (by decide +kernel)
set_option maxRecDepth 100000 in
theorem wd_1576 : Cond.code yX10_skipWord cX10_skipWord 1 none ∈ tbG := tw7 36 rfl rfl
set_option maxRecDepth 100000 in
theorem wd_1573 : Cond.methodLink "SunnyPansModel" 135 yX10_skipWord ∈ tbG := tw7 33 rfl rfl
set_option maxRecDepth 100000 in
theorem wd_1575 : Cond.instanceMethod yX10_skipWord ∈ tbG := tw7 35 rfl rfl
theorem wd_52 : Cond.selects "SunnyPansModel" yX10_skipWord yX10_skipWord ∈ tbG := tw 52 (by decide +kernel) rfl
theorem cv_SunnyPansModel_135 : zCV "SunnyPansModel" 135 "SunnyPansModel" yX10_skipWord cX10_skipWord 1 none 0 := zCV_of wd_1573 wd_1575 wd_52 wd_111 wd_1576 (by decide +kernel)
theorem d_X10_takes_0 : decode cX10_takes 0 = .ok (.aload_n 0, 1) := by decide +kernel
theorem d_X10_takes_1 : decode cX10_takes 1 = .ok (.iload_n 1, 1) := by decide +kernel
theorem d_X10_takes_2 : decode cX10_takes 2 = .ok (.iload_n 2, 1) := by decide +kernel
theorem d_X10_takes_3 : decode cX10_takes 3 = .ok (.iload_n 3, 1) := by decide +kernel
theorem d_X10_takes_4 : decode cX10_takes 4 = .ok (.iload 4, 2) := by decide +kernel
theorem d_X10_takes_6 : decode cX10_takes 6 = .ok (.iload 5, 2) := by decide +kernel
theorem d_X10_takes_8 : decode cX10_takes 8 = .ok (.iload 6, 2) := by decide +kernel
theorem d_X10_takes_10 : decode cX10_takes 10 = .ok (.invokevirtual 131, 3) := by decide +kernel
theorem d_X10_takes_13 : decode cX10_takes 13 = .ok (.istore 7, 2) := by decide +kernel
theorem d_X10_takes_15 : decode cX10_takes 15 = .ok (.iload 7, 2) := by decide +kernel
theorem d_X10_takes_17 : decode cX10_takes 17 = .ok (.ifCond .eq 7, 3) := by decide +kernel
theorem d_X10_takes_20 : decode cX10_takes 20 = .ok (.aload_n 0, 1) := by decide +kernel
theorem d_X10_takes_21 : decode cX10_takes 21 = .ok (.invokevirtual 135, 3) := by decide +kernel
theorem d_X10_takes_24 : decode cX10_takes 24 = .ok (.iload 7, 2) := by decide +kernel
theorem d_X10_takes_26 : decode cX10_takes 26 = .ok (.ireturn, 1) := by decide +kernel
noncomputable def F_X10_takes (M : zMem) (p0 : Int32) (p1 : Int32) (p2 : Int32) (p3 : Int32) (p4 : Int32) (p5 : Int32) : Option (Int32 × zMem) :=
  zb (F_X10_isWord M p0 p1 p2 p3 p4 p5) fun v2 M1 =>
  if v2 = 0 then
    gd (v2 == 0 || v2 == 1) <|
    some (v2, M1)
  else
    zbv (F_X10_skipWord M1) fun M4 =>
    gd (v2 == 0 || v2 == 1) <|
    some (v2, M4)
def rm_X10_takes : Room := { frames := 6, cells := 0, slots := 0, locals := 169 }
set_option maxHeartbeats 4000000 in
set_option maxRecDepth 100000 in
theorem c_X10_takes (l : Launch) {G : zG} {ad : Nat → Nat} {n : Nat} (hA : zInj ad n) (M : zMem) (p0 : Int32) (p1 : Int32) (p2 : Int32) (p3 : Int32) (p4 : Int32) (p5 : Int32) (hT : zT shM n 0 11) {r9 : Int32} {M9 : zMem} (hF : F_X10_takes M p0 p1 p2 p3 p4 p5 = some (r9, M9)) : zM l yX10_takes cX10_takes 8 (some .boolean) rm_X10_takes G shM ad n M [.ref (ad 0), .int p0, .int p1, .int p2, .int p3, .int p4, .int p5] (some (.int r9)) M9 := by
  refine zM_of hA (by decide +kernel) (lv := [(0, .ref (ad 0)), (1, .int p0), (2, .int p1), (3, .int p2), (4, .int p3), (5, .int p4), (6, .int p5)]) (Nat.le_of_ble_eq_true rfl) rfl (fun p e s m args below meth c A cx hr => ?_)
  unfold F_X10_takes at hF
  refine z_aload_n cx d_X10_takes_0 0 rfl ?_
  refine z_iload_n cx d_X10_takes_1 1 rfl ?_
  refine z_iload_n cx d_X10_takes_2 2 rfl ?_
  refine z_iload_n cx d_X10_takes_3 3 rfl ?_
  refine z_iload cx d_X10_takes_4 4 rfl ?_
  refine z_iload cx d_X10_takes_6 5 rfl ?_
  refine z_iload cx d_X10_takes_8 6 rfl ?_
  obtain ⟨v2, M1, hc, hF⟩ := zb_inv hF
  refine z_callV cx (As := [.int p0, .int p1, .int p2, .int p3, .int p4, .int p5]) (rest := []) (c_X10_isWord l cx.2.2.2.1.1 M p0 p1 p2 p3 p4 p5 hT hc) hT zo_11 cv_SunnyPansModel_131 ⟨rfl, rfl, Nat.le_of_ble_eq_true rfl, Nat.le_of_ble_eq_true rfl⟩ rfl rfl ⟨Nat.zero_le _, Nat.zero_le _⟩ (Nat.le_of_ble_eq_true rfl) d_X10_takes_10 ?_
  refine z_istore cx 7 [(7, .int v2), (0, .ref (ad 0)), (1, .int p0), (2, .int p1), (3, .int p2), (4, .int p3), (5, .int p4), (6, .int p5)] d_X10_takes_13 (by decide) rfl ?_
  refine z_iload cx d_X10_takes_15 0 rfl ?_
  refine z_if_eq cx 24 d_X10_takes_17 (by decide) hF (fun hF => ?_) (fun hF => ?_)
  · refine z_iload cx d_X10_takes_24 0 rfl ?_
    obtain ⟨hn3, hF⟩ := gd_inv hF
    exact z_iret cx hr (nbx hn3) hF d_X10_takes_26
  refine z_aload_n cx d_X10_takes_20 1 rfl ?_
  obtain ⟨M4, hc, hF⟩ := zbv_inv hF
  refine z_callV cx (As := []) (rest := []) (c_X10_skipWord l cx.2.2.2.1.1 M1 hT hc) hT zo_11 cv_SunnyPansModel_135 ⟨rfl, rfl, Nat.le_of_ble_eq_true rfl, Nat.le_of_ble_eq_true rfl⟩ rfl rfl ⟨Nat.zero_le _, Nat.zero_le _⟩ (Nat.le_of_ble_eq_true rfl) d_X10_takes_21 ?_
  refine z_iload cx d_X10_takes_24 0 rfl ?_
  obtain ⟨hn5, hF⟩ := gd_inv hF
  exact z_iret cx hr (nbx hn5) hF d_X10_takes_26
/-! SunnyPansModel.sign -/
theorem d_X10_sign_0 : decode cX10_sign 0 = .ok (.aload_n 0, 1) := by decide +kernel
theorem d_X10_sign_1 : decode cX10_sign 1 = .ok (.getfield 98, 3) := by decide +kernel
theorem d_X10_sign_4 : decode cX10_sign 4 = .ok (.ifCond .eq 4, 3) := by decide +kernel
theorem d_X10_sign_7 : decode cX10_sign 7 = .ok (.return_, 1) := by decide +kernel
theorem d_X10_sign_8 : decode cX10_sign 8 = .ok (.aload_n 0, 1) := by decide +kernel
theorem d_X10_sign_9 : decode cX10_sign 9 = .ok (.invokevirtual 104, 3) := by decide +kernel
theorem d_X10_sign_12 : decode cX10_sign 12 = .ok (.aload_n 0, 1) := by decide +kernel
theorem d_X10_sign_13 : decode cX10_sign 13 = .ok (.aload_n 0, 1) := by decide +kernel
theorem d_X10_sign_14 : decode cX10_sign 14 = .ok (.getfield 91, 3) := by decide +kernel
theorem d_X10_sign_17 : decode cX10_sign 17 = .ok (.invokevirtual 94, 3) := by decide +kernel
theorem d_X10_sign_20 : decode cX10_sign 20 = .ok (.iload_n 1, 1) := by decide +kernel
theorem d_X10_sign_21 : decode cX10_sign 21 = .ok (.if_icmp .ne 16, 3) := by decide +kernel
theorem d_X10_sign_24 : decode cX10_sign 24 = .ok (.aload_n 0, 1) := by decide +kernel
theorem d_X10_sign_25 : decode cX10_sign 25 = .ok (.dup, 1) := by decide +kernel
theorem d_X10_sign_26 : decode cX10_sign 26 = .ok (.getfield 91, 3) := by decide +kernel
theorem d_X10_sign_29 : decode cX10_sign 29 = .ok (.iconst 1, 1) := by decide +kernel
theorem d_X10_sign_30 : decode cX10_sign 30 = .ok (.iadd, 1) := by decide +kernel
theorem d_X10_sign_31 : decode cX10_sign 31 = .ok (.putfield 91, 3) := by decide +kernel
theorem d_X10_sign_34 : decode cX10_sign 34 = .ok (.goto 12, 3) := by decide +kernel
theorem d_X10_sign_37 : decode cX10_sign 37 = .ok (.aload_n 0, 1) := by decide +kernel
theorem d_X10_sign_38 : decode cX10_sign 38 = .ok (.iconst 1, 1) := by decide +kernel
theorem d_X10_sign_39 : decode cX10_sign 39 = .ok (.aload_n 0, 1) := by decide +kernel
theorem d_X10_sign_40 : decode cX10_sign 40 = .ok (.getfield 91, 3) := by decide +kernel
theorem d_X10_sign_43 : decode cX10_sign 43 = .ok (.invokevirtual 111, 3) := by decide +kernel
theorem d_X10_sign_46 : decode cX10_sign 46 = .ok (.return_, 1) := by decide +kernel
noncomputable def F_X10_sign (M : zMem) (p0 : Int32) : Option (zMem) :=
  if (M.1 0 5) = 0 then
    zbv (F_X10_blanks M) fun M1 =>
    zb (F_X10_byteAt M1 (M1.1 0 4)) fun v3 M2 =>
    if v3 = p0 then
      zl (zI M2 0 4 ((M2.1 0 4) + (1 : Int32))) fun M5 =>
      some M5
    else
      zbv (F_X10_wrong M2 (1 : Int32) (M2.1 0 4)) fun M4 =>
      some M4
  else
    some M
def rm_X10_sign : Room := { frames := 4, cells := 0, slots := 0, locals := 121 }
set_option maxHeartbeats 4000000 in
set_option maxRecDepth 100000 in
theorem c_X10_sign (l : Launch) {G : zG} {ad : Nat → Nat} {n : Nat} (hA : zInj ad n) (M : zMem) (p0 : Int32) (hT : zT shM n 0 11) {M9 : zMem} (hF : F_X10_sign M p0 = some M9) : zM l yX10_sign cX10_sign 2 none rm_X10_sign G shM ad n M [.ref (ad 0), .int p0] none M9 := by
  refine zM_of hA (by decide +kernel) (lv := [(0, .ref (ad 0)), (1, .int p0)]) (Nat.le_of_ble_eq_true rfl) rfl (fun p e s m args below meth c A cx hr => ?_)
  unfold F_X10_sign at hF
  refine z_aload_n cx d_X10_sign_0 0 rfl ?_
  refine z_getI cx hT fg_SunnyPansModel_98 d_X10_sign_1 ?_
  refine z_if_eq cx 8 d_X10_sign_4 (by decide) hF (fun hF => ?_) (fun hF => ?_)
  · refine z_aload_n cx d_X10_sign_8 0 rfl ?_
    obtain ⟨M1, hc, hF⟩ := zbv_inv hF
    refine z_callV cx (As := []) (rest := []) (c_X10_blanks l cx.2.2.2.1.1 M hT hc) hT zo_11 cv_SunnyPansModel_104 ⟨rfl, rfl, Nat.le_of_ble_eq_true rfl, Nat.le_of_ble_eq_true rfl⟩ rfl rfl ⟨Nat.zero_le _, Nat.zero_le _⟩ (Nat.le_of_ble_eq_true rfl) d_X10_sign_9 ?_
    refine z_aload_n cx d_X10_sign_12 0 rfl ?_
    refine z_aload_n cx d_X10_sign_13 0 rfl ?_
    refine z_getI cx hT fg_SunnyPansModel_91 d_X10_sign_14 ?_
    obtain ⟨v3, M2, hc, hF⟩ := zb_inv hF
    refine z_callV cx (As := [.int (M1.1 0 4)]) (rest := []) (c_X10_byteAt l cx.2.2.2.1.1 M1 (M1.1 0 4) hT hc) hT zo_11 cv_SunnyPansModel_94 ⟨rfl, rfl, Nat.le_of_ble_eq_true rfl, Nat.le_of_ble_eq_true rfl⟩ rfl rfl ⟨Nat.zero_le _, Nat.zero_le _⟩ (Nat.le_of_ble_eq_true rfl) d_X10_sign_17 ?_
    refine z_iload_n cx d_X10_sign_20 1 rfl ?_
    refine z_icmp_ne cx 37 d_X10_sign_21 (by decide) hF (fun hF => ?_) (fun hF => ?_)
    · refine z_aload_n cx d_X10_sign_37 0 rfl ?_
      refine z_iconst (v := 1) cx d_X10_sign_38 ki_1 ?_
      refine z_aload_n cx d_X10_sign_39 0 rfl ?_
      refine z_getI cx hT fg_SunnyPansModel_91 d_X10_sign_40 ?_
      obtain ⟨M4, hc, hF⟩ := zbv_inv hF
      refine z_callV cx (As := [.int (1 : Int32), .int (M2.1 0 4)]) (rest := []) (c_X10_wrong l cx.2.2.2.1.1 M2 (1 : Int32) (M2.1 0 4) hT hc) hT zo_11 cv_SunnyPansModel_111 ⟨rfl, rfl, Nat.le_of_ble_eq_true rfl, Nat.le_of_ble_eq_true rfl⟩ rfl rfl ⟨Nat.zero_le _, Nat.zero_le _⟩ (Nat.le_of_ble_eq_true rfl) d_X10_sign_43 ?_
      exact z_vret cx hr hF d_X10_sign_46
    refine z_aload_n cx d_X10_sign_24 0 rfl ?_
    refine z_dup cx d_X10_sign_25 rfl ?_
    refine z_getI cx hT fg_SunnyPansModel_91 d_X10_sign_26 ?_
    refine z_iconst (v := 1) cx d_X10_sign_29 ki_1 ?_
    refine z_iadd cx d_X10_sign_30 ?_
    refine z_putI cx hT fp_SunnyPansModel_91 d_X10_sign_31 ?_
    refine z_nmM hF (fun M5 hF => ?_)
    refine z_goto cx 46 d_X10_sign_34 (by decide) ?_
    exact z_vret cx hr hF d_X10_sign_46
  exact z_vret cx hr hF d_X10_sign_7
/-! SunnyPansModel.takesSign -/
theorem d_X10_takesSign_0 : decode cX10_takesSign 0 = .ok (.aload_n 0, 1) := by decide +kernel
theorem d_X10_takesSign_1 : decode cX10_takesSign 1 = .ok (.getfield 98, 3) := by decide +kernel
theorem d_X10_takesSign_4 : decode cX10_takesSign 4 = .ok (.ifCond .eq 5, 3) := by decide +kernel
theorem d_X10_takesSign_7 : decode cX10_takesSign 7 = .ok (.iconst 0, 1) := by decide +kernel
theorem d_X10_takesSign_8 : decode cX10_takesSign 8 = .ok (.ireturn, 1) := by decide +kernel
theorem d_X10_takesSign_9 : decode cX10_takesSign 9 = .ok (.aload_n 0, 1) := by decide +kernel
theorem d_X10_takesSign_10 : decode cX10_takesSign 10 = .ok (.invokevirtual 104, 3) := by decide +kernel
theorem d_X10_takesSign_13 : decode cX10_takesSign 13 = .ok (.aload_n 0, 1) := by decide +kernel
theorem d_X10_takesSign_14 : decode cX10_takesSign 14 = .ok (.aload_n 0, 1) := by decide +kernel
theorem d_X10_takesSign_15 : decode cX10_takesSign 15 = .ok (.getfield 91, 3) := by decide +kernel
theorem d_X10_takesSign_18 : decode cX10_takesSign 18 = .ok (.invokevirtual 94, 3) := by decide +kernel
theorem d_X10_takesSign_21 : decode cX10_takesSign 21 = .ok (.iload_n 1, 1) := by decide +kernel
theorem d_X10_takesSign_22 : decode cX10_takesSign 22 = .ok (.if_icmp .ne 7, 3) := by decide +kernel
theorem d_X10_takesSign_25 : decode cX10_takesSign 25 = .ok (.iconst 1, 1) := by decide +kernel
theorem d_X10_takesSign_26 : decode cX10_takesSign 26 = .ok (.goto 4, 3) := by decide +kernel
theorem d_X10_takesSign_29 : decode cX10_takesSign 29 = .ok (.iconst 0, 1) := by decide +kernel
theorem d_X10_takesSign_30 : decode cX10_takesSign 30 = .ok (.istore_n 2, 1) := by decide +kernel
theorem d_X10_takesSign_31 : decode cX10_takesSign 31 = .ok (.iload_n 2, 1) := by decide +kernel
theorem d_X10_takesSign_32 : decode cX10_takesSign 32 = .ok (.ifCond .eq 13, 3) := by decide +kernel
theorem d_X10_takesSign_35 : decode cX10_takesSign 35 = .ok (.aload_n 0, 1) := by decide +kernel
theorem d_X10_takesSign_36 : decode cX10_takesSign 36 = .ok (.dup, 1) := by decide +kernel
theorem d_X10_takesSign_37 : decode cX10_takesSign 37 = .ok (.getfield 91, 3) := by decide +kernel
theorem d_X10_takesSign_40 : decode cX10_takesSign 40 = .ok (.iconst 1, 1) := by decide +kernel
theorem d_X10_takesSign_41 : decode cX10_takesSign 41 = .ok (.iadd, 1) := by decide +kernel
theorem d_X10_takesSign_42 : decode cX10_takesSign 42 = .ok (.putfield 91, 3) := by decide +kernel
theorem d_X10_takesSign_45 : decode cX10_takesSign 45 = .ok (.iload_n 2, 1) := by decide +kernel
theorem d_X10_takesSign_46 : decode cX10_takesSign 46 = .ok (.ireturn, 1) := by decide +kernel
noncomputable def F_X10_takesSign_30 (p0 : Int32) (b30_S0 : Int32) (M : zMem) : Option (Int32 × zMem) :=
  if b30_S0 = 0 then
    gd (b30_S0 == 0 || b30_S0 == 1) <|
    some (b30_S0, M)
  else
    zl (zI M 0 4 ((M.1 0 4) + (1 : Int32))) fun M2 =>
    gd (b30_S0 == 0 || b30_S0 == 1) <|
    some (b30_S0, M2)
noncomputable def F_X10_takesSign (M : zMem) (p0 : Int32) : Option (Int32 × zMem) :=
  if (M.1 0 5) = 0 then
    zbv (F_X10_blanks M) fun M4 =>
    zb (F_X10_byteAt M4 (M4.1 0 4)) fun v6 M5 =>
    if v6 = p0 then
      F_X10_takesSign_30 p0 (1 : Int32) M5
    else
      F_X10_takesSign_30 p0 (0 : Int32) M5
  else
    some ((0 : Int32), M)
def rm_X10_takesSign : Room := { frames := 4, cells := 0, slots := 0, locals := 121 }
set_option maxHeartbeats 4000000 in
set_option maxRecDepth 100000 in
theorem c_X10_takesSign (l : Launch) {G : zG} {ad : Nat → Nat} {n : Nat} (hA : zInj ad n) (M : zMem) (p0 : Int32) (hT : zT shM n 0 11) {r9 : Int32} {M9 : zMem} (hF : F_X10_takesSign M p0 = some (r9, M9)) : zM l yX10_takesSign cX10_takesSign 3 (some .boolean) rm_X10_takesSign G shM ad n M [.ref (ad 0), .int p0] (some (.int r9)) M9 := by
  refine zM_of hA (by decide +kernel) (lv := [(0, .ref (ad 0)), (1, .int p0)]) (Nat.le_of_ble_eq_true rfl) rfl (fun p e s m args below meth c A cx hr => ?_)
  have hb30 : ∀ (b30_S0 : Int32) (M : zMem), F_X10_takesSign_30 p0 b30_S0 M = some (r9, M9) → zJ p l e rm_X10_takesSign s m args below meth c G shM ad n A 3 (MQ below (zQ G shM ad n M9 (some (.int r9)) A) args s 0 0 A) 0 0 M 30 [(0, .ref (ad 0))] [.int b30_S0] := by
    intro b30_S0 M hF
    unfold F_X10_takesSign_30 at hF
    refine z_istore_n cx 2 [(2, .int b30_S0), (0, .ref (ad 0))] d_X10_takesSign_30 rfl (by decide) rfl ?_
    refine z_iload_n cx d_X10_takesSign_31 0 rfl ?_
    refine z_if_eq cx 45 d_X10_takesSign_32 (by decide) hF (fun hF => ?_) (fun hF => ?_)
    · refine z_iload_n cx d_X10_takesSign_45 0 rfl ?_
      obtain ⟨hn1, hF⟩ := gd_inv hF
      exact z_iret cx hr (nbx hn1) hF d_X10_takesSign_46
    refine z_aload_n cx d_X10_takesSign_35 1 rfl ?_
    refine z_dup cx d_X10_takesSign_36 rfl ?_
    refine z_getI cx hT fg_SunnyPansModel_91 d_X10_takesSign_37 ?_
    refine z_iconst (v := 1) cx d_X10_takesSign_40 ki_1 ?_
    refine z_iadd cx d_X10_takesSign_41 ?_
    refine z_putI cx hT fp_SunnyPansModel_91 d_X10_takesSign_42 ?_
    refine z_nmM hF (fun M2 hF => ?_)
    refine z_iload_n cx d_X10_takesSign_45 0 rfl ?_
    obtain ⟨hn3, hF⟩ := gd_inv hF
    exact z_iret cx hr (nbx hn3) hF d_X10_takesSign_46
  unfold F_X10_takesSign at hF
  refine z_aload_n cx d_X10_takesSign_0 0 rfl ?_
  refine z_getI cx hT fg_SunnyPansModel_98 d_X10_takesSign_1 ?_
  refine z_if_eq cx 9 d_X10_takesSign_4 (by decide) hF (fun hF => ?_) (fun hF => ?_)
  · refine z_aload_n cx d_X10_takesSign_9 0 rfl ?_
    obtain ⟨M4, hc, hF⟩ := zbv_inv hF
    refine z_callV cx (As := []) (rest := []) (c_X10_blanks l cx.2.2.2.1.1 M hT hc) hT zo_11 cv_SunnyPansModel_104 ⟨rfl, rfl, Nat.le_of_ble_eq_true rfl, Nat.le_of_ble_eq_true rfl⟩ rfl rfl ⟨Nat.zero_le _, Nat.zero_le _⟩ (Nat.le_of_ble_eq_true rfl) d_X10_takesSign_10 ?_
    refine z_aload_n cx d_X10_takesSign_13 0 rfl ?_
    refine z_aload_n cx d_X10_takesSign_14 0 rfl ?_
    refine z_getI cx hT fg_SunnyPansModel_91 d_X10_takesSign_15 ?_
    obtain ⟨v6, M5, hc, hF⟩ := zb_inv hF
    refine z_callV cx (As := [.int (M4.1 0 4)]) (rest := []) (c_X10_byteAt l cx.2.2.2.1.1 M4 (M4.1 0 4) hT hc) hT zo_11 cv_SunnyPansModel_94 ⟨rfl, rfl, Nat.le_of_ble_eq_true rfl, Nat.le_of_ble_eq_true rfl⟩ rfl rfl ⟨Nat.zero_le _, Nat.zero_le _⟩ (Nat.le_of_ble_eq_true rfl) d_X10_takesSign_18 ?_
    refine z_iload_n cx d_X10_takesSign_21 1 rfl ?_
    refine z_icmp_ne cx 29 d_X10_takesSign_22 (by decide) hF (fun hF => ?_) (fun hF => ?_)
    · refine z_iconst (v := 0) cx d_X10_takesSign_29 ki_0 ?_
      exact z_lv [0] _ rfl (hb30 (0 : Int32) M5 hF)
    refine z_iconst (v := 1) cx d_X10_takesSign_25 ki_1 ?_
    refine z_goto cx 30 d_X10_takesSign_26 (by decide) ?_
    exact z_lv [0] _ rfl (hb30 (1 : Int32) M5 hF)
  refine z_iconst (v := 0) cx d_X10_takesSign_7 ki_0 ?_
  exact z_iret cx hr nb0 hF d_X10_takesSign_8
/-! SunnyPansModel.starts -/
theorem fp_SunnyPansModel_88 : zPutI "SunnyPansModel" 88 10 11 2 := ⟨zc_10, fg_SunnyPansModel_88, ⟨RX10, TX10, 40, rfl, rfl, by decide +kernel⟩, fun _ _ _ _ _ _ _ => ⟨_, rfl, Nat.le_of_ble_eq_true rfl, rfl⟩⟩
set_option maxRecDepth 100000 in
theorem wd_1402 : Cond.fieldLink "SunnyPansModel" 138 "SunnyPansModel" "clauses" "I" ∈ tbG := tw6 102 rfl rfl
theorem fg_SunnyPansModel_138 : zGetI "SunnyPansModel" 138 10 11 7 := ⟨RX10, TX10, 40, rfl, by decide, uw_10, wd_1402, fun _ _ _ _ _ _ => ⟨_, rfl, rfl⟩⟩
theorem fp_SunnyPansModel_138 : zPutI "SunnyPansModel" 138 10 11 7 := ⟨zc_10, fg_SunnyPansModel_138, ⟨RX10, TX10, 40, rfl, rfl, by decide +kernel⟩, fun _ _ _ _ _ _ _ => ⟨_, rfl, Nat.le_of_ble_eq_true rfl, rfl⟩⟩
set_option maxRecDepth 100000 in
theorem wd_1403 : Cond.fieldLink "SunnyPansModel" 141 "SunnyPansModel" "open" "I" ∈ tbG := tw6 103 rfl rfl
theorem fg_SunnyPansModel_141 : zGetI "SunnyPansModel" 141 10 11 8 := ⟨RX10, TX10, 40, rfl, by decide, uw_10, wd_1403, fun _ _ _ _ _ _ => ⟨_, rfl, rfl⟩⟩
theorem fp_SunnyPansModel_141 : zPutI "SunnyPansModel" 141 10 11 8 := ⟨zc_10, fg_SunnyPansModel_141, ⟨RX10, TX10, 40, rfl, rfl, by decide +kernel⟩, fun _ _ _ _ _ _ _ => ⟨_, rfl, Nat.le_of_ble_eq_true rfl, rfl⟩⟩
theorem d_X10_starts_0 : decode cX10_starts 0 = .ok (.aload_n 0, 1) := by decide +kernel
theorem d_X10_starts_1 : decode cX10_starts 1 = .ok (.iconst 0, 1) := by decide +kernel
theorem d_X10_starts_2 : decode cX10_starts 2 = .ok (.putfield 85, 3) := by decide +kernel
theorem d_X10_starts_5 : decode cX10_starts 5 = .ok (.aload_n 0, 1) := by decide +kernel
theorem d_X10_starts_6 : decode cX10_starts 6 = .ok (.iload_n 1, 1) := by decide +kernel
theorem d_X10_starts_7 : decode cX10_starts 7 = .ok (.putfield 88, 3) := by decide +kernel
theorem d_X10_starts_10 : decode cX10_starts 10 = .ok (.aload_n 0, 1) := by decide +kernel
theorem d_X10_starts_11 : decode cX10_starts 11 = .ok (.iconst 0, 1) := by decide +kernel
theorem d_X10_starts_12 : decode cX10_starts 12 = .ok (.putfield 91, 3) := by decide +kernel
theorem d_X10_starts_15 : decode cX10_starts 15 = .ok (.aload_n 0, 1) := by decide +kernel
theorem d_X10_starts_16 : decode cX10_starts 16 = .ok (.iconst 0, 1) := by decide +kernel
theorem d_X10_starts_17 : decode cX10_starts 17 = .ok (.putfield 98, 3) := by decide +kernel
theorem d_X10_starts_20 : decode cX10_starts 20 = .ok (.aload_n 0, 1) := by decide +kernel
theorem d_X10_starts_21 : decode cX10_starts 21 = .ok (.iconst (-1), 1) := by decide +kernel
theorem d_X10_starts_22 : decode cX10_starts 22 = .ok (.putfield 101, 3) := by decide +kernel
theorem d_X10_starts_25 : decode cX10_starts 25 = .ok (.aload_n 0, 1) := by decide +kernel
theorem d_X10_starts_26 : decode cX10_starts 26 = .ok (.iconst 0, 1) := by decide +kernel
theorem d_X10_starts_27 : decode cX10_starts 27 = .ok (.putfield 138, 3) := by decide +kernel
theorem d_X10_starts_30 : decode cX10_starts 30 = .ok (.aload_n 0, 1) := by decide +kernel
theorem d_X10_starts_31 : decode cX10_starts 31 = .ok (.iconst 0, 1) := by decide +kernel
theorem d_X10_starts_32 : decode cX10_starts 32 = .ok (.putfield 141, 3) := by decide +kernel
theorem d_X10_starts_35 : decode cX10_starts 35 = .ok (.aload_n 0, 1) := by decide +kernel
theorem d_X10_starts_36 : decode cX10_starts 36 = .ok (.invokevirtual 104, 3) := by decide +kernel
theorem d_X10_starts_39 : decode cX10_starts 39 = .ok (.return_, 1) := by decide +kernel
noncomputable def F_X10_starts (M : zMem) (p0 : Int32) : Option (zMem) :=
  zl (zI M 0 1 (0 : Int32)) fun M1 =>
  zl (zI M1 0 2 p0) fun M2 =>
  zl (zI M2 0 4 (0 : Int32)) fun M3 =>
  zl (zI M3 0 5 (0 : Int32)) fun M4 =>
  zl (zI M4 0 6 (-1 : Int32)) fun M5 =>
  zl (zI M5 0 7 (0 : Int32)) fun M6 =>
  zl (zI M6 0 8 (0 : Int32)) fun M7 =>
  zbv (F_X10_blanks M7) fun M8 =>
  some M8
def rm_X10_starts : Room := { frames := 4, cells := 0, slots := 0, locals := 121 }
set_option maxHeartbeats 4000000 in
set_option maxRecDepth 100000 in
theorem c_X10_starts (l : Launch) {G : zG} {ad : Nat → Nat} {n : Nat} (hA : zInj ad n) (M : zMem) (p0 : Int32) (hT : zT shM n 0 11) {M9 : zMem} (hF : F_X10_starts M p0 = some M9) : zM l yX10_starts cX10_starts 2 none rm_X10_starts G shM ad n M [.ref (ad 0), .int p0] none M9 := by
  refine zM_of hA (by decide +kernel) (lv := [(0, .ref (ad 0)), (1, .int p0)]) (Nat.le_of_ble_eq_true rfl) rfl (fun p e s m args below meth c A cx hr => ?_)
  unfold F_X10_starts at hF
  refine z_aload_n cx d_X10_starts_0 0 rfl ?_
  refine z_iconst (v := 0) cx d_X10_starts_1 ki_0 ?_
  refine z_putI cx hT fp_SunnyPansModel_85 d_X10_starts_2 ?_
  refine z_nmM hF (fun M1 hF => ?_)
  refine z_aload_n cx d_X10_starts_5 0 rfl ?_
  refine z_iload_n cx d_X10_starts_6 1 rfl ?_
  refine z_putI cx hT fp_SunnyPansModel_88 d_X10_starts_7 ?_
  refine z_nmM hF (fun M2 hF => ?_)
  refine z_aload_n cx d_X10_starts_10 0 rfl ?_
  refine z_iconst (v := 0) cx d_X10_starts_11 ki_0 ?_
  refine z_putI cx hT fp_SunnyPansModel_91 d_X10_starts_12 ?_
  refine z_nmM hF (fun M3 hF => ?_)
  refine z_aload_n cx d_X10_starts_15 0 rfl ?_
  refine z_iconst (v := 0) cx d_X10_starts_16 ki_0 ?_
  refine z_putI cx hT fp_SunnyPansModel_98 d_X10_starts_17 ?_
  refine z_nmM hF (fun M4 hF => ?_)
  refine z_aload_n cx d_X10_starts_20 0 rfl ?_
  refine z_iconst (v := -1) cx d_X10_starts_21 ki_m1 ?_
  refine z_putI cx hT fp_SunnyPansModel_101 d_X10_starts_22 ?_
  refine z_nmM hF (fun M5 hF => ?_)
  refine z_aload_n cx d_X10_starts_25 0 rfl ?_
  refine z_iconst (v := 0) cx d_X10_starts_26 ki_0 ?_
  refine z_putI cx hT fp_SunnyPansModel_138 d_X10_starts_27 ?_
  refine z_nmM hF (fun M6 hF => ?_)
  refine z_aload_n cx d_X10_starts_30 0 rfl ?_
  refine z_iconst (v := 0) cx d_X10_starts_31 ki_0 ?_
  refine z_putI cx hT fp_SunnyPansModel_141 d_X10_starts_32 ?_
  refine z_nmM hF (fun M7 hF => ?_)
  refine z_aload_n cx d_X10_starts_35 0 rfl ?_
  obtain ⟨M8, hc, hF⟩ := zbv_inv hF
  refine z_callV cx (As := []) (rest := []) (c_X10_blanks l cx.2.2.2.1.1 M7 hT hc) hT zo_11 cv_SunnyPansModel_104 ⟨rfl, rfl, Nat.le_of_ble_eq_true rfl, Nat.le_of_ble_eq_true rfl⟩ rfl rfl ⟨Nat.zero_le _, Nat.zero_le _⟩ (Nat.le_of_ble_eq_true rfl) d_X10_starts_36 ?_
  exact z_vret cx hr hF d_X10_starts_39
/-! SunnyPansModel.ends -/
set_option maxRecDepth 100000 in
theorem wd_1398 : Cond.fieldLink "SunnyPansModel" 9 "SunnyPansModel" "place" "I" ∈ tbG := tw6 98 rfl rfl
theorem fg_SunnyPansModel_9 : zGetI "SunnyPansModel" 9 10 11 3 := ⟨RX10, TX10, 40, rfl, by decide, uw_10, wd_1398, fun _ _ _ _ _ _ => ⟨_, rfl, rfl⟩⟩
theorem fp_SunnyPansModel_9 : zPutI "SunnyPansModel" 9 10 11 3 := ⟨zc_10, fg_SunnyPansModel_9, ⟨RX10, TX10, 40, rfl, rfl, by decide +kernel⟩, fun _ _ _ _ _ _ _ => ⟨_, rfl, Nat.le_of_ble_eq_true rfl, rfl⟩⟩
theorem d_X10_ends_0 : decode cX10_ends 0 = .ok (.aload_n 0, 1) := by decide +kernel
theorem d_X10_ends_1 : decode cX10_ends 1 = .ok (.aload_n 0, 1) := by decide +kernel
theorem d_X10_ends_2 : decode cX10_ends 2 = .ok (.getfield 101, 3) := by decide +kernel
theorem d_X10_ends_5 : decode cX10_ends 5 = .ok (.putfield 9, 3) := by decide +kernel
theorem d_X10_ends_8 : decode cX10_ends 8 = .ok (.aload_n 0, 1) := by decide +kernel
theorem d_X10_ends_9 : decode cX10_ends 9 = .ok (.getfield 98, 3) := by decide +kernel
theorem d_X10_ends_12 : decode cX10_ends 12 = .ok (.bipush 10, 2) := by decide +kernel
theorem d_X10_ends_14 : decode cX10_ends 14 = .ok (.isub, 1) := by decide +kernel
theorem d_X10_ends_15 : decode cX10_ends 15 = .ok (.ireturn, 1) := by decide +kernel
noncomputable def F_X10_ends (M : zMem)  : Option (Int32 × zMem) :=
  zl (zI M 0 3 (M.1 0 6)) fun M1 =>
  some (((M1.1 0 5) - (10 : Int32)), M1)
def rm_X10_ends : Room := { frames := 2, cells := 0, slots := 0, locals := 80 }
set_option maxHeartbeats 4000000 in
set_option maxRecDepth 100000 in
theorem c_X10_ends (l : Launch) {G : zG} {ad : Nat → Nat} {n : Nat} (hA : zInj ad n) (M : zMem)  (hT : zT shM n 0 11) {r9 : Int32} {M9 : zMem} (hF : F_X10_ends M  = some (r9, M9)) : zM l yX10_ends cX10_ends 1 (some .int) rm_X10_ends G shM ad n M [.ref (ad 0)] (some (.int r9)) M9 := by
  refine zM_of hA (by decide +kernel) (lv := [(0, .ref (ad 0))]) (Nat.le_of_ble_eq_true rfl) rfl (fun p e s m args below meth c A cx hr => ?_)
  unfold F_X10_ends at hF
  refine z_aload_n cx d_X10_ends_0 0 rfl ?_
  refine z_aload_n cx d_X10_ends_1 0 rfl ?_
  refine z_getI cx hT fg_SunnyPansModel_101 d_X10_ends_2 ?_
  refine z_putI cx hT fp_SunnyPansModel_9 d_X10_ends_5 ?_
  refine z_nmM hF (fun M1 hF => ?_)
  refine z_aload_n cx d_X10_ends_8 0 rfl ?_
  refine z_getI cx hT fg_SunnyPansModel_98 d_X10_ends_9 ?_
  refine z_bipush (v := 10) cx d_X10_ends_12 kb_10 ?_
  refine z_isub cx d_X10_ends_14 ?_
  exact z_iret cx hr rfl hF d_X10_ends_15
/-! SunnyPansModel.kindHere -/
theorem kb_19 : (Int8.ofInt (19)).toInt32 = (19 : Int32) := by decide +kernel
theorem kb_26 : (Int8.ofInt (26)).toInt32 = (26 : Int32) := by decide +kernel
theorem kb_15 : (Int8.ofInt (15)).toInt32 = (15 : Int32) := by decide +kernel
theorem kb_21 : (Int8.ofInt (21)).toInt32 = (21 : Int32) := by decide +kernel
theorem kb_18 : (Int8.ofInt (18)).toInt32 = (18 : Int32) := by decide +kernel
theorem kb_14 : (Int8.ofInt (14)).toInt32 = (14 : Int32) := by decide +kernel
theorem d_X10_kindHere_0 : decode cX10_kindHere 0 = .ok (.aload_n 0, 1) := by decide +kernel
theorem d_X10_kindHere_1 : decode cX10_kindHere 1 = .ok (.bipush 19, 2) := by decide +kernel
theorem d_X10_kindHere_3 : decode cX10_kindHere 3 = .ok (.bipush 9, 2) := by decide +kernel
theorem d_X10_kindHere_5 : decode cX10_kindHere 5 = .ok (.bipush 26, 2) := by decide +kernel
theorem d_X10_kindHere_7 : decode cX10_kindHere 7 = .ok (.iconst 5, 1) := by decide +kernel
theorem d_X10_kindHere_8 : decode cX10_kindHere 8 = .ok (.iconst 0, 1) := by decide +kernel
theorem d_X10_kindHere_9 : decode cX10_kindHere 9 = .ok (.iconst 0, 1) := by decide +kernel
theorem d_X10_kindHere_10 : decode cX10_kindHere 10 = .ok (.invokevirtual 131, 3) := by decide +kernel
theorem d_X10_kindHere_13 : decode cX10_kindHere 13 = .ok (.ifCond .eq 5, 3) := by decide +kernel
theorem d_X10_kindHere_16 : decode cX10_kindHere 16 = .ok (.iconst 0, 1) := by decide +kernel
theorem d_X10_kindHere_17 : decode cX10_kindHere 17 = .ok (.ireturn, 1) := by decide +kernel
theorem d_X10_kindHere_18 : decode cX10_kindHere 18 = .ok (.aload_n 0, 1) := by decide +kernel
theorem d_X10_kindHere_19 : decode cX10_kindHere 19 = .ok (.bipush 8, 2) := by decide +kernel
theorem d_X10_kindHere_21 : decode cX10_kindHere 21 = .ok (.bipush 15, 2) := by decide +kernel
theorem d_X10_kindHere_23 : decode cX10_kindHere 23 = .ok (.bipush 21, 2) := by decide +kernel
theorem d_X10_kindHere_25 : decode cX10_kindHere 25 = .ok (.bipush 18, 2) := by decide +kernel
theorem d_X10_kindHere_27 : decode cX10_kindHere 27 = .ok (.iconst 0, 1) := by decide +kernel
theorem d_X10_kindHere_28 : decode cX10_kindHere 28 = .ok (.iconst 0, 1) := by decide +kernel
theorem d_X10_kindHere_29 : decode cX10_kindHere 29 = .ok (.invokevirtual 131, 3) := by decide +kernel
theorem d_X10_kindHere_32 : decode cX10_kindHere 32 = .ok (.ifCond .eq 5, 3) := by decide +kernel
theorem d_X10_kindHere_35 : decode cX10_kindHere 35 = .ok (.iconst 1, 1) := by decide +kernel
theorem d_X10_kindHere_36 : decode cX10_kindHere 36 = .ok (.ireturn, 1) := by decide +kernel
theorem d_X10_kindHere_37 : decode cX10_kindHere 37 = .ok (.aload_n 0, 1) := by decide +kernel
theorem d_X10_kindHere_38 : decode cX10_kindHere 38 = .ok (.bipush 16, 2) := by decide +kernel
theorem d_X10_kindHere_40 : decode cX10_kindHere 40 = .ok (.iconst 1, 1) := by decide +kernel
theorem d_X10_kindHere_41 : decode cX10_kindHere 41 = .ok (.bipush 14, 2) := by decide +kernel
theorem d_X10_kindHere_43 : decode cX10_kindHere 43 = .ok (.iconst 0, 1) := by decide +kernel
theorem d_X10_kindHere_44 : decode cX10_kindHere 44 = .ok (.iconst 0, 1) := by decide +kernel
theorem d_X10_kindHere_45 : decode cX10_kindHere 45 = .ok (.iconst 0, 1) := by decide +kernel
theorem d_X10_kindHere_46 : decode cX10_kindHere 46 = .ok (.invokevirtual 131, 3) := by decide +kernel
theorem d_X10_kindHere_49 : decode cX10_kindHere 49 = .ok (.ifCond .eq 5, 3) := by decide +kernel
theorem d_X10_kindHere_52 : decode cX10_kindHere 52 = .ok (.iconst 2, 1) := by decide +kernel
theorem d_X10_kindHere_53 : decode cX10_kindHere 53 = .ok (.ireturn, 1) := by decide +kernel
theorem d_X10_kindHere_54 : decode cX10_kindHere 54 = .ok (.aload_n 0, 1) := by decide +kernel
theorem d_X10_kindHere_55 : decode cX10_kindHere 55 = .ok (.bipush 8, 2) := by decide +kernel
theorem d_X10_kindHere_57 : decode cX10_kindHere 57 = .ok (.iconst 5, 1) := by decide +kernel
theorem d_X10_kindHere_58 : decode cX10_kindHere 58 = .ok (.iconst 1, 1) := by decide +kernel
theorem d_X10_kindHere_59 : decode cX10_kindHere 59 = .ok (.bipush 16, 2) := by decide +kernel
theorem d_X10_kindHere_61 : decode cX10_kindHere 61 = .ok (.iconst 0, 1) := by decide +kernel
theorem d_X10_kindHere_62 : decode cX10_kindHere 62 = .ok (.iconst 0, 1) := by decide +kernel
theorem d_X10_kindHere_63 : decode cX10_kindHere 63 = .ok (.invokevirtual 131, 3) := by decide +kernel
theorem d_X10_kindHere_66 : decode cX10_kindHere 66 = .ok (.ifCond .eq 7, 3) := by decide +kernel
theorem d_X10_kindHere_69 : decode cX10_kindHere 69 = .ok (.iconst 3, 1) := by decide +kernel
theorem d_X10_kindHere_70 : decode cX10_kindHere 70 = .ok (.goto 4, 3) := by decide +kernel
theorem d_X10_kindHere_73 : decode cX10_kindHere 73 = .ok (.iconst (-1), 1) := by decide +kernel
theorem d_X10_kindHere_74 : decode cX10_kindHere 74 = .ok (.ireturn, 1) := by decide +kernel
noncomputable def F_X10_kindHere (M : zMem)  : Option (Int32 × zMem) :=
  zb (F_X10_isWord M (19 : Int32) (9 : Int32) (26 : Int32) (5 : Int32) (0 : Int32) (0 : Int32)) fun v2 M1 =>
  if v2 = 0 then
    zb (F_X10_isWord M1 (8 : Int32) (15 : Int32) (21 : Int32) (18 : Int32) (0 : Int32) (0 : Int32)) fun v4 M3 =>
    if v4 = 0 then
      zb (F_X10_isWord M3 (16 : Int32) (1 : Int32) (14 : Int32) (0 : Int32) (0 : Int32) (0 : Int32)) fun v6 M5 =>
      if v6 = 0 then
        zb (F_X10_isWord M5 (8 : Int32) (5 : Int32) (1 : Int32) (16 : Int32) (0 : Int32) (0 : Int32)) fun v8 M7 =>
        if v8 = 0 then
          some ((-1 : Int32), M7)
        else
          some ((3 : Int32), M7)
      else
        some ((2 : Int32), M5)
    else
      some ((1 : Int32), M3)
  else
    some ((0 : Int32), M1)
def rm_X10_kindHere : Room := { frames := 6, cells := 0, slots := 0, locals := 169 }
set_option maxHeartbeats 4000000 in
set_option maxRecDepth 100000 in
theorem c_X10_kindHere (l : Launch) {G : zG} {ad : Nat → Nat} {n : Nat} (hA : zInj ad n) (M : zMem)  (hT : zT shM n 0 11) {r9 : Int32} {M9 : zMem} (hF : F_X10_kindHere M  = some (r9, M9)) : zM l yX10_kindHere cX10_kindHere 1 (some .int) rm_X10_kindHere G shM ad n M [.ref (ad 0)] (some (.int r9)) M9 := by
  refine zM_of hA (by decide +kernel) (lv := [(0, .ref (ad 0))]) (Nat.le_of_ble_eq_true rfl) rfl (fun p e s m args below meth c A cx hr => ?_)
  unfold F_X10_kindHere at hF
  refine z_aload_n cx d_X10_kindHere_0 0 rfl ?_
  refine z_bipush (v := 19) cx d_X10_kindHere_1 kb_19 ?_
  refine z_bipush (v := 9) cx d_X10_kindHere_3 kb_9 ?_
  refine z_bipush (v := 26) cx d_X10_kindHere_5 kb_26 ?_
  refine z_iconst (v := 5) cx d_X10_kindHere_7 ki_5 ?_
  refine z_iconst (v := 0) cx d_X10_kindHere_8 ki_0 ?_
  refine z_iconst (v := 0) cx d_X10_kindHere_9 ki_0 ?_
  obtain ⟨v2, M1, hc, hF⟩ := zb_inv hF
  refine z_callV cx (As := [.int (19 : Int32), .int (9 : Int32), .int (26 : Int32), .int (5 : Int32), .int (0 : Int32), .int (0 : Int32)]) (rest := []) (c_X10_isWord l cx.2.2.2.1.1 M (19 : Int32) (9 : Int32) (26 : Int32) (5 : Int32) (0 : Int32) (0 : Int32) hT hc) hT zo_11 cv_SunnyPansModel_131 ⟨rfl, rfl, Nat.le_of_ble_eq_true rfl, Nat.le_of_ble_eq_true rfl⟩ rfl rfl ⟨Nat.zero_le _, Nat.zero_le _⟩ (Nat.le_of_ble_eq_true rfl) d_X10_kindHere_10 ?_
  refine z_if_eq cx 18 d_X10_kindHere_13 (by decide) hF (fun hF => ?_) (fun hF => ?_)
  · refine z_aload_n cx d_X10_kindHere_18 0 rfl ?_
    refine z_bipush (v := 8) cx d_X10_kindHere_19 kb_8 ?_
    refine z_bipush (v := 15) cx d_X10_kindHere_21 kb_15 ?_
    refine z_bipush (v := 21) cx d_X10_kindHere_23 kb_21 ?_
    refine z_bipush (v := 18) cx d_X10_kindHere_25 kb_18 ?_
    refine z_iconst (v := 0) cx d_X10_kindHere_27 ki_0 ?_
    refine z_iconst (v := 0) cx d_X10_kindHere_28 ki_0 ?_
    obtain ⟨v4, M3, hc, hF⟩ := zb_inv hF
    refine z_callV cx (As := [.int (8 : Int32), .int (15 : Int32), .int (21 : Int32), .int (18 : Int32), .int (0 : Int32), .int (0 : Int32)]) (rest := []) (c_X10_isWord l cx.2.2.2.1.1 M1 (8 : Int32) (15 : Int32) (21 : Int32) (18 : Int32) (0 : Int32) (0 : Int32) hT hc) hT zo_11 cv_SunnyPansModel_131 ⟨rfl, rfl, Nat.le_of_ble_eq_true rfl, Nat.le_of_ble_eq_true rfl⟩ rfl rfl ⟨Nat.zero_le _, Nat.zero_le _⟩ (Nat.le_of_ble_eq_true rfl) d_X10_kindHere_29 ?_
    refine z_if_eq cx 37 d_X10_kindHere_32 (by decide) hF (fun hF => ?_) (fun hF => ?_)
    · refine z_aload_n cx d_X10_kindHere_37 0 rfl ?_
      refine z_bipush (v := 16) cx d_X10_kindHere_38 kb_16 ?_
      refine z_iconst (v := 1) cx d_X10_kindHere_40 ki_1 ?_
      refine z_bipush (v := 14) cx d_X10_kindHere_41 kb_14 ?_
      refine z_iconst (v := 0) cx d_X10_kindHere_43 ki_0 ?_
      refine z_iconst (v := 0) cx d_X10_kindHere_44 ki_0 ?_
      refine z_iconst (v := 0) cx d_X10_kindHere_45 ki_0 ?_
      obtain ⟨v6, M5, hc, hF⟩ := zb_inv hF
      refine z_callV cx (As := [.int (16 : Int32), .int (1 : Int32), .int (14 : Int32), .int (0 : Int32), .int (0 : Int32), .int (0 : Int32)]) (rest := []) (c_X10_isWord l cx.2.2.2.1.1 M3 (16 : Int32) (1 : Int32) (14 : Int32) (0 : Int32) (0 : Int32) (0 : Int32) hT hc) hT zo_11 cv_SunnyPansModel_131 ⟨rfl, rfl, Nat.le_of_ble_eq_true rfl, Nat.le_of_ble_eq_true rfl⟩ rfl rfl ⟨Nat.zero_le _, Nat.zero_le _⟩ (Nat.le_of_ble_eq_true rfl) d_X10_kindHere_46 ?_
      refine z_if_eq cx 54 d_X10_kindHere_49 (by decide) hF (fun hF => ?_) (fun hF => ?_)
      · refine z_aload_n cx d_X10_kindHere_54 0 rfl ?_
        refine z_bipush (v := 8) cx d_X10_kindHere_55 kb_8 ?_
        refine z_iconst (v := 5) cx d_X10_kindHere_57 ki_5 ?_
        refine z_iconst (v := 1) cx d_X10_kindHere_58 ki_1 ?_
        refine z_bipush (v := 16) cx d_X10_kindHere_59 kb_16 ?_
        refine z_iconst (v := 0) cx d_X10_kindHere_61 ki_0 ?_
        refine z_iconst (v := 0) cx d_X10_kindHere_62 ki_0 ?_
        obtain ⟨v8, M7, hc, hF⟩ := zb_inv hF
        refine z_callV cx (As := [.int (8 : Int32), .int (5 : Int32), .int (1 : Int32), .int (16 : Int32), .int (0 : Int32), .int (0 : Int32)]) (rest := []) (c_X10_isWord l cx.2.2.2.1.1 M5 (8 : Int32) (5 : Int32) (1 : Int32) (16 : Int32) (0 : Int32) (0 : Int32) hT hc) hT zo_11 cv_SunnyPansModel_131 ⟨rfl, rfl, Nat.le_of_ble_eq_true rfl, Nat.le_of_ble_eq_true rfl⟩ rfl rfl ⟨Nat.zero_le _, Nat.zero_le _⟩ (Nat.le_of_ble_eq_true rfl) d_X10_kindHere_63 ?_
        refine z_if_eq cx 73 d_X10_kindHere_66 (by decide) hF (fun hF => ?_) (fun hF => ?_)
        · refine z_iconst (v := -1) cx d_X10_kindHere_73 ki_m1 ?_
          exact z_iret cx hr rfl hF d_X10_kindHere_74
        refine z_iconst (v := 3) cx d_X10_kindHere_69 ki_3 ?_
        refine z_goto cx 74 d_X10_kindHere_70 (by decide) ?_
        exact z_iret cx hr rfl hF d_X10_kindHere_74
      refine z_iconst (v := 2) cx d_X10_kindHere_52 ki_2 ?_
      exact z_iret cx hr rfl hF d_X10_kindHere_53
    refine z_iconst (v := 1) cx d_X10_kindHere_35 ki_1 ?_
    exact z_iret cx hr rfl hF d_X10_kindHere_36
  refine z_iconst (v := 0) cx d_X10_kindHere_16 ki_0 ?_
  exact z_iret cx hr rfl hF d_X10_kindHere_17
/-! SunnyPansModel.clause -/
set_option maxRecDepth 100000 in
theorem wd_1588 : Cond.code yX10_sign cX10_sign 2 none ∈ tbG := tw7 48 rfl rfl
set_option maxRecDepth 100000 in
theorem wd_1585 : Cond.methodLink "SunnyPansModel" 151 yX10_sign ∈ tbG := tw7 45 rfl rfl
set_option maxRecDepth 100000 in
theorem wd_1587 : Cond.instanceMethod yX10_sign ∈ tbG := tw7 47 rfl rfl
theorem wd_54 : Cond.selects "SunnyPansModel" yX10_sign yX10_sign ∈ tbG := tw 54 (by decide +kernel) rfl
theorem cv_SunnyPansModel_151 : zCV "SunnyPansModel" 151 "SunnyPansModel" yX10_sign cX10_sign 2 none 1 := zCV_of wd_1585 wd_1587 wd_54 wd_111 wd_1588 (by decide +kernel)
set_option maxRecDepth 100000 in
theorem wd_1580 : Cond.code yX10_number cX10_number 5 (some .int) ∈ tbG := tw7 40 rfl rfl
set_option maxRecDepth 100000 in
theorem wd_1577 : Cond.methodLink "SunnyPansModel" 147 yX10_number ∈ tbG := tw7 37 rfl rfl
set_option maxRecDepth 100000 in
theorem wd_1579 : Cond.instanceMethod yX10_number ∈ tbG := tw7 39 rfl rfl
theorem wd_53 : Cond.selects "SunnyPansModel" yX10_number yX10_number ∈ tbG := tw 53 (by decide +kernel) rfl
theorem cv_SunnyPansModel_147 : zCV "SunnyPansModel" 147 "SunnyPansModel" yX10_number cX10_number 5 (some .int) 2 := zCV_of wd_1577 wd_1579 wd_53 wd_111 wd_1580 (by decide +kernel)
set_option maxRecDepth 100000 in
theorem wd_1554 : Cond.code yX10_kindHere cX10_kindHere 1 (some .int) ∈ tbG := tw7 14 rfl rfl
set_option maxRecDepth 100000 in
theorem wd_1551 : Cond.methodLink "SunnyPansModel" 144 yX10_kindHere ∈ tbG := tw7 11 rfl rfl
set_option maxRecDepth 100000 in
theorem wd_1553 : Cond.instanceMethod yX10_kindHere ∈ tbG := tw7 13 rfl rfl
theorem wd_48 : Cond.selects "SunnyPansModel" yX10_kindHere yX10_kindHere ∈ tbG := tw 48 (by decide +kernel) rfl
theorem cv_SunnyPansModel_144 : zCV "SunnyPansModel" 144 "SunnyPansModel" yX10_kindHere cX10_kindHere 1 (some .int) 0 := zCV_of wd_1551 wd_1553 wd_48 wd_111 wd_1554 (by decide +kernel)
theorem d_X10_clause_0 : decode cX10_clause 0 = .ok (.aload_n 0, 1) := by decide +kernel
theorem d_X10_clause_1 : decode cX10_clause 1 = .ok (.invokevirtual 144, 3) := by decide +kernel
theorem d_X10_clause_4 : decode cX10_clause 4 = .ok (.istore_n 1, 1) := by decide +kernel
theorem d_X10_clause_5 : decode cX10_clause 5 = .ok (.iload_n 1, 1) := by decide +kernel
theorem d_X10_clause_6 : decode cX10_clause 6 = .ok (.iconst (-1), 1) := by decide +kernel
theorem d_X10_clause_7 : decode cX10_clause 7 = .ok (.if_icmp .ne 15, 3) := by decide +kernel
theorem d_X10_clause_10 : decode cX10_clause 10 = .ok (.aload_n 0, 1) := by decide +kernel
theorem d_X10_clause_11 : decode cX10_clause 11 = .ok (.iconst 1, 1) := by decide +kernel
theorem d_X10_clause_12 : decode cX10_clause 12 = .ok (.aload_n 0, 1) := by decide +kernel
theorem d_X10_clause_13 : decode cX10_clause 13 = .ok (.getfield 91, 3) := by decide +kernel
theorem d_X10_clause_16 : decode cX10_clause 16 = .ok (.invokevirtual 111, 3) := by decide +kernel
theorem d_X10_clause_19 : decode cX10_clause 19 = .ok (.goto 37, 3) := by decide +kernel
theorem d_X10_clause_22 : decode cX10_clause 22 = .ok (.aload_n 0, 1) := by decide +kernel
theorem d_X10_clause_23 : decode cX10_clause 23 = .ok (.getfield 138, 3) := by decide +kernel
theorem d_X10_clause_26 : decode cX10_clause 26 = .ok (.bipush 60, 2) := by decide +kernel
theorem d_X10_clause_28 : decode cX10_clause 28 = .ok (.if_icmp .eq 19, 3) := by decide +kernel
theorem d_X10_clause_31 : decode cX10_clause 31 = .ok (.iload_n 1, 1) := by decide +kernel
theorem d_X10_clause_32 : decode cX10_clause 32 = .ok (.iconst 1, 1) := by decide +kernel
theorem d_X10_clause_33 : decode cX10_clause 33 = .ok (.if_icmp .ne 23, 3) := by decide +kernel
theorem d_X10_clause_36 : decode cX10_clause 36 = .ok (.aload_n 0, 1) := by decide +kernel
theorem d_X10_clause_37 : decode cX10_clause 37 = .ok (.getfield 20, 3) := by decide +kernel
theorem d_X10_clause_40 : decode cX10_clause 40 = .ok (.iconst 2, 1) := by decide +kernel
theorem d_X10_clause_41 : decode cX10_clause 41 = .ok (.iaload, 1) := by decide +kernel
theorem d_X10_clause_42 : decode cX10_clause 42 = .ok (.bipush 10, 2) := by decide +kernel
theorem d_X10_clause_44 : decode cX10_clause 44 = .ok (.if_icmp .ne 12, 3) := by decide +kernel
theorem d_X10_clause_47 : decode cX10_clause 47 = .ok (.aload_n 0, 1) := by decide +kernel
theorem d_X10_clause_48 : decode cX10_clause 48 = .ok (.iconst 3, 1) := by decide +kernel
theorem d_X10_clause_49 : decode cX10_clause 49 = .ok (.aload_n 0, 1) := by decide +kernel
theorem d_X10_clause_50 : decode cX10_clause 50 = .ok (.getfield 91, 3) := by decide +kernel
theorem d_X10_clause_53 : decode cX10_clause 53 = .ok (.invokevirtual 111, 3) := by decide +kernel
theorem d_X10_clause_56 : decode cX10_clause 56 = .ok (.aload_n 0, 1) := by decide +kernel
theorem d_X10_clause_57 : decode cX10_clause 57 = .ok (.getfield 98, 3) := by decide +kernel
theorem d_X10_clause_60 : decode cX10_clause 60 = .ok (.ifCond .eq 4, 3) := by decide +kernel
theorem d_X10_clause_63 : decode cX10_clause 63 = .ok (.return_, 1) := by decide +kernel
theorem d_X10_clause_64 : decode cX10_clause 64 = .ok (.aload_n 0, 1) := by decide +kernel
theorem d_X10_clause_65 : decode cX10_clause 65 = .ok (.invokevirtual 135, 3) := by decide +kernel
theorem d_X10_clause_68 : decode cX10_clause 68 = .ok (.aload_n 0, 1) := by decide +kernel
theorem d_X10_clause_69 : decode cX10_clause 69 = .ok (.dup, 1) := by decide +kernel
theorem d_X10_clause_70 : decode cX10_clause 70 = .ok (.getfield 138, 3) := by decide +kernel
theorem d_X10_clause_73 : decode cX10_clause 73 = .ok (.iconst 1, 1) := by decide +kernel
theorem d_X10_clause_74 : decode cX10_clause 74 = .ok (.iadd, 1) := by decide +kernel
theorem d_X10_clause_75 : decode cX10_clause 75 = .ok (.putfield 138, 3) := by decide +kernel
theorem d_X10_clause_78 : decode cX10_clause 78 = .ok (.iload_n 1, 1) := by decide +kernel
theorem d_X10_clause_79 : decode cX10_clause 79 = .ok (.ifCond .ne 29, 3) := by decide +kernel
theorem d_X10_clause_82 : decode cX10_clause 82 = .ok (.aload_n 0, 1) := by decide +kernel
theorem d_X10_clause_83 : decode cX10_clause 83 = .ok (.getfield 20, 3) := by decide +kernel
theorem d_X10_clause_86 : decode cX10_clause 86 = .ok (.iconst 0, 1) := by decide +kernel
theorem d_X10_clause_87 : decode cX10_clause 87 = .ok (.aload_n 0, 1) := by decide +kernel
theorem d_X10_clause_88 : decode cX10_clause 88 = .ok (.iconst 1, 1) := by decide +kernel
theorem d_X10_clause_89 : decode cX10_clause 89 = .ok (.bipush 8, 2) := by decide +kernel
theorem d_X10_clause_91 : decode cX10_clause 91 = .ok (.invokevirtual 147, 3) := by decide +kernel
theorem d_X10_clause_94 : decode cX10_clause 94 = .ok (.iastore, 1) := by decide +kernel
theorem d_X10_clause_95 : decode cX10_clause 95 = .ok (.aload_n 0, 1) := by decide +kernel
theorem d_X10_clause_96 : decode cX10_clause 96 = .ok (.getfield 20, 3) := by decide +kernel
theorem d_X10_clause_99 : decode cX10_clause 99 = .ok (.iconst 1, 1) := by decide +kernel
theorem d_X10_clause_100 : decode cX10_clause 100 = .ok (.aload_n 0, 1) := by decide +kernel
theorem d_X10_clause_101 : decode cX10_clause 101 = .ok (.iconst 1, 1) := by decide +kernel
theorem d_X10_clause_102 : decode cX10_clause 102 = .ok (.bipush 8, 2) := by decide +kernel
theorem d_X10_clause_104 : decode cX10_clause 104 = .ok (.invokevirtual 147, 3) := by decide +kernel
theorem d_X10_clause_107 : decode cX10_clause 107 = .ok (.iastore, 1) := by decide +kernel
theorem d_X10_clause_108 : decode cX10_clause 108 = .ok (.iload_n 1, 1) := by decide +kernel
theorem d_X10_clause_109 : decode cX10_clause 109 = .ok (.iconst 1, 1) := by decide +kernel
theorem d_X10_clause_110 : decode cX10_clause 110 = .ok (.if_icmp .ne 43, 3) := by decide +kernel
theorem d_X10_clause_113 : decode cX10_clause 113 = .ok (.aload_n 0, 1) := by decide +kernel
theorem d_X10_clause_114 : decode cX10_clause 114 = .ok (.getfield 31, 3) := by decide +kernel
theorem d_X10_clause_117 : decode cX10_clause 117 = .ok (.aload_n 0, 1) := by decide +kernel
theorem d_X10_clause_118 : decode cX10_clause 118 = .ok (.getfield 20, 3) := by decide +kernel
theorem d_X10_clause_121 : decode cX10_clause 121 = .ok (.iconst 2, 1) := by decide +kernel
theorem d_X10_clause_122 : decode cX10_clause 122 = .ok (.iaload, 1) := by decide +kernel
theorem d_X10_clause_123 : decode cX10_clause 123 = .ok (.aaload, 1) := by decide +kernel
theorem d_X10_clause_124 : decode cX10_clause 124 = .ok (.iconst 0, 1) := by decide +kernel
theorem d_X10_clause_125 : decode cX10_clause 125 = .ok (.aload_n 0, 1) := by decide +kernel
theorem d_X10_clause_126 : decode cX10_clause 126 = .ok (.iconst 0, 1) := by decide +kernel
theorem d_X10_clause_127 : decode cX10_clause 127 = .ok (.bipush 7, 2) := by decide +kernel
theorem d_X10_clause_129 : decode cX10_clause 129 = .ok (.invokevirtual 147, 3) := by decide +kernel
theorem d_X10_clause_132 : decode cX10_clause 132 = .ok (.iastore, 1) := by decide +kernel
theorem d_X10_clause_133 : decode cX10_clause 133 = .ok (.aload_n 0, 1) := by decide +kernel
theorem d_X10_clause_134 : decode cX10_clause 134 = .ok (.getfield 31, 3) := by decide +kernel
theorem d_X10_clause_137 : decode cX10_clause 137 = .ok (.aload_n 0, 1) := by decide +kernel
theorem d_X10_clause_138 : decode cX10_clause 138 = .ok (.getfield 20, 3) := by decide +kernel
theorem d_X10_clause_141 : decode cX10_clause 141 = .ok (.iconst 2, 1) := by decide +kernel
theorem d_X10_clause_142 : decode cX10_clause 142 = .ok (.iaload, 1) := by decide +kernel
theorem d_X10_clause_143 : decode cX10_clause 143 = .ok (.aaload, 1) := by decide +kernel
theorem d_X10_clause_144 : decode cX10_clause 144 = .ok (.iconst 1, 1) := by decide +kernel
theorem d_X10_clause_145 : decode cX10_clause 145 = .ok (.aload_n 0, 1) := by decide +kernel
theorem d_X10_clause_146 : decode cX10_clause 146 = .ok (.iconst 0, 1) := by decide +kernel
theorem d_X10_clause_147 : decode cX10_clause 147 = .ok (.bipush 40, 2) := by decide +kernel
theorem d_X10_clause_149 : decode cX10_clause 149 = .ok (.invokevirtual 147, 3) := by decide +kernel
theorem d_X10_clause_152 : decode cX10_clause 152 = .ok (.iastore, 1) := by decide +kernel
theorem d_X10_clause_153 : decode cX10_clause 153 = .ok (.iload_n 1, 1) := by decide +kernel
theorem d_X10_clause_154 : decode cX10_clause 154 = .ok (.iconst 1, 1) := by decide +kernel
theorem d_X10_clause_155 : decode cX10_clause 155 = .ok (.if_icmp .le 112, 3) := by decide +kernel
theorem d_X10_clause_158 : decode cX10_clause 158 = .ok (.aload_n 0, 1) := by decide +kernel
theorem d_X10_clause_159 : decode cX10_clause 159 = .ok (.iconst 0, 1) := by decide +kernel
theorem d_X10_clause_160 : decode cX10_clause 160 = .ok (.bipush 7, 2) := by decide +kernel
theorem d_X10_clause_162 : decode cX10_clause 162 = .ok (.invokevirtual 147, 3) := by decide +kernel
theorem d_X10_clause_165 : decode cX10_clause 165 = .ok (.istore_n 2, 1) := by decide +kernel
theorem d_X10_clause_166 : decode cX10_clause 166 = .ok (.aload_n 0, 1) := by decide +kernel
theorem d_X10_clause_167 : decode cX10_clause 167 = .ok (.iconst 0, 1) := by decide +kernel
theorem d_X10_clause_168 : decode cX10_clause 168 = .ok (.bipush 7, 2) := by decide +kernel
theorem d_X10_clause_170 : decode cX10_clause 170 = .ok (.invokevirtual 147, 3) := by decide +kernel
theorem d_X10_clause_173 : decode cX10_clause 173 = .ok (.istore_n 3, 1) := by decide +kernel
theorem d_X10_clause_174 : decode cX10_clause 174 = .ok (.aload_n 0, 1) := by decide +kernel
theorem d_X10_clause_175 : decode cX10_clause 175 = .ok (.iload_n 1, 1) := by decide +kernel
theorem d_X10_clause_176 : decode cX10_clause 176 = .ok (.iconst 2, 1) := by decide +kernel
theorem d_X10_clause_177 : decode cX10_clause 177 = .ok (.isub, 1) := by decide +kernel
theorem d_X10_clause_178 : decode cX10_clause 178 = .ok (.ifCond .ne 7, 3) := by decide +kernel
theorem d_X10_clause_181 : decode cX10_clause 181 = .ok (.iconst 0, 1) := by decide +kernel
theorem d_X10_clause_182 : decode cX10_clause 182 = .ok (.goto 4, 3) := by decide +kernel
theorem d_X10_clause_185 : decode cX10_clause 185 = .ok (.iconst 1, 1) := by decide +kernel
theorem d_X10_clause_186 : decode cX10_clause 186 = .ok (.sipush 999, 3) := by decide +kernel
theorem d_X10_clause_189 : decode cX10_clause 189 = .ok (.invokevirtual 147, 3) := by decide +kernel
theorem d_X10_clause_192 : decode cX10_clause 192 = .ok (.istore 4, 2) := by decide +kernel
theorem d_X10_clause_194 : decode cX10_clause 194 = .ok (.iload_n 1, 1) := by decide +kernel
theorem d_X10_clause_195 : decode cX10_clause 195 = .ok (.iconst 2, 1) := by decide +kernel
theorem d_X10_clause_196 : decode cX10_clause 196 = .ok (.if_icmp .ne 14, 3) := by decide +kernel
theorem d_X10_clause_199 : decode cX10_clause 199 = .ok (.aload_n 0, 1) := by decide +kernel
theorem d_X10_clause_200 : decode cX10_clause 200 = .ok (.iconst 0, 1) := by decide +kernel
theorem d_X10_clause_201 : decode cX10_clause 201 = .ok (.sipush 999, 3) := by decide +kernel
theorem d_X10_clause_204 : decode cX10_clause 204 = .ok (.invokevirtual 147, 3) := by decide +kernel
theorem d_X10_clause_207 : decode cX10_clause 207 = .ok (.goto 4, 3) := by decide +kernel
theorem d_X10_clause_210 : decode cX10_clause 210 = .ok (.iconst 0, 1) := by decide +kernel
theorem d_X10_clause_211 : decode cX10_clause 211 = .ok (.istore 5, 2) := by decide +kernel
theorem d_X10_clause_213 : decode cX10_clause 213 = .ok (.aload_n 0, 1) := by decide +kernel
theorem d_X10_clause_214 : decode cX10_clause 214 = .ok (.getfield 98, 3) := by decide +kernel
theorem d_X10_clause_217 : decode cX10_clause 217 = .ok (.ifCond .ne 50, 3) := by decide +kernel
theorem d_X10_clause_220 : decode cX10_clause 220 = .ok (.bipush 8, 2) := by decide +kernel
theorem d_X10_clause_222 : decode cX10_clause 222 = .ok (.iload_n 3, 1) := by decide +kernel
theorem d_X10_clause_223 : decode cX10_clause 223 = .ok (.imul, 1) := by decide +kernel
theorem d_X10_clause_224 : decode cX10_clause 224 = .ok (.iload_n 2, 1) := by decide +kernel
theorem d_X10_clause_225 : decode cX10_clause 225 = .ok (.iadd, 1) := by decide +kernel
theorem d_X10_clause_226 : decode cX10_clause 226 = .ok (.istore 6, 2) := by decide +kernel
theorem d_X10_clause_228 : decode cX10_clause 228 = .ok (.aload_n 0, 1) := by decide +kernel
theorem d_X10_clause_229 : decode cX10_clause 229 = .ok (.getfield 26, 3) := by decide +kernel
theorem d_X10_clause_232 : decode cX10_clause 232 = .ok (.iload_n 1, 1) := by decide +kernel
theorem d_X10_clause_233 : decode cX10_clause 233 = .ok (.iconst 2, 1) := by decide +kernel
theorem d_X10_clause_234 : decode cX10_clause 234 = .ok (.if_icmp .ne 7, 3) := by decide +kernel
theorem d_X10_clause_237 : decode cX10_clause 237 = .ok (.iconst 0, 1) := by decide +kernel
theorem d_X10_clause_238 : decode cX10_clause 238 = .ok (.goto 6, 3) := by decide +kernel
theorem d_X10_clause_241 : decode cX10_clause 241 = .ok (.sipush 128, 3) := by decide +kernel
theorem d_X10_clause_244 : decode cX10_clause 244 = .ok (.iload 6, 2) := by decide +kernel
theorem d_X10_clause_246 : decode cX10_clause 246 = .ok (.iadd, 1) := by decide +kernel
theorem d_X10_clause_247 : decode cX10_clause 247 = .ok (.iload 4, 2) := by decide +kernel
theorem d_X10_clause_249 : decode cX10_clause 249 = .ok (.iastore, 1) := by decide +kernel
theorem d_X10_clause_250 : decode cX10_clause 250 = .ok (.iload_n 1, 1) := by decide +kernel
theorem d_X10_clause_251 : decode cX10_clause 251 = .ok (.iconst 2, 1) := by decide +kernel
theorem d_X10_clause_252 : decode cX10_clause 252 = .ok (.if_icmp .ne 15, 3) := by decide +kernel
theorem d_X10_clause_255 : decode cX10_clause 255 = .ok (.aload_n 0, 1) := by decide +kernel
theorem d_X10_clause_256 : decode cX10_clause 256 = .ok (.getfield 26, 3) := by decide +kernel
theorem d_X10_clause_259 : decode cX10_clause 259 = .ok (.bipush 64, 2) := by decide +kernel
theorem d_X10_clause_261 : decode cX10_clause 261 = .ok (.iload 6, 2) := by decide +kernel
theorem d_X10_clause_263 : decode cX10_clause 263 = .ok (.iadd, 1) := by decide +kernel
theorem d_X10_clause_264 : decode cX10_clause 264 = .ok (.iload 5, 2) := by decide +kernel
theorem d_X10_clause_266 : decode cX10_clause 266 = .ok (.iastore, 1) := by decide +kernel
theorem d_X10_clause_267 : decode cX10_clause 267 = .ok (.aload_n 0, 1) := by decide +kernel
theorem d_X10_clause_268 : decode cX10_clause 268 = .ok (.bipush 59, 2) := by decide +kernel
theorem d_X10_clause_270 : decode cX10_clause 270 = .ok (.invokevirtual 151, 3) := by decide +kernel
theorem d_X10_clause_273 : decode cX10_clause 273 = .ok (.aload_n 0, 1) := by decide +kernel
theorem d_X10_clause_274 : decode cX10_clause 274 = .ok (.getfield 20, 3) := by decide +kernel
theorem d_X10_clause_277 : decode cX10_clause 277 = .ok (.iconst 2, 1) := by decide +kernel
theorem d_X10_clause_278 : decode cX10_clause 278 = .ok (.dup2, 1) := by decide +kernel
theorem d_X10_clause_279 : decode cX10_clause 279 = .ok (.iaload, 1) := by decide +kernel
theorem d_X10_clause_280 : decode cX10_clause 280 = .ok (.aload_n 0, 1) := by decide +kernel
theorem d_X10_clause_281 : decode cX10_clause 281 = .ok (.getfield 98, 3) := by decide +kernel
theorem d_X10_clause_284 : decode cX10_clause 284 = .ok (.ifCond .ne 12, 3) := by decide +kernel
theorem d_X10_clause_287 : decode cX10_clause 287 = .ok (.iload_n 1, 1) := by decide +kernel
theorem d_X10_clause_288 : decode cX10_clause 288 = .ok (.iconst 1, 1) := by decide +kernel
theorem d_X10_clause_289 : decode cX10_clause 289 = .ok (.if_icmp .ne 7, 3) := by decide +kernel
theorem d_X10_clause_292 : decode cX10_clause 292 = .ok (.iconst 1, 1) := by decide +kernel
theorem d_X10_clause_293 : decode cX10_clause 293 = .ok (.goto 4, 3) := by decide +kernel
theorem d_X10_clause_296 : decode cX10_clause 296 = .ok (.iconst 0, 1) := by decide +kernel
theorem d_X10_clause_297 : decode cX10_clause 297 = .ok (.iadd, 1) := by decide +kernel
theorem d_X10_clause_298 : decode cX10_clause 298 = .ok (.iastore, 1) := by decide +kernel
theorem d_X10_clause_299 : decode cX10_clause 299 = .ok (.return_, 1) := by decide +kernel
noncomputable def F_X10_clause_296 (b296_S1 : Int32) (b296_S2 : Int32) (M : zMem) : Option (zMem) :=
  gin b296_S1 3 <|
  zl (zI M 3 b296_S1.toNatClampNeg (b296_S2 + (0 : Int32))) fun M2 =>
  some M2
noncomputable def F_X10_clause_267 (b267_L1 : Int32) (M : zMem) : Option (zMem) :=
  zbv (F_X10_sign M (59 : Int32)) fun M3 =>
  if (M3.1 0 5) = 0 then
    if b267_L1 = (1 : Int32) then
      zl (zI M3 3 2 ((M3.1 3 2) + (1 : Int32))) fun M4 =>
      some M4
    else
      F_X10_clause_296 (2 : Int32) (M3.1 3 2) M3
  else
    F_X10_clause_296 (2 : Int32) (M3.1 3 2) M3
noncomputable def F_X10_clause_244 (b244_L1 : Int32) (b244_L4 : Int32) (b244_L5 : Int32) (b244_L6 : Int32) (b244_S1 : Int32) (M : zMem) : Option (zMem) :=
  gin (b244_S1 + b244_L6) 192 <|
  zl (zI M 5 ((b244_S1 + b244_L6).toNatClampNeg) b244_L4) fun M6 =>
  if b244_L1 = (2 : Int32) then
    gin ((64 : Int32) + b244_L6) 192 <|
    zl (zI M6 5 (((64 : Int32) + b244_L6).toNatClampNeg) b244_L5) fun M8 =>
    F_X10_clause_267 b244_L1 M8
  else
    F_X10_clause_267 b244_L1 M6
noncomputable def F_X10_clause_211 (b211_L1 : Int32) (b211_L2 : Int32) (b211_L3 : Int32) (b211_L4 : Int32) (b211_S0 : Int32) (M : zMem) : Option (zMem) :=
  if (M.1 0 5) = 0 then
    zl (((8 : Int32) * b211_L3) + b211_L2) fun v9 =>
    if b211_L1 = (2 : Int32) then
      F_X10_clause_244 b211_L1 b211_L4 b211_S0 v9 (0 : Int32) M
    else
      F_X10_clause_244 b211_L1 b211_L4 b211_S0 v9 (128 : Int32) M
  else
    F_X10_clause_267 b211_L1 M
noncomputable def F_X10_clause_186 (b186_L1 : Int32) (b186_L2 : Int32) (b186_L3 : Int32) (b186_S1 : Int32) (M : zMem) : Option (zMem) :=
  zb (F_X10_number M b186_S1 (999 : Int32)) fun v11 M10 =>
  if b186_L1 = (2 : Int32) then
    zb (F_X10_number M10 (0 : Int32) (999 : Int32)) fun v13 M12 =>
    F_X10_clause_211 b186_L1 b186_L2 b186_L3 v11 v13 M12
  else
    F_X10_clause_211 b186_L1 b186_L2 b186_L3 v11 (0 : Int32) M10
noncomputable def F_X10_clause_153 (b153_L1 : Int32) (M : zMem) : Option (zMem) :=
  if b153_L1 ≤ (1 : Int32) then
    F_X10_clause_267 b153_L1 M
  else
    zb (F_X10_number M (0 : Int32) (7 : Int32)) fun v15 M14 =>
    zb (F_X10_number M14 (0 : Int32) (7 : Int32)) fun v17 M16 =>
    if (b153_L1 - (2 : Int32)) = 0 then
      F_X10_clause_186 b153_L1 v15 v17 (0 : Int32) M16
    else
      F_X10_clause_186 b153_L1 v15 v17 (1 : Int32) M16
noncomputable def F_X10_clause_108 (b108_L1 : Int32) (M : zMem) : Option (zMem) :=
  if b108_L1 = (1 : Int32) then
    gin (M.1 3 2) 10 <|
    zb (F_X10_number M (0 : Int32) (7 : Int32)) fun v20 M19 =>
    zl (zI M19 (6 + (1 + 1 * (M.1 3 2).toNatClampNeg)) 0 v20) fun M21 =>
    gin (M21.1 3 2) 10 <|
    zb (F_X10_number M21 (0 : Int32) (40 : Int32)) fun v24 M23 =>
    zl (zI M23 (6 + (1 + 1 * (M21.1 3 2).toNatClampNeg)) 1 v24) fun M25 =>
    F_X10_clause_153 b108_L1 M25
  else
    F_X10_clause_153 b108_L1 M
noncomputable def F_X10_clause_56 (b56_L1 : Int32) (M : zMem) : Option (zMem) :=
  if (M.1 0 5) = 0 then
    zbv (F_X10_skipWord M) fun M26 =>
    zl (zI M26 0 7 ((M26.1 0 7) + (1 : Int32))) fun M27 =>
    if b56_L1 = 0 then
      zb (F_X10_number M27 (1 : Int32) (8 : Int32)) fun v29 M28 =>
      zl (zI M28 3 0 v29) fun M30 =>
      zb (F_X10_number M30 (1 : Int32) (8 : Int32)) fun v32 M31 =>
      zl (zI M31 3 1 v32) fun M33 =>
      F_X10_clause_108 b56_L1 M33
    else
      F_X10_clause_108 b56_L1 M27
  else
    some M
noncomputable def F_X10_clause_47 (b47_L1 : Int32) (M : zMem) : Option (zMem) :=
  zbv (F_X10_wrong M (3 : Int32) (M.1 0 4)) fun M34 =>
  F_X10_clause_56 b47_L1 M34
noncomputable def F_X10_clause (M : zMem)  : Option (zMem) :=
  zb (F_X10_kindHere M) fun v36 M35 =>
  if v36 = (-1 : Int32) then
    zbv (F_X10_wrong M35 (1 : Int32) (M35.1 0 4)) fun M37 =>
    F_X10_clause_56 v36 M37
  else
    if (M35.1 0 7) = (60 : Int32) then
      F_X10_clause_47 v36 M35
    else
      if v36 = (1 : Int32) then
        if (M35.1 3 2) = (10 : Int32) then
          F_X10_clause_47 v36 M35
        else
          F_X10_clause_56 v36 M35
      else
        F_X10_clause_56 v36 M35
def rm_X10_clause : Room := { frames := 7, cells := 0, slots := 0, locals := 189 }
set_option maxHeartbeats 4000000 in
set_option maxRecDepth 100000 in
theorem c_X10_clause (l : Launch) {G : zG} {ad : Nat → Nat} {n : Nat} (hA : zInj ad n) (M : zMem)  (hT : zT shM n 0 11) {M9 : zMem} (hF : F_X10_clause M  = some M9) : zM l yX10_clause cX10_clause 7 none rm_X10_clause G shM ad n M [.ref (ad 0)] none M9 := by
  refine zM_of hA (by decide +kernel) (lv := [(0, .ref (ad 0))]) (Nat.le_of_ble_eq_true rfl) rfl (fun p e s m args below meth c A cx hr => ?_)
  have hb296 : ∀ (b296_S1 : Int32) (b296_S2 : Int32) (M : zMem), F_X10_clause_296 b296_S1 b296_S2 M = some M9 → zJ p l e rm_X10_clause s m args below meth c G shM ad n A 7 (MQ below (zQ G shM ad n M9 none A) args s 0 0 A) 0 0 M 296 [] [.int b296_S2, .int b296_S1, .ref (ad 3)] := by
    intro b296_S1 b296_S2 M hF
    unfold F_X10_clause_296 at hF
    refine z_iconst (v := 0) cx d_X10_clause_296 ki_0 ?_
    refine z_iadd cx d_X10_clause_297 ?_
    obtain ⟨hi1, hF⟩ := gin_inv hF
    refine z_iast cx (tfM_11_3 hT) za_28 hi1 b296_S1.toNatClampNeg rfl d_X10_clause_298 ?_
    refine z_nmM hF (fun M2 hF => ?_)
    exact z_vret cx hr hF d_X10_clause_299
  have hb267 : ∀ (b267_L1 : Int32) (M : zMem), F_X10_clause_267 b267_L1 M = some M9 → zJ p l e rm_X10_clause s m args below meth c G shM ad n A 7 (MQ below (zQ G shM ad n M9 none A) args s 0 0 A) 0 0 M 267 [(0, .ref (ad 0)), (1, .int b267_L1)] [] := by
    intro b267_L1 M hF
    unfold F_X10_clause_267 at hF
    refine z_aload_n cx d_X10_clause_267 0 rfl ?_
    refine z_bipush (v := 59) cx d_X10_clause_268 kb_59 ?_
    obtain ⟨M3, hc, hF⟩ := zbv_inv hF
    refine z_callV cx (As := [.int (59 : Int32)]) (rest := []) (c_X10_sign l cx.2.2.2.1.1 M (59 : Int32) hT hc) hT zo_11 cv_SunnyPansModel_151 ⟨rfl, rfl, Nat.le_of_ble_eq_true rfl, Nat.le_of_ble_eq_true rfl⟩ rfl rfl ⟨Nat.zero_le _, Nat.zero_le _⟩ (Nat.le_of_ble_eq_true rfl) d_X10_clause_270 ?_
    refine z_aload_n cx d_X10_clause_273 0 rfl ?_
    refine z_getR cx hT fg_SunnyPansModel_20 3 rfl d_X10_clause_274 ?_
    refine z_iconst (v := 2) cx d_X10_clause_277 ki_2 ?_
    refine z_dup2 cx d_X10_clause_278 rfl rfl ?_
    refine z_iald cx (tfM_11_3 hT) za_28 (zvp (by decide +kernel)) 2 rfl d_X10_clause_279 ?_
    refine z_aload_n cx d_X10_clause_280 0 rfl ?_
    refine z_getI cx hT fg_SunnyPansModel_98 d_X10_clause_281 ?_
    refine z_if_ne cx 296 d_X10_clause_284 (by decide) hF (fun hF => ?_) (fun hF => ?_)
    · exact z_lv [] _ rfl (hb296 (2 : Int32) (M3.1 3 2) M3 hF)
    refine z_iload_n cx d_X10_clause_287 1 rfl ?_
    refine z_iconst (v := 1) cx d_X10_clause_288 ki_1 ?_
    refine z_icmp_ne cx 296 d_X10_clause_289 (by decide) hF (fun hF => ?_) (fun hF => ?_)
    · exact z_lv [] _ rfl (hb296 (2 : Int32) (M3.1 3 2) M3 hF)
    refine z_iconst (v := 1) cx d_X10_clause_292 ki_1 ?_
    refine z_goto cx 297 d_X10_clause_293 (by decide) ?_
    refine z_iadd cx d_X10_clause_297 ?_
    refine z_iast cx (tfM_11_3 hT) za_28 (zvp (by decide +kernel)) 2 rfl d_X10_clause_298 ?_
    refine z_nmM hF (fun M4 hF => ?_)
    exact z_vret cx hr hF d_X10_clause_299
  have hb244 : ∀ (b244_L1 : Int32) (b244_L4 : Int32) (b244_L5 : Int32) (b244_L6 : Int32) (b244_S1 : Int32) (M : zMem), F_X10_clause_244 b244_L1 b244_L4 b244_L5 b244_L6 b244_S1 M = some M9 → zJ p l e rm_X10_clause s m args below meth c G shM ad n A 7 (MQ below (zQ G shM ad n M9 none A) args s 0 0 A) 0 0 M 244 [(0, .ref (ad 0)), (1, .int b244_L1), (4, .int b244_L4), (5, .int b244_L5), (6, .int b244_L6)] [.int b244_S1, .ref (ad 5)] := by
    intro b244_L1 b244_L4 b244_L5 b244_L6 b244_S1 M hF
    unfold F_X10_clause_244 at hF
    refine z_iload cx d_X10_clause_244 4 rfl ?_
    refine z_iadd cx d_X10_clause_246 ?_
    refine z_iload cx d_X10_clause_247 2 rfl ?_
    obtain ⟨hi5, hF⟩ := gin_inv hF
    refine z_iast cx (tfM_11_5 hT) za_29 hi5 ((b244_S1 + b244_L6).toNatClampNeg) rfl d_X10_clause_249 ?_
    refine z_nmM hF (fun M6 hF => ?_)
    refine z_iload_n cx d_X10_clause_250 1 rfl ?_
    refine z_iconst (v := 2) cx d_X10_clause_251 ki_2 ?_
    refine z_icmp_ne cx 267 d_X10_clause_252 (by decide) hF (fun hF => ?_) (fun hF => ?_)
    · exact z_lv [0, 1] _ rfl (hb267 b244_L1 M6 hF)
    refine z_aload_n cx d_X10_clause_255 0 rfl ?_
    refine z_getR cx hT fg_SunnyPansModel_26 5 rfl d_X10_clause_256 ?_
    refine z_bipush (v := 64) cx d_X10_clause_259 kb_64 ?_
    refine z_iload cx d_X10_clause_261 4 rfl ?_
    refine z_iadd cx d_X10_clause_263 ?_
    refine z_iload cx d_X10_clause_264 3 rfl ?_
    obtain ⟨hi7, hF⟩ := gin_inv hF
    refine z_iast cx (tfM_11_5 hT) za_29 hi7 (((64 : Int32) + b244_L6).toNatClampNeg) rfl d_X10_clause_266 ?_
    refine z_nmM hF (fun M8 hF => ?_)
    exact z_lv [0, 1] _ rfl (hb267 b244_L1 M8 hF)
  have hb211 : ∀ (b211_L1 : Int32) (b211_L2 : Int32) (b211_L3 : Int32) (b211_L4 : Int32) (b211_S0 : Int32) (M : zMem), F_X10_clause_211 b211_L1 b211_L2 b211_L3 b211_L4 b211_S0 M = some M9 → zJ p l e rm_X10_clause s m args below meth c G shM ad n A 7 (MQ below (zQ G shM ad n M9 none A) args s 0 0 A) 0 0 M 211 [(0, .ref (ad 0)), (1, .int b211_L1), (2, .int b211_L2), (3, .int b211_L3), (4, .int b211_L4)] [.int b211_S0] := by
    intro b211_L1 b211_L2 b211_L3 b211_L4 b211_S0 M hF
    unfold F_X10_clause_211 at hF
    refine z_istore cx 5 [(5, .int b211_S0), (0, .ref (ad 0)), (1, .int b211_L1), (2, .int b211_L2), (3, .int b211_L3), (4, .int b211_L4)] d_X10_clause_211 (by decide) rfl ?_
    refine z_aload_n cx d_X10_clause_213 1 rfl ?_
    refine z_getI cx hT fg_SunnyPansModel_98 d_X10_clause_214 ?_
    refine z_if_ne cx 267 d_X10_clause_217 (by decide) hF (fun hF => ?_) (fun hF => ?_)
    · exact z_lv [1, 2] _ rfl (hb267 b211_L1 M hF)
    refine z_bipush (v := 8) cx d_X10_clause_220 kb_8 ?_
    refine z_iload_n cx d_X10_clause_222 4 rfl ?_
    refine z_imul cx d_X10_clause_223 ?_
    refine z_iload_n cx d_X10_clause_224 3 rfl ?_
    refine z_iadd cx d_X10_clause_225 ?_
    refine z_nm hF (fun v9 hF => ?_)
    refine z_istore cx 6 [(6, .int v9), (5, .int b211_S0), (0, .ref (ad 0)), (1, .int b211_L1), (2, .int b211_L2), (3, .int b211_L3), (4, .int b211_L4)] d_X10_clause_226 (by decide) rfl ?_
    refine z_aload_n cx d_X10_clause_228 2 rfl ?_
    refine z_getR cx hT fg_SunnyPansModel_26 5 rfl d_X10_clause_229 ?_
    refine z_iload_n cx d_X10_clause_232 3 rfl ?_
    refine z_iconst (v := 2) cx d_X10_clause_233 ki_2 ?_
    refine z_icmp_ne cx 241 d_X10_clause_234 (by decide) hF (fun hF => ?_) (fun hF => ?_)
    · refine z_sipush (v := 128) cx d_X10_clause_241 ks_128 ?_
      exact z_lv [2, 3, 6, 1, 0] _ rfl (hb244 b211_L1 b211_L4 b211_S0 v9 (128 : Int32) M hF)
    refine z_iconst (v := 0) cx d_X10_clause_237 ki_0 ?_
    refine z_goto cx 244 d_X10_clause_238 (by decide) ?_
    exact z_lv [2, 3, 6, 1, 0] _ rfl (hb244 b211_L1 b211_L4 b211_S0 v9 (0 : Int32) M hF)
  have hb186 : ∀ (b186_L1 : Int32) (b186_L2 : Int32) (b186_L3 : Int32) (b186_S1 : Int32) (M : zMem), F_X10_clause_186 b186_L1 b186_L2 b186_L3 b186_S1 M = some M9 → zJ p l e rm_X10_clause s m args below meth c G shM ad n A 7 (MQ below (zQ G shM ad n M9 none A) args s 0 0 A) 0 0 M 186 [(0, .ref (ad 0)), (1, .int b186_L1), (2, .int b186_L2), (3, .int b186_L3)] [.int b186_S1, .ref (ad 0)] := by
    intro b186_L1 b186_L2 b186_L3 b186_S1 M hF
    unfold F_X10_clause_186 at hF
    refine z_sipush (v := 999) cx d_X10_clause_186 ks_999 ?_
    obtain ⟨v11, M10, hc, hF⟩ := zb_inv hF
    refine z_callV cx (As := [.int b186_S1, .int (999 : Int32)]) (rest := []) (c_X10_number l cx.2.2.2.1.1 M b186_S1 (999 : Int32) hT hc) hT zo_11 cv_SunnyPansModel_147 ⟨rfl, rfl, Nat.le_of_ble_eq_true rfl, Nat.le_of_ble_eq_true rfl⟩ rfl rfl ⟨Nat.zero_le _, Nat.zero_le _⟩ (Nat.le_of_ble_eq_true rfl) d_X10_clause_189 ?_
    refine z_istore cx 4 [(4, .int v11), (0, .ref (ad 0)), (1, .int b186_L1), (2, .int b186_L2), (3, .int b186_L3)] d_X10_clause_192 (by decide) rfl ?_
    refine z_iload_n cx d_X10_clause_194 2 rfl ?_
    refine z_iconst (v := 2) cx d_X10_clause_195 ki_2 ?_
    refine z_icmp_ne cx 210 d_X10_clause_196 (by decide) hF (fun hF => ?_) (fun hF => ?_)
    · refine z_iconst (v := 0) cx d_X10_clause_210 ki_0 ?_
      exact z_lv [1, 2, 3, 4, 0] _ rfl (hb211 b186_L1 b186_L2 b186_L3 v11 (0 : Int32) M10 hF)
    refine z_aload_n cx d_X10_clause_199 1 rfl ?_
    refine z_iconst (v := 0) cx d_X10_clause_200 ki_0 ?_
    refine z_sipush (v := 999) cx d_X10_clause_201 ks_999 ?_
    obtain ⟨v13, M12, hc, hF⟩ := zb_inv hF
    refine z_callV cx (As := [.int (0 : Int32), .int (999 : Int32)]) (rest := []) (c_X10_number l cx.2.2.2.1.1 M10 (0 : Int32) (999 : Int32) hT hc) hT zo_11 cv_SunnyPansModel_147 ⟨rfl, rfl, Nat.le_of_ble_eq_true rfl, Nat.le_of_ble_eq_true rfl⟩ rfl rfl ⟨Nat.zero_le _, Nat.zero_le _⟩ (Nat.le_of_ble_eq_true rfl) d_X10_clause_204 ?_
    refine z_goto cx 211 d_X10_clause_207 (by decide) ?_
    exact z_lv [1, 2, 3, 4, 0] _ rfl (hb211 b186_L1 b186_L2 b186_L3 v11 v13 M12 hF)
  have hb153 : ∀ (b153_L1 : Int32) (M : zMem), F_X10_clause_153 b153_L1 M = some M9 → zJ p l e rm_X10_clause s m args below meth c G shM ad n A 7 (MQ below (zQ G shM ad n M9 none A) args s 0 0 A) 0 0 M 153 [(0, .ref (ad 0)), (1, .int b153_L1)] [] := by
    intro b153_L1 M hF
    unfold F_X10_clause_153 at hF
    refine z_iload_n cx d_X10_clause_153 1 rfl ?_
    refine z_iconst (v := 1) cx d_X10_clause_154 ki_1 ?_
    refine z_icmp_le cx 267 d_X10_clause_155 (by decide) hF (fun hF => ?_) (fun hF => ?_)
    · exact hb267 b153_L1 M hF
    refine z_aload_n cx d_X10_clause_158 0 rfl ?_
    refine z_iconst (v := 0) cx d_X10_clause_159 ki_0 ?_
    refine z_bipush (v := 7) cx d_X10_clause_160 kb_7 ?_
    obtain ⟨v15, M14, hc, hF⟩ := zb_inv hF
    refine z_callV cx (As := [.int (0 : Int32), .int (7 : Int32)]) (rest := []) (c_X10_number l cx.2.2.2.1.1 M (0 : Int32) (7 : Int32) hT hc) hT zo_11 cv_SunnyPansModel_147 ⟨rfl, rfl, Nat.le_of_ble_eq_true rfl, Nat.le_of_ble_eq_true rfl⟩ rfl rfl ⟨Nat.zero_le _, Nat.zero_le _⟩ (Nat.le_of_ble_eq_true rfl) d_X10_clause_162 ?_
    refine z_istore_n cx 2 [(2, .int v15), (0, .ref (ad 0)), (1, .int b153_L1)] d_X10_clause_165 rfl (by decide) rfl ?_
    refine z_aload_n cx d_X10_clause_166 1 rfl ?_
    refine z_iconst (v := 0) cx d_X10_clause_167 ki_0 ?_
    refine z_bipush (v := 7) cx d_X10_clause_168 kb_7 ?_
    obtain ⟨v17, M16, hc, hF⟩ := zb_inv hF
    refine z_callV cx (As := [.int (0 : Int32), .int (7 : Int32)]) (rest := []) (c_X10_number l cx.2.2.2.1.1 M14 (0 : Int32) (7 : Int32) hT hc) hT zo_11 cv_SunnyPansModel_147 ⟨rfl, rfl, Nat.le_of_ble_eq_true rfl, Nat.le_of_ble_eq_true rfl⟩ rfl rfl ⟨Nat.zero_le _, Nat.zero_le _⟩ (Nat.le_of_ble_eq_true rfl) d_X10_clause_170 ?_
    refine z_istore_n cx 3 [(3, .int v17), (2, .int v15), (0, .ref (ad 0)), (1, .int b153_L1)] d_X10_clause_173 rfl (by decide) rfl ?_
    refine z_aload_n cx d_X10_clause_174 2 rfl ?_
    refine z_iload_n cx d_X10_clause_175 3 rfl ?_
    refine z_iconst (v := 2) cx d_X10_clause_176 ki_2 ?_
    refine z_isub cx d_X10_clause_177 ?_
    refine z_if_ne cx 185 d_X10_clause_178 (by decide) hF (fun hF => ?_) (fun hF => ?_)
    · refine z_iconst (v := 1) cx d_X10_clause_185 ki_1 ?_
      exact z_lv [2, 3, 1, 0] _ rfl (hb186 b153_L1 v15 v17 (1 : Int32) M16 hF)
    refine z_iconst (v := 0) cx d_X10_clause_181 ki_0 ?_
    refine z_goto cx 186 d_X10_clause_182 (by decide) ?_
    exact z_lv [2, 3, 1, 0] _ rfl (hb186 b153_L1 v15 v17 (0 : Int32) M16 hF)
  have hb108 : ∀ (b108_L1 : Int32) (M : zMem), F_X10_clause_108 b108_L1 M = some M9 → zJ p l e rm_X10_clause s m args below meth c G shM ad n A 7 (MQ below (zQ G shM ad n M9 none A) args s 0 0 A) 0 0 M 108 [(0, .ref (ad 0)), (1, .int b108_L1)] [] := by
    intro b108_L1 M hF
    unfold F_X10_clause_108 at hF
    refine z_iload_n cx d_X10_clause_108 1 rfl ?_
    refine z_iconst (v := 1) cx d_X10_clause_109 ki_1 ?_
    refine z_icmp_ne cx 153 d_X10_clause_110 (by decide) hF (fun hF => ?_) (fun hF => ?_)
    · exact hb153 b108_L1 M hF
    refine z_aload_n cx d_X10_clause_113 0 rfl ?_
    refine z_getR cx hT fg_SunnyPansModel_31 6 rfl d_X10_clause_114 ?_
    refine z_aload_n cx d_X10_clause_117 0 rfl ?_
    refine z_getR cx hT fg_SunnyPansModel_20 3 rfl d_X10_clause_118 ?_
    refine z_iconst (v := 2) cx d_X10_clause_121 ki_2 ?_
    refine z_iald cx (tfM_11_3 hT) za_28 (zvp (by decide +kernel)) 2 rfl d_X10_clause_122 ?_
    obtain ⟨hi18, hF⟩ := gin_inv hF
    refine z_aald cx (tfM_11_6 hT) za_30 hi18 (6 + (1 + 1 * (M.1 3 2).toNatClampNeg)) rfl d_X10_clause_123 ?_
    refine z_iconst (v := 0) cx d_X10_clause_124 ki_0 ?_
    refine z_aload_n cx d_X10_clause_125 0 rfl ?_
    refine z_iconst (v := 0) cx d_X10_clause_126 ki_0 ?_
    refine z_bipush (v := 7) cx d_X10_clause_127 kb_7 ?_
    obtain ⟨v20, M19, hc, hF⟩ := zb_inv hF
    refine z_callV cx (As := [.int (0 : Int32), .int (7 : Int32)]) (rest := [.int (0 : Int32), .ref (ad (6 + (1 + 1 * (M.1 3 2).toNatClampNeg)))]) (c_X10_number l cx.2.2.2.1.1 M (0 : Int32) (7 : Int32) hT hc) hT zo_11 cv_SunnyPansModel_147 ⟨rfl, rfl, Nat.le_of_ble_eq_true rfl, Nat.le_of_ble_eq_true rfl⟩ rfl rfl ⟨Nat.zero_le _, Nat.zero_le _⟩ (Nat.le_of_ble_eq_true rfl) d_X10_clause_129 ?_
    refine z_iast cx (teM_30 (tfM_11_6 hT) hi18) za_27 (zvp (by decide +kernel)) 0 rfl d_X10_clause_132 ?_
    refine z_nmM hF (fun M21 hF => ?_)
    refine z_aload_n cx d_X10_clause_133 0 rfl ?_
    refine z_getR cx hT fg_SunnyPansModel_31 6 rfl d_X10_clause_134 ?_
    refine z_aload_n cx d_X10_clause_137 0 rfl ?_
    refine z_getR cx hT fg_SunnyPansModel_20 3 rfl d_X10_clause_138 ?_
    refine z_iconst (v := 2) cx d_X10_clause_141 ki_2 ?_
    refine z_iald cx (tfM_11_3 hT) za_28 (zvp (by decide +kernel)) 2 rfl d_X10_clause_142 ?_
    obtain ⟨hi22, hF⟩ := gin_inv hF
    refine z_aald cx (tfM_11_6 hT) za_30 hi22 (6 + (1 + 1 * (M21.1 3 2).toNatClampNeg)) rfl d_X10_clause_143 ?_
    refine z_iconst (v := 1) cx d_X10_clause_144 ki_1 ?_
    refine z_aload_n cx d_X10_clause_145 0 rfl ?_
    refine z_iconst (v := 0) cx d_X10_clause_146 ki_0 ?_
    refine z_bipush (v := 40) cx d_X10_clause_147 kb_40 ?_
    obtain ⟨v24, M23, hc, hF⟩ := zb_inv hF
    refine z_callV cx (As := [.int (0 : Int32), .int (40 : Int32)]) (rest := [.int (1 : Int32), .ref (ad (6 + (1 + 1 * (M21.1 3 2).toNatClampNeg)))]) (c_X10_number l cx.2.2.2.1.1 M21 (0 : Int32) (40 : Int32) hT hc) hT zo_11 cv_SunnyPansModel_147 ⟨rfl, rfl, Nat.le_of_ble_eq_true rfl, Nat.le_of_ble_eq_true rfl⟩ rfl rfl ⟨Nat.zero_le _, Nat.zero_le _⟩ (Nat.le_of_ble_eq_true rfl) d_X10_clause_149 ?_
    refine z_iast cx (teM_30 (tfM_11_6 hT) hi22) za_27 (zvp (by decide +kernel)) 1 rfl d_X10_clause_152 ?_
    refine z_nmM hF (fun M25 hF => ?_)
    exact hb153 b108_L1 M25 hF
  have hb56 : ∀ (b56_L1 : Int32) (M : zMem), F_X10_clause_56 b56_L1 M = some M9 → zJ p l e rm_X10_clause s m args below meth c G shM ad n A 7 (MQ below (zQ G shM ad n M9 none A) args s 0 0 A) 0 0 M 56 [(0, .ref (ad 0)), (1, .int b56_L1)] [] := by
    intro b56_L1 M hF
    unfold F_X10_clause_56 at hF
    refine z_aload_n cx d_X10_clause_56 0 rfl ?_
    refine z_getI cx hT fg_SunnyPansModel_98 d_X10_clause_57 ?_
    refine z_if_eq cx 64 d_X10_clause_60 (by decide) hF (fun hF => ?_) (fun hF => ?_)
    · refine z_aload_n cx d_X10_clause_64 0 rfl ?_
      obtain ⟨M26, hc, hF⟩ := zbv_inv hF
      refine z_callV cx (As := []) (rest := []) (c_X10_skipWord l cx.2.2.2.1.1 M hT hc) hT zo_11 cv_SunnyPansModel_135 ⟨rfl, rfl, Nat.le_of_ble_eq_true rfl, Nat.le_of_ble_eq_true rfl⟩ rfl rfl ⟨Nat.zero_le _, Nat.zero_le _⟩ (Nat.le_of_ble_eq_true rfl) d_X10_clause_65 ?_
      refine z_aload_n cx d_X10_clause_68 0 rfl ?_
      refine z_dup cx d_X10_clause_69 rfl ?_
      refine z_getI cx hT fg_SunnyPansModel_138 d_X10_clause_70 ?_
      refine z_iconst (v := 1) cx d_X10_clause_73 ki_1 ?_
      refine z_iadd cx d_X10_clause_74 ?_
      refine z_putI cx hT fp_SunnyPansModel_138 d_X10_clause_75 ?_
      refine z_nmM hF (fun M27 hF => ?_)
      refine z_iload_n cx d_X10_clause_78 1 rfl ?_
      refine z_if_ne cx 108 d_X10_clause_79 (by decide) hF (fun hF => ?_) (fun hF => ?_)
      · exact hb108 b56_L1 M27 hF
      refine z_aload_n cx d_X10_clause_82 0 rfl ?_
      refine z_getR cx hT fg_SunnyPansModel_20 3 rfl d_X10_clause_83 ?_
      refine z_iconst (v := 0) cx d_X10_clause_86 ki_0 ?_
      refine z_aload_n cx d_X10_clause_87 0 rfl ?_
      refine z_iconst (v := 1) cx d_X10_clause_88 ki_1 ?_
      refine z_bipush (v := 8) cx d_X10_clause_89 kb_8 ?_
      obtain ⟨v29, M28, hc, hF⟩ := zb_inv hF
      refine z_callV cx (As := [.int (1 : Int32), .int (8 : Int32)]) (rest := [.int (0 : Int32), .ref (ad 3)]) (c_X10_number l cx.2.2.2.1.1 M27 (1 : Int32) (8 : Int32) hT hc) hT zo_11 cv_SunnyPansModel_147 ⟨rfl, rfl, Nat.le_of_ble_eq_true rfl, Nat.le_of_ble_eq_true rfl⟩ rfl rfl ⟨Nat.zero_le _, Nat.zero_le _⟩ (Nat.le_of_ble_eq_true rfl) d_X10_clause_91 ?_
      refine z_iast cx (tfM_11_3 hT) za_28 (zvp (by decide +kernel)) 0 rfl d_X10_clause_94 ?_
      refine z_nmM hF (fun M30 hF => ?_)
      refine z_aload_n cx d_X10_clause_95 0 rfl ?_
      refine z_getR cx hT fg_SunnyPansModel_20 3 rfl d_X10_clause_96 ?_
      refine z_iconst (v := 1) cx d_X10_clause_99 ki_1 ?_
      refine z_aload_n cx d_X10_clause_100 0 rfl ?_
      refine z_iconst (v := 1) cx d_X10_clause_101 ki_1 ?_
      refine z_bipush (v := 8) cx d_X10_clause_102 kb_8 ?_
      obtain ⟨v32, M31, hc, hF⟩ := zb_inv hF
      refine z_callV cx (As := [.int (1 : Int32), .int (8 : Int32)]) (rest := [.int (1 : Int32), .ref (ad 3)]) (c_X10_number l cx.2.2.2.1.1 M30 (1 : Int32) (8 : Int32) hT hc) hT zo_11 cv_SunnyPansModel_147 ⟨rfl, rfl, Nat.le_of_ble_eq_true rfl, Nat.le_of_ble_eq_true rfl⟩ rfl rfl ⟨Nat.zero_le _, Nat.zero_le _⟩ (Nat.le_of_ble_eq_true rfl) d_X10_clause_104 ?_
      refine z_iast cx (tfM_11_3 hT) za_28 (zvp (by decide +kernel)) 1 rfl d_X10_clause_107 ?_
      refine z_nmM hF (fun M33 hF => ?_)
      exact hb108 b56_L1 M33 hF
    exact z_vret cx hr hF d_X10_clause_63
  have hb47 : ∀ (b47_L1 : Int32) (M : zMem), F_X10_clause_47 b47_L1 M = some M9 → zJ p l e rm_X10_clause s m args below meth c G shM ad n A 7 (MQ below (zQ G shM ad n M9 none A) args s 0 0 A) 0 0 M 47 [(0, .ref (ad 0)), (1, .int b47_L1)] [] := by
    intro b47_L1 M hF
    unfold F_X10_clause_47 at hF
    refine z_aload_n cx d_X10_clause_47 0 rfl ?_
    refine z_iconst (v := 3) cx d_X10_clause_48 ki_3 ?_
    refine z_aload_n cx d_X10_clause_49 0 rfl ?_
    refine z_getI cx hT fg_SunnyPansModel_91 d_X10_clause_50 ?_
    obtain ⟨M34, hc, hF⟩ := zbv_inv hF
    refine z_callV cx (As := [.int (3 : Int32), .int (M.1 0 4)]) (rest := []) (c_X10_wrong l cx.2.2.2.1.1 M (3 : Int32) (M.1 0 4) hT hc) hT zo_11 cv_SunnyPansModel_111 ⟨rfl, rfl, Nat.le_of_ble_eq_true rfl, Nat.le_of_ble_eq_true rfl⟩ rfl rfl ⟨Nat.zero_le _, Nat.zero_le _⟩ (Nat.le_of_ble_eq_true rfl) d_X10_clause_53 ?_
    exact hb56 b47_L1 M34 hF
  unfold F_X10_clause at hF
  refine z_aload_n cx d_X10_clause_0 0 rfl ?_
  obtain ⟨v36, M35, hc, hF⟩ := zb_inv hF
  refine z_callV cx (As := []) (rest := []) (c_X10_kindHere l cx.2.2.2.1.1 M hT hc) hT zo_11 cv_SunnyPansModel_144 ⟨rfl, rfl, Nat.le_of_ble_eq_true rfl, Nat.le_of_ble_eq_true rfl⟩ rfl rfl ⟨Nat.zero_le _, Nat.zero_le _⟩ (Nat.le_of_ble_eq_true rfl) d_X10_clause_1 ?_
  refine z_istore_n cx 1 [(1, .int v36), (0, .ref (ad 0))] d_X10_clause_4 rfl (by decide) rfl ?_
  refine z_iload_n cx d_X10_clause_5 0 rfl ?_
  refine z_iconst (v := -1) cx d_X10_clause_6 ki_m1 ?_
  refine z_icmp_ne cx 22 d_X10_clause_7 (by decide) hF (fun hF => ?_) (fun hF => ?_)
  · refine z_aload_n cx d_X10_clause_22 1 rfl ?_
    refine z_getI cx hT fg_SunnyPansModel_138 d_X10_clause_23 ?_
    refine z_bipush (v := 60) cx d_X10_clause_26 kb_60 ?_
    refine z_icmp_eq cx 47 d_X10_clause_28 (by decide) hF (fun hF => ?_) (fun hF => ?_)
    · exact z_lv [1, 0] _ rfl (hb47 v36 M35 hF)
    refine z_iload_n cx d_X10_clause_31 0 rfl ?_
    refine z_iconst (v := 1) cx d_X10_clause_32 ki_1 ?_
    refine z_icmp_ne cx 56 d_X10_clause_33 (by decide) hF (fun hF => ?_) (fun hF => ?_)
    · exact z_lv [1, 0] _ rfl (hb56 v36 M35 hF)
    refine z_aload_n cx d_X10_clause_36 1 rfl ?_
    refine z_getR cx hT fg_SunnyPansModel_20 3 rfl d_X10_clause_37 ?_
    refine z_iconst (v := 2) cx d_X10_clause_40 ki_2 ?_
    refine z_iald cx (tfM_11_3 hT) za_28 (zvp (by decide +kernel)) 2 rfl d_X10_clause_41 ?_
    refine z_bipush (v := 10) cx d_X10_clause_42 kb_10 ?_
    refine z_icmp_ne cx 56 d_X10_clause_44 (by decide) hF (fun hF => ?_) (fun hF => ?_)
    · exact z_lv [1, 0] _ rfl (hb56 v36 M35 hF)
    exact z_lv [1, 0] _ rfl (hb47 v36 M35 hF)
  refine z_aload_n cx d_X10_clause_10 1 rfl ?_
  refine z_iconst (v := 1) cx d_X10_clause_11 ki_1 ?_
  refine z_aload_n cx d_X10_clause_12 1 rfl ?_
  refine z_getI cx hT fg_SunnyPansModel_91 d_X10_clause_13 ?_
  obtain ⟨M37, hc, hF⟩ := zbv_inv hF
  refine z_callV cx (As := [.int (1 : Int32), .int (M35.1 0 4)]) (rest := []) (c_X10_wrong l cx.2.2.2.1.1 M35 (1 : Int32) (M35.1 0 4) hT hc) hT zo_11 cv_SunnyPansModel_111 ⟨rfl, rfl, Nat.le_of_ble_eq_true rfl, Nat.le_of_ble_eq_true rfl⟩ rfl rfl ⟨Nat.zero_le _, Nat.zero_le _⟩ (Nat.le_of_ble_eq_true rfl) d_X10_clause_16 ?_
  refine z_goto cx 56 d_X10_clause_19 (by decide) ?_
  exact z_lv [1, 0] _ rfl (hb56 v36 M37 hF)
/-! SunnyPansModel.works -/
set_option maxRecDepth 100000 in
theorem wd_1391 : Cond.code yX10_beginsAnew cX10_beginsAnew 2 none ∈ tbG := tw6 91 rfl rfl
set_option maxRecDepth 100000 in
theorem wd_1388 : Cond.methodLink "SunnyPansModel" 79 yX10_beginsAnew ∈ tbG := tw6 88 rfl rfl
set_option maxRecDepth 100000 in
theorem wd_1390 : Cond.instanceMethod yX10_beginsAnew ∈ tbG := tw6 90 rfl rfl
theorem wd_42 : Cond.selects "SunnyPansModel" yX10_beginsAnew yX10_beginsAnew ∈ tbG := tw 42 (by decide +kernel) rfl
theorem cv_SunnyPansModel_79 : zCV "SunnyPansModel" 79 "SunnyPansModel" yX10_beginsAnew cX10_beginsAnew 2 none 0 := zCV_of wd_1388 wd_1390 wd_42 wd_111 wd_1391 (by decide +kernel)
set_option maxRecDepth 100000 in
theorem wd_1592 : Cond.code yX10_ends cX10_ends 1 (some .int) ∈ tbG := tw7 52 rfl rfl
set_option maxRecDepth 100000 in
theorem wd_1589 : Cond.methodLink "SunnyPansModel" 165 yX10_ends ∈ tbG := tw7 49 rfl rfl
set_option maxRecDepth 100000 in
theorem wd_1591 : Cond.instanceMethod yX10_ends ∈ tbG := tw7 51 rfl rfl
theorem wd_55 : Cond.selects "SunnyPansModel" yX10_ends yX10_ends ∈ tbG := tw 55 (by decide +kernel) rfl
theorem cv_SunnyPansModel_165 : zCV "SunnyPansModel" 165 "SunnyPansModel" yX10_ends cX10_ends 1 (some .int) 0 := zCV_of wd_1589 wd_1591 wd_55 wd_111 wd_1592 (by decide +kernel)
set_option maxRecDepth 100000 in
theorem wd_1550 : Cond.code yX10_clause cX10_clause 7 none ∈ tbG := tw7 10 rfl rfl
set_option maxRecDepth 100000 in
theorem wd_1547 : Cond.methodLink "SunnyPansModel" 162 yX10_clause ∈ tbG := tw7 7 rfl rfl
set_option maxRecDepth 100000 in
theorem wd_1549 : Cond.instanceMethod yX10_clause ∈ tbG := tw7 9 rfl rfl
theorem wd_47 : Cond.selects "SunnyPansModel" yX10_clause yX10_clause ∈ tbG := tw 47 (by decide +kernel) rfl
theorem cv_SunnyPansModel_162 : zCV "SunnyPansModel" 162 "SunnyPansModel" yX10_clause cX10_clause 7 none 0 := zCV_of wd_1547 wd_1549 wd_47 wd_111 wd_1550 (by decide +kernel)
set_option maxRecDepth 100000 in
theorem wd_1534 : Cond.code yX10_bad cX10_bad 4 (some .boolean) ∈ tbG := tw6 234 rfl rfl
set_option maxRecDepth 100000 in
theorem wd_1531 : Cond.methodLink "SunnyPansModel" 155 yX10_bad ∈ tbG := tw6 231 rfl rfl
set_option maxRecDepth 100000 in
theorem wd_1533 : Cond.instanceMethod yX10_bad ∈ tbG := tw6 233 rfl rfl
theorem wd_43 : Cond.selects "SunnyPansModel" yX10_bad yX10_bad ∈ tbG := tw 43 (by decide +kernel) rfl
theorem cv_SunnyPansModel_155 : zCV "SunnyPansModel" 155 "SunnyPansModel" yX10_bad cX10_bad 4 (some .boolean) 3 := zCV_of wd_1531 wd_1533 wd_43 wd_111 wd_1534 (by decide +kernel)
set_option maxRecDepth 100000 in
theorem wd_1538 : Cond.code yX10_starts cX10_starts 2 none ∈ tbG := tw6 238 rfl rfl
set_option maxRecDepth 100000 in
theorem wd_1535 : Cond.methodLink "SunnyPansModel" 159 yX10_starts ∈ tbG := tw6 235 rfl rfl
set_option maxRecDepth 100000 in
theorem wd_1537 : Cond.instanceMethod yX10_starts ∈ tbG := tw6 237 rfl rfl
theorem wd_44 : Cond.selects "SunnyPansModel" yX10_starts yX10_starts ∈ tbG := tw 44 (by decide +kernel) rfl
theorem cv_SunnyPansModel_159 : zCV "SunnyPansModel" 159 "SunnyPansModel" yX10_starts cX10_starts 2 none 1 := zCV_of wd_1535 wd_1537 wd_44 wd_111 wd_1538 (by decide +kernel)
set_option maxRecDepth 100000 in
theorem wd_1387 : Cond.code yX10_tellsNothing cX10_tellsNothing 2 none ∈ tbG := tw6 87 rfl rfl
set_option maxRecDepth 100000 in
theorem wd_1384 : Cond.methodLink "SunnyPansModel" 76 yX10_tellsNothing ∈ tbG := tw6 84 rfl rfl
set_option maxRecDepth 100000 in
theorem wd_1386 : Cond.instanceMethod yX10_tellsNothing ∈ tbG := tw6 86 rfl rfl
theorem wd_41 : Cond.selects "SunnyPansModel" yX10_tellsNothing yX10_tellsNothing ∈ tbG := tw 41 (by decide +kernel) rfl
theorem cv_SunnyPansModel_76 : zCV "SunnyPansModel" 76 "SunnyPansModel" yX10_tellsNothing cX10_tellsNothing 2 none 0 := zCV_of wd_1384 wd_1386 wd_41 wd_111 wd_1387 (by decide +kernel)
theorem d_X10_works_0 : decode cX10_works 0 = .ok (.aload_n 0, 1) := by decide +kernel
theorem d_X10_works_1 : decode cX10_works 1 = .ok (.iconst 0, 1) := by decide +kernel
theorem d_X10_works_2 : decode cX10_works 2 = .ok (.putfield 82, 3) := by decide +kernel
theorem d_X10_works_5 : decode cX10_works 5 = .ok (.aload_n 0, 1) := by decide +kernel
theorem d_X10_works_6 : decode cX10_works 6 = .ok (.iload_n 1, 1) := by decide +kernel
theorem d_X10_works_7 : decode cX10_works 7 = .ok (.iconst 0, 1) := by decide +kernel
theorem d_X10_works_8 : decode cX10_works 8 = .ok (.aload_n 0, 1) := by decide +kernel
theorem d_X10_works_9 : decode cX10_works 9 = .ok (.getfield 85, 3) := by decide +kernel
theorem d_X10_works_12 : decode cX10_works 12 = .ok (.invokestatic 116, 3) := by decide +kernel
theorem d_X10_works_15 : decode cX10_works 15 = .ok (.ifCond .ne 7, 3) := by decide +kernel
theorem d_X10_works_18 : decode cX10_works 18 = .ok (.iconst 1, 1) := by decide +kernel
theorem d_X10_works_19 : decode cX10_works 19 = .ok (.goto 4, 3) := by decide +kernel
theorem d_X10_works_22 : decode cX10_works 22 = .ok (.iconst 0, 1) := by decide +kernel
theorem d_X10_works_23 : decode cX10_works 23 = .ok (.iconst 1, 1) := by decide +kernel
theorem d_X10_works_24 : decode cX10_works 24 = .ok (.iconst 1, 1) := by decide +kernel
theorem d_X10_works_25 : decode cX10_works 25 = .ok (.invokevirtual 155, 3) := by decide +kernel
theorem d_X10_works_28 : decode cX10_works 28 = .ok (.ifCond .eq 5, 3) := by decide +kernel
theorem d_X10_works_31 : decode cX10_works 31 = .ok (.iconst 0, 1) := by decide +kernel
theorem d_X10_works_32 : decode cX10_works 32 = .ok (.ireturn, 1) := by decide +kernel
theorem d_X10_works_33 : decode cX10_works 33 = .ok (.aload_n 0, 1) := by decide +kernel
theorem d_X10_works_34 : decode cX10_works 34 = .ok (.iload_n 1, 1) := by decide +kernel
theorem d_X10_works_35 : decode cX10_works 35 = .ok (.invokevirtual 159, 3) := by decide +kernel
theorem d_X10_works_38 : decode cX10_works 38 = .ok (.aload_n 0, 1) := by decide +kernel
theorem d_X10_works_39 : decode cX10_works 39 = .ok (.invokevirtual 76, 3) := by decide +kernel
theorem d_X10_works_42 : decode cX10_works 42 = .ok (.aload_n 0, 1) := by decide +kernel
theorem d_X10_works_43 : decode cX10_works 43 = .ok (.getfield 98, 3) := by decide +kernel
theorem d_X10_works_46 : decode cX10_works 46 = .ok (.ifCond .ne 25, 3) := by decide +kernel
theorem d_X10_works_49 : decode cX10_works 49 = .ok (.aload_n 0, 1) := by decide +kernel
theorem d_X10_works_50 : decode cX10_works 50 = .ok (.getfield 91, 3) := by decide +kernel
theorem d_X10_works_53 : decode cX10_works 53 = .ok (.aload_n 0, 1) := by decide +kernel
theorem d_X10_works_54 : decode cX10_works 54 = .ok (.getfield 88, 3) := by decide +kernel
theorem d_X10_works_57 : decode cX10_works 57 = .ok (.if_icmp .ge 14, 3) := by decide +kernel
theorem d_X10_works_60 : decode cX10_works 60 = .ok (.aload_n 0, 1) := by decide +kernel
theorem d_X10_works_61 : decode cX10_works 61 = .ok (.invokevirtual 162, 3) := by decide +kernel
theorem d_X10_works_64 : decode cX10_works 64 = .ok (.aload_n 0, 1) := by decide +kernel
theorem d_X10_works_65 : decode cX10_works 65 = .ok (.invokevirtual 104, 3) := by decide +kernel
theorem d_X10_works_68 : decode cX10_works 68 = .ok (.goto (-26), 3) := by decide +kernel
theorem d_X10_works_71 : decode cX10_works 71 = .ok (.aload_n 0, 1) := by decide +kernel
theorem d_X10_works_72 : decode cX10_works 72 = .ok (.getfield 98, 3) := by decide +kernel
theorem d_X10_works_75 : decode cX10_works 75 = .ok (.ifCond .eq 8, 3) := by decide +kernel
theorem d_X10_works_78 : decode cX10_works 78 = .ok (.aload_n 0, 1) := by decide +kernel
theorem d_X10_works_79 : decode cX10_works 79 = .ok (.invokevirtual 165, 3) := by decide +kernel
theorem d_X10_works_82 : decode cX10_works 82 = .ok (.ireturn, 1) := by decide +kernel
theorem d_X10_works_83 : decode cX10_works 83 = .ok (.aload_n 0, 1) := by decide +kernel
theorem d_X10_works_84 : decode cX10_works 84 = .ok (.iconst (-1), 1) := by decide +kernel
theorem d_X10_works_85 : decode cX10_works 85 = .ok (.putfield 9, 3) := by decide +kernel
theorem d_X10_works_88 : decode cX10_works 88 = .ok (.aload_n 0, 1) := by decide +kernel
theorem d_X10_works_89 : decode cX10_works 89 = .ok (.invokevirtual 79, 3) := by decide +kernel
theorem d_X10_works_92 : decode cX10_works 92 = .ok (.aload_n 0, 1) := by decide +kernel
theorem d_X10_works_93 : decode cX10_works 93 = .ok (.getfield 23, 3) := by decide +kernel
theorem d_X10_works_96 : decode cX10_works 96 = .ok (.iconst 2, 1) := by decide +kernel
theorem d_X10_works_97 : decode cX10_works 97 = .ok (.iaload, 1) := by decide +kernel
theorem d_X10_works_98 : decode cX10_works 98 = .ok (.ireturn, 1) := by decide +kernel
noncomputable def F_X10_works_71 (p0 : Int32) (M : zMem) : Option (Int32 × zMem) :=
  if (M.1 0 5) = 0 then
    zl (zI M 0 3 (-1 : Int32)) fun M1 =>
    zbv (F_X10_beginsAnew M1) fun M2 =>
    some ((M2.1 4 2), M2)
  else
    zb (F_X10_ends M) fun v4 M3 =>
    some (v4, M3)
noncomputable def F_X10_works_42 (p0 : Int32) (self42 : zMem → Option (Int32 × zMem)) (M : zMem) : Option (Int32 × zMem) :=
  if (M.1 0 5) = 0 then
    if (M.1 0 2) ≤ (M.1 0 4) then
      F_X10_works_71 p0 M
    else
      zbv (F_X10_clause M) fun M5 =>
      zbv (F_X10_blanks M5) fun M6 =>
      self42  M6
  else
    F_X10_works_71 p0 M
noncomputable def F_X10_works_23 (p0 : Int32) (b23_L1 : Int32) (b23_S1 : Int32) (M : zMem) : Option (Int32 × zMem) :=
  zb (F_X10_bad M b23_S1 (1 : Int32) (1 : Int32)) fun v8 M7 =>
  if v8 = 0 then
    zbv (F_X10_starts M7 b23_L1) fun M9 =>
    zbv (F_X10_tellsNothing M9) fun M10 =>
    itF (fun _ => none) (F_X10_works_42 p0) zFuel  M10
  else
    some ((0 : Int32), M7)
noncomputable def F_X10_works (M : zMem) (p0 : Int32) : Option (Int32 × zMem) :=
  zl (zI M 0 0 (0 : Int32)) fun M11 =>
  zb (F_X10_in M11 p0 (0 : Int32) (M11.1 0 1)) fun v13 M12 =>
  if v13 = 0 then
    F_X10_works_23 p0 p0 (1 : Int32) M12
  else
    F_X10_works_23 p0 p0 (0 : Int32) M12
def rm_X10_works : Room := { frames := 8, cells := 0, slots := 0, locals := 215 }
set_option maxHeartbeats 4000000 in
set_option maxRecDepth 100000 in
theorem c_X10_works (l : Launch) {G : zG} {ad : Nat → Nat} {n : Nat} (hA : zInj ad n) (M : zMem) (p0 : Int32) (hT : zT shM n 0 11) {r9 : Int32} {M9 : zMem} (hF : F_X10_works M p0 = some (r9, M9)) : zM l yX10_works cX10_works 2 (some .int) rm_X10_works G shM ad n M [.ref (ad 0), .int p0] (some (.int r9)) M9 := by
  refine zM_of hA (by decide +kernel) (lv := [(0, .ref (ad 0)), (1, .int p0)]) (Nat.le_of_ble_eq_true rfl) rfl (fun p e s m args below meth c A cx hr => ?_)
  have hb71 : ∀ (M : zMem), F_X10_works_71 p0 M = some (r9, M9) → zJ p l e rm_X10_works s m args below meth c G shM ad n A 2 (MQ below (zQ G shM ad n M9 (some (.int r9)) A) args s 0 0 A) 0 0 M 71 [(0, .ref (ad 0))] [] := by
    intro M hF
    unfold F_X10_works_71 at hF
    refine z_aload_n cx d_X10_works_71 0 rfl ?_
    refine z_getI cx hT fg_SunnyPansModel_98 d_X10_works_72 ?_
    refine z_if_eq cx 83 d_X10_works_75 (by decide) hF (fun hF => ?_) (fun hF => ?_)
    · refine z_aload_n cx d_X10_works_83 0 rfl ?_
      refine z_iconst (v := -1) cx d_X10_works_84 ki_m1 ?_
      refine z_putI cx hT fp_SunnyPansModel_9 d_X10_works_85 ?_
      refine z_nmM hF (fun M1 hF => ?_)
      refine z_aload_n cx d_X10_works_88 0 rfl ?_
      obtain ⟨M2, hc, hF⟩ := zbv_inv hF
      refine z_callV cx (As := []) (rest := []) (c_X10_beginsAnew l cx.2.2.2.1.1 M1 hT hc) hT zo_11 cv_SunnyPansModel_79 ⟨rfl, rfl, Nat.le_of_ble_eq_true rfl, Nat.le_of_ble_eq_true rfl⟩ rfl rfl ⟨Nat.zero_le _, Nat.zero_le _⟩ (Nat.le_of_ble_eq_true rfl) d_X10_works_89 ?_
      refine z_aload_n cx d_X10_works_92 0 rfl ?_
      refine z_getR cx hT fg_SunnyPansModel_23 4 rfl d_X10_works_93 ?_
      refine z_iconst (v := 2) cx d_X10_works_96 ki_2 ?_
      refine z_iald cx (tfM_11_4 hT) za_28 (zvp (by decide +kernel)) 2 rfl d_X10_works_97 ?_
      exact z_iret cx hr rfl hF d_X10_works_98
    refine z_aload_n cx d_X10_works_78 0 rfl ?_
    obtain ⟨v4, M3, hc, hF⟩ := zb_inv hF
    refine z_callV cx (As := []) (rest := []) (c_X10_ends l cx.2.2.2.1.1 M hT hc) hT zo_11 cv_SunnyPansModel_165 ⟨rfl, rfl, Nat.le_of_ble_eq_true rfl, Nat.le_of_ble_eq_true rfl⟩ rfl rfl ⟨Nat.zero_le _, Nat.zero_le _⟩ (Nat.le_of_ble_eq_true rfl) d_X10_works_79 ?_
    exact z_iret cx hr rfl hF d_X10_works_82
  have hL42 : ∀ (fuel : Nat), ∀ (M : zMem), itF (fun _ => none) (F_X10_works_42 p0) fuel M = some (r9, M9) → zJ p l e rm_X10_works s m args below meth c G shM ad n A 2 (MQ below (zQ G shM ad n M9 (some (.int r9)) A) args s 0 0 A) 0 0 M 42 [(0, .ref (ad 0))] [] := by
    intro fuel
    induction fuel with
    | zero => intro M hF; cases hF
    | succ fuel hs42 =>
      intro M hF
      have hF : F_X10_works_42 p0 (itF (fun _ => none) (F_X10_works_42 p0) fuel) M = some (r9, M9) := hF
      generalize itF (fun _ => none) (F_X10_works_42 p0) fuel = self42 at hs42 hF
      unfold F_X10_works_42 at hF
      refine z_aload_n cx d_X10_works_42 0 rfl ?_
      refine z_getI cx hT fg_SunnyPansModel_98 d_X10_works_43 ?_
      refine z_if_ne cx 71 d_X10_works_46 (by decide) hF (fun hF => ?_) (fun hF => ?_)
      · exact hb71 M hF
      refine z_aload_n cx d_X10_works_49 0 rfl ?_
      refine z_getI cx hT fg_SunnyPansModel_91 d_X10_works_50 ?_
      refine z_aload_n cx d_X10_works_53 0 rfl ?_
      refine z_getI cx hT fg_SunnyPansModel_88 d_X10_works_54 ?_
      refine z_icmp_ge cx 71 d_X10_works_57 (by decide) hF (fun hF => ?_) (fun hF => ?_)
      · exact hb71 M hF
      refine z_aload_n cx d_X10_works_60 0 rfl ?_
      obtain ⟨M5, hc, hF⟩ := zbv_inv hF
      refine z_callV cx (As := []) (rest := []) (c_X10_clause l cx.2.2.2.1.1 M hT hc) hT zo_11 cv_SunnyPansModel_162 ⟨rfl, rfl, Nat.le_of_ble_eq_true rfl, Nat.le_of_ble_eq_true rfl⟩ rfl rfl ⟨Nat.zero_le _, Nat.zero_le _⟩ (Nat.le_of_ble_eq_true rfl) d_X10_works_61 ?_
      refine z_aload_n cx d_X10_works_64 0 rfl ?_
      obtain ⟨M6, hc, hF⟩ := zbv_inv hF
      refine z_callV cx (As := []) (rest := []) (c_X10_blanks l cx.2.2.2.1.1 M5 hT hc) hT zo_11 cv_SunnyPansModel_104 ⟨rfl, rfl, Nat.le_of_ble_eq_true rfl, Nat.le_of_ble_eq_true rfl⟩ rfl rfl ⟨Nat.zero_le _, Nat.zero_le _⟩ (Nat.le_of_ble_eq_true rfl) d_X10_works_65 ?_
      refine z_goto cx 42 d_X10_works_68 (by decide) ?_
      exact hs42 M6 hF
  have hb23 : ∀ (b23_L1 : Int32) (b23_S1 : Int32) (M : zMem), F_X10_works_23 p0 b23_L1 b23_S1 M = some (r9, M9) → zJ p l e rm_X10_works s m args below meth c G shM ad n A 2 (MQ below (zQ G shM ad n M9 (some (.int r9)) A) args s 0 0 A) 0 0 M 23 [(0, .ref (ad 0)), (1, .int b23_L1)] [.int b23_S1, .ref (ad 0)] := by
    intro b23_L1 b23_S1 M hF
    unfold F_X10_works_23 at hF
    refine z_iconst (v := 1) cx d_X10_works_23 ki_1 ?_
    refine z_iconst (v := 1) cx d_X10_works_24 ki_1 ?_
    obtain ⟨v8, M7, hc, hF⟩ := zb_inv hF
    refine z_callV cx (As := [.int b23_S1, .int (1 : Int32), .int (1 : Int32)]) (rest := []) (c_X10_bad l cx.2.2.2.1.1 M b23_S1 (1 : Int32) (1 : Int32) hT hc) hT zo_11 cv_SunnyPansModel_155 ⟨rfl, rfl, Nat.le_of_ble_eq_true rfl, Nat.le_of_ble_eq_true rfl⟩ rfl rfl ⟨Nat.zero_le _, Nat.zero_le _⟩ (Nat.le_of_ble_eq_true rfl) d_X10_works_25 ?_
    refine z_if_eq cx 33 d_X10_works_28 (by decide) hF (fun hF => ?_) (fun hF => ?_)
    · refine z_aload_n cx d_X10_works_33 0 rfl ?_
      refine z_iload_n cx d_X10_works_34 1 rfl ?_
      obtain ⟨M9, hc, hF⟩ := zbv_inv hF
      refine z_callV cx (As := [.int b23_L1]) (rest := []) (c_X10_starts l cx.2.2.2.1.1 M7 b23_L1 hT hc) hT zo_11 cv_SunnyPansModel_159 ⟨rfl, rfl, Nat.le_of_ble_eq_true rfl, Nat.le_of_ble_eq_true rfl⟩ rfl rfl ⟨Nat.zero_le _, Nat.zero_le _⟩ (Nat.le_of_ble_eq_true rfl) d_X10_works_35 ?_
      refine z_aload_n cx d_X10_works_38 0 rfl ?_
      obtain ⟨M10, hc, hF⟩ := zbv_inv hF
      refine z_callV cx (As := []) (rest := []) (c_X10_tellsNothing l cx.2.2.2.1.1 M9 hT hc) hT zo_11 cv_SunnyPansModel_76 ⟨rfl, rfl, Nat.le_of_ble_eq_true rfl, Nat.le_of_ble_eq_true rfl⟩ rfl rfl ⟨Nat.zero_le _, Nat.zero_le _⟩ (Nat.le_of_ble_eq_true rfl) d_X10_works_39 ?_
      exact z_lv [0] _ rfl (hL42 zFuel M10 hF)
    refine z_iconst (v := 0) cx d_X10_works_31 ki_0 ?_
    exact z_iret cx hr rfl hF d_X10_works_32
  unfold F_X10_works at hF
  refine z_aload_n cx d_X10_works_0 0 rfl ?_
  refine z_iconst (v := 0) cx d_X10_works_1 ki_0 ?_
  refine z_putI cx hT fp_SunnyPansModel_82 d_X10_works_2 ?_
  refine z_nmM hF (fun M11 hF => ?_)
  refine z_aload_n cx d_X10_works_5 0 rfl ?_
  refine z_iload_n cx d_X10_works_6 1 rfl ?_
  refine z_iconst (v := 0) cx d_X10_works_7 ki_0 ?_
  refine z_aload_n cx d_X10_works_8 0 rfl ?_
  refine z_getI cx hT fg_SunnyPansModel_85 d_X10_works_9 ?_
  obtain ⟨v13, M12, hc, hF⟩ := zb_inv hF
  refine z_callS cx (As := [.int p0, .int (0 : Int32), .int (M11.1 0 1)]) (rest := [.ref (ad 0)]) (c_X10_in l cx.2.2.2.1.1 M11 p0 (0 : Int32) (M11.1 0 1)  hc) cs_SunnyPansModel_116 ⟨rfl, rfl, Nat.le_of_ble_eq_true rfl, Nat.le_of_ble_eq_true rfl⟩ rfl rfl ⟨Nat.zero_le _, Nat.zero_le _⟩ (Nat.le_of_ble_eq_true rfl) d_X10_works_12 ?_
  refine z_if_ne cx 22 d_X10_works_15 (by decide) hF (fun hF => ?_) (fun hF => ?_)
  · refine z_iconst (v := 0) cx d_X10_works_22 ki_0 ?_
    exact hb23 p0 (0 : Int32) M12 hF
  refine z_iconst (v := 1) cx d_X10_works_18 ki_1 ?_
  refine z_goto cx 23 d_X10_works_19 (by decide) ?_
  exact hb23 p0 (1 : Int32) M12 hF
/-! SunnyPansModel.copies -/
theorem d_X10_copies_0 : decode cX10_copies 0 = .ok (.iconst 0, 1) := by decide +kernel
theorem d_X10_copies_1 : decode cX10_copies 1 = .ok (.istore_n 2, 1) := by decide +kernel
theorem d_X10_copies_2 : decode cX10_copies 2 = .ok (.iload_n 2, 1) := by decide +kernel
theorem d_X10_copies_3 : decode cX10_copies 3 = .ok (.sipush 195, 3) := by decide +kernel
theorem d_X10_copies_6 : decode cX10_copies 6 = .ok (.if_icmp .ge 15, 3) := by decide +kernel
theorem d_X10_copies_9 : decode cX10_copies 9 = .ok (.aload_n 1, 1) := by decide +kernel
theorem d_X10_copies_10 : decode cX10_copies 10 = .ok (.iload_n 2, 1) := by decide +kernel
theorem d_X10_copies_11 : decode cX10_copies 11 = .ok (.aload_n 0, 1) := by decide +kernel
theorem d_X10_copies_12 : decode cX10_copies 12 = .ok (.iload_n 2, 1) := by decide +kernel
theorem d_X10_copies_13 : decode cX10_copies 13 = .ok (.iaload, 1) := by decide +kernel
theorem d_X10_copies_14 : decode cX10_copies 14 = .ok (.iastore, 1) := by decide +kernel
theorem d_X10_copies_15 : decode cX10_copies 15 = .ok (.iinc 2 1, 3) := by decide +kernel
theorem d_X10_copies_18 : decode cX10_copies 18 = .ok (.goto (-16), 3) := by decide +kernel
theorem d_X10_copies_21 : decode cX10_copies 21 = .ok (.return_, 1) := by decide +kernel
noncomputable def F_X10_copies_2 (p0 : Nat) (p1 : Nat) (self2 : Int32 → zMem → Option (zMem)) (b2_L2 : Int32) (M : zMem) : Option (zMem) :=
  if (195 : Int32) ≤ b2_L2 then
    some M
  else
    gin b2_L2 195 <|
    zl (zI M p1 b2_L2.toNatClampNeg (M.1 p0 b2_L2.toNatClampNeg)) fun M2 =>
    self2 (b2_L2 + 1) M2
noncomputable def F_X10_copies (M : zMem) (p0 : Nat) (p1 : Nat) : Option (zMem) :=
  itF (fun _ _ => none) (F_X10_copies_2 p0 p1) zFuel (0 : Int32) M
def rm_X10_copies : Room := { frames := 2, cells := 0, slots := 0, locals := 80 }
set_option maxHeartbeats 4000000 in
set_option maxRecDepth 100000 in
theorem c_X10_copies (l : Launch) {G : zG} {ad : Nat → Nat} {n : Nat} (hA : zInj ad n) (M : zMem) (p0 : Nat) (p1 : Nat) (hT_p0 : zT shM n p0 36) (hT_p1 : zT shM n p1 36) {M9 : zMem} (hF : F_X10_copies M p0 p1 = some M9) : zM l yX10_copies cX10_copies 3 none rm_X10_copies G shM ad n M [.ref (ad p0), .ref (ad p1)] none M9 := by
  refine zM_of hA (by decide +kernel) (lv := [(0, .ref (ad p0)), (1, .ref (ad p1))]) (Nat.le_of_ble_eq_true rfl) rfl (fun p e s m args below meth c A cx hr => ?_)
  have hL2 : ∀ (fuel : Nat), ∀ (b2_L2 : Int32) (M : zMem), itF (fun _ _ => none) (F_X10_copies_2 p0 p1) fuel b2_L2 M = some M9 → zJ p l e rm_X10_copies s m args below meth c G shM ad n A 3 (MQ below (zQ G shM ad n M9 none A) args s 0 0 A) 0 0 M 2 [(0, .ref (ad p0)), (1, .ref (ad p1)), (2, .int b2_L2)] [] := by
    intro fuel
    induction fuel with
    | zero => intro b2_L2 M hF; cases hF
    | succ fuel hs2 =>
      intro b2_L2 M hF
      have hF : F_X10_copies_2 p0 p1 (itF (fun _ _ => none) (F_X10_copies_2 p0 p1) fuel) b2_L2 M = some M9 := hF
      generalize itF (fun _ _ => none) (F_X10_copies_2 p0 p1) fuel = self2 at hs2 hF
      unfold F_X10_copies_2 at hF
      refine z_iload_n cx d_X10_copies_2 2 rfl ?_
      refine z_sipush (v := 195) cx d_X10_copies_3 ks_195 ?_
      refine z_icmp_ge cx 21 d_X10_copies_6 (by decide) hF (fun hF => ?_) (fun hF => ?_)
      · exact z_vret cx hr hF d_X10_copies_21
      refine z_aload_n cx d_X10_copies_9 1 rfl ?_
      refine z_iload_n cx d_X10_copies_10 2 rfl ?_
      refine z_aload_n cx d_X10_copies_11 0 rfl ?_
      refine z_iload_n cx d_X10_copies_12 2 rfl ?_
      obtain ⟨hi1, hF⟩ := gin_inv hF
      refine z_iald cx hT_p0 za_36 hi1 b2_L2.toNatClampNeg rfl d_X10_copies_13 ?_
      refine z_iast cx hT_p1 za_36 hi1 b2_L2.toNatClampNeg rfl d_X10_copies_14 ?_
      refine z_nmM hF (fun M2 hF => ?_)
      refine z_iinc cx 2 1 [(2, .int (b2_L2 + 1)), (0, .ref (ad p0)), (1, .ref (ad p1))] d_X10_copies_15 2 rfl ki_1 (by decide) rfl ?_
      refine z_goto cx 2 d_X10_copies_18 (by decide) ?_
      exact z_lv [1, 2, 0] _ rfl (hs2 (b2_L2 + 1) M2 hF)
  unfold F_X10_copies at hF
  refine z_iconst (v := 0) cx d_X10_copies_0 ki_0 ?_
  refine z_istore_n cx 2 [(2, .int (0 : Int32)), (0, .ref (ad p0)), (1, .ref (ad p1))] d_X10_copies_1 rfl (by decide) rfl ?_
  exact z_lv [1, 2, 0] _ rfl (hL2 zFuel (0 : Int32) M hF)
/-! SunnyPansModel.notes -/
theorem tfM_11_189 {n k : Nat} (h : zT shM n k 11) : zT shM n (k + 189) 31 := zT_off h (shM_f (by decide) (by decide +kernel)) (by decide) (by decide)
set_option maxRecDepth 100000 in
theorem wd_1414 : Cond.fieldLink "SunnyPansModel" 40 "SunnyPansModel" "readLaw" "[[I" ∈ tbG := tw6 114 rfl rfl
theorem fg_SunnyPansModel_40 : zGetR "SunnyPansModel" 40 10 11 19 189 := ⟨RX10, TX10, 40, rfl, by decide, uw_10, wd_1414, fun _ _ _ _ _ _ => ⟨_, rfl, rfl⟩⟩
set_option maxRecDepth 100000 in
theorem wd_1412 : Cond.fieldLink "SunnyPansModel" 187 "SunnyPansModel" "readLawMany" "I" ∈ tbG := tw6 112 rfl rfl
theorem fg_SunnyPansModel_187 : zGetI "SunnyPansModel" 187 10 11 17 := ⟨RX10, TX10, 40, rfl, by decide, uw_10, wd_1412, fun _ _ _ _ _ _ => ⟨_, rfl, rfl⟩⟩
theorem za_31 : zArrR 31 160 4 1 1 := ⟨by decide, fun _ _ _ _ _ _ => rfl⟩
theorem teM_31 {n k : Nat} {i : Int32} (h : zT shM n k 31) (hi : vp_in i 160) : zT shM n (k + (1 + 1 * i.toNatClampNeg)) 27 := by
  have hlt : i.toNatClampNeg < 160 := Nat.not_le.mp fun q => hi (Or.inr q)
  have h2 : k + 161 ≤ n := h.2.2
  exact ⟨shM_e (by decide) (by decide +kernel) k h.1 _ hlt, by omega, by show _ + 1 ≤ n; omega⟩
theorem fp_SunnyPansModel_187 : zPutI "SunnyPansModel" 187 10 11 17 := ⟨zc_10, fg_SunnyPansModel_187, ⟨RX10, TX10, 40, rfl, rfl, by decide +kernel⟩, fun _ _ _ _ _ _ _ => ⟨_, rfl, Nat.le_of_ble_eq_true rfl, rfl⟩⟩
theorem d_X10_notes_0 : decode cX10_notes 0 = .ok (.aload_n 0, 1) := by decide +kernel
theorem d_X10_notes_1 : decode cX10_notes 1 = .ok (.getfield 98, 3) := by decide +kernel
theorem d_X10_notes_4 : decode cX10_notes 4 = .ok (.ifCond .eq 4, 3) := by decide +kernel
theorem d_X10_notes_7 : decode cX10_notes 7 = .ok (.return_, 1) := by decide +kernel
theorem d_X10_notes_8 : decode cX10_notes 8 = .ok (.aload_n 0, 1) := by decide +kernel
theorem d_X10_notes_9 : decode cX10_notes 9 = .ok (.getfield 40, 3) := by decide +kernel
theorem d_X10_notes_12 : decode cX10_notes 12 = .ok (.aload_n 0, 1) := by decide +kernel
theorem d_X10_notes_13 : decode cX10_notes 13 = .ok (.getfield 187, 3) := by decide +kernel
theorem d_X10_notes_16 : decode cX10_notes 16 = .ok (.aaload, 1) := by decide +kernel
theorem d_X10_notes_17 : decode cX10_notes 17 = .ok (.iconst 0, 1) := by decide +kernel
theorem d_X10_notes_18 : decode cX10_notes 18 = .ok (.iload_n 1, 1) := by decide +kernel
theorem d_X10_notes_19 : decode cX10_notes 19 = .ok (.iastore, 1) := by decide +kernel
theorem d_X10_notes_20 : decode cX10_notes 20 = .ok (.aload_n 0, 1) := by decide +kernel
theorem d_X10_notes_21 : decode cX10_notes 21 = .ok (.getfield 40, 3) := by decide +kernel
theorem d_X10_notes_24 : decode cX10_notes 24 = .ok (.aload_n 0, 1) := by decide +kernel
theorem d_X10_notes_25 : decode cX10_notes 25 = .ok (.getfield 187, 3) := by decide +kernel
theorem d_X10_notes_28 : decode cX10_notes 28 = .ok (.aaload, 1) := by decide +kernel
theorem d_X10_notes_29 : decode cX10_notes 29 = .ok (.iconst 1, 1) := by decide +kernel
theorem d_X10_notes_30 : decode cX10_notes 30 = .ok (.iload_n 2, 1) := by decide +kernel
theorem d_X10_notes_31 : decode cX10_notes 31 = .ok (.iastore, 1) := by decide +kernel
theorem d_X10_notes_32 : decode cX10_notes 32 = .ok (.aload_n 0, 1) := by decide +kernel
theorem d_X10_notes_33 : decode cX10_notes 33 = .ok (.dup, 1) := by decide +kernel
theorem d_X10_notes_34 : decode cX10_notes 34 = .ok (.getfield 187, 3) := by decide +kernel
theorem d_X10_notes_37 : decode cX10_notes 37 = .ok (.iconst 1, 1) := by decide +kernel
theorem d_X10_notes_38 : decode cX10_notes 38 = .ok (.iadd, 1) := by decide +kernel
theorem d_X10_notes_39 : decode cX10_notes 39 = .ok (.putfield 187, 3) := by decide +kernel
theorem d_X10_notes_42 : decode cX10_notes 42 = .ok (.return_, 1) := by decide +kernel
noncomputable def F_X10_notes (M : zMem) (p0 : Int32) (p1 : Int32) : Option (zMem) :=
  if (M.1 0 5) = 0 then
    gin (M.1 0 17) 160 <|
    zl (zI M (189 + (1 + 1 * (M.1 0 17).toNatClampNeg)) 0 p0) fun M2 =>
    gin (M2.1 0 17) 160 <|
    zl (zI M2 (189 + (1 + 1 * (M2.1 0 17).toNatClampNeg)) 1 p1) fun M4 =>
    zl (zI M4 0 17 ((M4.1 0 17) + (1 : Int32))) fun M5 =>
    some M5
  else
    some M
def rm_X10_notes : Room := { frames := 2, cells := 0, slots := 0, locals := 80 }
set_option maxHeartbeats 4000000 in
set_option maxRecDepth 100000 in
theorem c_X10_notes (l : Launch) {G : zG} {ad : Nat → Nat} {n : Nat} (hA : zInj ad n) (M : zMem) (p0 : Int32) (p1 : Int32) (hT : zT shM n 0 11) {M9 : zMem} (hF : F_X10_notes M p0 p1 = some M9) : zM l yX10_notes cX10_notes 3 none rm_X10_notes G shM ad n M [.ref (ad 0), .int p0, .int p1] none M9 := by
  refine zM_of hA (by decide +kernel) (lv := [(0, .ref (ad 0)), (1, .int p0), (2, .int p1)]) (Nat.le_of_ble_eq_true rfl) rfl (fun p e s m args below meth c A cx hr => ?_)
  unfold F_X10_notes at hF
  refine z_aload_n cx d_X10_notes_0 0 rfl ?_
  refine z_getI cx hT fg_SunnyPansModel_98 d_X10_notes_1 ?_
  refine z_if_eq cx 8 d_X10_notes_4 (by decide) hF (fun hF => ?_) (fun hF => ?_)
  · refine z_aload_n cx d_X10_notes_8 0 rfl ?_
    refine z_getR cx hT fg_SunnyPansModel_40 189 rfl d_X10_notes_9 ?_
    refine z_aload_n cx d_X10_notes_12 0 rfl ?_
    refine z_getI cx hT fg_SunnyPansModel_187 d_X10_notes_13 ?_
    obtain ⟨hi1, hF⟩ := gin_inv hF
    refine z_aald cx (tfM_11_189 hT) za_31 hi1 (189 + (1 + 1 * (M.1 0 17).toNatClampNeg)) rfl d_X10_notes_16 ?_
    refine z_iconst (v := 0) cx d_X10_notes_17 ki_0 ?_
    refine z_iload_n cx d_X10_notes_18 1 rfl ?_
    refine z_iast cx (teM_31 (tfM_11_189 hT) hi1) za_27 (zvp (by decide +kernel)) 0 rfl d_X10_notes_19 ?_
    refine z_nmM hF (fun M2 hF => ?_)
    refine z_aload_n cx d_X10_notes_20 0 rfl ?_
    refine z_getR cx hT fg_SunnyPansModel_40 189 rfl d_X10_notes_21 ?_
    refine z_aload_n cx d_X10_notes_24 0 rfl ?_
    refine z_getI cx hT fg_SunnyPansModel_187 d_X10_notes_25 ?_
    obtain ⟨hi3, hF⟩ := gin_inv hF
    refine z_aald cx (tfM_11_189 hT) za_31 hi3 (189 + (1 + 1 * (M2.1 0 17).toNatClampNeg)) rfl d_X10_notes_28 ?_
    refine z_iconst (v := 1) cx d_X10_notes_29 ki_1 ?_
    refine z_iload_n cx d_X10_notes_30 2 rfl ?_
    refine z_iast cx (teM_31 (tfM_11_189 hT) hi3) za_27 (zvp (by decide +kernel)) 1 rfl d_X10_notes_31 ?_
    refine z_nmM hF (fun M4 hF => ?_)
    refine z_aload_n cx d_X10_notes_32 0 rfl ?_
    refine z_dup cx d_X10_notes_33 rfl ?_
    refine z_getI cx hT fg_SunnyPansModel_187 d_X10_notes_34 ?_
    refine z_iconst (v := 1) cx d_X10_notes_37 ki_1 ?_
    refine z_iadd cx d_X10_notes_38 ?_
    refine z_putI cx hT fp_SunnyPansModel_187 d_X10_notes_39 ?_
    refine z_nmM hF (fun M5 hF => ?_)
    exact z_vret cx hr hF d_X10_notes_42
  exact z_vret cx hr hF d_X10_notes_7
/-! SunnyPansModel.opensOne -/
theorem d_X10_opensOne_0 : decode cX10_opensOne 0 = .ok (.aload_n 0, 1) := by decide +kernel
theorem d_X10_opensOne_1 : decode cX10_opensOne 1 = .ok (.getfield 98, 3) := by decide +kernel
theorem d_X10_opensOne_4 : decode cX10_opensOne 4 = .ok (.ifCond .ne 24, 3) := by decide +kernel
theorem d_X10_opensOne_7 : decode cX10_opensOne 7 = .ok (.aload_n 0, 1) := by decide +kernel
theorem d_X10_opensOne_8 : decode cX10_opensOne 8 = .ok (.getfield 141, 3) := by decide +kernel
theorem d_X10_opensOne_11 : decode cX10_opensOne 11 = .ok (.bipush 6, 2) := by decide +kernel
theorem d_X10_opensOne_13 : decode cX10_opensOne 13 = .ok (.if_icmp .ne 15, 3) := by decide +kernel
theorem d_X10_opensOne_16 : decode cX10_opensOne 16 = .ok (.aload_n 0, 1) := by decide +kernel
theorem d_X10_opensOne_17 : decode cX10_opensOne 17 = .ok (.iconst 3, 1) := by decide +kernel
theorem d_X10_opensOne_18 : decode cX10_opensOne 18 = .ok (.aload_n 0, 1) := by decide +kernel
theorem d_X10_opensOne_19 : decode cX10_opensOne 19 = .ok (.getfield 91, 3) := by decide +kernel
theorem d_X10_opensOne_22 : decode cX10_opensOne 22 = .ok (.invokevirtual 111, 3) := by decide +kernel
theorem d_X10_opensOne_25 : decode cX10_opensOne 25 = .ok (.goto 20, 3) := by decide +kernel
theorem d_X10_opensOne_28 : decode cX10_opensOne 28 = .ok (.aload_n 0, 1) := by decide +kernel
theorem d_X10_opensOne_29 : decode cX10_opensOne 29 = .ok (.getfield 98, 3) := by decide +kernel
theorem d_X10_opensOne_32 : decode cX10_opensOne 32 = .ok (.ifCond .ne 13, 3) := by decide +kernel
theorem d_X10_opensOne_35 : decode cX10_opensOne 35 = .ok (.aload_n 0, 1) := by decide +kernel
theorem d_X10_opensOne_36 : decode cX10_opensOne 36 = .ok (.dup, 1) := by decide +kernel
theorem d_X10_opensOne_37 : decode cX10_opensOne 37 = .ok (.getfield 141, 3) := by decide +kernel
theorem d_X10_opensOne_40 : decode cX10_opensOne 40 = .ok (.iconst 1, 1) := by decide +kernel
theorem d_X10_opensOne_41 : decode cX10_opensOne 41 = .ok (.iadd, 1) := by decide +kernel
theorem d_X10_opensOne_42 : decode cX10_opensOne 42 = .ok (.putfield 141, 3) := by decide +kernel
theorem d_X10_opensOne_45 : decode cX10_opensOne 45 = .ok (.aload_n 0, 1) := by decide +kernel
theorem d_X10_opensOne_46 : decode cX10_opensOne 46 = .ok (.getfield 98, 3) := by decide +kernel
theorem d_X10_opensOne_49 : decode cX10_opensOne 49 = .ok (.ifCond .ne 7, 3) := by decide +kernel
theorem d_X10_opensOne_52 : decode cX10_opensOne 52 = .ok (.iconst 1, 1) := by decide +kernel
theorem d_X10_opensOne_53 : decode cX10_opensOne 53 = .ok (.goto 4, 3) := by decide +kernel
theorem d_X10_opensOne_56 : decode cX10_opensOne 56 = .ok (.iconst 0, 1) := by decide +kernel
theorem d_X10_opensOne_57 : decode cX10_opensOne 57 = .ok (.ireturn, 1) := by decide +kernel
noncomputable def F_X10_opensOne_45 (M : zMem) : Option (Int32 × zMem) :=
  if (M.1 0 5) = 0 then
    some ((1 : Int32), M)
  else
    some ((0 : Int32), M)
noncomputable def F_X10_opensOne_28 (M : zMem) : Option (Int32 × zMem) :=
  if (M.1 0 5) = 0 then
    zl (zI M 0 8 ((M.1 0 8) + (1 : Int32))) fun M1 =>
    F_X10_opensOne_45 M1
  else
    F_X10_opensOne_45 M
noncomputable def F_X10_opensOne (M : zMem)  : Option (Int32 × zMem) :=
  if (M.1 0 5) = 0 then
    if (M.1 0 8) = (6 : Int32) then
      zbv (F_X10_wrong M (3 : Int32) (M.1 0 4)) fun M2 =>
      F_X10_opensOne_45 M2
    else
      F_X10_opensOne_28 M
  else
    F_X10_opensOne_28 M
def rm_X10_opensOne : Room := { frames := 3, cells := 0, slots := 0, locals := 102 }
set_option maxHeartbeats 4000000 in
set_option maxRecDepth 100000 in
theorem c_X10_opensOne (l : Launch) {G : zG} {ad : Nat → Nat} {n : Nat} (hA : zInj ad n) (M : zMem)  (hT : zT shM n 0 11) {r9 : Int32} {M9 : zMem} (hF : F_X10_opensOne M  = some (r9, M9)) : zM l yX10_opensOne cX10_opensOne 1 (some .boolean) rm_X10_opensOne G shM ad n M [.ref (ad 0)] (some (.int r9)) M9 := by
  refine zM_of hA (by decide +kernel) (lv := [(0, .ref (ad 0))]) (Nat.le_of_ble_eq_true rfl) rfl (fun p e s m args below meth c A cx hr => ?_)
  have hb45 : ∀ (M : zMem), F_X10_opensOne_45 M = some (r9, M9) → zJ p l e rm_X10_opensOne s m args below meth c G shM ad n A 1 (MQ below (zQ G shM ad n M9 (some (.int r9)) A) args s 0 0 A) 0 0 M 45 [(0, .ref (ad 0))] [] := by
    intro M hF
    unfold F_X10_opensOne_45 at hF
    refine z_aload_n cx d_X10_opensOne_45 0 rfl ?_
    refine z_getI cx hT fg_SunnyPansModel_98 d_X10_opensOne_46 ?_
    refine z_if_ne cx 56 d_X10_opensOne_49 (by decide) hF (fun hF => ?_) (fun hF => ?_)
    · refine z_iconst (v := 0) cx d_X10_opensOne_56 ki_0 ?_
      exact z_iret cx hr nb0 hF d_X10_opensOne_57
    refine z_iconst (v := 1) cx d_X10_opensOne_52 ki_1 ?_
    refine z_goto cx 57 d_X10_opensOne_53 (by decide) ?_
    exact z_iret cx hr nb1 hF d_X10_opensOne_57
  have hb28 : ∀ (M : zMem), F_X10_opensOne_28 M = some (r9, M9) → zJ p l e rm_X10_opensOne s m args below meth c G shM ad n A 1 (MQ below (zQ G shM ad n M9 (some (.int r9)) A) args s 0 0 A) 0 0 M 28 [(0, .ref (ad 0))] [] := by
    intro M hF
    unfold F_X10_opensOne_28 at hF
    refine z_aload_n cx d_X10_opensOne_28 0 rfl ?_
    refine z_getI cx hT fg_SunnyPansModel_98 d_X10_opensOne_29 ?_
    refine z_if_ne cx 45 d_X10_opensOne_32 (by decide) hF (fun hF => ?_) (fun hF => ?_)
    · exact hb45 M hF
    refine z_aload_n cx d_X10_opensOne_35 0 rfl ?_
    refine z_dup cx d_X10_opensOne_36 rfl ?_
    refine z_getI cx hT fg_SunnyPansModel_141 d_X10_opensOne_37 ?_
    refine z_iconst (v := 1) cx d_X10_opensOne_40 ki_1 ?_
    refine z_iadd cx d_X10_opensOne_41 ?_
    refine z_putI cx hT fp_SunnyPansModel_141 d_X10_opensOne_42 ?_
    refine z_nmM hF (fun M1 hF => ?_)
    exact hb45 M1 hF
  unfold F_X10_opensOne at hF
  refine z_aload_n cx d_X10_opensOne_0 0 rfl ?_
  refine z_getI cx hT fg_SunnyPansModel_98 d_X10_opensOne_1 ?_
  refine z_if_ne cx 28 d_X10_opensOne_4 (by decide) hF (fun hF => ?_) (fun hF => ?_)
  · exact hb28 M hF
  refine z_aload_n cx d_X10_opensOne_7 0 rfl ?_
  refine z_getI cx hT fg_SunnyPansModel_141 d_X10_opensOne_8 ?_
  refine z_bipush (v := 6) cx d_X10_opensOne_11 kb_6 ?_
  refine z_icmp_ne cx 28 d_X10_opensOne_13 (by decide) hF (fun hF => ?_) (fun hF => ?_)
  · exact hb28 M hF
  refine z_aload_n cx d_X10_opensOne_16 0 rfl ?_
  refine z_iconst (v := 3) cx d_X10_opensOne_17 ki_3 ?_
  refine z_aload_n cx d_X10_opensOne_18 0 rfl ?_
  refine z_getI cx hT fg_SunnyPansModel_91 d_X10_opensOne_19 ?_
  obtain ⟨M2, hc, hF⟩ := zbv_inv hF
  refine z_callV cx (As := [.int (3 : Int32), .int (M.1 0 4)]) (rest := []) (c_X10_wrong l cx.2.2.2.1.1 M (3 : Int32) (M.1 0 4) hT hc) hT zo_11 cv_SunnyPansModel_111 ⟨rfl, rfl, Nat.le_of_ble_eq_true rfl, Nat.le_of_ble_eq_true rfl⟩ rfl rfl ⟨Nat.zero_le _, Nat.zero_le _⟩ (Nat.le_of_ble_eq_true rfl) d_X10_opensOne_22 ?_
  refine z_goto cx 45 d_X10_opensOne_25 (by decide) ?_
  exact hb45 M2 hF
/-! SunnyPansModel.knownHere -/
set_option maxRecDepth 100000 in
theorem wd_1624 : Cond.code yX10_takes cX10_takes 8 (some .boolean) ∈ tbG := tw7 84 rfl rfl
set_option maxRecDepth 100000 in
theorem wd_1621 : Cond.methodLink "SunnyPansModel" 202 yX10_takes ∈ tbG := tw7 81 rfl rfl
set_option maxRecDepth 100000 in
theorem wd_1623 : Cond.instanceMethod yX10_takes ∈ tbG := tw7 83 rfl rfl
theorem wd_62 : Cond.selects "SunnyPansModel" yX10_takes yX10_takes ∈ tbG := tw 62 (by decide +kernel) rfl
theorem cv_SunnyPansModel_202 : zCV "SunnyPansModel" 202 "SunnyPansModel" yX10_takes cX10_takes 8 (some .boolean) 6 := zCV_of wd_1621 wd_1623 wd_62 wd_111 wd_1624 (by decide +kernel)
theorem kb_25 : (Int8.ofInt (25)).toInt32 = (25 : Int32) := by decide +kernel
theorem kb_23 : (Int8.ofInt (23)).toInt32 = (23 : Int32) := by decide +kernel
theorem d_X10_knownHere_0 : decode cX10_knownHere 0 = .ok (.aload_n 0, 1) := by decide +kernel
theorem d_X10_knownHere_1 : decode cX10_knownHere 1 = .ok (.iconst 2, 1) := by decide +kernel
theorem d_X10_knownHere_2 : decode cX10_knownHere 2 = .ok (.bipush 18, 2) := by decide +kernel
theorem d_X10_knownHere_4 : decode cX10_knownHere 4 = .ok (.bipush 9, 2) := by decide +kernel
theorem d_X10_knownHere_6 : decode cX10_knownHere 6 = .ok (.bipush 14, 2) := by decide +kernel
theorem d_X10_knownHere_8 : decode cX10_knownHere 8 = .ok (.iconst 5, 1) := by decide +kernel
theorem d_X10_knownHere_9 : decode cX10_knownHere 9 = .ok (.iconst 0, 1) := by decide +kernel
theorem d_X10_knownHere_10 : decode cX10_knownHere 10 = .ok (.invokevirtual 202, 3) := by decide +kernel
theorem d_X10_knownHere_13 : decode cX10_knownHere 13 = .ok (.ifCond .eq 5, 3) := by decide +kernel
theorem d_X10_knownHere_16 : decode cX10_knownHere 16 = .ok (.iconst 0, 1) := by decide +kernel
theorem d_X10_knownHere_17 : decode cX10_knownHere 17 = .ok (.ireturn, 1) := by decide +kernel
theorem d_X10_knownHere_18 : decode cX10_knownHere 18 = .ok (.aload_n 0, 1) := by decide +kernel
theorem d_X10_knownHere_19 : decode cX10_knownHere 19 = .ok (.bipush 19, 2) := by decide +kernel
theorem d_X10_knownHere_21 : decode cX10_knownHere 21 = .ok (.iconst 1, 1) := by decide +kernel
theorem d_X10_knownHere_22 : decode cX10_knownHere 22 = .ok (.bipush 12, 2) := by decide +kernel
theorem d_X10_knownHere_24 : decode cX10_knownHere 24 = .ok (.bipush 20, 2) := by decide +kernel
theorem d_X10_knownHere_26 : decode cX10_knownHere 26 = .ok (.iconst 0, 1) := by decide +kernel
theorem d_X10_knownHere_27 : decode cX10_knownHere 27 = .ok (.iconst 0, 1) := by decide +kernel
theorem d_X10_knownHere_28 : decode cX10_knownHere 28 = .ok (.invokevirtual 202, 3) := by decide +kernel
theorem d_X10_knownHere_31 : decode cX10_knownHere 31 = .ok (.ifCond .eq 5, 3) := by decide +kernel
theorem d_X10_knownHere_34 : decode cX10_knownHere 34 = .ok (.iconst 1, 1) := by decide +kernel
theorem d_X10_knownHere_35 : decode cX10_knownHere 35 = .ok (.ireturn, 1) := by decide +kernel
theorem d_X10_knownHere_36 : decode cX10_knownHere 36 = .ok (.aload_n 0, 1) := by decide +kernel
theorem d_X10_knownHere_37 : decode cX10_knownHere 37 = .ok (.bipush 18, 2) := by decide +kernel
theorem d_X10_knownHere_39 : decode cX10_knownHere 39 = .ok (.iconst 5, 1) := by decide +kernel
theorem d_X10_knownHere_40 : decode cX10_knownHere 40 = .ok (.iconst 1, 1) := by decide +kernel
theorem d_X10_knownHere_41 : decode cX10_knownHere 41 = .ok (.iconst 3, 1) := by decide +kernel
theorem d_X10_knownHere_42 : decode cX10_knownHere 42 = .ok (.bipush 8, 2) := by decide +kernel
theorem d_X10_knownHere_44 : decode cX10_knownHere 44 = .ok (.iconst 0, 1) := by decide +kernel
theorem d_X10_knownHere_45 : decode cX10_knownHere 45 = .ok (.invokevirtual 202, 3) := by decide +kernel
theorem d_X10_knownHere_48 : decode cX10_knownHere 48 = .ok (.ifCond .eq 5, 3) := by decide +kernel
theorem d_X10_knownHere_51 : decode cX10_knownHere 51 = .ok (.iconst 2, 1) := by decide +kernel
theorem d_X10_knownHere_52 : decode cX10_knownHere 52 = .ok (.ireturn, 1) := by decide +kernel
theorem d_X10_knownHere_53 : decode cX10_knownHere 53 = .ok (.aload_n 0, 1) := by decide +kernel
theorem d_X10_knownHere_54 : decode cX10_knownHere 54 = .ok (.bipush 19, 2) := by decide +kernel
theorem d_X10_knownHere_56 : decode cX10_knownHere 56 = .ok (.bipush 9, 2) := by decide +kernel
theorem d_X10_knownHere_58 : decode cX10_knownHere 58 = .ok (.iconst 4, 1) := by decide +kernel
theorem d_X10_knownHere_59 : decode cX10_knownHere 59 = .ok (.iconst 5, 1) := by decide +kernel
theorem d_X10_knownHere_60 : decode cX10_knownHere 60 = .ok (.iconst 0, 1) := by decide +kernel
theorem d_X10_knownHere_61 : decode cX10_knownHere 61 = .ok (.iconst 0, 1) := by decide +kernel
theorem d_X10_knownHere_62 : decode cX10_knownHere 62 = .ok (.invokevirtual 202, 3) := by decide +kernel
theorem d_X10_knownHere_65 : decode cX10_knownHere 65 = .ok (.ifCond .eq 5, 3) := by decide +kernel
theorem d_X10_knownHere_68 : decode cX10_knownHere 68 = .ok (.iconst 3, 1) := by decide +kernel
theorem d_X10_knownHere_69 : decode cX10_knownHere 69 = .ok (.ireturn, 1) := by decide +kernel
theorem d_X10_knownHere_70 : decode cX10_knownHere 70 = .ok (.aload_n 0, 1) := by decide +kernel
theorem d_X10_knownHere_71 : decode cX10_knownHere 71 = .ok (.bipush 8, 2) := by decide +kernel
theorem d_X10_knownHere_73 : decode cX10_knownHere 73 = .ok (.bipush 15, 2) := by decide +kernel
theorem d_X10_knownHere_75 : decode cX10_knownHere 75 = .ok (.bipush 21, 2) := by decide +kernel
theorem d_X10_knownHere_77 : decode cX10_knownHere 77 = .ok (.bipush 18, 2) := by decide +kernel
theorem d_X10_knownHere_79 : decode cX10_knownHere 79 = .ok (.iconst 0, 1) := by decide +kernel
theorem d_X10_knownHere_80 : decode cX10_knownHere 80 = .ok (.iconst 0, 1) := by decide +kernel
theorem d_X10_knownHere_81 : decode cX10_knownHere 81 = .ok (.invokevirtual 202, 3) := by decide +kernel
theorem d_X10_knownHere_84 : decode cX10_knownHere 84 = .ok (.ifCond .eq 5, 3) := by decide +kernel
theorem d_X10_knownHere_87 : decode cX10_knownHere 87 = .ok (.iconst 4, 1) := by decide +kernel
theorem d_X10_knownHere_88 : decode cX10_knownHere 88 = .ok (.ireturn, 1) := by decide +kernel
theorem d_X10_knownHere_89 : decode cX10_knownHere 89 = .ok (.aload_n 0, 1) := by decide +kernel
theorem d_X10_knownHere_90 : decode cX10_knownHere 90 = .ok (.iconst 4, 1) := by decide +kernel
theorem d_X10_knownHere_91 : decode cX10_knownHere 91 = .ok (.iconst 1, 1) := by decide +kernel
theorem d_X10_knownHere_92 : decode cX10_knownHere 92 = .ok (.bipush 25, 2) := by decide +kernel
theorem d_X10_knownHere_94 : decode cX10_knownHere 94 = .ok (.iconst 0, 1) := by decide +kernel
theorem d_X10_knownHere_95 : decode cX10_knownHere 95 = .ok (.iconst 0, 1) := by decide +kernel
theorem d_X10_knownHere_96 : decode cX10_knownHere 96 = .ok (.iconst 0, 1) := by decide +kernel
theorem d_X10_knownHere_97 : decode cX10_knownHere 97 = .ok (.invokevirtual 202, 3) := by decide +kernel
theorem d_X10_knownHere_100 : decode cX10_knownHere 100 = .ok (.ifCond .eq 5, 3) := by decide +kernel
theorem d_X10_knownHere_103 : decode cX10_knownHere 103 = .ok (.iconst 5, 1) := by decide +kernel
theorem d_X10_knownHere_104 : decode cX10_knownHere 104 = .ok (.ireturn, 1) := by decide +kernel
theorem d_X10_knownHere_105 : decode cX10_knownHere 105 = .ok (.aload_n 0, 1) := by decide +kernel
theorem d_X10_knownHere_106 : decode cX10_knownHere 106 = .ok (.iconst 3, 1) := by decide +kernel
theorem d_X10_knownHere_107 : decode cX10_knownHere 107 = .ok (.bipush 15, 2) := by decide +kernel
theorem d_X10_knownHere_109 : decode cX10_knownHere 109 = .ok (.bipush 12, 2) := by decide +kernel
theorem d_X10_knownHere_111 : decode cX10_knownHere 111 = .ok (.iconst 0, 1) := by decide +kernel
theorem d_X10_knownHere_112 : decode cX10_knownHere 112 = .ok (.iconst 0, 1) := by decide +kernel
theorem d_X10_knownHere_113 : decode cX10_knownHere 113 = .ok (.iconst 0, 1) := by decide +kernel
theorem d_X10_knownHere_114 : decode cX10_knownHere 114 = .ok (.invokevirtual 202, 3) := by decide +kernel
theorem d_X10_knownHere_117 : decode cX10_knownHere 117 = .ok (.ifCond .eq 6, 3) := by decide +kernel
theorem d_X10_knownHere_120 : decode cX10_knownHere 120 = .ok (.bipush 6, 2) := by decide +kernel
theorem d_X10_knownHere_122 : decode cX10_knownHere 122 = .ok (.ireturn, 1) := by decide +kernel
theorem d_X10_knownHere_123 : decode cX10_knownHere 123 = .ok (.aload_n 0, 1) := by decide +kernel
theorem d_X10_knownHere_124 : decode cX10_knownHere 124 = .ok (.bipush 18, 2) := by decide +kernel
theorem d_X10_knownHere_126 : decode cX10_knownHere 126 = .ok (.bipush 15, 2) := by decide +kernel
theorem d_X10_knownHere_128 : decode cX10_knownHere 128 = .ok (.bipush 23, 2) := by decide +kernel
theorem d_X10_knownHere_130 : decode cX10_knownHere 130 = .ok (.iconst 0, 1) := by decide +kernel
theorem d_X10_knownHere_131 : decode cX10_knownHere 131 = .ok (.iconst 0, 1) := by decide +kernel
theorem d_X10_knownHere_132 : decode cX10_knownHere 132 = .ok (.iconst 0, 1) := by decide +kernel
theorem d_X10_knownHere_133 : decode cX10_knownHere 133 = .ok (.invokevirtual 202, 3) := by decide +kernel
theorem d_X10_knownHere_136 : decode cX10_knownHere 136 = .ok (.ifCond .eq 8, 3) := by decide +kernel
theorem d_X10_knownHere_139 : decode cX10_knownHere 139 = .ok (.bipush 7, 2) := by decide +kernel
theorem d_X10_knownHere_141 : decode cX10_knownHere 141 = .ok (.goto 4, 3) := by decide +kernel
theorem d_X10_knownHere_144 : decode cX10_knownHere 144 = .ok (.iconst (-1), 1) := by decide +kernel
theorem d_X10_knownHere_145 : decode cX10_knownHere 145 = .ok (.ireturn, 1) := by decide +kernel
noncomputable def F_X10_knownHere (M : zMem)  : Option (Int32 × zMem) :=
  zb (F_X10_takes M (2 : Int32) (18 : Int32) (9 : Int32) (14 : Int32) (5 : Int32) (0 : Int32)) fun v2 M1 =>
  if v2 = 0 then
    zb (F_X10_takes M1 (19 : Int32) (1 : Int32) (12 : Int32) (20 : Int32) (0 : Int32) (0 : Int32)) fun v4 M3 =>
    if v4 = 0 then
      zb (F_X10_takes M3 (18 : Int32) (5 : Int32) (1 : Int32) (3 : Int32) (8 : Int32) (0 : Int32)) fun v6 M5 =>
      if v6 = 0 then
        zb (F_X10_takes M5 (19 : Int32) (9 : Int32) (4 : Int32) (5 : Int32) (0 : Int32) (0 : Int32)) fun v8 M7 =>
        if v8 = 0 then
          zb (F_X10_takes M7 (8 : Int32) (15 : Int32) (21 : Int32) (18 : Int32) (0 : Int32) (0 : Int32)) fun v10 M9 =>
          if v10 = 0 then
            zb (F_X10_takes M9 (4 : Int32) (1 : Int32) (25 : Int32) (0 : Int32) (0 : Int32) (0 : Int32)) fun v12 M11 =>
            if v12 = 0 then
              zb (F_X10_takes M11 (3 : Int32) (15 : Int32) (12 : Int32) (0 : Int32) (0 : Int32) (0 : Int32)) fun v14 M13 =>
              if v14 = 0 then
                zb (F_X10_takes M13 (18 : Int32) (15 : Int32) (23 : Int32) (0 : Int32) (0 : Int32) (0 : Int32)) fun v16 M15 =>
                if v16 = 0 then
                  some ((-1 : Int32), M15)
                else
                  some ((7 : Int32), M15)
              else
                some ((6 : Int32), M13)
            else
              some ((5 : Int32), M11)
          else
            some ((4 : Int32), M9)
        else
          some ((3 : Int32), M7)
      else
        some ((2 : Int32), M5)
    else
      some ((1 : Int32), M3)
  else
    some ((0 : Int32), M1)
def rm_X10_knownHere : Room := { frames := 7, cells := 0, slots := 0, locals := 196 }
set_option maxHeartbeats 4000000 in
set_option maxRecDepth 100000 in
theorem c_X10_knownHere (l : Launch) {G : zG} {ad : Nat → Nat} {n : Nat} (hA : zInj ad n) (M : zMem)  (hT : zT shM n 0 11) {r9 : Int32} {M9 : zMem} (hF : F_X10_knownHere M  = some (r9, M9)) : zM l yX10_knownHere cX10_knownHere 1 (some .int) rm_X10_knownHere G shM ad n M [.ref (ad 0)] (some (.int r9)) M9 := by
  refine zM_of hA (by decide +kernel) (lv := [(0, .ref (ad 0))]) (Nat.le_of_ble_eq_true rfl) rfl (fun p e s m args below meth c A cx hr => ?_)
  unfold F_X10_knownHere at hF
  refine z_aload_n cx d_X10_knownHere_0 0 rfl ?_
  refine z_iconst (v := 2) cx d_X10_knownHere_1 ki_2 ?_
  refine z_bipush (v := 18) cx d_X10_knownHere_2 kb_18 ?_
  refine z_bipush (v := 9) cx d_X10_knownHere_4 kb_9 ?_
  refine z_bipush (v := 14) cx d_X10_knownHere_6 kb_14 ?_
  refine z_iconst (v := 5) cx d_X10_knownHere_8 ki_5 ?_
  refine z_iconst (v := 0) cx d_X10_knownHere_9 ki_0 ?_
  obtain ⟨v2, M1, hc, hF⟩ := zb_inv hF
  refine z_callV cx (As := [.int (2 : Int32), .int (18 : Int32), .int (9 : Int32), .int (14 : Int32), .int (5 : Int32), .int (0 : Int32)]) (rest := []) (c_X10_takes l cx.2.2.2.1.1 M (2 : Int32) (18 : Int32) (9 : Int32) (14 : Int32) (5 : Int32) (0 : Int32) hT hc) hT zo_11 cv_SunnyPansModel_202 ⟨rfl, rfl, Nat.le_of_ble_eq_true rfl, Nat.le_of_ble_eq_true rfl⟩ rfl rfl ⟨Nat.zero_le _, Nat.zero_le _⟩ (Nat.le_of_ble_eq_true rfl) d_X10_knownHere_10 ?_
  refine z_if_eq cx 18 d_X10_knownHere_13 (by decide) hF (fun hF => ?_) (fun hF => ?_)
  · refine z_aload_n cx d_X10_knownHere_18 0 rfl ?_
    refine z_bipush (v := 19) cx d_X10_knownHere_19 kb_19 ?_
    refine z_iconst (v := 1) cx d_X10_knownHere_21 ki_1 ?_
    refine z_bipush (v := 12) cx d_X10_knownHere_22 kb_12 ?_
    refine z_bipush (v := 20) cx d_X10_knownHere_24 kb_20 ?_
    refine z_iconst (v := 0) cx d_X10_knownHere_26 ki_0 ?_
    refine z_iconst (v := 0) cx d_X10_knownHere_27 ki_0 ?_
    obtain ⟨v4, M3, hc, hF⟩ := zb_inv hF
    refine z_callV cx (As := [.int (19 : Int32), .int (1 : Int32), .int (12 : Int32), .int (20 : Int32), .int (0 : Int32), .int (0 : Int32)]) (rest := []) (c_X10_takes l cx.2.2.2.1.1 M1 (19 : Int32) (1 : Int32) (12 : Int32) (20 : Int32) (0 : Int32) (0 : Int32) hT hc) hT zo_11 cv_SunnyPansModel_202 ⟨rfl, rfl, Nat.le_of_ble_eq_true rfl, Nat.le_of_ble_eq_true rfl⟩ rfl rfl ⟨Nat.zero_le _, Nat.zero_le _⟩ (Nat.le_of_ble_eq_true rfl) d_X10_knownHere_28 ?_
    refine z_if_eq cx 36 d_X10_knownHere_31 (by decide) hF (fun hF => ?_) (fun hF => ?_)
    · refine z_aload_n cx d_X10_knownHere_36 0 rfl ?_
      refine z_bipush (v := 18) cx d_X10_knownHere_37 kb_18 ?_
      refine z_iconst (v := 5) cx d_X10_knownHere_39 ki_5 ?_
      refine z_iconst (v := 1) cx d_X10_knownHere_40 ki_1 ?_
      refine z_iconst (v := 3) cx d_X10_knownHere_41 ki_3 ?_
      refine z_bipush (v := 8) cx d_X10_knownHere_42 kb_8 ?_
      refine z_iconst (v := 0) cx d_X10_knownHere_44 ki_0 ?_
      obtain ⟨v6, M5, hc, hF⟩ := zb_inv hF
      refine z_callV cx (As := [.int (18 : Int32), .int (5 : Int32), .int (1 : Int32), .int (3 : Int32), .int (8 : Int32), .int (0 : Int32)]) (rest := []) (c_X10_takes l cx.2.2.2.1.1 M3 (18 : Int32) (5 : Int32) (1 : Int32) (3 : Int32) (8 : Int32) (0 : Int32) hT hc) hT zo_11 cv_SunnyPansModel_202 ⟨rfl, rfl, Nat.le_of_ble_eq_true rfl, Nat.le_of_ble_eq_true rfl⟩ rfl rfl ⟨Nat.zero_le _, Nat.zero_le _⟩ (Nat.le_of_ble_eq_true rfl) d_X10_knownHere_45 ?_
      refine z_if_eq cx 53 d_X10_knownHere_48 (by decide) hF (fun hF => ?_) (fun hF => ?_)
      · refine z_aload_n cx d_X10_knownHere_53 0 rfl ?_
        refine z_bipush (v := 19) cx d_X10_knownHere_54 kb_19 ?_
        refine z_bipush (v := 9) cx d_X10_knownHere_56 kb_9 ?_
        refine z_iconst (v := 4) cx d_X10_knownHere_58 ki_4 ?_
        refine z_iconst (v := 5) cx d_X10_knownHere_59 ki_5 ?_
        refine z_iconst (v := 0) cx d_X10_knownHere_60 ki_0 ?_
        refine z_iconst (v := 0) cx d_X10_knownHere_61 ki_0 ?_
        obtain ⟨v8, M7, hc, hF⟩ := zb_inv hF
        refine z_callV cx (As := [.int (19 : Int32), .int (9 : Int32), .int (4 : Int32), .int (5 : Int32), .int (0 : Int32), .int (0 : Int32)]) (rest := []) (c_X10_takes l cx.2.2.2.1.1 M5 (19 : Int32) (9 : Int32) (4 : Int32) (5 : Int32) (0 : Int32) (0 : Int32) hT hc) hT zo_11 cv_SunnyPansModel_202 ⟨rfl, rfl, Nat.le_of_ble_eq_true rfl, Nat.le_of_ble_eq_true rfl⟩ rfl rfl ⟨Nat.zero_le _, Nat.zero_le _⟩ (Nat.le_of_ble_eq_true rfl) d_X10_knownHere_62 ?_
        refine z_if_eq cx 70 d_X10_knownHere_65 (by decide) hF (fun hF => ?_) (fun hF => ?_)
        · refine z_aload_n cx d_X10_knownHere_70 0 rfl ?_
          refine z_bipush (v := 8) cx d_X10_knownHere_71 kb_8 ?_
          refine z_bipush (v := 15) cx d_X10_knownHere_73 kb_15 ?_
          refine z_bipush (v := 21) cx d_X10_knownHere_75 kb_21 ?_
          refine z_bipush (v := 18) cx d_X10_knownHere_77 kb_18 ?_
          refine z_iconst (v := 0) cx d_X10_knownHere_79 ki_0 ?_
          refine z_iconst (v := 0) cx d_X10_knownHere_80 ki_0 ?_
          obtain ⟨v10, M9, hc, hF⟩ := zb_inv hF
          refine z_callV cx (As := [.int (8 : Int32), .int (15 : Int32), .int (21 : Int32), .int (18 : Int32), .int (0 : Int32), .int (0 : Int32)]) (rest := []) (c_X10_takes l cx.2.2.2.1.1 M7 (8 : Int32) (15 : Int32) (21 : Int32) (18 : Int32) (0 : Int32) (0 : Int32) hT hc) hT zo_11 cv_SunnyPansModel_202 ⟨rfl, rfl, Nat.le_of_ble_eq_true rfl, Nat.le_of_ble_eq_true rfl⟩ rfl rfl ⟨Nat.zero_le _, Nat.zero_le _⟩ (Nat.le_of_ble_eq_true rfl) d_X10_knownHere_81 ?_
          refine z_if_eq cx 89 d_X10_knownHere_84 (by decide) hF (fun hF => ?_) (fun hF => ?_)
          · refine z_aload_n cx d_X10_knownHere_89 0 rfl ?_
            refine z_iconst (v := 4) cx d_X10_knownHere_90 ki_4 ?_
            refine z_iconst (v := 1) cx d_X10_knownHere_91 ki_1 ?_
            refine z_bipush (v := 25) cx d_X10_knownHere_92 kb_25 ?_
            refine z_iconst (v := 0) cx d_X10_knownHere_94 ki_0 ?_
            refine z_iconst (v := 0) cx d_X10_knownHere_95 ki_0 ?_
            refine z_iconst (v := 0) cx d_X10_knownHere_96 ki_0 ?_
            obtain ⟨v12, M11, hc, hF⟩ := zb_inv hF
            refine z_callV cx (As := [.int (4 : Int32), .int (1 : Int32), .int (25 : Int32), .int (0 : Int32), .int (0 : Int32), .int (0 : Int32)]) (rest := []) (c_X10_takes l cx.2.2.2.1.1 M9 (4 : Int32) (1 : Int32) (25 : Int32) (0 : Int32) (0 : Int32) (0 : Int32) hT hc) hT zo_11 cv_SunnyPansModel_202 ⟨rfl, rfl, Nat.le_of_ble_eq_true rfl, Nat.le_of_ble_eq_true rfl⟩ rfl rfl ⟨Nat.zero_le _, Nat.zero_le _⟩ (Nat.le_of_ble_eq_true rfl) d_X10_knownHere_97 ?_
            refine z_if_eq cx 105 d_X10_knownHere_100 (by decide) hF (fun hF => ?_) (fun hF => ?_)
            · refine z_aload_n cx d_X10_knownHere_105 0 rfl ?_
              refine z_iconst (v := 3) cx d_X10_knownHere_106 ki_3 ?_
              refine z_bipush (v := 15) cx d_X10_knownHere_107 kb_15 ?_
              refine z_bipush (v := 12) cx d_X10_knownHere_109 kb_12 ?_
              refine z_iconst (v := 0) cx d_X10_knownHere_111 ki_0 ?_
              refine z_iconst (v := 0) cx d_X10_knownHere_112 ki_0 ?_
              refine z_iconst (v := 0) cx d_X10_knownHere_113 ki_0 ?_
              obtain ⟨v14, M13, hc, hF⟩ := zb_inv hF
              refine z_callV cx (As := [.int (3 : Int32), .int (15 : Int32), .int (12 : Int32), .int (0 : Int32), .int (0 : Int32), .int (0 : Int32)]) (rest := []) (c_X10_takes l cx.2.2.2.1.1 M11 (3 : Int32) (15 : Int32) (12 : Int32) (0 : Int32) (0 : Int32) (0 : Int32) hT hc) hT zo_11 cv_SunnyPansModel_202 ⟨rfl, rfl, Nat.le_of_ble_eq_true rfl, Nat.le_of_ble_eq_true rfl⟩ rfl rfl ⟨Nat.zero_le _, Nat.zero_le _⟩ (Nat.le_of_ble_eq_true rfl) d_X10_knownHere_114 ?_
              refine z_if_eq cx 123 d_X10_knownHere_117 (by decide) hF (fun hF => ?_) (fun hF => ?_)
              · refine z_aload_n cx d_X10_knownHere_123 0 rfl ?_
                refine z_bipush (v := 18) cx d_X10_knownHere_124 kb_18 ?_
                refine z_bipush (v := 15) cx d_X10_knownHere_126 kb_15 ?_
                refine z_bipush (v := 23) cx d_X10_knownHere_128 kb_23 ?_
                refine z_iconst (v := 0) cx d_X10_knownHere_130 ki_0 ?_
                refine z_iconst (v := 0) cx d_X10_knownHere_131 ki_0 ?_
                refine z_iconst (v := 0) cx d_X10_knownHere_132 ki_0 ?_
                obtain ⟨v16, M15, hc, hF⟩ := zb_inv hF
                refine z_callV cx (As := [.int (18 : Int32), .int (15 : Int32), .int (23 : Int32), .int (0 : Int32), .int (0 : Int32), .int (0 : Int32)]) (rest := []) (c_X10_takes l cx.2.2.2.1.1 M13 (18 : Int32) (15 : Int32) (23 : Int32) (0 : Int32) (0 : Int32) (0 : Int32) hT hc) hT zo_11 cv_SunnyPansModel_202 ⟨rfl, rfl, Nat.le_of_ble_eq_true rfl, Nat.le_of_ble_eq_true rfl⟩ rfl rfl ⟨Nat.zero_le _, Nat.zero_le _⟩ (Nat.le_of_ble_eq_true rfl) d_X10_knownHere_133 ?_
                refine z_if_eq cx 144 d_X10_knownHere_136 (by decide) hF (fun hF => ?_) (fun hF => ?_)
                · refine z_iconst (v := -1) cx d_X10_knownHere_144 ki_m1 ?_
                  exact z_iret cx hr rfl hF d_X10_knownHere_145
                refine z_bipush (v := 7) cx d_X10_knownHere_139 kb_7 ?_
                refine z_goto cx 145 d_X10_knownHere_141 (by decide) ?_
                exact z_iret cx hr rfl hF d_X10_knownHere_145
              refine z_bipush (v := 6) cx d_X10_knownHere_120 kb_6 ?_
              exact z_iret cx hr rfl hF d_X10_knownHere_122
            refine z_iconst (v := 5) cx d_X10_knownHere_103 ki_5 ?_
            exact z_iret cx hr rfl hF d_X10_knownHere_104
          refine z_iconst (v := 4) cx d_X10_knownHere_87 ki_4 ?_
          exact z_iret cx hr rfl hF d_X10_knownHere_88
        refine z_iconst (v := 3) cx d_X10_knownHere_68 ki_3 ?_
        exact z_iret cx hr rfl hF d_X10_knownHere_69
      refine z_iconst (v := 2) cx d_X10_knownHere_51 ki_2 ?_
      exact z_iret cx hr rfl hF d_X10_knownHere_52
    refine z_iconst (v := 1) cx d_X10_knownHere_34 ki_1 ?_
    exact z_iret cx hr rfl hF d_X10_knownHere_35
  refine z_iconst (v := 0) cx d_X10_knownHere_16 ki_0 ?_
  exact z_iret cx hr rfl hF d_X10_knownHere_17
/-! SunnyPansModel.sum, its calls of its own kind as parameters -/
set_option maxRecDepth 100000 in
theorem wd_1604 : Cond.code yX10_product cX10_product 2 none ∈ tbG := tw7 64 rfl rfl
set_option maxRecDepth 100000 in
theorem wd_1601 : Cond.methodLink "SunnyPansModel" 190 yX10_product ∈ tbG := tw7 61 rfl rfl
set_option maxRecDepth 100000 in
theorem wd_1603 : Cond.instanceMethod yX10_product ∈ tbG := tw7 63 rfl rfl
theorem wd_57 : Cond.selects "SunnyPansModel" yX10_product yX10_product ∈ tbG := tw 57 (by decide +kernel) rfl
theorem cv_SunnyPansModel_190 : zCV "SunnyPansModel" 190 "SunnyPansModel" yX10_product cX10_product 2 none 0 := zCV_of wd_1601 wd_1603 wd_57 wd_111 wd_1604 (by decide +kernel)
set_option maxRecDepth 100000 in
theorem wd_1616 : Cond.code yX10_notes cX10_notes 3 none ∈ tbG := tw7 76 rfl rfl
set_option maxRecDepth 100000 in
theorem wd_1613 : Cond.methodLink "SunnyPansModel" 196 yX10_notes ∈ tbG := tw7 73 rfl rfl
set_option maxRecDepth 100000 in
theorem wd_1615 : Cond.instanceMethod yX10_notes ∈ tbG := tw7 75 rfl rfl
theorem wd_60 : Cond.selects "SunnyPansModel" yX10_notes yX10_notes ∈ tbG := tw 60 (by decide +kernel) rfl
theorem cv_SunnyPansModel_196 : zCV "SunnyPansModel" 196 "SunnyPansModel" yX10_notes cX10_notes 3 none 2 := zCV_of wd_1613 wd_1615 wd_60 wd_111 wd_1616 (by decide +kernel)
set_option maxRecDepth 100000 in
theorem wd_1628 : Cond.code yX10_takesSign cX10_takesSign 3 (some .boolean) ∈ tbG := tw7 88 rfl rfl
set_option maxRecDepth 100000 in
theorem wd_1625 : Cond.methodLink "SunnyPansModel" 193 yX10_takesSign ∈ tbG := tw7 85 rfl rfl
set_option maxRecDepth 100000 in
theorem wd_1627 : Cond.instanceMethod yX10_takesSign ∈ tbG := tw7 87 rfl rfl
theorem wd_63 : Cond.selects "SunnyPansModel" yX10_takesSign yX10_takesSign ∈ tbG := tw 63 (by decide +kernel) rfl
theorem cv_SunnyPansModel_193 : zCV "SunnyPansModel" 193 "SunnyPansModel" yX10_takesSign cX10_takesSign 3 (some .boolean) 1 := zCV_of wd_1625 wd_1627 wd_63 wd_111 wd_1628 (by decide +kernel)
theorem d_X10_sum_0 : decode cX10_sum 0 = .ok (.aload_n 0, 1) := by decide +kernel
theorem d_X10_sum_1 : decode cX10_sum 1 = .ok (.invokevirtual 190, 3) := by decide +kernel
theorem d_X10_sum_4 : decode cX10_sum 4 = .ok (.aload_n 0, 1) := by decide +kernel
theorem d_X10_sum_5 : decode cX10_sum 5 = .ok (.getfield 98, 3) := by decide +kernel
theorem d_X10_sum_8 : decode cX10_sum 8 = .ok (.ifCond .ne 50, 3) := by decide +kernel
theorem d_X10_sum_11 : decode cX10_sum 11 = .ok (.aload_n 0, 1) := by decide +kernel
theorem d_X10_sum_12 : decode cX10_sum 12 = .ok (.bipush 43, 2) := by decide +kernel
theorem d_X10_sum_14 : decode cX10_sum 14 = .ok (.invokevirtual 193, 3) := by decide +kernel
theorem d_X10_sum_17 : decode cX10_sum 17 = .ok (.ifCond .eq 7, 3) := by decide +kernel
theorem d_X10_sum_20 : decode cX10_sum 20 = .ok (.iconst 2, 1) := by decide +kernel
theorem d_X10_sum_21 : decode cX10_sum 21 = .ok (.goto 17, 3) := by decide +kernel
theorem d_X10_sum_24 : decode cX10_sum 24 = .ok (.aload_n 0, 1) := by decide +kernel
theorem d_X10_sum_25 : decode cX10_sum 25 = .ok (.bipush 45, 2) := by decide +kernel
theorem d_X10_sum_27 : decode cX10_sum 27 = .ok (.invokevirtual 193, 3) := by decide +kernel
theorem d_X10_sum_30 : decode cX10_sum 30 = .ok (.ifCond .eq 7, 3) := by decide +kernel
theorem d_X10_sum_33 : decode cX10_sum 33 = .ok (.iconst 3, 1) := by decide +kernel
theorem d_X10_sum_34 : decode cX10_sum 34 = .ok (.goto 4, 3) := by decide +kernel
theorem d_X10_sum_37 : decode cX10_sum 37 = .ok (.iconst (-1), 1) := by decide +kernel
theorem d_X10_sum_38 : decode cX10_sum 38 = .ok (.istore_n 1, 1) := by decide +kernel
theorem d_X10_sum_39 : decode cX10_sum 39 = .ok (.iload_n 1, 1) := by decide +kernel
theorem d_X10_sum_40 : decode cX10_sum 40 = .ok (.iconst (-1), 1) := by decide +kernel
theorem d_X10_sum_41 : decode cX10_sum 41 = .ok (.if_icmp .ne 4, 3) := by decide +kernel
theorem d_X10_sum_44 : decode cX10_sum 44 = .ok (.return_, 1) := by decide +kernel
theorem d_X10_sum_45 : decode cX10_sum 45 = .ok (.aload_n 0, 1) := by decide +kernel
theorem d_X10_sum_46 : decode cX10_sum 46 = .ok (.invokevirtual 190, 3) := by decide +kernel
theorem d_X10_sum_49 : decode cX10_sum 49 = .ok (.aload_n 0, 1) := by decide +kernel
theorem d_X10_sum_50 : decode cX10_sum 50 = .ok (.iload_n 1, 1) := by decide +kernel
theorem d_X10_sum_51 : decode cX10_sum 51 = .ok (.iconst 0, 1) := by decide +kernel
theorem d_X10_sum_52 : decode cX10_sum 52 = .ok (.invokevirtual 196, 3) := by decide +kernel
theorem d_X10_sum_55 : decode cX10_sum 55 = .ok (.goto (-51), 3) := by decide +kernel
theorem d_X10_sum_58 : decode cX10_sum 58 = .ok (.return_, 1) := by decide +kernel
noncomputable def F_X10_sum_38 (r_X10_product : zMem → Option (zMem)) (self4 : zMem → Option (zMem)) (b38_S0 : Int32) (M : zMem) : Option (zMem) :=
  if b38_S0 = (-1 : Int32) then
    some M
  else
    zbv (r_X10_product M) fun M1 =>
    zbv (F_X10_notes M1 b38_S0 (0 : Int32)) fun M2 =>
    self4  M2
noncomputable def F_X10_sum_4 (r_X10_product : zMem → Option (zMem)) (self4 : zMem → Option (zMem)) (M : zMem) : Option (zMem) :=
  if (M.1 0 5) = 0 then
    zb (F_X10_takesSign M (43 : Int32)) fun v4 M3 =>
    if v4 = 0 then
      zb (F_X10_takesSign M3 (45 : Int32)) fun v6 M5 =>
      if v6 = 0 then
        F_X10_sum_38 r_X10_product self4 (-1 : Int32) M5
      else
        F_X10_sum_38 r_X10_product self4 (3 : Int32) M5
    else
      F_X10_sum_38 r_X10_product self4 (2 : Int32) M3
  else
    some M
noncomputable def F_X10_sum_r (M : zMem) (r_X10_product : zMem → Option (zMem)) : Option (zMem) :=
  zbv (r_X10_product M) fun M7 =>
  itF (fun _ => none) (F_X10_sum_4 r_X10_product) zFuel  M7
set_option maxHeartbeats 4000000 in
set_option maxRecDepth 100000 in
theorem co_X10_sum (l : Launch) {G : zG} {ad : Nat → Nat} {n : Nat} (hA : zInj ad n) (M : zMem) (r_X10_product : zMem → Option (zMem)) {rr : Room} (hrr : rr.cells = 0 ∧ rr.slots = 0) (hr_X10_product : ∀ (M : zMem)  (M9 : zMem), zT shM n 0 11 → r_X10_product M = some M9 → zM l yX10_product cX10_product 2 none rr G shM ad n M [.ref (ad 0)] none M9) (hT : zT shM n 0 11) {M9 : zMem} (hF : F_X10_sum_r M r_X10_product = some M9) : zM l yX10_sum cX10_sum 2 none (zRmS rr) G shM ad n M [.ref (ad 0)] none M9 := by
  refine zM_of hA (by decide +kernel) (lv := [(0, .ref (ad 0))]) (Nat.le_of_ble_eq_true rfl) rfl (fun p e s m args below meth c A cx hr => ?_)
  have hb38 : ∀ (self4 : zMem → Option (zMem)) (hs4 : ∀ (M : zMem), self4 M = some M9 → zJ p l e (zRmS rr) s m args below meth c G shM ad n A 2 (MQ below (zQ G shM ad n M9 none A) args s 0 0 A) 0 0 M 4 [(0, .ref (ad 0))] []), ∀ (b38_S0 : Int32) (M : zMem), F_X10_sum_38 r_X10_product self4 b38_S0 M = some M9 → zJ p l e (zRmS rr) s m args below meth c G shM ad n A 2 (MQ below (zQ G shM ad n M9 none A) args s 0 0 A) 0 0 M 38 [(0, .ref (ad 0))] [.int b38_S0] := by
    intro self4 hs4 b38_S0 M hF
    unfold F_X10_sum_38 at hF
    refine z_istore_n cx 1 [(1, .int b38_S0), (0, .ref (ad 0))] d_X10_sum_38 rfl (by decide) rfl ?_
    refine z_iload_n cx d_X10_sum_39 0 rfl ?_
    refine z_iconst (v := -1) cx d_X10_sum_40 ki_m1 ?_
    refine z_icmp_ne cx 45 d_X10_sum_41 (by decide) hF (fun hF => ?_) (fun hF => ?_)
    · refine z_aload_n cx d_X10_sum_45 1 rfl ?_
      obtain ⟨M1, hc, hF⟩ := zbv_inv hF
      refine z_callV cx (As := []) (rest := []) (hr_X10_product M _ hT hc) hT zo_11 cv_SunnyPansModel_190 (zRmS_r hrr (by decide)) rfl rfl ⟨Nat.zero_le _, Nat.zero_le _⟩ (Nat.le_of_ble_eq_true rfl) d_X10_sum_46 ?_
      refine z_aload_n cx d_X10_sum_49 1 rfl ?_
      refine z_iload_n cx d_X10_sum_50 0 rfl ?_
      refine z_iconst (v := 0) cx d_X10_sum_51 ki_0 ?_
      obtain ⟨M2, hc, hF⟩ := zbv_inv hF
      refine z_callV cx (As := [.int b38_S0, .int (0 : Int32)]) (rest := []) (c_X10_notes l cx.2.2.2.1.1 M1 b38_S0 (0 : Int32) hT hc) hT zo_11 cv_SunnyPansModel_196 (zRmS_c rfl rfl (Nat.le_of_ble_eq_true rfl) (Nat.le_of_ble_eq_true rfl)) rfl rfl ⟨Nat.zero_le _, Nat.zero_le _⟩ (Nat.le_of_ble_eq_true rfl) d_X10_sum_52 ?_
      refine z_goto cx 4 d_X10_sum_55 (by decide) ?_
      exact z_lv [1] _ rfl (hs4 M2 hF)
    exact z_vret cx hr hF d_X10_sum_44
  have hL4 : ∀ (fuel : Nat), ∀ (M : zMem), itF (fun _ => none) (F_X10_sum_4 r_X10_product) fuel M = some M9 → zJ p l e (zRmS rr) s m args below meth c G shM ad n A 2 (MQ below (zQ G shM ad n M9 none A) args s 0 0 A) 0 0 M 4 [(0, .ref (ad 0))] [] := by
    intro fuel
    induction fuel with
    | zero => intro M hF; cases hF
    | succ fuel hs4 =>
      intro M hF
      have hF : F_X10_sum_4 r_X10_product (itF (fun _ => none) (F_X10_sum_4 r_X10_product) fuel) M = some M9 := hF
      generalize itF (fun _ => none) (F_X10_sum_4 r_X10_product) fuel = self4 at hs4 hF
      unfold F_X10_sum_4 at hF
      refine z_aload_n cx d_X10_sum_4 0 rfl ?_
      refine z_getI cx hT fg_SunnyPansModel_98 d_X10_sum_5 ?_
      refine z_if_ne cx 58 d_X10_sum_8 (by decide) hF (fun hF => ?_) (fun hF => ?_)
      · exact z_vret cx hr hF d_X10_sum_58
      refine z_aload_n cx d_X10_sum_11 0 rfl ?_
      refine z_bipush (v := 43) cx d_X10_sum_12 kb_43 ?_
      obtain ⟨v4, M3, hc, hF⟩ := zb_inv hF
      refine z_callV cx (As := [.int (43 : Int32)]) (rest := []) (c_X10_takesSign l cx.2.2.2.1.1 M (43 : Int32) hT hc) hT zo_11 cv_SunnyPansModel_193 (zRmS_c rfl rfl (Nat.le_of_ble_eq_true rfl) (Nat.le_of_ble_eq_true rfl)) rfl rfl ⟨Nat.zero_le _, Nat.zero_le _⟩ (Nat.le_of_ble_eq_true rfl) d_X10_sum_14 ?_
      refine z_if_eq cx 24 d_X10_sum_17 (by decide) hF (fun hF => ?_) (fun hF => ?_)
      · refine z_aload_n cx d_X10_sum_24 0 rfl ?_
        refine z_bipush (v := 45) cx d_X10_sum_25 kb_45 ?_
        obtain ⟨v6, M5, hc, hF⟩ := zb_inv hF
        refine z_callV cx (As := [.int (45 : Int32)]) (rest := []) (c_X10_takesSign l cx.2.2.2.1.1 M3 (45 : Int32) hT hc) hT zo_11 cv_SunnyPansModel_193 (zRmS_c rfl rfl (Nat.le_of_ble_eq_true rfl) (Nat.le_of_ble_eq_true rfl)) rfl rfl ⟨Nat.zero_le _, Nat.zero_le _⟩ (Nat.le_of_ble_eq_true rfl) d_X10_sum_27 ?_
        refine z_if_eq cx 37 d_X10_sum_30 (by decide) hF (fun hF => ?_) (fun hF => ?_)
        · refine z_iconst (v := -1) cx d_X10_sum_37 ki_m1 ?_
          exact hb38 self4 hs4 (-1 : Int32) M5 hF
        refine z_iconst (v := 3) cx d_X10_sum_33 ki_3 ?_
        refine z_goto cx 38 d_X10_sum_34 (by decide) ?_
        exact hb38 self4 hs4 (3 : Int32) M5 hF
      refine z_iconst (v := 2) cx d_X10_sum_20 ki_2 ?_
      refine z_goto cx 38 d_X10_sum_21 (by decide) ?_
      exact hb38 self4 hs4 (2 : Int32) M3 hF
  unfold F_X10_sum_r at hF
  refine z_aload_n cx d_X10_sum_0 0 rfl ?_
  obtain ⟨M7, hc, hF⟩ := zbv_inv hF
  refine z_callV cx (As := []) (rest := []) (hr_X10_product M _ hT hc) hT zo_11 cv_SunnyPansModel_190 (zRmS_r hrr (by decide)) rfl rfl ⟨Nat.zero_le _, Nat.zero_le _⟩ (Nat.le_of_ble_eq_true rfl) d_X10_sum_1 ?_
  exact hL4 zFuel M7 hF
/-! SunnyPansModel.product, its calls of its own kind as parameters -/
set_option maxRecDepth 100000 in
theorem wd_1608 : Cond.code yX10_one cX10_one 3 none ∈ tbG := tw7 68 rfl rfl
set_option maxRecDepth 100000 in
theorem wd_1605 : Cond.methodLink "SunnyPansModel" 199 yX10_one ∈ tbG := tw7 65 rfl rfl
set_option maxRecDepth 100000 in
theorem wd_1607 : Cond.instanceMethod yX10_one ∈ tbG := tw7 67 rfl rfl
theorem wd_58 : Cond.selects "SunnyPansModel" yX10_one yX10_one ∈ tbG := tw 58 (by decide +kernel) rfl
theorem cv_SunnyPansModel_199 : zCV "SunnyPansModel" 199 "SunnyPansModel" yX10_one cX10_one 3 none 0 := zCV_of wd_1605 wd_1607 wd_58 wd_111 wd_1608 (by decide +kernel)
theorem d_X10_product_0 : decode cX10_product 0 = .ok (.aload_n 0, 1) := by decide +kernel
theorem d_X10_product_1 : decode cX10_product 1 = .ok (.invokevirtual 199, 3) := by decide +kernel
theorem d_X10_product_4 : decode cX10_product 4 = .ok (.aload_n 0, 1) := by decide +kernel
theorem d_X10_product_5 : decode cX10_product 5 = .ok (.getfield 98, 3) := by decide +kernel
theorem d_X10_product_8 : decode cX10_product 8 = .ok (.ifCond .ne 64, 3) := by decide +kernel
theorem d_X10_product_11 : decode cX10_product 11 = .ok (.aload_n 0, 1) := by decide +kernel
theorem d_X10_product_12 : decode cX10_product 12 = .ok (.bipush 42, 2) := by decide +kernel
theorem d_X10_product_14 : decode cX10_product 14 = .ok (.invokevirtual 193, 3) := by decide +kernel
theorem d_X10_product_17 : decode cX10_product 17 = .ok (.ifCond .eq 7, 3) := by decide +kernel
theorem d_X10_product_20 : decode cX10_product 20 = .ok (.iconst 4, 1) := by decide +kernel
theorem d_X10_product_21 : decode cX10_product 21 = .ok (.goto 31, 3) := by decide +kernel
theorem d_X10_product_24 : decode cX10_product 24 = .ok (.aload_n 0, 1) := by decide +kernel
theorem d_X10_product_25 : decode cX10_product 25 = .ok (.bipush 47, 2) := by decide +kernel
theorem d_X10_product_27 : decode cX10_product 27 = .ok (.invokevirtual 193, 3) := by decide +kernel
theorem d_X10_product_30 : decode cX10_product 30 = .ok (.ifCond .eq 7, 3) := by decide +kernel
theorem d_X10_product_33 : decode cX10_product 33 = .ok (.iconst 5, 1) := by decide +kernel
theorem d_X10_product_34 : decode cX10_product 34 = .ok (.goto 18, 3) := by decide +kernel
theorem d_X10_product_37 : decode cX10_product 37 = .ok (.aload_n 0, 1) := by decide +kernel
theorem d_X10_product_38 : decode cX10_product 38 = .ok (.bipush 37, 2) := by decide +kernel
theorem d_X10_product_40 : decode cX10_product 40 = .ok (.invokevirtual 193, 3) := by decide +kernel
theorem d_X10_product_43 : decode cX10_product 43 = .ok (.ifCond .eq 8, 3) := by decide +kernel
theorem d_X10_product_46 : decode cX10_product 46 = .ok (.bipush 6, 2) := by decide +kernel
theorem d_X10_product_48 : decode cX10_product 48 = .ok (.goto 4, 3) := by decide +kernel
theorem d_X10_product_51 : decode cX10_product 51 = .ok (.iconst (-1), 1) := by decide +kernel
theorem d_X10_product_52 : decode cX10_product 52 = .ok (.istore_n 1, 1) := by decide +kernel
theorem d_X10_product_53 : decode cX10_product 53 = .ok (.iload_n 1, 1) := by decide +kernel
theorem d_X10_product_54 : decode cX10_product 54 = .ok (.iconst (-1), 1) := by decide +kernel
theorem d_X10_product_55 : decode cX10_product 55 = .ok (.if_icmp .ne 4, 3) := by decide +kernel
theorem d_X10_product_58 : decode cX10_product 58 = .ok (.return_, 1) := by decide +kernel
theorem d_X10_product_59 : decode cX10_product 59 = .ok (.aload_n 0, 1) := by decide +kernel
theorem d_X10_product_60 : decode cX10_product 60 = .ok (.invokevirtual 199, 3) := by decide +kernel
theorem d_X10_product_63 : decode cX10_product 63 = .ok (.aload_n 0, 1) := by decide +kernel
theorem d_X10_product_64 : decode cX10_product 64 = .ok (.iload_n 1, 1) := by decide +kernel
theorem d_X10_product_65 : decode cX10_product 65 = .ok (.iconst 0, 1) := by decide +kernel
theorem d_X10_product_66 : decode cX10_product 66 = .ok (.invokevirtual 196, 3) := by decide +kernel
theorem d_X10_product_69 : decode cX10_product 69 = .ok (.goto (-65), 3) := by decide +kernel
theorem d_X10_product_72 : decode cX10_product 72 = .ok (.return_, 1) := by decide +kernel
noncomputable def F_X10_product_52 (r_X10_one : zMem → Option (zMem)) (self4 : zMem → Option (zMem)) (b52_S0 : Int32) (M : zMem) : Option (zMem) :=
  if b52_S0 = (-1 : Int32) then
    some M
  else
    zbv (r_X10_one M) fun M1 =>
    zbv (F_X10_notes M1 b52_S0 (0 : Int32)) fun M2 =>
    self4  M2
noncomputable def F_X10_product_4 (r_X10_one : zMem → Option (zMem)) (self4 : zMem → Option (zMem)) (M : zMem) : Option (zMem) :=
  if (M.1 0 5) = 0 then
    zb (F_X10_takesSign M (42 : Int32)) fun v4 M3 =>
    if v4 = 0 then
      zb (F_X10_takesSign M3 (47 : Int32)) fun v6 M5 =>
      if v6 = 0 then
        zb (F_X10_takesSign M5 (37 : Int32)) fun v8 M7 =>
        if v8 = 0 then
          F_X10_product_52 r_X10_one self4 (-1 : Int32) M7
        else
          F_X10_product_52 r_X10_one self4 (6 : Int32) M7
      else
        F_X10_product_52 r_X10_one self4 (5 : Int32) M5
    else
      F_X10_product_52 r_X10_one self4 (4 : Int32) M3
  else
    some M
noncomputable def F_X10_product_r (M : zMem) (r_X10_one : zMem → Option (zMem)) : Option (zMem) :=
  zbv (r_X10_one M) fun M9 =>
  itF (fun _ => none) (F_X10_product_4 r_X10_one) zFuel  M9
set_option maxHeartbeats 4000000 in
set_option maxRecDepth 100000 in
theorem co_X10_product (l : Launch) {G : zG} {ad : Nat → Nat} {n : Nat} (hA : zInj ad n) (M : zMem) (r_X10_one : zMem → Option (zMem)) {rr : Room} (hrr : rr.cells = 0 ∧ rr.slots = 0) (hr_X10_one : ∀ (M : zMem)  (M9 : zMem), zT shM n 0 11 → r_X10_one M = some M9 → zM l yX10_one cX10_one 3 none rr G shM ad n M [.ref (ad 0)] none M9) (hT : zT shM n 0 11) {M9 : zMem} (hF : F_X10_product_r M r_X10_one = some M9) : zM l yX10_product cX10_product 2 none (zRmS rr) G shM ad n M [.ref (ad 0)] none M9 := by
  refine zM_of hA (by decide +kernel) (lv := [(0, .ref (ad 0))]) (Nat.le_of_ble_eq_true rfl) rfl (fun p e s m args below meth c A cx hr => ?_)
  have hb52 : ∀ (self4 : zMem → Option (zMem)) (hs4 : ∀ (M : zMem), self4 M = some M9 → zJ p l e (zRmS rr) s m args below meth c G shM ad n A 2 (MQ below (zQ G shM ad n M9 none A) args s 0 0 A) 0 0 M 4 [(0, .ref (ad 0))] []), ∀ (b52_S0 : Int32) (M : zMem), F_X10_product_52 r_X10_one self4 b52_S0 M = some M9 → zJ p l e (zRmS rr) s m args below meth c G shM ad n A 2 (MQ below (zQ G shM ad n M9 none A) args s 0 0 A) 0 0 M 52 [(0, .ref (ad 0))] [.int b52_S0] := by
    intro self4 hs4 b52_S0 M hF
    unfold F_X10_product_52 at hF
    refine z_istore_n cx 1 [(1, .int b52_S0), (0, .ref (ad 0))] d_X10_product_52 rfl (by decide) rfl ?_
    refine z_iload_n cx d_X10_product_53 0 rfl ?_
    refine z_iconst (v := -1) cx d_X10_product_54 ki_m1 ?_
    refine z_icmp_ne cx 59 d_X10_product_55 (by decide) hF (fun hF => ?_) (fun hF => ?_)
    · refine z_aload_n cx d_X10_product_59 1 rfl ?_
      obtain ⟨M1, hc, hF⟩ := zbv_inv hF
      refine z_callV cx (As := []) (rest := []) (hr_X10_one M _ hT hc) hT zo_11 cv_SunnyPansModel_199 (zRmS_r hrr (by decide)) rfl rfl ⟨Nat.zero_le _, Nat.zero_le _⟩ (Nat.le_of_ble_eq_true rfl) d_X10_product_60 ?_
      refine z_aload_n cx d_X10_product_63 1 rfl ?_
      refine z_iload_n cx d_X10_product_64 0 rfl ?_
      refine z_iconst (v := 0) cx d_X10_product_65 ki_0 ?_
      obtain ⟨M2, hc, hF⟩ := zbv_inv hF
      refine z_callV cx (As := [.int b52_S0, .int (0 : Int32)]) (rest := []) (c_X10_notes l cx.2.2.2.1.1 M1 b52_S0 (0 : Int32) hT hc) hT zo_11 cv_SunnyPansModel_196 (zRmS_c rfl rfl (Nat.le_of_ble_eq_true rfl) (Nat.le_of_ble_eq_true rfl)) rfl rfl ⟨Nat.zero_le _, Nat.zero_le _⟩ (Nat.le_of_ble_eq_true rfl) d_X10_product_66 ?_
      refine z_goto cx 4 d_X10_product_69 (by decide) ?_
      exact z_lv [1] _ rfl (hs4 M2 hF)
    exact z_vret cx hr hF d_X10_product_58
  have hL4 : ∀ (fuel : Nat), ∀ (M : zMem), itF (fun _ => none) (F_X10_product_4 r_X10_one) fuel M = some M9 → zJ p l e (zRmS rr) s m args below meth c G shM ad n A 2 (MQ below (zQ G shM ad n M9 none A) args s 0 0 A) 0 0 M 4 [(0, .ref (ad 0))] [] := by
    intro fuel
    induction fuel with
    | zero => intro M hF; cases hF
    | succ fuel hs4 =>
      intro M hF
      have hF : F_X10_product_4 r_X10_one (itF (fun _ => none) (F_X10_product_4 r_X10_one) fuel) M = some M9 := hF
      generalize itF (fun _ => none) (F_X10_product_4 r_X10_one) fuel = self4 at hs4 hF
      unfold F_X10_product_4 at hF
      refine z_aload_n cx d_X10_product_4 0 rfl ?_
      refine z_getI cx hT fg_SunnyPansModel_98 d_X10_product_5 ?_
      refine z_if_ne cx 72 d_X10_product_8 (by decide) hF (fun hF => ?_) (fun hF => ?_)
      · exact z_vret cx hr hF d_X10_product_72
      refine z_aload_n cx d_X10_product_11 0 rfl ?_
      refine z_bipush (v := 42) cx d_X10_product_12 kb_42 ?_
      obtain ⟨v4, M3, hc, hF⟩ := zb_inv hF
      refine z_callV cx (As := [.int (42 : Int32)]) (rest := []) (c_X10_takesSign l cx.2.2.2.1.1 M (42 : Int32) hT hc) hT zo_11 cv_SunnyPansModel_193 (zRmS_c rfl rfl (Nat.le_of_ble_eq_true rfl) (Nat.le_of_ble_eq_true rfl)) rfl rfl ⟨Nat.zero_le _, Nat.zero_le _⟩ (Nat.le_of_ble_eq_true rfl) d_X10_product_14 ?_
      refine z_if_eq cx 24 d_X10_product_17 (by decide) hF (fun hF => ?_) (fun hF => ?_)
      · refine z_aload_n cx d_X10_product_24 0 rfl ?_
        refine z_bipush (v := 47) cx d_X10_product_25 kb_47 ?_
        obtain ⟨v6, M5, hc, hF⟩ := zb_inv hF
        refine z_callV cx (As := [.int (47 : Int32)]) (rest := []) (c_X10_takesSign l cx.2.2.2.1.1 M3 (47 : Int32) hT hc) hT zo_11 cv_SunnyPansModel_193 (zRmS_c rfl rfl (Nat.le_of_ble_eq_true rfl) (Nat.le_of_ble_eq_true rfl)) rfl rfl ⟨Nat.zero_le _, Nat.zero_le _⟩ (Nat.le_of_ble_eq_true rfl) d_X10_product_27 ?_
        refine z_if_eq cx 37 d_X10_product_30 (by decide) hF (fun hF => ?_) (fun hF => ?_)
        · refine z_aload_n cx d_X10_product_37 0 rfl ?_
          refine z_bipush (v := 37) cx d_X10_product_38 kb_37 ?_
          obtain ⟨v8, M7, hc, hF⟩ := zb_inv hF
          refine z_callV cx (As := [.int (37 : Int32)]) (rest := []) (c_X10_takesSign l cx.2.2.2.1.1 M5 (37 : Int32) hT hc) hT zo_11 cv_SunnyPansModel_193 (zRmS_c rfl rfl (Nat.le_of_ble_eq_true rfl) (Nat.le_of_ble_eq_true rfl)) rfl rfl ⟨Nat.zero_le _, Nat.zero_le _⟩ (Nat.le_of_ble_eq_true rfl) d_X10_product_40 ?_
          refine z_if_eq cx 51 d_X10_product_43 (by decide) hF (fun hF => ?_) (fun hF => ?_)
          · refine z_iconst (v := -1) cx d_X10_product_51 ki_m1 ?_
            exact hb52 self4 hs4 (-1 : Int32) M7 hF
          refine z_bipush (v := 6) cx d_X10_product_46 kb_6 ?_
          refine z_goto cx 52 d_X10_product_48 (by decide) ?_
          exact hb52 self4 hs4 (6 : Int32) M7 hF
        refine z_iconst (v := 5) cx d_X10_product_33 ki_5 ?_
        refine z_goto cx 52 d_X10_product_34 (by decide) ?_
        exact hb52 self4 hs4 (5 : Int32) M5 hF
      refine z_iconst (v := 4) cx d_X10_product_20 ki_4 ?_
      refine z_goto cx 52 d_X10_product_21 (by decide) ?_
      exact hb52 self4 hs4 (4 : Int32) M3 hF
  unfold F_X10_product_r at hF
  refine z_aload_n cx d_X10_product_0 0 rfl ?_
  obtain ⟨M9, hc, hF⟩ := zbv_inv hF
  refine z_callV cx (As := []) (rest := []) (hr_X10_one M _ hT hc) hT zo_11 cv_SunnyPansModel_199 (zRmS_r hrr (by decide)) rfl rfl ⟨Nat.zero_le _, Nat.zero_le _⟩ (Nat.le_of_ble_eq_true rfl) d_X10_product_1 ?_
  exact hL4 zFuel M9 hF
/-! SunnyPansModel.one, its calls of its own kind as parameters -/
set_option maxRecDepth 100000 in
theorem wd_1620 : Cond.code yX10_knownHere cX10_knownHere 1 (some .int) ∈ tbG := tw7 80 rfl rfl
set_option maxRecDepth 100000 in
theorem wd_1617 : Cond.methodLink "SunnyPansModel" 212 yX10_knownHere ∈ tbG := tw7 77 rfl rfl
set_option maxRecDepth 100000 in
theorem wd_1619 : Cond.instanceMethod yX10_knownHere ∈ tbG := tw7 79 rfl rfl
theorem wd_61 : Cond.selects "SunnyPansModel" yX10_knownHere yX10_knownHere ∈ tbG := tw 61 (by decide +kernel) rfl
theorem cv_SunnyPansModel_212 : zCV "SunnyPansModel" 212 "SunnyPansModel" yX10_knownHere cX10_knownHere 1 (some .int) 0 := zCV_of wd_1617 wd_1619 wd_61 wd_111 wd_1620 (by decide +kernel)
set_option maxRecDepth 100000 in
theorem wd_1612 : Cond.code yX10_opensOne cX10_opensOne 1 (some .boolean) ∈ tbG := tw7 72 rfl rfl
set_option maxRecDepth 100000 in
theorem wd_1609 : Cond.methodLink "SunnyPansModel" 205 yX10_opensOne ∈ tbG := tw7 69 rfl rfl
set_option maxRecDepth 100000 in
theorem wd_1611 : Cond.instanceMethod yX10_opensOne ∈ tbG := tw7 71 rfl rfl
theorem wd_59 : Cond.selects "SunnyPansModel" yX10_opensOne yX10_opensOne ∈ tbG := tw 59 (by decide +kernel) rfl
theorem cv_SunnyPansModel_205 : zCV "SunnyPansModel" 205 "SunnyPansModel" yX10_opensOne cX10_opensOne 1 (some .boolean) 0 := zCV_of wd_1609 wd_1611 wd_59 wd_111 wd_1612 (by decide +kernel)
set_option maxRecDepth 100000 in
theorem wd_1600 : Cond.code yX10_sum cX10_sum 2 none ∈ tbG := tw7 60 rfl rfl
set_option maxRecDepth 100000 in
theorem wd_1597 : Cond.methodLink "SunnyPansModel" 209 yX10_sum ∈ tbG := tw7 57 rfl rfl
set_option maxRecDepth 100000 in
theorem wd_1599 : Cond.instanceMethod yX10_sum ∈ tbG := tw7 59 rfl rfl
theorem wd_56 : Cond.selects "SunnyPansModel" yX10_sum yX10_sum ∈ tbG := tw 56 (by decide +kernel) rfl
theorem cv_SunnyPansModel_209 : zCV "SunnyPansModel" 209 "SunnyPansModel" yX10_sum cX10_sum 2 none 0 := zCV_of wd_1597 wd_1599 wd_56 wd_111 wd_1600 (by decide +kernel)
theorem kb_13 : (Int8.ofInt (13)).toInt32 = (13 : Int32) := by decide +kernel
theorem d_X10_one_0 : decode cX10_one 0 = .ok (.aload_n 0, 1) := by decide +kernel
theorem d_X10_one_1 : decode cX10_one 1 = .ok (.getfield 98, 3) := by decide +kernel
theorem d_X10_one_4 : decode cX10_one 4 = .ok (.ifCond .eq 4, 3) := by decide +kernel
theorem d_X10_one_7 : decode cX10_one 7 = .ok (.return_, 1) := by decide +kernel
theorem d_X10_one_8 : decode cX10_one 8 = .ok (.aload_n 0, 1) := by decide +kernel
theorem d_X10_one_9 : decode cX10_one 9 = .ok (.invokevirtual 104, 3) := by decide +kernel
theorem d_X10_one_12 : decode cX10_one 12 = .ok (.aload_n 0, 1) := by decide +kernel
theorem d_X10_one_13 : decode cX10_one 13 = .ok (.bipush 12, 2) := by decide +kernel
theorem d_X10_one_15 : decode cX10_one 15 = .ok (.iconst 5, 1) := by decide +kernel
theorem d_X10_one_16 : decode cX10_one 16 = .ok (.iconst 1, 1) := by decide +kernel
theorem d_X10_one_17 : decode cX10_one 17 = .ok (.bipush 19, 2) := by decide +kernel
theorem d_X10_one_19 : decode cX10_one 19 = .ok (.bipush 20, 2) := by decide +kernel
theorem d_X10_one_21 : decode cX10_one 21 = .ok (.iconst 0, 1) := by decide +kernel
theorem d_X10_one_22 : decode cX10_one 22 = .ok (.invokevirtual 131, 3) := by decide +kernel
theorem d_X10_one_25 : decode cX10_one 25 = .ok (.ifCond .eq 8, 3) := by decide +kernel
theorem d_X10_one_28 : decode cX10_one 28 = .ok (.bipush 7, 2) := by decide +kernel
theorem d_X10_one_30 : decode cX10_one 30 = .ok (.goto 26, 3) := by decide +kernel
theorem d_X10_one_33 : decode cX10_one 33 = .ok (.aload_n 0, 1) := by decide +kernel
theorem d_X10_one_34 : decode cX10_one 34 = .ok (.bipush 13, 2) := by decide +kernel
theorem d_X10_one_36 : decode cX10_one 36 = .ok (.bipush 15, 2) := by decide +kernel
theorem d_X10_one_38 : decode cX10_one 38 = .ok (.bipush 19, 2) := by decide +kernel
theorem d_X10_one_40 : decode cX10_one 40 = .ok (.bipush 20, 2) := by decide +kernel
theorem d_X10_one_42 : decode cX10_one 42 = .ok (.iconst 0, 1) := by decide +kernel
theorem d_X10_one_43 : decode cX10_one 43 = .ok (.iconst 0, 1) := by decide +kernel
theorem d_X10_one_44 : decode cX10_one 44 = .ok (.invokevirtual 131, 3) := by decide +kernel
theorem d_X10_one_47 : decode cX10_one 47 = .ok (.ifCond .eq 8, 3) := by decide +kernel
theorem d_X10_one_50 : decode cX10_one 50 = .ok (.bipush 8, 2) := by decide +kernel
theorem d_X10_one_52 : decode cX10_one 52 = .ok (.goto 4, 3) := by decide +kernel
theorem d_X10_one_55 : decode cX10_one 55 = .ok (.iconst (-1), 1) := by decide +kernel
theorem d_X10_one_56 : decode cX10_one 56 = .ok (.istore_n 1, 1) := by decide +kernel
theorem d_X10_one_57 : decode cX10_one 57 = .ok (.iload_n 1, 1) := by decide +kernel
theorem d_X10_one_58 : decode cX10_one 58 = .ok (.iconst (-1), 1) := by decide +kernel
theorem d_X10_one_59 : decode cX10_one 59 = .ok (.if_icmp .eq 58, 3) := by decide +kernel
theorem d_X10_one_62 : decode cX10_one 62 = .ok (.aload_n 0, 1) := by decide +kernel
theorem d_X10_one_63 : decode cX10_one 63 = .ok (.invokevirtual 205, 3) := by decide +kernel
theorem d_X10_one_66 : decode cX10_one 66 = .ok (.ifCond .ne 4, 3) := by decide +kernel
theorem d_X10_one_69 : decode cX10_one 69 = .ok (.return_, 1) := by decide +kernel
theorem d_X10_one_70 : decode cX10_one 70 = .ok (.aload_n 0, 1) := by decide +kernel
theorem d_X10_one_71 : decode cX10_one 71 = .ok (.invokevirtual 135, 3) := by decide +kernel
theorem d_X10_one_74 : decode cX10_one 74 = .ok (.aload_n 0, 1) := by decide +kernel
theorem d_X10_one_75 : decode cX10_one 75 = .ok (.bipush 91, 2) := by decide +kernel
theorem d_X10_one_77 : decode cX10_one 77 = .ok (.invokevirtual 151, 3) := by decide +kernel
theorem d_X10_one_80 : decode cX10_one 80 = .ok (.aload_n 0, 1) := by decide +kernel
theorem d_X10_one_81 : decode cX10_one 81 = .ok (.invokevirtual 209, 3) := by decide +kernel
theorem d_X10_one_84 : decode cX10_one 84 = .ok (.aload_n 0, 1) := by decide +kernel
theorem d_X10_one_85 : decode cX10_one 85 = .ok (.bipush 44, 2) := by decide +kernel
theorem d_X10_one_87 : decode cX10_one 87 = .ok (.invokevirtual 151, 3) := by decide +kernel
theorem d_X10_one_90 : decode cX10_one 90 = .ok (.aload_n 0, 1) := by decide +kernel
theorem d_X10_one_91 : decode cX10_one 91 = .ok (.invokevirtual 209, 3) := by decide +kernel
theorem d_X10_one_94 : decode cX10_one 94 = .ok (.aload_n 0, 1) := by decide +kernel
theorem d_X10_one_95 : decode cX10_one 95 = .ok (.bipush 93, 2) := by decide +kernel
theorem d_X10_one_97 : decode cX10_one 97 = .ok (.invokevirtual 151, 3) := by decide +kernel
theorem d_X10_one_100 : decode cX10_one 100 = .ok (.aload_n 0, 1) := by decide +kernel
theorem d_X10_one_101 : decode cX10_one 101 = .ok (.iload_n 1, 1) := by decide +kernel
theorem d_X10_one_102 : decode cX10_one 102 = .ok (.iconst 0, 1) := by decide +kernel
theorem d_X10_one_103 : decode cX10_one 103 = .ok (.invokevirtual 196, 3) := by decide +kernel
theorem d_X10_one_106 : decode cX10_one 106 = .ok (.aload_n 0, 1) := by decide +kernel
theorem d_X10_one_107 : decode cX10_one 107 = .ok (.dup, 1) := by decide +kernel
theorem d_X10_one_108 : decode cX10_one 108 = .ok (.getfield 141, 3) := by decide +kernel
theorem d_X10_one_111 : decode cX10_one 111 = .ok (.iconst 1, 1) := by decide +kernel
theorem d_X10_one_112 : decode cX10_one 112 = .ok (.isub, 1) := by decide +kernel
theorem d_X10_one_113 : decode cX10_one 113 = .ok (.putfield 141, 3) := by decide +kernel
theorem d_X10_one_116 : decode cX10_one 116 = .ok (.return_, 1) := by decide +kernel
theorem d_X10_one_117 : decode cX10_one 117 = .ok (.aload_n 0, 1) := by decide +kernel
theorem d_X10_one_118 : decode cX10_one 118 = .ok (.aload_n 0, 1) := by decide +kernel
theorem d_X10_one_119 : decode cX10_one 119 = .ok (.getfield 91, 3) := by decide +kernel
theorem d_X10_one_122 : decode cX10_one 122 = .ok (.invokevirtual 94, 3) := by decide +kernel
theorem d_X10_one_125 : decode cX10_one 125 = .ok (.bipush 40, 2) := by decide +kernel
theorem d_X10_one_127 : decode cX10_one 127 = .ok (.if_icmp .ne 42, 3) := by decide +kernel
theorem d_X10_one_130 : decode cX10_one 130 = .ok (.aload_n 0, 1) := by decide +kernel
theorem d_X10_one_131 : decode cX10_one 131 = .ok (.invokevirtual 205, 3) := by decide +kernel
theorem d_X10_one_134 : decode cX10_one 134 = .ok (.ifCond .ne 4, 3) := by decide +kernel
theorem d_X10_one_137 : decode cX10_one 137 = .ok (.return_, 1) := by decide +kernel
theorem d_X10_one_138 : decode cX10_one 138 = .ok (.aload_n 0, 1) := by decide +kernel
theorem d_X10_one_139 : decode cX10_one 139 = .ok (.dup, 1) := by decide +kernel
theorem d_X10_one_140 : decode cX10_one 140 = .ok (.getfield 91, 3) := by decide +kernel
theorem d_X10_one_143 : decode cX10_one 143 = .ok (.iconst 1, 1) := by decide +kernel
theorem d_X10_one_144 : decode cX10_one 144 = .ok (.iadd, 1) := by decide +kernel
theorem d_X10_one_145 : decode cX10_one 145 = .ok (.putfield 91, 3) := by decide +kernel
theorem d_X10_one_148 : decode cX10_one 148 = .ok (.aload_n 0, 1) := by decide +kernel
theorem d_X10_one_149 : decode cX10_one 149 = .ok (.invokevirtual 209, 3) := by decide +kernel
theorem d_X10_one_152 : decode cX10_one 152 = .ok (.aload_n 0, 1) := by decide +kernel
theorem d_X10_one_153 : decode cX10_one 153 = .ok (.bipush 41, 2) := by decide +kernel
theorem d_X10_one_155 : decode cX10_one 155 = .ok (.invokevirtual 151, 3) := by decide +kernel
theorem d_X10_one_158 : decode cX10_one 158 = .ok (.aload_n 0, 1) := by decide +kernel
theorem d_X10_one_159 : decode cX10_one 159 = .ok (.dup, 1) := by decide +kernel
theorem d_X10_one_160 : decode cX10_one 160 = .ok (.getfield 141, 3) := by decide +kernel
theorem d_X10_one_163 : decode cX10_one 163 = .ok (.iconst 1, 1) := by decide +kernel
theorem d_X10_one_164 : decode cX10_one 164 = .ok (.isub, 1) := by decide +kernel
theorem d_X10_one_165 : decode cX10_one 165 = .ok (.putfield 141, 3) := by decide +kernel
theorem d_X10_one_168 : decode cX10_one 168 = .ok (.return_, 1) := by decide +kernel
theorem d_X10_one_169 : decode cX10_one 169 = .ok (.aload_n 0, 1) := by decide +kernel
theorem d_X10_one_170 : decode cX10_one 170 = .ok (.invokevirtual 212, 3) := by decide +kernel
theorem d_X10_one_173 : decode cX10_one 173 = .ok (.istore_n 2, 1) := by decide +kernel
theorem d_X10_one_174 : decode cX10_one 174 = .ok (.iload_n 2, 1) := by decide +kernel
theorem d_X10_one_175 : decode cX10_one 175 = .ok (.iconst (-1), 1) := by decide +kernel
theorem d_X10_one_176 : decode cX10_one 176 = .ok (.if_icmp .eq 12, 3) := by decide +kernel
theorem d_X10_one_179 : decode cX10_one 179 = .ok (.aload_n 0, 1) := by decide +kernel
theorem d_X10_one_180 : decode cX10_one 180 = .ok (.iconst 1, 1) := by decide +kernel
theorem d_X10_one_181 : decode cX10_one 181 = .ok (.iload_n 2, 1) := by decide +kernel
theorem d_X10_one_182 : decode cX10_one 182 = .ok (.invokevirtual 196, 3) := by decide +kernel
theorem d_X10_one_185 : decode cX10_one 185 = .ok (.goto 16, 3) := by decide +kernel
theorem d_X10_one_188 : decode cX10_one 188 = .ok (.aload_n 0, 1) := by decide +kernel
theorem d_X10_one_189 : decode cX10_one 189 = .ok (.iconst 0, 1) := by decide +kernel
theorem d_X10_one_190 : decode cX10_one 190 = .ok (.aload_n 0, 1) := by decide +kernel
theorem d_X10_one_191 : decode cX10_one 191 = .ok (.iconst 0, 1) := by decide +kernel
theorem d_X10_one_192 : decode cX10_one 192 = .ok (.sipush 999, 3) := by decide +kernel
theorem d_X10_one_195 : decode cX10_one 195 = .ok (.invokevirtual 147, 3) := by decide +kernel
theorem d_X10_one_198 : decode cX10_one 198 = .ok (.invokevirtual 196, 3) := by decide +kernel
theorem d_X10_one_201 : decode cX10_one 201 = .ok (.return_, 1) := by decide +kernel
noncomputable def F_X10_one_56 (r_X10_sum : zMem → Option (zMem)) (b56_S0 : Int32) (M : zMem) : Option (zMem) :=
  if b56_S0 = (-1 : Int32) then
    zb (F_X10_byteAt M (M.1 0 4)) fun v2 M1 =>
    if v2 = (40 : Int32) then
      zb (F_X10_opensOne M1) fun v10 M9 =>
      if v10 = 0 then
        some M9
      else
        zl (zI M9 0 4 ((M9.1 0 4) + (1 : Int32))) fun M11 =>
        zbv (r_X10_sum M11) fun M12 =>
        zbv (F_X10_sign M12 (41 : Int32)) fun M13 =>
        zl (zI M13 0 8 ((M13.1 0 8) - (1 : Int32))) fun M14 =>
        some M14
    else
      zb (F_X10_knownHere M1) fun v4 M3 =>
      if v4 = (-1 : Int32) then
        zb (F_X10_number M3 (0 : Int32) (999 : Int32)) fun v6 M5 =>
        zbv (F_X10_notes M5 (0 : Int32) v6) fun M7 =>
        some M7
      else
        zbv (F_X10_notes M3 (1 : Int32) v4) fun M8 =>
        some M8
  else
    zb (F_X10_opensOne M) fun v16 M15 =>
    if v16 = 0 then
      some M15
    else
      zbv (F_X10_skipWord M15) fun M17 =>
      zbv (F_X10_sign M17 (91 : Int32)) fun M18 =>
      zbv (r_X10_sum M18) fun M19 =>
      zbv (F_X10_sign M19 (44 : Int32)) fun M20 =>
      zbv (r_X10_sum M20) fun M21 =>
      zbv (F_X10_sign M21 (93 : Int32)) fun M22 =>
      zbv (F_X10_notes M22 b56_S0 (0 : Int32)) fun M23 =>
      zl (zI M23 0 8 ((M23.1 0 8) - (1 : Int32))) fun M24 =>
      some M24
noncomputable def F_X10_one_r (M : zMem) (r_X10_sum : zMem → Option (zMem)) : Option (zMem) :=
  if (M.1 0 5) = 0 then
    zbv (F_X10_blanks M) fun M25 =>
    zb (F_X10_isWord M25 (12 : Int32) (5 : Int32) (1 : Int32) (19 : Int32) (20 : Int32) (0 : Int32)) fun v27 M26 =>
    if v27 = 0 then
      zb (F_X10_isWord M26 (13 : Int32) (15 : Int32) (19 : Int32) (20 : Int32) (0 : Int32) (0 : Int32)) fun v29 M28 =>
      if v29 = 0 then
        F_X10_one_56 r_X10_sum (-1 : Int32) M28
      else
        F_X10_one_56 r_X10_sum (8 : Int32) M28
    else
      F_X10_one_56 r_X10_sum (7 : Int32) M26
  else
    some M
set_option maxHeartbeats 4000000 in
set_option maxRecDepth 100000 in
theorem co_X10_one (l : Launch) {G : zG} {ad : Nat → Nat} {n : Nat} (hA : zInj ad n) (M : zMem) (r_X10_sum : zMem → Option (zMem)) {rr : Room} (hrr : rr.cells = 0 ∧ rr.slots = 0) (hr_X10_sum : ∀ (M : zMem)  (M9 : zMem), zT shM n 0 11 → r_X10_sum M = some M9 → zM l yX10_sum cX10_sum 2 none rr G shM ad n M [.ref (ad 0)] none M9) (hT : zT shM n 0 11) {M9 : zMem} (hF : F_X10_one_r M r_X10_sum = some M9) : zM l yX10_one cX10_one 3 none (zRmS rr) G shM ad n M [.ref (ad 0)] none M9 := by
  refine zM_of hA (by decide +kernel) (lv := [(0, .ref (ad 0))]) (Nat.le_of_ble_eq_true rfl) rfl (fun p e s m args below meth c A cx hr => ?_)
  have hb56 : ∀ (b56_S0 : Int32) (M : zMem), F_X10_one_56 r_X10_sum b56_S0 M = some M9 → zJ p l e (zRmS rr) s m args below meth c G shM ad n A 3 (MQ below (zQ G shM ad n M9 none A) args s 0 0 A) 0 0 M 56 [(0, .ref (ad 0))] [.int b56_S0] := by
    intro b56_S0 M hF
    unfold F_X10_one_56 at hF
    refine z_istore_n cx 1 [(1, .int b56_S0), (0, .ref (ad 0))] d_X10_one_56 rfl (by decide) rfl ?_
    refine z_iload_n cx d_X10_one_57 0 rfl ?_
    refine z_iconst (v := -1) cx d_X10_one_58 ki_m1 ?_
    refine z_icmp_eq cx 117 d_X10_one_59 (by decide) hF (fun hF => ?_) (fun hF => ?_)
    · refine z_aload_n cx d_X10_one_117 1 rfl ?_
      refine z_aload_n cx d_X10_one_118 1 rfl ?_
      refine z_getI cx hT fg_SunnyPansModel_91 d_X10_one_119 ?_
      obtain ⟨v2, M1, hc, hF⟩ := zb_inv hF
      refine z_callV cx (As := [.int (M.1 0 4)]) (rest := []) (c_X10_byteAt l cx.2.2.2.1.1 M (M.1 0 4) hT hc) hT zo_11 cv_SunnyPansModel_94 (zRmS_c rfl rfl (Nat.le_of_ble_eq_true rfl) (Nat.le_of_ble_eq_true rfl)) rfl rfl ⟨Nat.zero_le _, Nat.zero_le _⟩ (Nat.le_of_ble_eq_true rfl) d_X10_one_122 ?_
      refine z_bipush (v := 40) cx d_X10_one_125 kb_40 ?_
      refine z_icmp_ne cx 169 d_X10_one_127 (by decide) hF (fun hF => ?_) (fun hF => ?_)
      · refine z_aload_n cx d_X10_one_169 1 rfl ?_
        obtain ⟨v4, M3, hc, hF⟩ := zb_inv hF
        refine z_callV cx (As := []) (rest := []) (c_X10_knownHere l cx.2.2.2.1.1 M1 hT hc) hT zo_11 cv_SunnyPansModel_212 (zRmS_c rfl rfl (Nat.le_of_ble_eq_true rfl) (Nat.le_of_ble_eq_true rfl)) rfl rfl ⟨Nat.zero_le _, Nat.zero_le _⟩ (Nat.le_of_ble_eq_true rfl) d_X10_one_170 ?_
        refine z_istore_n cx 2 [(2, .int v4), (1, .int b56_S0), (0, .ref (ad 0))] d_X10_one_173 rfl (by decide) rfl ?_
        refine z_iload_n cx d_X10_one_174 0 rfl ?_
        refine z_iconst (v := -1) cx d_X10_one_175 ki_m1 ?_
        refine z_icmp_eq cx 188 d_X10_one_176 (by decide) hF (fun hF => ?_) (fun hF => ?_)
        · refine z_aload_n cx d_X10_one_188 2 rfl ?_
          refine z_iconst (v := 0) cx d_X10_one_189 ki_0 ?_
          refine z_aload_n cx d_X10_one_190 2 rfl ?_
          refine z_iconst (v := 0) cx d_X10_one_191 ki_0 ?_
          refine z_sipush (v := 999) cx d_X10_one_192 ks_999 ?_
          obtain ⟨v6, M5, hc, hF⟩ := zb_inv hF
          refine z_callV cx (As := [.int (0 : Int32), .int (999 : Int32)]) (rest := [.int (0 : Int32), .ref (ad 0)]) (c_X10_number l cx.2.2.2.1.1 M3 (0 : Int32) (999 : Int32) hT hc) hT zo_11 cv_SunnyPansModel_147 (zRmS_c rfl rfl (Nat.le_of_ble_eq_true rfl) (Nat.le_of_ble_eq_true rfl)) rfl rfl ⟨Nat.zero_le _, Nat.zero_le _⟩ (Nat.le_of_ble_eq_true rfl) d_X10_one_195 ?_
          obtain ⟨M7, hc, hF⟩ := zbv_inv hF
          refine z_callV cx (As := [.int (0 : Int32), .int v6]) (rest := []) (c_X10_notes l cx.2.2.2.1.1 M5 (0 : Int32) v6 hT hc) hT zo_11 cv_SunnyPansModel_196 (zRmS_c rfl rfl (Nat.le_of_ble_eq_true rfl) (Nat.le_of_ble_eq_true rfl)) rfl rfl ⟨Nat.zero_le _, Nat.zero_le _⟩ (Nat.le_of_ble_eq_true rfl) d_X10_one_198 ?_
          exact z_vret cx hr hF d_X10_one_201
        refine z_aload_n cx d_X10_one_179 2 rfl ?_
        refine z_iconst (v := 1) cx d_X10_one_180 ki_1 ?_
        refine z_iload_n cx d_X10_one_181 0 rfl ?_
        obtain ⟨M8, hc, hF⟩ := zbv_inv hF
        refine z_callV cx (As := [.int (1 : Int32), .int v4]) (rest := []) (c_X10_notes l cx.2.2.2.1.1 M3 (1 : Int32) v4 hT hc) hT zo_11 cv_SunnyPansModel_196 (zRmS_c rfl rfl (Nat.le_of_ble_eq_true rfl) (Nat.le_of_ble_eq_true rfl)) rfl rfl ⟨Nat.zero_le _, Nat.zero_le _⟩ (Nat.le_of_ble_eq_true rfl) d_X10_one_182 ?_
        refine z_goto cx 201 d_X10_one_185 (by decide) ?_
        exact z_vret cx hr hF d_X10_one_201
      refine z_aload_n cx d_X10_one_130 1 rfl ?_
      obtain ⟨v10, M9, hc, hF⟩ := zb_inv hF
      refine z_callV cx (As := []) (rest := []) (c_X10_opensOne l cx.2.2.2.1.1 M1 hT hc) hT zo_11 cv_SunnyPansModel_205 (zRmS_c rfl rfl (Nat.le_of_ble_eq_true rfl) (Nat.le_of_ble_eq_true rfl)) rfl rfl ⟨Nat.zero_le _, Nat.zero_le _⟩ (Nat.le_of_ble_eq_true rfl) d_X10_one_131 ?_
      refine z_if_ne cx 138 d_X10_one_134 (by decide) hF (fun hF => ?_) (fun hF => ?_)
      · refine z_aload_n cx d_X10_one_138 1 rfl ?_
        refine z_dup cx d_X10_one_139 rfl ?_
        refine z_getI cx hT fg_SunnyPansModel_91 d_X10_one_140 ?_
        refine z_iconst (v := 1) cx d_X10_one_143 ki_1 ?_
        refine z_iadd cx d_X10_one_144 ?_
        refine z_putI cx hT fp_SunnyPansModel_91 d_X10_one_145 ?_
        refine z_nmM hF (fun M11 hF => ?_)
        refine z_aload_n cx d_X10_one_148 1 rfl ?_
        obtain ⟨M12, hc, hF⟩ := zbv_inv hF
        refine z_callV cx (As := []) (rest := []) (hr_X10_sum M11 _ hT hc) hT zo_11 cv_SunnyPansModel_209 (zRmS_r hrr (by decide)) rfl rfl ⟨Nat.zero_le _, Nat.zero_le _⟩ (Nat.le_of_ble_eq_true rfl) d_X10_one_149 ?_
        refine z_aload_n cx d_X10_one_152 1 rfl ?_
        refine z_bipush (v := 41) cx d_X10_one_153 kb_41 ?_
        obtain ⟨M13, hc, hF⟩ := zbv_inv hF
        refine z_callV cx (As := [.int (41 : Int32)]) (rest := []) (c_X10_sign l cx.2.2.2.1.1 M12 (41 : Int32) hT hc) hT zo_11 cv_SunnyPansModel_151 (zRmS_c rfl rfl (Nat.le_of_ble_eq_true rfl) (Nat.le_of_ble_eq_true rfl)) rfl rfl ⟨Nat.zero_le _, Nat.zero_le _⟩ (Nat.le_of_ble_eq_true rfl) d_X10_one_155 ?_
        refine z_aload_n cx d_X10_one_158 1 rfl ?_
        refine z_dup cx d_X10_one_159 rfl ?_
        refine z_getI cx hT fg_SunnyPansModel_141 d_X10_one_160 ?_
        refine z_iconst (v := 1) cx d_X10_one_163 ki_1 ?_
        refine z_isub cx d_X10_one_164 ?_
        refine z_putI cx hT fp_SunnyPansModel_141 d_X10_one_165 ?_
        refine z_nmM hF (fun M14 hF => ?_)
        exact z_vret cx hr hF d_X10_one_168
      exact z_vret cx hr hF d_X10_one_137
    refine z_aload_n cx d_X10_one_62 1 rfl ?_
    obtain ⟨v16, M15, hc, hF⟩ := zb_inv hF
    refine z_callV cx (As := []) (rest := []) (c_X10_opensOne l cx.2.2.2.1.1 M hT hc) hT zo_11 cv_SunnyPansModel_205 (zRmS_c rfl rfl (Nat.le_of_ble_eq_true rfl) (Nat.le_of_ble_eq_true rfl)) rfl rfl ⟨Nat.zero_le _, Nat.zero_le _⟩ (Nat.le_of_ble_eq_true rfl) d_X10_one_63 ?_
    refine z_if_ne cx 70 d_X10_one_66 (by decide) hF (fun hF => ?_) (fun hF => ?_)
    · refine z_aload_n cx d_X10_one_70 1 rfl ?_
      obtain ⟨M17, hc, hF⟩ := zbv_inv hF
      refine z_callV cx (As := []) (rest := []) (c_X10_skipWord l cx.2.2.2.1.1 M15 hT hc) hT zo_11 cv_SunnyPansModel_135 (zRmS_c rfl rfl (Nat.le_of_ble_eq_true rfl) (Nat.le_of_ble_eq_true rfl)) rfl rfl ⟨Nat.zero_le _, Nat.zero_le _⟩ (Nat.le_of_ble_eq_true rfl) d_X10_one_71 ?_
      refine z_aload_n cx d_X10_one_74 1 rfl ?_
      refine z_bipush (v := 91) cx d_X10_one_75 kb_91 ?_
      obtain ⟨M18, hc, hF⟩ := zbv_inv hF
      refine z_callV cx (As := [.int (91 : Int32)]) (rest := []) (c_X10_sign l cx.2.2.2.1.1 M17 (91 : Int32) hT hc) hT zo_11 cv_SunnyPansModel_151 (zRmS_c rfl rfl (Nat.le_of_ble_eq_true rfl) (Nat.le_of_ble_eq_true rfl)) rfl rfl ⟨Nat.zero_le _, Nat.zero_le _⟩ (Nat.le_of_ble_eq_true rfl) d_X10_one_77 ?_
      refine z_aload_n cx d_X10_one_80 1 rfl ?_
      obtain ⟨M19, hc, hF⟩ := zbv_inv hF
      refine z_callV cx (As := []) (rest := []) (hr_X10_sum M18 _ hT hc) hT zo_11 cv_SunnyPansModel_209 (zRmS_r hrr (by decide)) rfl rfl ⟨Nat.zero_le _, Nat.zero_le _⟩ (Nat.le_of_ble_eq_true rfl) d_X10_one_81 ?_
      refine z_aload_n cx d_X10_one_84 1 rfl ?_
      refine z_bipush (v := 44) cx d_X10_one_85 kb_44 ?_
      obtain ⟨M20, hc, hF⟩ := zbv_inv hF
      refine z_callV cx (As := [.int (44 : Int32)]) (rest := []) (c_X10_sign l cx.2.2.2.1.1 M19 (44 : Int32) hT hc) hT zo_11 cv_SunnyPansModel_151 (zRmS_c rfl rfl (Nat.le_of_ble_eq_true rfl) (Nat.le_of_ble_eq_true rfl)) rfl rfl ⟨Nat.zero_le _, Nat.zero_le _⟩ (Nat.le_of_ble_eq_true rfl) d_X10_one_87 ?_
      refine z_aload_n cx d_X10_one_90 1 rfl ?_
      obtain ⟨M21, hc, hF⟩ := zbv_inv hF
      refine z_callV cx (As := []) (rest := []) (hr_X10_sum M20 _ hT hc) hT zo_11 cv_SunnyPansModel_209 (zRmS_r hrr (by decide)) rfl rfl ⟨Nat.zero_le _, Nat.zero_le _⟩ (Nat.le_of_ble_eq_true rfl) d_X10_one_91 ?_
      refine z_aload_n cx d_X10_one_94 1 rfl ?_
      refine z_bipush (v := 93) cx d_X10_one_95 kb_93 ?_
      obtain ⟨M22, hc, hF⟩ := zbv_inv hF
      refine z_callV cx (As := [.int (93 : Int32)]) (rest := []) (c_X10_sign l cx.2.2.2.1.1 M21 (93 : Int32) hT hc) hT zo_11 cv_SunnyPansModel_151 (zRmS_c rfl rfl (Nat.le_of_ble_eq_true rfl) (Nat.le_of_ble_eq_true rfl)) rfl rfl ⟨Nat.zero_le _, Nat.zero_le _⟩ (Nat.le_of_ble_eq_true rfl) d_X10_one_97 ?_
      refine z_aload_n cx d_X10_one_100 1 rfl ?_
      refine z_iload_n cx d_X10_one_101 0 rfl ?_
      refine z_iconst (v := 0) cx d_X10_one_102 ki_0 ?_
      obtain ⟨M23, hc, hF⟩ := zbv_inv hF
      refine z_callV cx (As := [.int b56_S0, .int (0 : Int32)]) (rest := []) (c_X10_notes l cx.2.2.2.1.1 M22 b56_S0 (0 : Int32) hT hc) hT zo_11 cv_SunnyPansModel_196 (zRmS_c rfl rfl (Nat.le_of_ble_eq_true rfl) (Nat.le_of_ble_eq_true rfl)) rfl rfl ⟨Nat.zero_le _, Nat.zero_le _⟩ (Nat.le_of_ble_eq_true rfl) d_X10_one_103 ?_
      refine z_aload_n cx d_X10_one_106 1 rfl ?_
      refine z_dup cx d_X10_one_107 rfl ?_
      refine z_getI cx hT fg_SunnyPansModel_141 d_X10_one_108 ?_
      refine z_iconst (v := 1) cx d_X10_one_111 ki_1 ?_
      refine z_isub cx d_X10_one_112 ?_
      refine z_putI cx hT fp_SunnyPansModel_141 d_X10_one_113 ?_
      refine z_nmM hF (fun M24 hF => ?_)
      exact z_vret cx hr hF d_X10_one_116
    exact z_vret cx hr hF d_X10_one_69
  unfold F_X10_one_r at hF
  refine z_aload_n cx d_X10_one_0 0 rfl ?_
  refine z_getI cx hT fg_SunnyPansModel_98 d_X10_one_1 ?_
  refine z_if_eq cx 8 d_X10_one_4 (by decide) hF (fun hF => ?_) (fun hF => ?_)
  · refine z_aload_n cx d_X10_one_8 0 rfl ?_
    obtain ⟨M25, hc, hF⟩ := zbv_inv hF
    refine z_callV cx (As := []) (rest := []) (c_X10_blanks l cx.2.2.2.1.1 M hT hc) hT zo_11 cv_SunnyPansModel_104 (zRmS_c rfl rfl (Nat.le_of_ble_eq_true rfl) (Nat.le_of_ble_eq_true rfl)) rfl rfl ⟨Nat.zero_le _, Nat.zero_le _⟩ (Nat.le_of_ble_eq_true rfl) d_X10_one_9 ?_
    refine z_aload_n cx d_X10_one_12 0 rfl ?_
    refine z_bipush (v := 12) cx d_X10_one_13 kb_12 ?_
    refine z_iconst (v := 5) cx d_X10_one_15 ki_5 ?_
    refine z_iconst (v := 1) cx d_X10_one_16 ki_1 ?_
    refine z_bipush (v := 19) cx d_X10_one_17 kb_19 ?_
    refine z_bipush (v := 20) cx d_X10_one_19 kb_20 ?_
    refine z_iconst (v := 0) cx d_X10_one_21 ki_0 ?_
    obtain ⟨v27, M26, hc, hF⟩ := zb_inv hF
    refine z_callV cx (As := [.int (12 : Int32), .int (5 : Int32), .int (1 : Int32), .int (19 : Int32), .int (20 : Int32), .int (0 : Int32)]) (rest := []) (c_X10_isWord l cx.2.2.2.1.1 M25 (12 : Int32) (5 : Int32) (1 : Int32) (19 : Int32) (20 : Int32) (0 : Int32) hT hc) hT zo_11 cv_SunnyPansModel_131 (zRmS_c rfl rfl (Nat.le_of_ble_eq_true rfl) (Nat.le_of_ble_eq_true rfl)) rfl rfl ⟨Nat.zero_le _, Nat.zero_le _⟩ (Nat.le_of_ble_eq_true rfl) d_X10_one_22 ?_
    refine z_if_eq cx 33 d_X10_one_25 (by decide) hF (fun hF => ?_) (fun hF => ?_)
    · refine z_aload_n cx d_X10_one_33 0 rfl ?_
      refine z_bipush (v := 13) cx d_X10_one_34 kb_13 ?_
      refine z_bipush (v := 15) cx d_X10_one_36 kb_15 ?_
      refine z_bipush (v := 19) cx d_X10_one_38 kb_19 ?_
      refine z_bipush (v := 20) cx d_X10_one_40 kb_20 ?_
      refine z_iconst (v := 0) cx d_X10_one_42 ki_0 ?_
      refine z_iconst (v := 0) cx d_X10_one_43 ki_0 ?_
      obtain ⟨v29, M28, hc, hF⟩ := zb_inv hF
      refine z_callV cx (As := [.int (13 : Int32), .int (15 : Int32), .int (19 : Int32), .int (20 : Int32), .int (0 : Int32), .int (0 : Int32)]) (rest := []) (c_X10_isWord l cx.2.2.2.1.1 M26 (13 : Int32) (15 : Int32) (19 : Int32) (20 : Int32) (0 : Int32) (0 : Int32) hT hc) hT zo_11 cv_SunnyPansModel_131 (zRmS_c rfl rfl (Nat.le_of_ble_eq_true rfl) (Nat.le_of_ble_eq_true rfl)) rfl rfl ⟨Nat.zero_le _, Nat.zero_le _⟩ (Nat.le_of_ble_eq_true rfl) d_X10_one_44 ?_
      refine z_if_eq cx 55 d_X10_one_47 (by decide) hF (fun hF => ?_) (fun hF => ?_)
      · refine z_iconst (v := -1) cx d_X10_one_55 ki_m1 ?_
        exact hb56 (-1 : Int32) M28 hF
      refine z_bipush (v := 8) cx d_X10_one_50 kb_8 ?_
      refine z_goto cx 56 d_X10_one_52 (by decide) ?_
      exact hb56 (8 : Int32) M28 hF
    refine z_bipush (v := 7) cx d_X10_one_28 kb_7 ?_
    refine z_goto cx 56 d_X10_one_30 (by decide) ?_
    exact hb56 (7 : Int32) M26 hF
  exact z_vret cx hr hF d_X10_one_7
noncomputable def FG_X10_sum : Nat → (zMem → Option (zMem)) × (zMem → Option (zMem)) × (zMem → Option (zMem)) := itF ((fun _ => none), (fun _ => none), (fun _ => none)) (fun r => ((fun M  => F_X10_sum_r M (r.2.1)), (fun M  => F_X10_product_r M (r.2.2)), (fun M  => F_X10_one_r M (r.1))))
theorem FGs_X10_sum (d : Nat) : FG_X10_sum (d + 1) = ((fun M  => F_X10_sum_r M ((FG_X10_sum d).2.1)), (fun M  => F_X10_product_r M ((FG_X10_sum d).2.2)), (fun M  => F_X10_one_r M ((FG_X10_sum d).1))) := rfl
noncomputable def F_X10_sum (M : zMem)  : Option (zMem) := (FG_X10_sum 48).1 M 
noncomputable def F_X10_product (M : zMem)  : Option (zMem) := (FG_X10_sum 48).2.1 M 
noncomputable def F_X10_one (M : zMem)  : Option (zMem) := (FG_X10_sum 48).2.2 M 
set_option maxHeartbeats 4000000 in
theorem cg_X10_sum (l : Launch) {G : zG} {ad : Nat → Nat} {n : Nat} (hA : zInj ad n) : ∀ d : Nat, (∀ (M : zMem)  (M9 : zMem), zT shM n 0 11 → (FG_X10_sum d).1 M = some M9 → zM l yX10_sum cX10_sum 2 none (zRmG d) G shM ad n M [.ref (ad 0)] none M9) ∧ (∀ (M : zMem)  (M9 : zMem), zT shM n 0 11 → (FG_X10_sum d).2.1 M = some M9 → zM l yX10_product cX10_product 2 none (zRmG d) G shM ad n M [.ref (ad 0)] none M9) ∧ (∀ (M : zMem)  (M9 : zMem), zT shM n 0 11 → (FG_X10_sum d).2.2 M = some M9 → zM l yX10_one cX10_one 3 none (zRmG d) G shM ad n M [.ref (ad 0)] none M9) := by
  intro d
  induction d with
  | zero => exact ⟨(fun M M9 hT hF => by cases hF), (fun M M9 hT hF => by cases hF), (fun M M9 hT hF => by cases hF)⟩
  | succ d ih =>
    exact ⟨fun M M9 hT hF => co_X10_sum l hA M _ (zRmG_0 d) (ih.2.1) hT (by rw [FGs_X10_sum] at hF; exact hF), fun M M9 hT hF => co_X10_product l hA M _ (zRmG_0 d) (ih.2.2) hT (by rw [FGs_X10_sum] at hF; exact hF), fun M M9 hT hF => co_X10_one l hA M _ (zRmG_0 d) (ih.1) hT (by rw [FGs_X10_sum] at hF; exact hF)⟩
def rm_X10_sum : Room := zRmG 48
theorem c_X10_sum (l : Launch) {G : zG} {ad : Nat → Nat} {n : Nat} (hA : zInj ad n) (M : zMem)  (hT : zT shM n 0 11) {M9 : zMem} (hF : F_X10_sum M  = some M9) : zM l yX10_sum cX10_sum 2 none rm_X10_sum G shM ad n M [.ref (ad 0)] none M9 := (cg_X10_sum l hA 48).1 M  M9 hT hF
def rm_X10_product : Room := zRmG 48
theorem c_X10_product (l : Launch) {G : zG} {ad : Nat → Nat} {n : Nat} (hA : zInj ad n) (M : zMem)  (hT : zT shM n 0 11) {M9 : zMem} (hF : F_X10_product M  = some M9) : zM l yX10_product cX10_product 2 none rm_X10_product G shM ad n M [.ref (ad 0)] none M9 := (cg_X10_sum l hA 48).2.1 M  M9 hT hF
def rm_X10_one : Room := zRmG 48
theorem c_X10_one (l : Launch) {G : zG} {ad : Nat → Nat} {n : Nat} (hA : zInj ad n) (M : zMem)  (hT : zT shM n 0 11) {M9 : zMem} (hF : F_X10_one M  = some M9) : zM l yX10_one cX10_one 3 none rm_X10_one G shM ad n M [.ref (ad 0)] none M9 := (cg_X10_sum l hA 48).2.2 M  M9 hT hF
