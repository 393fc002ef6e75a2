/-! SunnyPans$Best.clear -/
theorem ki_m1 : Int32.ofInt (-1) = (-1 : Int32) := by decide +kernel
set_option maxRecDepth 100000 in
theorem wd_291 : Cond.fieldLink "SunnyPans$Best" 9 "SunnyPans$Best" "found" "I" ∈ tbG := tw1 191 rfl rfl
theorem uw_0 : ∀ w ∈ u_ws RX0 TX0 2, w ∈ tbG := zUW _ [295, 297] (by decide +kernel) (by decide +kernel)
theorem fg_Best_9 : zGetI "SunnyPans$Best" 9 0 1 0 := ⟨RX0, TX0, 2, rfl, by decide, uw_0, wd_291, fun _ _ _ _ _ _ => ⟨_, rfl, rfl⟩⟩
theorem zc_0 : zCls 0 := ⟨RX0, TX0, 2, tyX0, rfl, tyX0_ok, nmX0⟩
theorem fp_Best_9 : zPutI "SunnyPans$Best" 9 0 1 0 := ⟨zc_0, fg_Best_9, ⟨RX0, TX0, 2, rfl, rfl, by decide +kernel⟩, fun _ _ _ _ _ _ _ => ⟨_, rfl, Nat.le_of_ble_eq_true rfl, rfl⟩⟩
set_option maxRecDepth 100000 in
theorem wd_293 : Cond.fieldLink "SunnyPans$Best" 15 "SunnyPans$Best" "amount" "I" ∈ tbG := tw1 193 rfl rfl
theorem fg_Best_15 : zGetI "SunnyPans$Best" 15 0 1 1 := ⟨RX0, TX0, 2, rfl, by decide, uw_0, wd_293, fun _ _ _ _ _ _ => ⟨_, rfl, rfl⟩⟩
theorem fp_Best_15 : zPutI "SunnyPans$Best" 15 0 1 1 := ⟨zc_0, fg_Best_15, ⟨RX0, TX0, 2, rfl, rfl, by decide +kernel⟩, fun _ _ _ _ _ _ _ => ⟨_, rfl, Nat.le_of_ble_eq_true rfl, rfl⟩⟩
theorem d_X0_clear_0 : decode cX0_clear 0 = .ok (.aload_n 0, 1) := by decide +kernel
theorem d_X0_clear_1 : decode cX0_clear 1 = .ok (.iconst (-1), 1) := by decide +kernel
theorem d_X0_clear_2 : decode cX0_clear 2 = .ok (.putfield 9, 3) := by decide +kernel
theorem d_X0_clear_5 : decode cX0_clear 5 = .ok (.aload_n 0, 1) := by decide +kernel
theorem d_X0_clear_6 : decode cX0_clear 6 = .ok (.iconst (-1), 1) := by decide +kernel
theorem d_X0_clear_7 : decode cX0_clear 7 = .ok (.putfield 15, 3) := by decide +kernel
theorem d_X0_clear_10 : decode cX0_clear 10 = .ok (.return_, 1) := by decide +kernel
noncomputable def F_X0_clear (M : zMem) (t : Nat) : Option (zMem) :=
  zl (zI M t 0 (-1 : Int32)) fun M1 =>
  zl (zI M1 t 1 (-1 : Int32)) fun M2 =>
  some M2
def rm_X0_clear : Room := { frames := 2, cells := 0, slots := 0, locals := 80 }
set_option maxHeartbeats 4000000 in
set_option maxRecDepth 100000 in
theorem c_X0_clear (l : Launch) {G : zG} {ad : Nat → Nat} {n : Nat} (hA : zInj ad n) (M : zMem) (t : Nat) (hT_t : zT shX n t 1) {M9 : zMem} (hF : F_X0_clear M t = some M9) : zM l yX0_clear cX0_clear 1 none rm_X0_clear G shX ad n M [.ref (ad t)] none M9 := by
  refine zM_of hA (by decide +kernel) (lv := [(0, .ref (ad t))]) (Nat.le_of_ble_eq_true rfl) rfl (fun p e s m args below meth c A cx hr => ?_)
  unfold F_X0_clear at hF
  refine z_aload_n cx d_X0_clear_0 0 rfl ?_
  refine z_iconst (v := -1) cx d_X0_clear_1 ki_m1 ?_
  refine z_putI cx hT_t fp_Best_9 d_X0_clear_2 ?_
  refine z_nmM hF (fun M1 hF => ?_)
  refine z_aload_n cx d_X0_clear_5 0 rfl ?_
  refine z_iconst (v := -1) cx d_X0_clear_6 ki_m1 ?_
  refine z_putI cx hT_t fp_Best_15 d_X0_clear_7 ?_
  refine z_nmM hF (fun M2 hF => ?_)
  exact z_vret cx hr hF d_X0_clear_10
/-! SunnyPans$Best.offerLeast -/
theorem d_X0_offerLeast_0 : decode cX0_offerLeast 0 = .ok (.aload_n 0, 1) := by decide +kernel
theorem d_X0_offerLeast_1 : decode cX0_offerLeast 1 = .ok (.getfield 9, 3) := by decide +kernel
theorem d_X0_offerLeast_4 : decode cX0_offerLeast 4 = .ok (.iconst (-1), 1) := by decide +kernel
theorem d_X0_offerLeast_5 : decode cX0_offerLeast 5 = .ok (.if_icmp .eq 11, 3) := by decide +kernel
theorem d_X0_offerLeast_8 : decode cX0_offerLeast 8 = .ok (.iload_n 2, 1) := by decide +kernel
theorem d_X0_offerLeast_9 : decode cX0_offerLeast 9 = .ok (.aload_n 0, 1) := by decide +kernel
theorem d_X0_offerLeast_10 : decode cX0_offerLeast 10 = .ok (.getfield 15, 3) := by decide +kernel
theorem d_X0_offerLeast_13 : decode cX0_offerLeast 13 = .ok (.if_icmp .ge 13, 3) := by decide +kernel
theorem d_X0_offerLeast_16 : decode cX0_offerLeast 16 = .ok (.aload_n 0, 1) := by decide +kernel
theorem d_X0_offerLeast_17 : decode cX0_offerLeast 17 = .ok (.iload_n 1, 1) := by decide +kernel
theorem d_X0_offerLeast_18 : decode cX0_offerLeast 18 = .ok (.putfield 9, 3) := by decide +kernel
theorem d_X0_offerLeast_21 : decode cX0_offerLeast 21 = .ok (.aload_n 0, 1) := by decide +kernel
theorem d_X0_offerLeast_22 : decode cX0_offerLeast 22 = .ok (.iload_n 2, 1) := by decide +kernel
theorem d_X0_offerLeast_23 : decode cX0_offerLeast 23 = .ok (.putfield 15, 3) := by decide +kernel
theorem d_X0_offerLeast_26 : decode cX0_offerLeast 26 = .ok (.return_, 1) := by decide +kernel
noncomputable def F_X0_offerLeast_16 (t : Nat) (p0 : Int32) (p1 : Int32) (b16_L1 : Int32) (b16_L2 : Int32) (M : zMem) : Option (zMem) :=
  zl (zI M t 0 b16_L1) fun M1 =>
  zl (zI M1 t 1 b16_L2) fun M2 =>
  some M2
noncomputable def F_X0_offerLeast (M : zMem) (t : Nat) (p0 : Int32) (p1 : Int32) : Option (zMem) :=
  if (M.1 t 0) = (-1 : Int32) then
    F_X0_offerLeast_16 t p0 p1 p0 p1 M
  else
    if (M.1 t 1) ≤ p1 then
      some M
    else
      F_X0_offerLeast_16 t p0 p1 p0 p1 M
def rm_X0_offerLeast : Room := { frames := 2, cells := 0, slots := 0, locals := 80 }
set_option maxHeartbeats 4000000 in
set_option maxRecDepth 100000 in
theorem c_X0_offerLeast (l : Launch) {G : zG} {ad : Nat → Nat} {n : Nat} (hA : zInj ad n) (M : zMem) (t : Nat) (p0 : Int32) (p1 : Int32) (hT_t : zT shX n t 1) {M9 : zMem} (hF : F_X0_offerLeast M t p0 p1 = some M9) : zM l yX0_offerLeast cX0_offerLeast 3 none rm_X0_offerLeast G shX ad n M [.ref (ad t), .int p0, .int p1] none M9 := by
  refine zM_of hA (by decide +kernel) (lv := [(0, .ref (ad t)), (1, .int p0), (2, .int p1)]) (Nat.le_of_ble_eq_true rfl) rfl (fun p e s m args below meth c A cx hr => ?_)
  have hb16 : ∀ (b16_L1 : Int32) (b16_L2 : Int32) (M : zMem), F_X0_offerLeast_16 t p0 p1 b16_L1 b16_L2 M = some M9 → zJ p l e rm_X0_offerLeast s m args below meth c G shX ad n A 3 (MQ below (zQ G shX ad n M9 none A) args s 0 0 A) 0 0 M 16 [(0, .ref (ad t)), (1, .int b16_L1), (2, .int b16_L2)] [] := by
    intro b16_L1 b16_L2 M hF
    unfold F_X0_offerLeast_16 at hF
    refine z_aload_n cx d_X0_offerLeast_16 0 rfl ?_
    refine z_iload_n cx d_X0_offerLeast_17 1 rfl ?_
    refine z_putI cx hT_t fp_Best_9 d_X0_offerLeast_18 ?_
    refine z_nmM hF (fun M1 hF => ?_)
    refine z_aload_n cx d_X0_offerLeast_21 0 rfl ?_
    refine z_iload_n cx d_X0_offerLeast_22 2 rfl ?_
    refine z_putI cx hT_t fp_Best_15 d_X0_offerLeast_23 ?_
    refine z_nmM hF (fun M2 hF => ?_)
    exact z_vret cx hr hF d_X0_offerLeast_26
  unfold F_X0_offerLeast at hF
  refine z_aload_n cx d_X0_offerLeast_0 0 rfl ?_
  refine z_getI cx hT_t fg_Best_9 d_X0_offerLeast_1 ?_
  refine z_iconst (v := -1) cx d_X0_offerLeast_4 ki_m1 ?_
  refine z_icmp_eq cx 16 d_X0_offerLeast_5 (by decide) hF (fun hF => ?_) (fun hF => ?_)
  · exact hb16 p0 p1 M hF
  refine z_iload_n cx d_X0_offerLeast_8 2 rfl ?_
  refine z_aload_n cx d_X0_offerLeast_9 0 rfl ?_
  refine z_getI cx hT_t fg_Best_15 d_X0_offerLeast_10 ?_
  refine z_icmp_ge cx 26 d_X0_offerLeast_13 (by decide) hF (fun hF => ?_) (fun hF => ?_)
  · exact z_vret cx hr hF d_X0_offerLeast_26
  exact hb16 p0 p1 M hF
/-! SunnyPans$Best.offerMost -/
theorem d_X0_offerMost_0 : decode cX0_offerMost 0 = .ok (.aload_n 0, 1) := by decide +kernel
theorem d_X0_offerMost_1 : decode cX0_offerMost 1 = .ok (.getfield 9, 3) := by decide +kernel
theorem d_X0_offerMost_4 : decode cX0_offerMost 4 = .ok (.iconst (-1), 1) := by decide +kernel
theorem d_X0_offerMost_5 : decode cX0_offerMost 5 = .ok (.if_icmp .eq 11, 3) := by decide +kernel
theorem d_X0_offerMost_8 : decode cX0_offerMost 8 = .ok (.iload_n 2, 1) := by decide +kernel
theorem d_X0_offerMost_9 : decode cX0_offerMost 9 = .ok (.aload_n 0, 1) := by decide +kernel
theorem d_X0_offerMost_10 : decode cX0_offerMost 10 = .ok (.getfield 15, 3) := by decide +kernel
theorem d_X0_offerMost_13 : decode cX0_offerMost 13 = .ok (.if_icmp .le 13, 3) := by decide +kernel
theorem d_X0_offerMost_16 : decode cX0_offerMost 16 = .ok (.aload_n 0, 1) := by decide +kernel
theorem d_X0_offerMost_17 : decode cX0_offerMost 17 = .ok (.iload_n 1, 1) := by decide +kernel
theorem d_X0_offerMost_18 : decode cX0_offerMost 18 = .ok (.putfield 9, 3) := by decide +kernel
theorem d_X0_offerMost_21 : decode cX0_offerMost 21 = .ok (.aload_n 0, 1) := by decide +kernel
theorem d_X0_offerMost_22 : decode cX0_offerMost 22 = .ok (.iload_n 2, 1) := by decide +kernel
theorem d_X0_offerMost_23 : decode cX0_offerMost 23 = .ok (.putfield 15, 3) := by decide +kernel
theorem d_X0_offerMost_26 : decode cX0_offerMost 26 = .ok (.return_, 1) := by decide +kernel
noncomputable def F_X0_offerMost_16 (t : Nat) (p0 : Int32) (p1 : Int32) (b16_L1 : Int32) (b16_L2 : Int32) (M : zMem) : Option (zMem) :=
  zl (zI M t 0 b16_L1) fun M1 =>
  zl (zI M1 t 1 b16_L2) fun M2 =>
  some M2
noncomputable def F_X0_offerMost (M : zMem) (t : Nat) (p0 : Int32) (p1 : Int32) : Option (zMem) :=
  if (M.1 t 0) = (-1 : Int32) then
    F_X0_offerMost_16 t p0 p1 p0 p1 M
  else
    if p1 ≤ (M.1 t 1) then
      some M
    else
      F_X0_offerMost_16 t p0 p1 p0 p1 M
def rm_X0_offerMost : Room := { frames := 2, cells := 0, slots := 0, locals := 80 }
set_option maxHeartbeats 4000000 in
set_option maxRecDepth 100000 in
theorem c_X0_offerMost (l : Launch) {G : zG} {ad : Nat → Nat} {n : Nat} (hA : zInj ad n) (M : zMem) (t : Nat) (p0 : Int32) (p1 : Int32) (hT_t : zT shX n t 1) {M9 : zMem} (hF : F_X0_offerMost M t p0 p1 = some M9) : zM l yX0_offerMost cX0_offerMost 3 none rm_X0_offerMost G shX ad n M [.ref (ad t), .int p0, .int p1] none M9 := by
  refine zM_of hA (by decide +kernel) (lv := [(0, .ref (ad t)), (1, .int p0), (2, .int p1)]) (Nat.le_of_ble_eq_true rfl) rfl (fun p e s m args below meth c A cx hr => ?_)
  have hb16 : ∀ (b16_L1 : Int32) (b16_L2 : Int32) (M : zMem), F_X0_offerMost_16 t p0 p1 b16_L1 b16_L2 M = some M9 → zJ p l e rm_X0_offerMost s m args below meth c G shX ad n A 3 (MQ below (zQ G shX ad n M9 none A) args s 0 0 A) 0 0 M 16 [(0, .ref (ad t)), (1, .int b16_L1), (2, .int b16_L2)] [] := by
    intro b16_L1 b16_L2 M hF
    unfold F_X0_offerMost_16 at hF
    refine z_aload_n cx d_X0_offerMost_16 0 rfl ?_
    refine z_iload_n cx d_X0_offerMost_17 1 rfl ?_
    refine z_putI cx hT_t fp_Best_9 d_X0_offerMost_18 ?_
    refine z_nmM hF (fun M1 hF => ?_)
    refine z_aload_n cx d_X0_offerMost_21 0 rfl ?_
    refine z_iload_n cx d_X0_offerMost_22 2 rfl ?_
    refine z_putI cx hT_t fp_Best_15 d_X0_offerMost_23 ?_
    refine z_nmM hF (fun M2 hF => ?_)
    exact z_vret cx hr hF d_X0_offerMost_26
  unfold F_X0_offerMost at hF
  refine z_aload_n cx d_X0_offerMost_0 0 rfl ?_
  refine z_getI cx hT_t fg_Best_9 d_X0_offerMost_1 ?_
  refine z_iconst (v := -1) cx d_X0_offerMost_4 ki_m1 ?_
  refine z_icmp_eq cx 16 d_X0_offerMost_5 (by decide) hF (fun hF => ?_) (fun hF => ?_)
  · exact hb16 p0 p1 M hF
  refine z_iload_n cx d_X0_offerMost_8 2 rfl ?_
  refine z_aload_n cx d_X0_offerMost_9 0 rfl ?_
  refine z_getI cx hT_t fg_Best_15 d_X0_offerMost_10 ?_
  refine z_icmp_le cx 26 d_X0_offerMost_13 (by decide) hF (fun hF => ?_) (fun hF => ?_)
  · exact z_vret cx hr hF d_X0_offerMost_26
  exact hb16 p0 p1 M hF
/-! SunnyPans.tellPlace -/
theorem kb_8 : (Int8.ofInt (8)).toInt32 = (8 : Int32) := by decide +kernel
theorem kb_10 : (Int8.ofInt (10)).toInt32 = (10 : Int32) := by decide +kernel
theorem d_X9_tellPlace_0 : decode cX9_tellPlace 0 = .ok (.iload_n 0, 1) := by decide +kernel
theorem d_X9_tellPlace_1 : decode cX9_tellPlace 1 = .ok (.bipush 8, 2) := by decide +kernel
theorem d_X9_tellPlace_3 : decode cX9_tellPlace 3 = .ok (.idiv, 1) := by decide +kernel
theorem d_X9_tellPlace_4 : decode cX9_tellPlace 4 = .ok (.bipush 10, 2) := by decide +kernel
theorem d_X9_tellPlace_6 : decode cX9_tellPlace 6 = .ok (.imul, 1) := by decide +kernel
theorem d_X9_tellPlace_7 : decode cX9_tellPlace 7 = .ok (.iload_n 0, 1) := by decide +kernel
theorem d_X9_tellPlace_8 : decode cX9_tellPlace 8 = .ok (.bipush 8, 2) := by decide +kernel
theorem d_X9_tellPlace_10 : decode cX9_tellPlace 10 = .ok (.irem, 1) := by decide +kernel
theorem d_X9_tellPlace_11 : decode cX9_tellPlace 11 = .ok (.iadd, 1) := by decide +kernel
theorem d_X9_tellPlace_12 : decode cX9_tellPlace 12 = .ok (.ireturn, 1) := by decide +kernel
noncomputable def F_X9_tellPlace (M : zMem) (p0 : Int32) : Option (Int32 × zMem) :=
  some ((((p0 / (8 : Int32)) * (10 : Int32)) + (p0 - p0 / (8 : Int32) * (8 : Int32))), M)
def rm_X9_tellPlace : Room := { frames := 2, cells := 0, slots := 0, locals := 80 }
set_option maxHeartbeats 4000000 in
set_option maxRecDepth 100000 in
theorem c_X9_tellPlace (l : Launch) {G : zG} {ad : Nat → Nat} {n : Nat} (hA : zInj ad n) (M : zMem) (p0 : Int32) {r9 : Int32} {M9 : zMem} (hF : F_X9_tellPlace M p0 = some (r9, M9)) : zM l yX9_tellPlace cX9_tellPlace 1 (some .int) rm_X9_tellPlace G shX ad n M [.int p0] (some (.int r9)) M9 := by
  refine zM_of hA (by decide +kernel) (lv := [(0, .int p0)]) (Nat.le_of_ble_eq_true rfl) rfl (fun p e s m args below meth c A cx hr => ?_)
  unfold F_X9_tellPlace at hF
  refine z_iload_n cx d_X9_tellPlace_0 0 rfl ?_
  refine z_bipush (v := 8) cx d_X9_tellPlace_1 kb_8 ?_
  refine z_idiv cx d_X9_tellPlace_3 (by decide) ?_
  refine z_bipush (v := 10) cx d_X9_tellPlace_4 kb_10 ?_
  refine z_imul cx d_X9_tellPlace_6 ?_
  refine z_iload_n cx d_X9_tellPlace_7 0 rfl ?_
  refine z_bipush (v := 8) cx d_X9_tellPlace_8 kb_8 ?_
  refine z_irem cx d_X9_tellPlace_10 (by decide) ?_
  refine z_iadd cx d_X9_tellPlace_11 ?_
  exact z_iret cx hr rfl hF d_X9_tellPlace_12
/-! SunnyPans$Best.placeOrAmount -/
set_option maxRecDepth 100000 in
theorem wd_1139 : Cond.code yX9_tellPlace cX9_tellPlace 1 (some .int) ∈ tbG := tw5 79 rfl rfl
set_option maxRecDepth 100000 in
theorem wd_1137 : Cond.methodLinkNest "SunnyPans$Best" 18 yX9_tellPlace "SunnyPans" ∈ tbN := twn5 77 rfl rfl
set_option maxRecDepth 100000 in
theorem wd_101 : Cond.initialized "SunnyPans" ∈ tbG := tw1 1 rfl rfl
theorem cn_Best_18 : zCN "SunnyPans$Best" 18 yX9_tellPlace cX9_tellPlace 1 (some .int) 1 := ⟨wd_1137, wd_101, wd_1139, by decide +kernel⟩
set_option maxRecDepth 100000 in
theorem wd_1138 : Cond.static yX9_tellPlace ∈ tbG := tw5 78 rfl rfl
theorem d_X0_placeOrAmount_0 : decode cX0_placeOrAmount 0 = .ok (.iload_n 1, 1) := by decide +kernel
theorem d_X0_placeOrAmount_1 : decode cX0_placeOrAmount 1 = .ok (.ifCond .ne 11, 3) := by decide +kernel
theorem d_X0_placeOrAmount_4 : decode cX0_placeOrAmount 4 = .ok (.aload_n 0, 1) := by decide +kernel
theorem d_X0_placeOrAmount_5 : decode cX0_placeOrAmount 5 = .ok (.getfield 9, 3) := by decide +kernel
theorem d_X0_placeOrAmount_8 : decode cX0_placeOrAmount 8 = .ok (.iconst (-1), 1) := by decide +kernel
theorem d_X0_placeOrAmount_9 : decode cX0_placeOrAmount 9 = .ok (.if_icmp .ne 8, 3) := by decide +kernel
theorem d_X0_placeOrAmount_12 : decode cX0_placeOrAmount 12 = .ok (.aload_n 0, 1) := by decide +kernel
theorem d_X0_placeOrAmount_13 : decode cX0_placeOrAmount 13 = .ok (.getfield 15, 3) := by decide +kernel
theorem d_X0_placeOrAmount_16 : decode cX0_placeOrAmount 16 = .ok (.ireturn, 1) := by decide +kernel
theorem d_X0_placeOrAmount_17 : decode cX0_placeOrAmount 17 = .ok (.aload_n 0, 1) := by decide +kernel
theorem d_X0_placeOrAmount_18 : decode cX0_placeOrAmount 18 = .ok (.getfield 9, 3) := by decide +kernel
theorem d_X0_placeOrAmount_21 : decode cX0_placeOrAmount 21 = .ok (.invokestatic 18, 3) := by decide +kernel
theorem d_X0_placeOrAmount_24 : decode cX0_placeOrAmount 24 = .ok (.ireturn, 1) := by decide +kernel
noncomputable def F_X0_placeOrAmount_12 (t : Nat) (p0 : Int32) (M : zMem) : Option (Int32 × zMem) :=
  some ((M.1 t 1), M)
noncomputable def F_X0_placeOrAmount (M : zMem) (t : Nat) (p0 : Int32) : Option (Int32 × zMem) :=
  if p0 = 0 then
    if (M.1 t 0) = (-1 : Int32) then
      F_X0_placeOrAmount_12 t p0 M
    else
      zb (F_X9_tellPlace M (M.1 t 0)) fun v2 M1 =>
      some (v2, M1)
  else
    F_X0_placeOrAmount_12 t p0 M
def rm_X0_placeOrAmount : Room := { frames := 3, cells := 0, slots := 0, locals := 100 }
set_option maxHeartbeats 4000000 in
set_option maxRecDepth 100000 in
theorem c_X0_placeOrAmount (l : Launch) {G : zG} {ad : Nat → Nat} {n : Nat} (hA : zInj ad n) (M : zMem) (t : Nat) (p0 : Int32) (hT_t : zT shX n t 1) {r9 : Int32} {M9 : zMem} (hF : F_X0_placeOrAmount M t p0 = some (r9, M9)) : zM l yX0_placeOrAmount cX0_placeOrAmount 2 (some .int) rm_X0_placeOrAmount G shX ad n M [.ref (ad t), .int p0] (some (.int r9)) M9 := by
  refine zM_of hA (by decide +kernel) (lv := [(0, .ref (ad t)), (1, .int p0)]) (Nat.le_of_ble_eq_true rfl) rfl (fun p e s m args below meth c A cx hr => ?_)
  have hb12 : ∀ (M : zMem), F_X0_placeOrAmount_12 t p0 M = some (r9, M9) → zJ p l e rm_X0_placeOrAmount s m args below meth c G shX ad n A 2 (MQ below (zQ G shX ad n M9 (some (.int r9)) A) args s 0 0 A) 0 0 M 12 [(0, .ref (ad t))] [] := by
    intro M hF
    unfold F_X0_placeOrAmount_12 at hF
    refine z_aload_n cx d_X0_placeOrAmount_12 0 rfl ?_
    refine z_getI cx hT_t fg_Best_15 d_X0_placeOrAmount_13 ?_
    exact z_iret cx hr rfl hF d_X0_placeOrAmount_16
  unfold F_X0_placeOrAmount at hF
  refine z_iload_n cx d_X0_placeOrAmount_0 1 rfl ?_
  refine z_if_ne cx 12 d_X0_placeOrAmount_1 (by decide) hF (fun hF => ?_) (fun hF => ?_)
  · exact z_lv [0] _ rfl (hb12 M hF)
  refine z_aload_n cx d_X0_placeOrAmount_4 0 rfl ?_
  refine z_getI cx hT_t fg_Best_9 d_X0_placeOrAmount_5 ?_
  refine z_iconst (v := -1) cx d_X0_placeOrAmount_8 ki_m1 ?_
  refine z_icmp_ne cx 17 d_X0_placeOrAmount_9 (by decide) hF (fun hF => ?_) (fun hF => ?_)
  · refine z_aload_n cx d_X0_placeOrAmount_17 0 rfl ?_
    refine z_getI cx hT_t fg_Best_9 d_X0_placeOrAmount_18 ?_
    obtain ⟨v2, M1, hc, hF⟩ := zb_inv hF
    refine z_callSN cx (As := [.int (M.1 t 0)]) (rest := []) (c_X9_tellPlace l cx.2.2.2.1.1 M (M.1 t 0)  hc) cn_Best_18 wd_1138 ⟨rfl, rfl, Nat.le_of_ble_eq_true rfl, Nat.le_of_ble_eq_true rfl⟩ rfl rfl ⟨Nat.zero_le _, Nat.zero_le _⟩ (Nat.le_of_ble_eq_true rfl) d_X0_placeOrAmount_21 ?_
    exact z_iret cx hr rfl hF d_X0_placeOrAmount_24
  exact z_lv [0] _ rfl (hb12 M hF)
/-! SunnyPans$Book.clear -/
set_option maxRecDepth 100000 in
theorem wd_396 : Cond.fieldLink "SunnyPans$Book" 18 "SunnyPans$Book" "lines" "I" ∈ tbG := tw2 56 rfl rfl
theorem uw_1 : ∀ w ∈ u_ws RX1 TX1 4, w ∈ tbG := zUW _ [400, 402, 404, 406] (by decide +kernel) (by decide +kernel)
theorem fg_Book_18 : zGetI "SunnyPans$Book" 18 1 2 2 := ⟨RX1, TX1, 4, rfl, by decide, uw_1, wd_396, fun _ _ _ _ _ _ => ⟨_, rfl, rfl⟩⟩
theorem zc_1 : zCls 1 := ⟨RX1, TX1, 4, tyX1, rfl, tyX1_ok, nmX1⟩
theorem fp_Book_18 : zPutI "SunnyPans$Book" 18 1 2 2 := ⟨zc_1, fg_Book_18, ⟨RX1, TX1, 4, rfl, rfl, by decide +kernel⟩, fun _ _ _ _ _ _ _ => ⟨_, rfl, Nat.le_of_ble_eq_true rfl, rfl⟩⟩
set_option maxRecDepth 100000 in
theorem wd_398 : Cond.fieldLink "SunnyPans$Book" 22 "SunnyPans$Book" "places" "J" ∈ tbG := tw2 58 rfl rfl
theorem fg_Book_22 : zGetL "SunnyPans$Book" 22 1 2 3 := ⟨RX1, TX1, 4, rfl, by decide, uw_1, wd_398, fun _ _ _ _ _ _ => ⟨_, rfl, rfl⟩⟩
theorem fp_Book_22 : zPutL "SunnyPans$Book" 22 1 2 3 := ⟨zc_1, fg_Book_22, ⟨RX1, TX1, 4, rfl, rfl, by decide +kernel⟩, fun _ _ _ _ _ _ _ => ⟨_, rfl, Nat.le_of_ble_eq_true rfl, rfl⟩⟩
theorem d_X1_clear_0 : decode cX1_clear 0 = .ok (.aload_n 0, 1) := by decide +kernel
theorem d_X1_clear_1 : decode cX1_clear 1 = .ok (.iconst 0, 1) := by decide +kernel
theorem d_X1_clear_2 : decode cX1_clear 2 = .ok (.putfield 18, 3) := by decide +kernel
theorem d_X1_clear_5 : decode cX1_clear 5 = .ok (.aload_n 0, 1) := by decide +kernel
theorem d_X1_clear_6 : decode cX1_clear 6 = .ok (.lconst 0, 1) := by decide +kernel
theorem d_X1_clear_7 : decode cX1_clear 7 = .ok (.putfield 22, 3) := by decide +kernel
theorem d_X1_clear_10 : decode cX1_clear 10 = .ok (.return_, 1) := by decide +kernel
noncomputable def F_X1_clear (M : zMem) (t : Nat) : Option (zMem) :=
  zl (zI M t 2 (0 : Int32)) fun M1 =>
  zl (zL M1 t 3 (0 : Int64)) fun M2 =>
  some M2
def rm_X1_clear : Room := { frames := 2, cells := 0, slots := 0, locals := 80 }
set_option maxHeartbeats 4000000 in
set_option maxRecDepth 100000 in
theorem c_X1_clear (l : Launch) {G : zG} {ad : Nat → Nat} {n : Nat} (hA : zInj ad n) (M : zMem) (t : Nat) (hT_t : zT shX n t 2) {M9 : zMem} (hF : F_X1_clear M t = some M9) : zM l yX1_clear cX1_clear 1 none rm_X1_clear G shX ad n M [.ref (ad t)] none M9 := by
  refine zM_of hA (by decide +kernel) (lv := [(0, .ref (ad t))]) (Nat.le_of_ble_eq_true rfl) rfl (fun p e s m args below meth c A cx hr => ?_)
  unfold F_X1_clear at hF
  refine z_aload_n cx d_X1_clear_0 0 rfl ?_
  refine z_iconst (v := 0) cx d_X1_clear_1 ki_0 ?_
  refine z_putI cx hT_t fp_Book_18 d_X1_clear_2 ?_
  refine z_nmM hF (fun M1 hF => ?_)
  refine z_aload_n cx d_X1_clear_5 0 rfl ?_
  refine z_lconst (v := 0) cx d_X1_clear_6 (by decide +kernel) ?_
  refine z_putL cx hT_t fp_Book_22 d_X1_clear_7 ?_
  refine z_nmM hF (fun M2 hF => ?_)
  exact z_vret cx hr hF d_X1_clear_10
/-! SunnyPans$Text.skipBlanks -/
theorem tfX_9_1 {n k : Nat} (h : zT shX n k 9) : zT shX n (k + 1) 17 := zT_off h (shX_f (by decide) (by decide +kernel)) (by decide) (by decide)
set_option maxRecDepth 100000 in
theorem wd_152 : Cond.fieldLink "SunnyPans$Text" 34 "SunnyPans$Text" "at" "I" ∈ tbG := tw1 52 rfl rfl
theorem uw_8 : ∀ w ∈ u_ws RX8 TX8 8, w ∈ tbG := zUW _ [153, 155, 157, 159, 161, 163, 165, 167] (by decide +kernel) (by decide +kernel)
theorem fg_Text_34 : zGetI "SunnyPans$Text" 34 8 9 7 := ⟨RX8, TX8, 8, rfl, by decide, uw_8, wd_152, fun _ _ _ _ _ _ => ⟨_, rfl, rfl⟩⟩
set_option maxRecDepth 100000 in
theorem wd_151 : Cond.fieldLink "SunnyPans$Text" 31 "SunnyPans$Text" "end" "I" ∈ tbG := tw1 51 rfl rfl
theorem fg_Text_31 : zGetI "SunnyPans$Text" 31 8 9 6 := ⟨RX8, TX8, 8, rfl, by decide, uw_8, wd_151, fun _ _ _ _ _ _ => ⟨_, rfl, rfl⟩⟩
set_option maxRecDepth 100000 in
theorem wd_138 : Cond.fieldLink "SunnyPans$Text" 9 "SunnyPans$Text" "bytes" "[I" ∈ tbG := tw1 38 rfl rfl
theorem fg_Text_9 : zGetR "SunnyPans$Text" 9 8 9 0 1 := ⟨RX8, TX8, 8, rfl, by decide, uw_8, wd_138, fun _ _ _ _ _ _ => ⟨_, rfl, rfl⟩⟩
theorem za_17 : zArrI 17 600 := fun _ _ _ _ _ _ => rfl
theorem kb_32 : (Int8.ofInt (32)).toInt32 = (32 : Int32) := by decide +kernel
theorem zc_8 : zCls 8 := ⟨RX8, TX8, 8, tyX8, rfl, tyX8_ok, nmX8⟩
theorem fp_Text_34 : zPutI "SunnyPans$Text" 34 8 9 7 := ⟨zc_8, fg_Text_34, ⟨RX8, TX8, 8, rfl, rfl, by decide +kernel⟩, fun _ _ _ _ _ _ _ => ⟨_, rfl, Nat.le_of_ble_eq_true rfl, rfl⟩⟩
theorem d_X8_skipBlanks_0 : decode cX8_skipBlanks 0 = .ok (.aload_n 0, 1) := by decide +kernel
theorem d_X8_skipBlanks_1 : decode cX8_skipBlanks 1 = .ok (.getfield 34, 3) := by decide +kernel
theorem d_X8_skipBlanks_4 : decode cX8_skipBlanks 4 = .ok (.aload_n 0, 1) := by decide +kernel
theorem d_X8_skipBlanks_5 : decode cX8_skipBlanks 5 = .ok (.getfield 31, 3) := by decide +kernel
theorem d_X8_skipBlanks_8 : decode cX8_skipBlanks 8 = .ok (.if_icmp .ge 30, 3) := by decide +kernel
theorem d_X8_skipBlanks_11 : decode cX8_skipBlanks 11 = .ok (.aload_n 0, 1) := by decide +kernel
theorem d_X8_skipBlanks_12 : decode cX8_skipBlanks 12 = .ok (.getfield 9, 3) := by decide +kernel
theorem d_X8_skipBlanks_15 : decode cX8_skipBlanks 15 = .ok (.aload_n 0, 1) := by decide +kernel
theorem d_X8_skipBlanks_16 : decode cX8_skipBlanks 16 = .ok (.getfield 34, 3) := by decide +kernel
theorem d_X8_skipBlanks_19 : decode cX8_skipBlanks 19 = .ok (.iaload, 1) := by decide +kernel
theorem d_X8_skipBlanks_20 : decode cX8_skipBlanks 20 = .ok (.bipush 32, 2) := by decide +kernel
theorem d_X8_skipBlanks_22 : decode cX8_skipBlanks 22 = .ok (.if_icmp .ne 16, 3) := by decide +kernel
theorem d_X8_skipBlanks_25 : decode cX8_skipBlanks 25 = .ok (.aload_n 0, 1) := by decide +kernel
theorem d_X8_skipBlanks_26 : decode cX8_skipBlanks 26 = .ok (.dup, 1) := by decide +kernel
theorem d_X8_skipBlanks_27 : decode cX8_skipBlanks 27 = .ok (.getfield 34, 3) := by decide +kernel
theorem d_X8_skipBlanks_30 : decode cX8_skipBlanks 30 = .ok (.iconst 1, 1) := by decide +kernel
theorem d_X8_skipBlanks_31 : decode cX8_skipBlanks 31 = .ok (.iadd, 1) := by decide +kernel
theorem d_X8_skipBlanks_32 : decode cX8_skipBlanks 32 = .ok (.putfield 34, 3) := by decide +kernel
theorem d_X8_skipBlanks_35 : decode cX8_skipBlanks 35 = .ok (.goto (-35), 3) := by decide +kernel
theorem d_X8_skipBlanks_38 : decode cX8_skipBlanks 38 = .ok (.return_, 1) := by decide +kernel
noncomputable def F_X8_skipBlanks_0 (t : Nat) (self0 : zMem → Option (zMem)) (M : zMem) : Option (zMem) :=
  if (M.1 t 6) ≤ (M.1 t 7) then
    some M
  else
    gin (M.1 t 7) 600 <|
    if (M.1 (t + 1) (M.1 t 7).toNatClampNeg) = (32 : Int32) then
      zl (zI M t 7 ((M.1 t 7) + (1 : Int32))) fun M2 =>
      self0  M2
    else
      some M
noncomputable def F_X8_skipBlanks (M : zMem) (t : Nat) : Option (zMem) :=
  itF (fun _ => none) (F_X8_skipBlanks_0 t) zFuel  M
def rm_X8_skipBlanks : Room := { frames := 2, cells := 0, slots := 0, locals := 80 }
set_option maxHeartbeats 4000000 in
set_option maxRecDepth 100000 in
theorem c_X8_skipBlanks (l : Launch) {G : zG} {ad : Nat → Nat} {n : Nat} (hA : zInj ad n) (M : zMem) (t : Nat) (hT_t : zT shX n t 9) {M9 : zMem} (hF : F_X8_skipBlanks M t = some M9) : zM l yX8_skipBlanks cX8_skipBlanks 1 none rm_X8_skipBlanks G shX ad n M [.ref (ad t)] none M9 := by
  refine zM_of hA (by decide +kernel) (lv := [(0, .ref (ad t))]) (Nat.le_of_ble_eq_true rfl) rfl (fun p e s m args below meth c A cx hr => ?_)
  have hL0 : ∀ (fuel : Nat), ∀ (M : zMem), itF (fun _ => none) (F_X8_skipBlanks_0 t) fuel M = some M9 → zJ p l e rm_X8_skipBlanks s m args below meth c G shX ad n A 1 (MQ below (zQ G shX ad n M9 none A) args s 0 0 A) 0 0 M 0 [(0, .ref (ad t))] [] := by
    intro fuel
    induction fuel with
    | zero => intro M hF; cases hF
    | succ fuel hs0 =>
      intro M hF
      have hF : F_X8_skipBlanks_0 t (itF (fun _ => none) (F_X8_skipBlanks_0 t) fuel) M = some M9 := hF
      generalize itF (fun _ => none) (F_X8_skipBlanks_0 t) fuel = self0 at hs0 hF
      unfold F_X8_skipBlanks_0 at hF
      refine z_aload_n cx d_X8_skipBlanks_0 0 rfl ?_
      refine z_getI cx hT_t fg_Text_34 d_X8_skipBlanks_1 ?_
      refine z_aload_n cx d_X8_skipBlanks_4 0 rfl ?_
      refine z_getI cx hT_t fg_Text_31 d_X8_skipBlanks_5 ?_
      refine z_icmp_ge cx 38 d_X8_skipBlanks_8 (by decide) hF (fun hF => ?_) (fun hF => ?_)
      · exact z_vret cx hr hF d_X8_skipBlanks_38
      refine z_aload_n cx d_X8_skipBlanks_11 0 rfl ?_
      refine z_getR cx hT_t fg_Text_9 (t + 1) rfl d_X8_skipBlanks_12 ?_
      refine z_aload_n cx d_X8_skipBlanks_15 0 rfl ?_
      refine z_getI cx hT_t fg_Text_34 d_X8_skipBlanks_16 ?_
      obtain ⟨hi1, hF⟩ := gin_inv hF
      refine z_iald cx (tfX_9_1 hT_t) za_17 hi1 ((M.1 t 7).toNatClampNeg) rfl d_X8_skipBlanks_19 ?_
      refine z_bipush (v := 32) cx d_X8_skipBlanks_20 kb_32 ?_
      refine z_icmp_ne cx 38 d_X8_skipBlanks_22 (by decide) hF (fun hF => ?_) (fun hF => ?_)
      · exact z_vret cx hr hF d_X8_skipBlanks_38
      refine z_aload_n cx d_X8_skipBlanks_25 0 rfl ?_
      refine z_dup cx d_X8_skipBlanks_26 rfl ?_
      refine z_getI cx hT_t fg_Text_34 d_X8_skipBlanks_27 ?_
      refine z_iconst (v := 1) cx d_X8_skipBlanks_30 ki_1 ?_
      refine z_iadd cx d_X8_skipBlanks_31 ?_
      refine z_putI cx hT_t fp_Text_34 d_X8_skipBlanks_32 ?_
      refine z_nmM hF (fun M2 hF => ?_)
      refine z_goto cx 0 d_X8_skipBlanks_35 (by decide) ?_
      exact hs0 M2 hF
  unfold F_X8_skipBlanks at hF
  exact hL0 zFuel M hF
/-! SunnyPans$Text.goesOn -/
set_option maxRecDepth 100000 in
theorem wd_618 : Cond.code yX8_skipBlanks cX8_skipBlanks 1 none ∈ tbG := tw3 38 rfl rfl
set_option maxRecDepth 100000 in
theorem wd_615 : Cond.methodLink "SunnyPans$Text" 40 yX8_skipBlanks ∈ tbG := tw3 35 rfl rfl
set_option maxRecDepth 100000 in
theorem wd_617 : Cond.instanceMethod yX8_skipBlanks ∈ tbG := tw3 37 rfl rfl
theorem wd_4 : Cond.selects "SunnyPans$Text" yX8_skipBlanks yX8_skipBlanks ∈ tbG := tw 4 (by decide +kernel) rfl
set_option maxRecDepth 100000 in
theorem wd_102 : Cond.initialized "SunnyPans$Text" ∈ tbG := tw1 2 rfl rfl
theorem cv_Text_40 : zCV "SunnyPans$Text" 40 "SunnyPans$Text" yX8_skipBlanks cX8_skipBlanks 1 none 0 := zCV_of wd_615 wd_617 wd_4 wd_102 wd_618 (by decide +kernel)
theorem zo_9 : zObj "SunnyPans$Text" 9 := ⟨8, (RX8, TX8, 8), rfl, rfl, fun _ _ _ _ _ _ => ⟨_, rfl⟩⟩
set_option maxRecDepth 100000 in
theorem wd_141 : Cond.fieldLink "SunnyPans$Text" 37 "SunnyPans$Text" "fault" "I" ∈ tbG := tw1 41 rfl rfl
theorem fg_Text_37 : zGetI "SunnyPans$Text" 37 8 9 2 := ⟨RX8, TX8, 8, rfl, by decide, uw_8, wd_141, fun _ _ _ _ _ _ => ⟨_, rfl, rfl⟩⟩
theorem d_X8_goesOn_0 : decode cX8_goesOn 0 = .ok (.aload_n 0, 1) := by decide +kernel
theorem d_X8_goesOn_1 : decode cX8_goesOn 1 = .ok (.invokevirtual 40, 3) := by decide +kernel
theorem d_X8_goesOn_4 : decode cX8_goesOn 4 = .ok (.aload_n 0, 1) := by decide +kernel
theorem d_X8_goesOn_5 : decode cX8_goesOn 5 = .ok (.getfield 37, 3) := by decide +kernel
theorem d_X8_goesOn_8 : decode cX8_goesOn 8 = .ok (.ifCond .ne 18, 3) := by decide +kernel
theorem d_X8_goesOn_11 : decode cX8_goesOn 11 = .ok (.aload_n 0, 1) := by decide +kernel
theorem d_X8_goesOn_12 : decode cX8_goesOn 12 = .ok (.getfield 34, 3) := by decide +kernel
theorem d_X8_goesOn_15 : decode cX8_goesOn 15 = .ok (.aload_n 0, 1) := by decide +kernel
theorem d_X8_goesOn_16 : decode cX8_goesOn 16 = .ok (.getfield 31, 3) := by decide +kernel
theorem d_X8_goesOn_19 : decode cX8_goesOn 19 = .ok (.if_icmp .ge 7, 3) := by decide +kernel
theorem d_X8_goesOn_22 : decode cX8_goesOn 22 = .ok (.iconst 1, 1) := by decide +kernel
theorem d_X8_goesOn_23 : decode cX8_goesOn 23 = .ok (.goto 4, 3) := by decide +kernel
theorem d_X8_goesOn_26 : decode cX8_goesOn 26 = .ok (.iconst 0, 1) := by decide +kernel
theorem d_X8_goesOn_27 : decode cX8_goesOn 27 = .ok (.ireturn, 1) := by decide +kernel
noncomputable def F_X8_goesOn (M : zMem) (t : Nat) : Option (Int32 × zMem) :=
  zbv (F_X8_skipBlanks M t) fun M1 =>
  if (M1.1 t 2) = 0 then
    if (M1.1 t 6) ≤ (M1.1 t 7) then
      some ((0 : Int32), M1)
    else
      some ((1 : Int32), M1)
  else
    some ((0 : Int32), M1)
def rm_X8_goesOn : Room := { frames := 3, cells := 0, slots := 0, locals := 100 }
set_option maxHeartbeats 4000000 in
set_option maxRecDepth 100000 in
theorem c_X8_goesOn (l : Launch) {G : zG} {ad : Nat → Nat} {n : Nat} (hA : zInj ad n) (M : zMem) (t : Nat) (hT_t : zT shX n t 9) {r9 : Int32} {M9 : zMem} (hF : F_X8_goesOn M t = some (r9, M9)) : zM l yX8_goesOn cX8_goesOn 1 (some .boolean) rm_X8_goesOn G shX ad n M [.ref (ad t)] (some (.int r9)) M9 := by
  refine zM_of hA (by decide +kernel) (lv := [(0, .ref (ad t))]) (Nat.le_of_ble_eq_true rfl) rfl (fun p e s m args below meth c A cx hr => ?_)
  unfold F_X8_goesOn at hF
  refine z_aload_n cx d_X8_goesOn_0 0 rfl ?_
  obtain ⟨M1, hc, hF⟩ := zbv_inv hF
  refine z_callV cx (As := []) (rest := []) (c_X8_skipBlanks l cx.2.2.2.1.1 M t hT_t hc) hT_t zo_9 cv_Text_40 ⟨rfl, rfl, Nat.le_of_ble_eq_true rfl, Nat.le_of_ble_eq_true rfl⟩ rfl rfl ⟨Nat.zero_le _, Nat.zero_le _⟩ (Nat.le_of_ble_eq_true rfl) d_X8_goesOn_1 ?_
  refine z_aload_n cx d_X8_goesOn_4 0 rfl ?_
  refine z_getI cx hT_t fg_Text_37 d_X8_goesOn_5 ?_
  refine z_if_ne cx 26 d_X8_goesOn_8 (by decide) hF (fun hF => ?_) (fun hF => ?_)
  · refine z_iconst (v := 0) cx d_X8_goesOn_26 ki_0 ?_
    exact z_iret cx hr nb0 hF d_X8_goesOn_27
  refine z_aload_n cx d_X8_goesOn_11 0 rfl ?_
  refine z_getI cx hT_t fg_Text_34 d_X8_goesOn_12 ?_
  refine z_aload_n cx d_X8_goesOn_15 0 rfl ?_
  refine z_getI cx hT_t fg_Text_31 d_X8_goesOn_16 ?_
  refine z_icmp_ge cx 26 d_X8_goesOn_19 (by decide) hF (fun hF => ?_) (fun hF => ?_)
  · refine z_iconst (v := 0) cx d_X8_goesOn_26 ki_0 ?_
    exact z_iret cx hr nb0 hF d_X8_goesOn_27
  refine z_iconst (v := 1) cx d_X8_goesOn_22 ki_1 ?_
  refine z_goto cx 27 d_X8_goesOn_23 (by decide) ?_
  exact z_iret cx hr nb1 hF d_X8_goesOn_27
/-! SunnyPans$Text.peek -/
theorem d_X8_peek_0 : decode cX8_peek 0 = .ok (.aload_n 0, 1) := by decide +kernel
theorem d_X8_peek_1 : decode cX8_peek 1 = .ok (.getfield 34, 3) := by decide +kernel
theorem d_X8_peek_4 : decode cX8_peek 4 = .ok (.aload_n 0, 1) := by decide +kernel
theorem d_X8_peek_5 : decode cX8_peek 5 = .ok (.getfield 31, 3) := by decide +kernel
theorem d_X8_peek_8 : decode cX8_peek 8 = .ok (.if_icmp .ge 15, 3) := by decide +kernel
theorem d_X8_peek_11 : decode cX8_peek 11 = .ok (.aload_n 0, 1) := by decide +kernel
theorem d_X8_peek_12 : decode cX8_peek 12 = .ok (.getfield 9, 3) := by decide +kernel
theorem d_X8_peek_15 : decode cX8_peek 15 = .ok (.aload_n 0, 1) := by decide +kernel
theorem d_X8_peek_16 : decode cX8_peek 16 = .ok (.getfield 34, 3) := by decide +kernel
theorem d_X8_peek_19 : decode cX8_peek 19 = .ok (.iaload, 1) := by decide +kernel
theorem d_X8_peek_20 : decode cX8_peek 20 = .ok (.goto 4, 3) := by decide +kernel
theorem d_X8_peek_23 : decode cX8_peek 23 = .ok (.iconst (-1), 1) := by decide +kernel
theorem d_X8_peek_24 : decode cX8_peek 24 = .ok (.ireturn, 1) := by decide +kernel
noncomputable def F_X8_peek (M : zMem) (t : Nat) : Option (Int32 × zMem) :=
  if (M.1 t 6) ≤ (M.1 t 7) then
    some ((-1 : Int32), M)
  else
    gin (M.1 t 7) 600 <|
    some ((M.1 (t + 1) (M.1 t 7).toNatClampNeg), M)
def rm_X8_peek : Room := { frames := 2, cells := 0, slots := 0, locals := 80 }
set_option maxHeartbeats 4000000 in
set_option maxRecDepth 100000 in
theorem c_X8_peek (l : Launch) {G : zG} {ad : Nat → Nat} {n : Nat} (hA : zInj ad n) (M : zMem) (t : Nat) (hT_t : zT shX n t 9) {r9 : Int32} {M9 : zMem} (hF : F_X8_peek M t = some (r9, M9)) : zM l yX8_peek cX8_peek 1 (some .int) rm_X8_peek G shX ad n M [.ref (ad t)] (some (.int r9)) M9 := by
  refine zM_of hA (by decide +kernel) (lv := [(0, .ref (ad t))]) (Nat.le_of_ble_eq_true rfl) rfl (fun p e s m args below meth c A cx hr => ?_)
  unfold F_X8_peek at hF
  refine z_aload_n cx d_X8_peek_0 0 rfl ?_
  refine z_getI cx hT_t fg_Text_34 d_X8_peek_1 ?_
  refine z_aload_n cx d_X8_peek_4 0 rfl ?_
  refine z_getI cx hT_t fg_Text_31 d_X8_peek_5 ?_
  refine z_icmp_ge cx 23 d_X8_peek_8 (by decide) hF (fun hF => ?_) (fun hF => ?_)
  · refine z_iconst (v := -1) cx d_X8_peek_23 ki_m1 ?_
    exact z_iret cx hr rfl hF d_X8_peek_24
  refine z_aload_n cx d_X8_peek_11 0 rfl ?_
  refine z_getR cx hT_t fg_Text_9 (t + 1) rfl d_X8_peek_12 ?_
  refine z_aload_n cx d_X8_peek_15 0 rfl ?_
  refine z_getI cx hT_t fg_Text_34 d_X8_peek_16 ?_
  obtain ⟨hi1, hF⟩ := gin_inv hF
  refine z_iald cx (tfX_9_1 hT_t) za_17 hi1 ((M.1 t 7).toNatClampNeg) rfl d_X8_peek_19 ?_
  refine z_goto cx 24 d_X8_peek_20 (by decide) ?_
  exact z_iret cx hr rfl hF d_X8_peek_24
/-! SunnyPans$Text.isDigit -/
theorem kb_48 : (Int8.ofInt (48)).toInt32 = (48 : Int32) := by decide +kernel
theorem kb_57 : (Int8.ofInt (57)).toInt32 = (57 : Int32) := by decide +kernel
theorem d_X8_isDigit_0 : decode cX8_isDigit 0 = .ok (.iload_n 0, 1) := by decide +kernel
theorem d_X8_isDigit_1 : decode cX8_isDigit 1 = .ok (.bipush 48, 2) := by decide +kernel
theorem d_X8_isDigit_3 : decode cX8_isDigit 3 = .ok (.if_icmp .lt 13, 3) := by decide +kernel
theorem d_X8_isDigit_6 : decode cX8_isDigit 6 = .ok (.iload_n 0, 1) := by decide +kernel
theorem d_X8_isDigit_7 : decode cX8_isDigit 7 = .ok (.bipush 57, 2) := by decide +kernel
theorem d_X8_isDigit_9 : decode cX8_isDigit 9 = .ok (.if_icmp .gt 7, 3) := by decide +kernel
theorem d_X8_isDigit_12 : decode cX8_isDigit 12 = .ok (.iconst 1, 1) := by decide +kernel
theorem d_X8_isDigit_13 : decode cX8_isDigit 13 = .ok (.goto 4, 3) := by decide +kernel
theorem d_X8_isDigit_16 : decode cX8_isDigit 16 = .ok (.iconst 0, 1) := by decide +kernel
theorem d_X8_isDigit_17 : decode cX8_isDigit 17 = .ok (.ireturn, 1) := by decide +kernel
noncomputable def F_X8_isDigit (M : zMem) (p0 : Int32) : Option (Int32 × zMem) :=
  if p0 < (48 : Int32) then
    some ((0 : Int32), M)
  else
    if (57 : Int32) < p0 then
      some ((0 : Int32), M)
    else
      some ((1 : Int32), M)
def rm_X8_isDigit : Room := { frames := 2, cells := 0, slots := 0, locals := 80 }
set_option maxHeartbeats 4000000 in
set_option maxRecDepth 100000 in
theorem c_X8_isDigit (l : Launch) {G : zG} {ad : Nat → Nat} {n : Nat} (hA : zInj ad n) (M : zMem) (p0 : Int32) {r9 : Int32} {M9 : zMem} (hF : F_X8_isDigit M p0 = some (r9, M9)) : zM l yX8_isDigit cX8_isDigit 1 (some .boolean) rm_X8_isDigit G shX ad n M [.int p0] (some (.int r9)) M9 := by
  refine zM_of hA (by decide +kernel) (lv := [(0, .int p0)]) (Nat.le_of_ble_eq_true rfl) rfl (fun p e s m args below meth c A cx hr => ?_)
  unfold F_X8_isDigit at hF
  refine z_iload_n cx d_X8_isDigit_0 0 rfl ?_
  refine z_bipush (v := 48) cx d_X8_isDigit_1 kb_48 ?_
  refine z_icmp_lt cx 16 d_X8_isDigit_3 (by decide) hF (fun hF => ?_) (fun hF => ?_)
  · refine z_iconst (v := 0) cx d_X8_isDigit_16 ki_0 ?_
    exact z_iret cx hr nb0 hF d_X8_isDigit_17
  refine z_iload_n cx d_X8_isDigit_6 0 rfl ?_
  refine z_bipush (v := 57) cx d_X8_isDigit_7 kb_57 ?_
  refine z_icmp_gt cx 16 d_X8_isDigit_9 (by decide) hF (fun hF => ?_) (fun hF => ?_)
  · refine z_iconst (v := 0) cx d_X8_isDigit_16 ki_0 ?_
    exact z_iret cx hr nb0 hF d_X8_isDigit_17
  refine z_iconst (v := 1) cx d_X8_isDigit_12 ki_1 ?_
  refine z_goto cx 17 d_X8_isDigit_13 (by decide) ?_
  exact z_iret cx hr nb1 hF d_X8_isDigit_17
/-! SunnyPans$Text.seesDigit -/
set_option maxRecDepth 100000 in
theorem wd_630 : Cond.code yX8_peek cX8_peek 1 (some .int) ∈ tbG := tw3 50 rfl rfl
set_option maxRecDepth 100000 in
theorem wd_627 : Cond.methodLink "SunnyPans$Text" 47 yX8_peek ∈ tbG := tw3 47 rfl rfl
set_option maxRecDepth 100000 in
theorem wd_629 : Cond.instanceMethod yX8_peek ∈ tbG := tw3 49 rfl rfl
theorem wd_6 : Cond.selects "SunnyPans$Text" yX8_peek yX8_peek ∈ tbG := tw 6 (by decide +kernel) rfl
theorem cv_Text_47 : zCV "SunnyPans$Text" 47 "SunnyPans$Text" yX8_peek cX8_peek 1 (some .int) 0 := zCV_of wd_627 wd_629 wd_6 wd_102 wd_630 (by decide +kernel)
set_option maxRecDepth 100000 in
theorem wd_704 : Cond.code yX8_isDigit cX8_isDigit 1 (some .boolean) ∈ tbG := tw3 124 rfl rfl
set_option maxRecDepth 100000 in
theorem wd_702 : Cond.methodLink "SunnyPans$Text" 51 yX8_isDigit ∈ tbG := tw3 122 rfl rfl
set_option maxRecDepth 100000 in
theorem wd_703 : Cond.static yX8_isDigit ∈ tbG := tw3 123 rfl rfl
theorem cs_Text_51 : zCS "SunnyPans$Text" 51 yX8_isDigit cX8_isDigit 1 (some .boolean) 1 := zCS_of wd_702 wd_703 wd_102 wd_704 (by decide +kernel)
theorem d_X8_seesDigit_0 : decode cX8_seesDigit 0 = .ok (.aload_n 0, 1) := by decide +kernel
theorem d_X8_seesDigit_1 : decode cX8_seesDigit 1 = .ok (.invokevirtual 40, 3) := by decide +kernel
theorem d_X8_seesDigit_4 : decode cX8_seesDigit 4 = .ok (.aload_n 0, 1) := by decide +kernel
theorem d_X8_seesDigit_5 : decode cX8_seesDigit 5 = .ok (.getfield 37, 3) := by decide +kernel
theorem d_X8_seesDigit_8 : decode cX8_seesDigit 8 = .ok (.ifCond .ne 17, 3) := by decide +kernel
theorem d_X8_seesDigit_11 : decode cX8_seesDigit 11 = .ok (.aload_n 0, 1) := by decide +kernel
theorem d_X8_seesDigit_12 : decode cX8_seesDigit 12 = .ok (.invokevirtual 47, 3) := by decide +kernel
theorem d_X8_seesDigit_15 : decode cX8_seesDigit 15 = .ok (.invokestatic 51, 3) := by decide +kernel
theorem d_X8_seesDigit_18 : decode cX8_seesDigit 18 = .ok (.ifCond .eq 7, 3) := by decide +kernel
theorem d_X8_seesDigit_21 : decode cX8_seesDigit 21 = .ok (.iconst 1, 1) := by decide +kernel
theorem d_X8_seesDigit_22 : decode cX8_seesDigit 22 = .ok (.goto 4, 3) := by decide +kernel
theorem d_X8_seesDigit_25 : decode cX8_seesDigit 25 = .ok (.iconst 0, 1) := by decide +kernel
theorem d_X8_seesDigit_26 : decode cX8_seesDigit 26 = .ok (.ireturn, 1) := by decide +kernel
noncomputable def F_X8_seesDigit (M : zMem) (t : Nat) : Option (Int32 × zMem) :=
  zbv (F_X8_skipBlanks M t) fun M1 =>
  if (M1.1 t 2) = 0 then
    zb (F_X8_peek M1 t) fun v3 M2 =>
    zb (F_X8_isDigit M2 v3) fun v5 M4 =>
    if v5 = 0 then
      some ((0 : Int32), M4)
    else
      some ((1 : Int32), M4)
  else
    some ((0 : Int32), M1)
def rm_X8_seesDigit : Room := { frames := 3, cells := 0, slots := 0, locals := 100 }
set_option maxHeartbeats 4000000 in
set_option maxRecDepth 100000 in
theorem c_X8_seesDigit (l : Launch) {G : zG} {ad : Nat → Nat} {n : Nat} (hA : zInj ad n) (M : zMem) (t : Nat) (hT_t : zT shX n t 9) {r9 : Int32} {M9 : zMem} (hF : F_X8_seesDigit M t = some (r9, M9)) : zM l yX8_seesDigit cX8_seesDigit 1 (some .boolean) rm_X8_seesDigit G shX ad n M [.ref (ad t)] (some (.int r9)) M9 := by
  refine zM_of hA (by decide +kernel) (lv := [(0, .ref (ad t))]) (Nat.le_of_ble_eq_true rfl) rfl (fun p e s m args below meth c A cx hr => ?_)
  unfold F_X8_seesDigit at hF
  refine z_aload_n cx d_X8_seesDigit_0 0 rfl ?_
  obtain ⟨M1, hc, hF⟩ := zbv_inv hF
  refine z_callV cx (As := []) (rest := []) (c_X8_skipBlanks l cx.2.2.2.1.1 M t hT_t hc) hT_t zo_9 cv_Text_40 ⟨rfl, rfl, Nat.le_of_ble_eq_true rfl, Nat.le_of_ble_eq_true rfl⟩ rfl rfl ⟨Nat.zero_le _, Nat.zero_le _⟩ (Nat.le_of_ble_eq_true rfl) d_X8_seesDigit_1 ?_
  refine z_aload_n cx d_X8_seesDigit_4 0 rfl ?_
  refine z_getI cx hT_t fg_Text_37 d_X8_seesDigit_5 ?_
  refine z_if_ne cx 25 d_X8_seesDigit_8 (by decide) hF (fun hF => ?_) (fun hF => ?_)
  · refine z_iconst (v := 0) cx d_X8_seesDigit_25 ki_0 ?_
    exact z_iret cx hr nb0 hF d_X8_seesDigit_26
  refine z_aload_n cx d_X8_seesDigit_11 0 rfl ?_
  obtain ⟨v3, M2, hc, hF⟩ := zb_inv hF
  refine z_callV cx (As := []) (rest := []) (c_X8_peek l cx.2.2.2.1.1 M1 t hT_t hc) hT_t zo_9 cv_Text_47 ⟨rfl, rfl, Nat.le_of_ble_eq_true rfl, Nat.le_of_ble_eq_true rfl⟩ rfl rfl ⟨Nat.zero_le _, Nat.zero_le _⟩ (Nat.le_of_ble_eq_true rfl) d_X8_seesDigit_12 ?_
  obtain ⟨v5, M4, hc, hF⟩ := zb_inv hF
  refine z_callS cx (As := [.int v3]) (rest := []) (c_X8_isDigit l cx.2.2.2.1.1 M2 v3  hc) cs_Text_51 ⟨rfl, rfl, Nat.le_of_ble_eq_true rfl, Nat.le_of_ble_eq_true rfl⟩ rfl rfl ⟨Nat.zero_le _, Nat.zero_le _⟩ (Nat.le_of_ble_eq_true rfl) d_X8_seesDigit_15 ?_
  refine z_if_eq cx 25 d_X8_seesDigit_18 (by decide) hF (fun hF => ?_) (fun hF => ?_)
  · refine z_iconst (v := 0) cx d_X8_seesDigit_25 ki_0 ?_
    exact z_iret cx hr nb0 hF d_X8_seesDigit_26
  refine z_iconst (v := 1) cx d_X8_seesDigit_21 ki_1 ?_
  refine z_goto cx 26 d_X8_seesDigit_22 (by decide) ?_
  exact z_iret cx hr nb1 hF d_X8_seesDigit_26
/-! SunnyPans$Text.fail -/
theorem fp_Text_37 : zPutI "SunnyPans$Text" 37 8 9 2 := ⟨zc_8, fg_Text_37, ⟨RX8, TX8, 8, rfl, rfl, by decide +kernel⟩, fun _ _ _ _ _ _ _ => ⟨_, rfl, Nat.le_of_ble_eq_true rfl, rfl⟩⟩
set_option maxRecDepth 100000 in
theorem wd_143 : Cond.fieldLink "SunnyPans$Text" 15 "SunnyPans$Text" "faultPlace" "I" ∈ tbG := tw1 43 rfl rfl
theorem fg_Text_15 : zGetI "SunnyPans$Text" 15 8 9 3 := ⟨RX8, TX8, 8, rfl, by decide, uw_8, wd_143, fun _ _ _ _ _ _ => ⟨_, rfl, rfl⟩⟩
theorem fp_Text_15 : zPutI "SunnyPans$Text" 15 8 9 3 := ⟨zc_8, fg_Text_15, ⟨RX8, TX8, 8, rfl, rfl, by decide +kernel⟩, fun _ _ _ _ _ _ _ => ⟨_, rfl, Nat.le_of_ble_eq_true rfl, rfl⟩⟩
theorem d_X8_fail_0 : decode cX8_fail 0 = .ok (.aload_n 0, 1) := by decide +kernel
theorem d_X8_fail_1 : decode cX8_fail 1 = .ok (.getfield 37, 3) := by decide +kernel
theorem d_X8_fail_4 : decode cX8_fail 4 = .ok (.ifCond .ne 13, 3) := by decide +kernel
theorem d_X8_fail_7 : decode cX8_fail 7 = .ok (.aload_n 0, 1) := by decide +kernel
theorem d_X8_fail_8 : decode cX8_fail 8 = .ok (.iload_n 1, 1) := by decide +kernel
theorem d_X8_fail_9 : decode cX8_fail 9 = .ok (.putfield 37, 3) := by decide +kernel
theorem d_X8_fail_12 : decode cX8_fail 12 = .ok (.aload_n 0, 1) := by decide +kernel
theorem d_X8_fail_13 : decode cX8_fail 13 = .ok (.iload_n 2, 1) := by decide +kernel
theorem d_X8_fail_14 : decode cX8_fail 14 = .ok (.putfield 15, 3) := by decide +kernel
theorem d_X8_fail_17 : decode cX8_fail 17 = .ok (.return_, 1) := by decide +kernel
noncomputable def F_X8_fail (M : zMem) (t : Nat) (p0 : Int32) (p1 : Int32) : Option (zMem) :=
  if (M.1 t 2) = 0 then
    zl (zI M t 2 p0) fun M1 =>
    zl (zI M1 t 3 p1) fun M2 =>
    some M2
  else
    some M
def rm_X8_fail : Room := { frames := 2, cells := 0, slots := 0, locals := 80 }
set_option maxHeartbeats 4000000 in
set_option maxRecDepth 100000 in
theorem c_X8_fail (l : Launch) {G : zG} {ad : Nat → Nat} {n : Nat} (hA : zInj ad n) (M : zMem) (t : Nat) (p0 : Int32) (p1 : Int32) (hT_t : zT shX n t 9) {M9 : zMem} (hF : F_X8_fail M t p0 p1 = some M9) : zM l yX8_fail cX8_fail 3 none rm_X8_fail G shX ad n M [.ref (ad t), .int p0, .int p1] none M9 := by
  refine zM_of hA (by decide +kernel) (lv := [(0, .ref (ad t)), (1, .int p0), (2, .int p1)]) (Nat.le_of_ble_eq_true rfl) rfl (fun p e s m args below meth c A cx hr => ?_)
  unfold F_X8_fail at hF
  refine z_aload_n cx d_X8_fail_0 0 rfl ?_
  refine z_getI cx hT_t fg_Text_37 d_X8_fail_1 ?_
  refine z_if_ne cx 17 d_X8_fail_4 (by decide) hF (fun hF => ?_) (fun hF => ?_)
  · exact z_vret cx hr hF d_X8_fail_17
  refine z_aload_n cx d_X8_fail_7 0 rfl ?_
  refine z_iload_n cx d_X8_fail_8 1 rfl ?_
  refine z_putI cx hT_t fp_Text_37 d_X8_fail_9 ?_
  refine z_nmM hF (fun M1 hF => ?_)
  refine z_aload_n cx d_X8_fail_12 0 rfl ?_
  refine z_iload_n cx d_X8_fail_13 2 rfl ?_
  refine z_putI cx hT_t fp_Text_15 d_X8_fail_14 ?_
  refine z_nmM hF (fun M2 hF => ?_)
  exact z_vret cx hr hF d_X8_fail_17
/-! SunnyPans.within -/
theorem d_X9_within_0 : decode cX9_within 0 = .ok (.iload_n 0, 1) := by decide +kernel
theorem d_X9_within_1 : decode cX9_within 1 = .ok (.iload_n 1, 1) := by decide +kernel
theorem d_X9_within_2 : decode cX9_within 2 = .ok (.if_icmp .lt 12, 3) := by decide +kernel
theorem d_X9_within_5 : decode cX9_within 5 = .ok (.iload_n 0, 1) := by decide +kernel
theorem d_X9_within_6 : decode cX9_within 6 = .ok (.iload_n 2, 1) := by decide +kernel
theorem d_X9_within_7 : decode cX9_within 7 = .ok (.if_icmp .gt 7, 3) := by decide +kernel
theorem d_X9_within_10 : decode cX9_within 10 = .ok (.iconst 1, 1) := by decide +kernel
theorem d_X9_within_11 : decode cX9_within 11 = .ok (.goto 4, 3) := by decide +kernel
theorem d_X9_within_14 : decode cX9_within 14 = .ok (.iconst 0, 1) := by decide +kernel
theorem d_X9_within_15 : decode cX9_within 15 = .ok (.ireturn, 1) := by decide +kernel
noncomputable def F_X9_within (M : zMem) (p0 : Int32) (p1 : Int32) (p2 : Int32) : Option (Int32 × zMem) :=
  if p0 < p1 then
    some ((0 : Int32), M)
  else
    if p2 < p0 then
      some ((0 : Int32), M)
    else
      some ((1 : Int32), M)
def rm_X9_within : Room := { frames := 2, cells := 0, slots := 0, locals := 80 }
set_option maxHeartbeats 4000000 in
set_option maxRecDepth 100000 in
theorem c_X9_within (l : Launch) {G : zG} {ad : Nat → Nat} {n : Nat} (hA : zInj ad n) (M : zMem) (p0 : Int32) (p1 : Int32) (p2 : Int32) {r9 : Int32} {M9 : zMem} (hF : F_X9_within M p0 p1 p2 = some (r9, M9)) : zM l yX9_within cX9_within 3 (some .boolean) rm_X9_within G shX ad n M [.int p0, .int p1, .int p2] (some (.int r9)) M9 := by
  refine zM_of hA (by decide +kernel) (lv := [(0, .int p0), (1, .int p1), (2, .int p2)]) (Nat.le_of_ble_eq_true rfl) rfl (fun p e s m args below meth c A cx hr => ?_)
  unfold F_X9_within at hF
  refine z_iload_n cx d_X9_within_0 0 rfl ?_
  refine z_iload_n cx d_X9_within_1 1 rfl ?_
  refine z_icmp_lt cx 14 d_X9_within_2 (by decide) hF (fun hF => ?_) (fun hF => ?_)
  · refine z_iconst (v := 0) cx d_X9_within_14 ki_0 ?_
    exact z_iret cx hr nb0 hF d_X9_within_15
  refine z_iload_n cx d_X9_within_5 0 rfl ?_
  refine z_iload_n cx d_X9_within_6 2 rfl ?_
  refine z_icmp_gt cx 14 d_X9_within_7 (by decide) hF (fun hF => ?_) (fun hF => ?_)
  · refine z_iconst (v := 0) cx d_X9_within_14 ki_0 ?_
    exact z_iret cx hr nb0 hF d_X9_within_15
  refine z_iconst (v := 1) cx d_X9_within_10 ki_1 ?_
  refine z_goto cx 15 d_X9_within_11 (by decide) ?_
  exact z_iret cx hr nb1 hF d_X9_within_15
/-! SunnyPans$Text.number -/
set_option maxRecDepth 100000 in
theorem wd_709 : Cond.code yX9_within cX9_within 3 (some .boolean) ∈ tbG := tw3 129 rfl rfl
set_option maxRecDepth 100000 in
theorem wd_707 : Cond.methodLinkNest "SunnyPans$Text" 66 yX9_within "SunnyPans" ∈ tbN := twn3 127 rfl rfl
theorem cn_Text_66 : zCN "SunnyPans$Text" 66 yX9_within cX9_within 3 (some .boolean) 3 := ⟨wd_707, wd_101, wd_709, by decide +kernel⟩
set_option maxRecDepth 100000 in
theorem wd_708 : Cond.static yX9_within ∈ tbG := tw3 128 rfl rfl
theorem ki_2 : Int32.ofInt (2) = (2 : Int32) := by decide +kernel
set_option maxRecDepth 100000 in
theorem wd_150 : Cond.fieldLink "SunnyPans$Text" 62 "SunnyPans$Text" "numberFrom" "I" ∈ tbG := tw1 50 rfl rfl
theorem fg_Text_62 : zGetI "SunnyPans$Text" 62 8 9 5 := ⟨RX8, TX8, 8, rfl, by decide, uw_8, wd_150, fun _ _ _ _ _ _ => ⟨_, rfl, rfl⟩⟩
set_option maxRecDepth 100000 in
theorem wd_693 : Cond.code yX8_fail cX8_fail 3 none ∈ tbG := tw3 113 rfl rfl
set_option maxRecDepth 100000 in
theorem wd_705 : Cond.methodLink "SunnyPans$Text" 43 yX8_fail ∈ tbG := tw3 125 rfl rfl
set_option maxRecDepth 100000 in
theorem wd_691 : Cond.instanceMethod yX8_fail ∈ tbG := tw3 111 rfl rfl
set_option maxRecDepth 100000 in
theorem wd_692 : Cond.selects "SunnyPans$Text" yX8_fail yX8_fail ∈ tbG := tw3 112 rfl rfl
theorem cv_Text_43 : zCV "SunnyPans$Text" 43 "SunnyPans$Text" yX8_fail cX8_fail 3 none 2 := zCV_of wd_705 wd_691 wd_692 wd_102 wd_693 (by decide +kernel)
set_option maxRecDepth 100000 in
theorem wd_706 : Cond.constant "SunnyPans$Text" 65 (1000000) ∈ tbG := tw3 126 rfl rfl
set_option maxRecDepth 100000 in
theorem wd_601 : Cond.methodLink "SunnyPans$Text" 22 Lib.Math.min.name ∈ tbG := tw3 21 rfl rfl
set_option maxRecDepth 100000 in
theorem wd_602 : Cond.static Lib.Math.min.name ∈ tbG := tw3 22 rfl rfl
set_option maxRecDepth 100000 in
theorem wd_116 : Cond.initialized "java/lang/Math" ∈ tbG := tw1 16 rfl rfl
set_option maxRecDepth 100000 in
theorem wd_603 : Cond.code Lib.Math.min.name Lib.Math.min.code 2 (some .int) ∈ tbG := tw3 23 rfl rfl
set_option maxRecDepth 100000 in
theorem wd_701 : Cond.code yX8_seesDigit cX8_seesDigit 1 (some .boolean) ∈ tbG := tw3 121 rfl rfl
set_option maxRecDepth 100000 in
theorem wd_698 : Cond.methodLink "SunnyPans$Text" 58 yX8_seesDigit ∈ tbG := tw3 118 rfl rfl
set_option maxRecDepth 100000 in
theorem wd_699 : Cond.instanceMethod yX8_seesDigit ∈ tbG := tw3 119 rfl rfl
set_option maxRecDepth 100000 in
theorem wd_700 : Cond.selects "SunnyPans$Text" yX8_seesDigit yX8_seesDigit ∈ tbG := tw3 120 rfl rfl
theorem cv_Text_58 : zCV "SunnyPans$Text" 58 "SunnyPans$Text" yX8_seesDigit cX8_seesDigit 1 (some .boolean) 0 := zCV_of wd_698 wd_699 wd_700 wd_102 wd_701 (by decide +kernel)
theorem fp_Text_62 : zPutI "SunnyPans$Text" 62 8 9 5 := ⟨zc_8, fg_Text_62, ⟨RX8, TX8, 8, rfl, rfl, by decide +kernel⟩, fun _ _ _ _ _ _ _ => ⟨_, rfl, Nat.le_of_ble_eq_true rfl, rfl⟩⟩
theorem d_X8_number_0 : decode cX8_number 0 = .ok (.aload_n 0, 1) := by decide +kernel
theorem d_X8_number_1 : decode cX8_number 1 = .ok (.invokevirtual 58, 3) := by decide +kernel
theorem d_X8_number_4 : decode cX8_number 4 = .ok (.ifCond .ne 14, 3) := by decide +kernel
theorem d_X8_number_7 : decode cX8_number 7 = .ok (.aload_n 0, 1) := by decide +kernel
theorem d_X8_number_8 : decode cX8_number 8 = .ok (.iconst 1, 1) := by decide +kernel
theorem d_X8_number_9 : decode cX8_number 9 = .ok (.aload_n 0, 1) := by decide +kernel
theorem d_X8_number_10 : decode cX8_number 10 = .ok (.getfield 34, 3) := by decide +kernel
theorem d_X8_number_13 : decode cX8_number 13 = .ok (.invokevirtual 43, 3) := by decide +kernel
theorem d_X8_number_16 : decode cX8_number 16 = .ok (.iload_n 1, 1) := by decide +kernel
theorem d_X8_number_17 : decode cX8_number 17 = .ok (.ireturn, 1) := by decide +kernel
theorem d_X8_number_18 : decode cX8_number 18 = .ok (.aload_n 0, 1) := by decide +kernel
theorem d_X8_number_19 : decode cX8_number 19 = .ok (.aload_n 0, 1) := by decide +kernel
theorem d_X8_number_20 : decode cX8_number 20 = .ok (.getfield 34, 3) := by decide +kernel
theorem d_X8_number_23 : decode cX8_number 23 = .ok (.putfield 62, 3) := by decide +kernel
theorem d_X8_number_26 : decode cX8_number 26 = .ok (.iconst 0, 1) := by decide +kernel
theorem d_X8_number_27 : decode cX8_number 27 = .ok (.istore_n 3, 1) := by decide +kernel
theorem d_X8_number_28 : decode cX8_number 28 = .ok (.aload_n 0, 1) := by decide +kernel
theorem d_X8_number_29 : decode cX8_number 29 = .ok (.getfield 34, 3) := by decide +kernel
theorem d_X8_number_32 : decode cX8_number 32 = .ok (.aload_n 0, 1) := by decide +kernel
theorem d_X8_number_33 : decode cX8_number 33 = .ok (.getfield 31, 3) := by decide +kernel
theorem d_X8_number_36 : decode cX8_number 36 = .ok (.if_icmp .ge 44, 3) := by decide +kernel
theorem d_X8_number_39 : decode cX8_number 39 = .ok (.aload_n 0, 1) := by decide +kernel
theorem d_X8_number_40 : decode cX8_number 40 = .ok (.invokevirtual 47, 3) := by decide +kernel
theorem d_X8_number_43 : decode cX8_number 43 = .ok (.invokestatic 51, 3) := by decide +kernel
theorem d_X8_number_46 : decode cX8_number 46 = .ok (.ifCond .eq 34, 3) := by decide +kernel
theorem d_X8_number_49 : decode cX8_number 49 = .ok (.iload_n 3, 1) := by decide +kernel
theorem d_X8_number_50 : decode cX8_number 50 = .ok (.bipush 10, 2) := by decide +kernel
theorem d_X8_number_52 : decode cX8_number 52 = .ok (.imul, 1) := by decide +kernel
theorem d_X8_number_53 : decode cX8_number 53 = .ok (.aload_n 0, 1) := by decide +kernel
theorem d_X8_number_54 : decode cX8_number 54 = .ok (.invokevirtual 47, 3) := by decide +kernel
theorem d_X8_number_57 : decode cX8_number 57 = .ok (.iadd, 1) := by decide +kernel
theorem d_X8_number_58 : decode cX8_number 58 = .ok (.bipush 48, 2) := by decide +kernel
theorem d_X8_number_60 : decode cX8_number 60 = .ok (.isub, 1) := by decide +kernel
theorem d_X8_number_61 : decode cX8_number 61 = .ok (.ldc 65, 2) := by decide +kernel
theorem d_X8_number_63 : decode cX8_number 63 = .ok (.invokestatic 22, 3) := by decide +kernel
theorem d_X8_number_66 : decode cX8_number 66 = .ok (.istore_n 3, 1) := by decide +kernel
theorem d_X8_number_67 : decode cX8_number 67 = .ok (.aload_n 0, 1) := by decide +kernel
theorem d_X8_number_68 : decode cX8_number 68 = .ok (.dup, 1) := by decide +kernel
theorem d_X8_number_69 : decode cX8_number 69 = .ok (.getfield 34, 3) := by decide +kernel
theorem d_X8_number_72 : decode cX8_number 72 = .ok (.iconst 1, 1) := by decide +kernel
theorem d_X8_number_73 : decode cX8_number 73 = .ok (.iadd, 1) := by decide +kernel
theorem d_X8_number_74 : decode cX8_number 74 = .ok (.putfield 34, 3) := by decide +kernel
theorem d_X8_number_77 : decode cX8_number 77 = .ok (.goto (-49), 3) := by decide +kernel
theorem d_X8_number_80 : decode cX8_number 80 = .ok (.iload_n 3, 1) := by decide +kernel
theorem d_X8_number_81 : decode cX8_number 81 = .ok (.iload_n 1, 1) := by decide +kernel
theorem d_X8_number_82 : decode cX8_number 82 = .ok (.iload_n 2, 1) := by decide +kernel
theorem d_X8_number_83 : decode cX8_number 83 = .ok (.invokestatic 66, 3) := by decide +kernel
theorem d_X8_number_86 : decode cX8_number 86 = .ok (.ifCond .ne 14, 3) := by decide +kernel
theorem d_X8_number_89 : decode cX8_number 89 = .ok (.aload_n 0, 1) := by decide +kernel
theorem d_X8_number_90 : decode cX8_number 90 = .ok (.iconst 2, 1) := by decide +kernel
theorem d_X8_number_91 : decode cX8_number 91 = .ok (.aload_n 0, 1) := by decide +kernel
theorem d_X8_number_92 : decode cX8_number 92 = .ok (.getfield 62, 3) := by decide +kernel
theorem d_X8_number_95 : decode cX8_number 95 = .ok (.invokevirtual 43, 3) := by decide +kernel
theorem d_X8_number_98 : decode cX8_number 98 = .ok (.iload_n 1, 1) := by decide +kernel
theorem d_X8_number_99 : decode cX8_number 99 = .ok (.ireturn, 1) := by decide +kernel
theorem d_X8_number_100 : decode cX8_number 100 = .ok (.iload_n 3, 1) := by decide +kernel
theorem d_X8_number_101 : decode cX8_number 101 = .ok (.ireturn, 1) := by decide +kernel
noncomputable def F_X8_number_80 (t : Nat) (p0 : Int32) (p1 : Int32) (b80_L1 : Int32) (b80_L2 : Int32) (b80_L3 : Int32) (M : zMem) : Option (Int32 × zMem) :=
  zb (F_X9_within M b80_L3 b80_L1 b80_L2) fun v2 M1 =>
  if v2 = 0 then
    zbv (F_X8_fail M1 t (2 : Int32) (M1.1 t 5)) fun M3 =>
    some (b80_L1, M3)
  else
    some (b80_L3, M1)
noncomputable def F_X8_number_28 (t : Nat) (p0 : Int32) (p1 : Int32) (self28 : Int32 → Int32 → Int32 → zMem → Option (Int32 × zMem)) (b28_L1 : Int32) (b28_L2 : Int32) (b28_L3 : Int32) (M : zMem) : Option (Int32 × zMem) :=
  if (M.1 t 6) ≤ (M.1 t 7) then
    F_X8_number_80 t p0 p1 b28_L1 b28_L2 b28_L3 M
  else
    zb (F_X8_peek M t) fun v5 M4 =>
    zb (F_X8_isDigit M4 v5) fun v7 M6 =>
    if v7 = 0 then
      F_X8_number_80 t p0 p1 b28_L1 b28_L2 b28_L3 M6
    else
      zb (F_X8_peek M6 t) fun v9 M8 =>
      zl (zmin (((b28_L3 * (10 : Int32)) + v9) - (48 : Int32)) (1000000 : Int32)) fun v10 =>
      zl (zI M8 t 7 ((M8.1 t 7) + (1 : Int32))) fun M11 =>
      self28 b28_L1 b28_L2 v10 M11
noncomputable def F_X8_number (M : zMem) (t : Nat) (p0 : Int32) (p1 : Int32) : Option (Int32 × zMem) :=
  zb (F_X8_seesDigit M t) fun v13 M12 =>
  if v13 = 0 then
    zbv (F_X8_fail M12 t (1 : Int32) (M12.1 t 7)) fun M15 =>
    some (p0, M15)
  else
    zl (zI M12 t 5 (M12.1 t 7)) fun M14 =>
    itF (fun _ _ _ _ => none) (F_X8_number_28 t p0 p1) zFuel p0 p1 (0 : Int32) M14
def rm_X8_number : Room := { frames := 4, cells := 0, slots := 0, locals := 120 }
set_option maxHeartbeats 4000000 in
set_option maxRecDepth 100000 in
theorem c_X8_number (l : Launch) {G : zG} {ad : Nat → Nat} {n : Nat} (hA : zInj ad n) (M : zMem) (t : Nat) (p0 : Int32) (p1 : Int32) (hT_t : zT shX n t 9) {r9 : Int32} {M9 : zMem} (hF : F_X8_number M t p0 p1 = some (r9, M9)) : zM l yX8_number cX8_number 4 (some .int) rm_X8_number G shX ad n M [.ref (ad t), .int p0, .int p1] (some (.int r9)) M9 := by
  refine zM_of hA (by decide +kernel) (lv := [(0, .ref (ad t)), (1, .int p0), (2, .int p1)]) (Nat.le_of_ble_eq_true rfl) rfl (fun p e s m args below meth c A cx hr => ?_)
  have hb80 : ∀ (b80_L1 : Int32) (b80_L2 : Int32) (b80_L3 : Int32) (M : zMem), F_X8_number_80 t p0 p1 b80_L1 b80_L2 b80_L3 M = some (r9, M9) → zJ p l e rm_X8_number s m args below meth c G shX ad n A 4 (MQ below (zQ G shX ad n M9 (some (.int r9)) A) args s 0 0 A) 0 0 M 80 [(0, .ref (ad t)), (1, .int b80_L1), (2, .int b80_L2), (3, .int b80_L3)] [] := by
    intro b80_L1 b80_L2 b80_L3 M hF
    unfold F_X8_number_80 at hF
    refine z_iload_n cx d_X8_number_80 3 rfl ?_
    refine z_iload_n cx d_X8_number_81 1 rfl ?_
    refine z_iload_n cx d_X8_number_82 2 rfl ?_
    obtain ⟨v2, M1, hc, hF⟩ := zb_inv hF
    refine z_callSN cx (As := [.int b80_L3, .int b80_L1, .int b80_L2]) (rest := []) (c_X9_within l cx.2.2.2.1.1 M b80_L3 b80_L1 b80_L2  hc) cn_Text_66 wd_708 ⟨rfl, rfl, Nat.le_of_ble_eq_true rfl, Nat.le_of_ble_eq_true rfl⟩ rfl rfl ⟨Nat.zero_le _, Nat.zero_le _⟩ (Nat.le_of_ble_eq_true rfl) d_X8_number_83 ?_
    refine z_if_ne cx 100 d_X8_number_86 (by decide) hF (fun hF => ?_) (fun hF => ?_)
    · refine z_iload_n cx d_X8_number_100 3 rfl ?_
      exact z_iret cx hr rfl hF d_X8_number_101
    refine z_aload_n cx d_X8_number_89 0 rfl ?_
    refine z_iconst (v := 2) cx d_X8_number_90 ki_2 ?_
    refine z_aload_n cx d_X8_number_91 0 rfl ?_
    refine z_getI cx hT_t fg_Text_62 d_X8_number_92 ?_
    obtain ⟨M3, hc, hF⟩ := zbv_inv hF
    refine z_callV cx (As := [.int (2 : Int32), .int (M1.1 t 5)]) (rest := []) (c_X8_fail l cx.2.2.2.1.1 M1 t (2 : Int32) (M1.1 t 5) hT_t hc) hT_t zo_9 cv_Text_43 ⟨rfl, rfl, Nat.le_of_ble_eq_true rfl, Nat.le_of_ble_eq_true rfl⟩ rfl rfl ⟨Nat.zero_le _, Nat.zero_le _⟩ (Nat.le_of_ble_eq_true rfl) d_X8_number_95 ?_
    refine z_iload_n cx d_X8_number_98 1 rfl ?_
    exact z_iret cx hr rfl hF d_X8_number_99
  have hL28 : ∀ (fuel : Nat), ∀ (b28_L1 : Int32) (b28_L2 : Int32) (b28_L3 : Int32) (M : zMem), itF (fun _ _ _ _ => none) (F_X8_number_28 t p0 p1) fuel b28_L1 b28_L2 b28_L3 M = some (r9, M9) → zJ p l e rm_X8_number s m args below meth c G shX ad n A 4 (MQ below (zQ G shX ad n M9 (some (.int r9)) A) args s 0 0 A) 0 0 M 28 [(0, .ref (ad t)), (1, .int b28_L1), (2, .int b28_L2), (3, .int b28_L3)] [] := by
    intro fuel
    induction fuel with
    | zero => intro b28_L1 b28_L2 b28_L3 M hF; cases hF
    | succ fuel hs28 =>
      intro b28_L1 b28_L2 b28_L3 M hF
      have hF : F_X8_number_28 t p0 p1 (itF (fun _ _ _ _ => none) (F_X8_number_28 t p0 p1) fuel) b28_L1 b28_L2 b28_L3 M = some (r9, M9) := hF
      generalize itF (fun _ _ _ _ => none) (F_X8_number_28 t p0 p1) fuel = self28 at hs28 hF
      unfold F_X8_number_28 at hF
      refine z_aload_n cx d_X8_number_28 0 rfl ?_
      refine z_getI cx hT_t fg_Text_34 d_X8_number_29 ?_
      refine z_aload_n cx d_X8_number_32 0 rfl ?_
      refine z_getI cx hT_t fg_Text_31 d_X8_number_33 ?_
      refine z_icmp_ge cx 80 d_X8_number_36 (by decide) hF (fun hF => ?_) (fun hF => ?_)
      · exact hb80 b28_L1 b28_L2 b28_L3 M hF
      refine z_aload_n cx d_X8_number_39 0 rfl ?_
      obtain ⟨v5, M4, hc, hF⟩ := zb_inv hF
      refine z_callV cx (As := []) (rest := []) (c_X8_peek l cx.2.2.2.1.1 M t hT_t hc) hT_t zo_9 cv_Text_47 ⟨rfl, rfl, Nat.le_of_ble_eq_true rfl, Nat.le_of_ble_eq_true rfl⟩ rfl rfl ⟨Nat.zero_le _, Nat.zero_le _⟩ (Nat.le_of_ble_eq_true rfl) d_X8_number_40 ?_
      obtain ⟨v7, M6, hc, hF⟩ := zb_inv hF
      refine z_callS cx (As := [.int v5]) (rest := []) (c_X8_isDigit l cx.2.2.2.1.1 M4 v5  hc) cs_Text_51 ⟨rfl, rfl, Nat.le_of_ble_eq_true rfl, Nat.le_of_ble_eq_true rfl⟩ rfl rfl ⟨Nat.zero_le _, Nat.zero_le _⟩ (Nat.le_of_ble_eq_true rfl) d_X8_number_43 ?_
      refine z_if_eq cx 80 d_X8_number_46 (by decide) hF (fun hF => ?_) (fun hF => ?_)
      · exact hb80 b28_L1 b28_L2 b28_L3 M6 hF
      refine z_iload_n cx d_X8_number_49 3 rfl ?_
      refine z_bipush (v := 10) cx d_X8_number_50 kb_10 ?_
      refine z_imul cx d_X8_number_52 ?_
      refine z_aload_n cx d_X8_number_53 0 rfl ?_
      obtain ⟨v9, M8, hc, hF⟩ := zb_inv hF
      refine z_callV cx (As := []) (rest := [.int (b28_L3 * (10 : Int32))]) (c_X8_peek l cx.2.2.2.1.1 M6 t hT_t hc) hT_t zo_9 cv_Text_47 ⟨rfl, rfl, Nat.le_of_ble_eq_true rfl, Nat.le_of_ble_eq_true rfl⟩ rfl rfl ⟨Nat.zero_le _, Nat.zero_le _⟩ (Nat.le_of_ble_eq_true rfl) d_X8_number_54 ?_
      refine z_iadd cx d_X8_number_57 ?_
      refine z_bipush (v := 48) cx d_X8_number_58 kb_48 ?_
      refine z_isub cx d_X8_number_60 ?_
      refine z_ldc cx wd_706 d_X8_number_61 ?_
      refine z_mmin cx ⟨wd_601, wd_602, wd_116, wd_603⟩ ⟨Nat.le_of_ble_eq_true rfl, Nat.le_of_ble_eq_true rfl, Nat.le_of_ble_eq_true rfl, Nat.le_of_ble_eq_true rfl⟩ d_X8_number_63 ?_
      refine z_nm hF (fun v10 hF => ?_)
      refine z_istore_n cx 3 [(3, .int v10), (0, .ref (ad t)), (1, .int b28_L1), (2, .int b28_L2)] d_X8_number_66 rfl (by decide) rfl ?_
      refine z_aload_n cx d_X8_number_67 1 rfl ?_
      refine z_dup cx d_X8_number_68 rfl ?_
      refine z_getI cx hT_t fg_Text_34 d_X8_number_69 ?_
      refine z_iconst (v := 1) cx d_X8_number_72 ki_1 ?_
      refine z_iadd cx d_X8_number_73 ?_
      refine z_putI cx hT_t fp_Text_34 d_X8_number_74 ?_
      refine z_nmM hF (fun M11 hF => ?_)
      refine z_goto cx 28 d_X8_number_77 (by decide) ?_
      exact z_lv [1, 2, 3, 0] _ rfl (hs28 b28_L1 b28_L2 v10 M11 hF)
  unfold F_X8_number at hF
  refine z_aload_n cx d_X8_number_0 0 rfl ?_
  obtain ⟨v13, M12, hc, hF⟩ := zb_inv hF
  refine z_callV cx (As := []) (rest := []) (c_X8_seesDigit l cx.2.2.2.1.1 M t hT_t hc) hT_t zo_9 cv_Text_58 ⟨rfl, rfl, Nat.le_of_ble_eq_true rfl, Nat.le_of_ble_eq_true rfl⟩ rfl rfl ⟨Nat.zero_le _, Nat.zero_le _⟩ (Nat.le_of_ble_eq_true rfl) d_X8_number_1 ?_
  refine z_if_ne cx 18 d_X8_number_4 (by decide) hF (fun hF => ?_) (fun hF => ?_)
  · refine z_aload_n cx d_X8_number_18 0 rfl ?_
    refine z_aload_n cx d_X8_number_19 0 rfl ?_
    refine z_getI cx hT_t fg_Text_34 d_X8_number_20 ?_
    refine z_putI cx hT_t fp_Text_62 d_X8_number_23 ?_
    refine z_nmM hF (fun M14 hF => ?_)
    refine z_iconst (v := 0) cx d_X8_number_26 ki_0 ?_
    refine z_istore_n cx 3 [(3, .int (0 : Int32)), (0, .ref (ad t)), (1, .int p0), (2, .int p1)] d_X8_number_27 rfl (by decide) rfl ?_
    exact z_lv [1, 2, 3, 0] _ rfl (hL28 zFuel p0 p1 (0 : Int32) M14 hF)
  refine z_aload_n cx d_X8_number_7 0 rfl ?_
  refine z_iconst (v := 1) cx d_X8_number_8 ki_1 ?_
  refine z_aload_n cx d_X8_number_9 0 rfl ?_
  refine z_getI cx hT_t fg_Text_34 d_X8_number_10 ?_
  obtain ⟨M15, hc, hF⟩ := zbv_inv hF
  refine z_callV cx (As := [.int (1 : Int32), .int (M12.1 t 7)]) (rest := []) (c_X8_fail l cx.2.2.2.1.1 M12 t (1 : Int32) (M12.1 t 7) hT_t hc) hT_t zo_9 cv_Text_43 ⟨rfl, rfl, Nat.le_of_ble_eq_true rfl, Nat.le_of_ble_eq_true rfl⟩ rfl rfl ⟨Nat.zero_le _, Nat.zero_le _⟩ (Nat.le_of_ble_eq_true rfl) d_X8_number_13 ?_
  refine z_iload_n cx d_X8_number_16 1 rfl ?_
  exact z_iret cx hr rfl hF d_X8_number_17
/-! SunnyPans.placeOf -/
theorem d_X9_placeOf_0 : decode cX9_placeOf 0 = .ok (.iload_n 1, 1) := by decide +kernel
theorem d_X9_placeOf_1 : decode cX9_placeOf 1 = .ok (.bipush 8, 2) := by decide +kernel
theorem d_X9_placeOf_3 : decode cX9_placeOf 3 = .ok (.imul, 1) := by decide +kernel
theorem d_X9_placeOf_4 : decode cX9_placeOf 4 = .ok (.iload_n 0, 1) := by decide +kernel
theorem d_X9_placeOf_5 : decode cX9_placeOf 5 = .ok (.iadd, 1) := by decide +kernel
theorem d_X9_placeOf_6 : decode cX9_placeOf 6 = .ok (.ireturn, 1) := by decide +kernel
noncomputable def F_X9_placeOf (M : zMem) (p0 : Int32) (p1 : Int32) : Option (Int32 × zMem) :=
  some (((p1 * (8 : Int32)) + p0), M)
def rm_X9_placeOf : Room := { frames := 2, cells := 0, slots := 0, locals := 80 }
set_option maxHeartbeats 4000000 in
set_option maxRecDepth 100000 in
theorem c_X9_placeOf (l : Launch) {G : zG} {ad : Nat → Nat} {n : Nat} (hA : zInj ad n) (M : zMem) (p0 : Int32) (p1 : Int32) {r9 : Int32} {M9 : zMem} (hF : F_X9_placeOf M p0 p1 = some (r9, M9)) : zM l yX9_placeOf cX9_placeOf 2 (some .int) rm_X9_placeOf G shX ad n M [.int p0, .int p1] (some (.int r9)) M9 := by
  refine zM_of hA (by decide +kernel) (lv := [(0, .int p0), (1, .int p1)]) (Nat.le_of_ble_eq_true rfl) rfl (fun p e s m args below meth c A cx hr => ?_)
  unfold F_X9_placeOf at hF
  refine z_iload_n cx d_X9_placeOf_0 1 rfl ?_
  refine z_bipush (v := 8) cx d_X9_placeOf_1 kb_8 ?_
  refine z_imul cx d_X9_placeOf_3 ?_
  refine z_iload_n cx d_X9_placeOf_4 0 rfl ?_
  refine z_iadd cx d_X9_placeOf_5 ?_
  exact z_iret cx hr rfl hF d_X9_placeOf_6
/-! SunnyPans.has -/
theorem d_X9_has_0 : decode cX9_has 0 = .ok (.lload_n 0, 1) := by decide +kernel
theorem d_X9_has_1 : decode cX9_has 1 = .ok (.iload_n 2, 1) := by decide +kernel
theorem d_X9_has_2 : decode cX9_has 2 = .ok (.lushr, 1) := by decide +kernel
theorem d_X9_has_3 : decode cX9_has 3 = .ok (.lconst 1, 1) := by decide +kernel
theorem d_X9_has_4 : decode cX9_has 4 = .ok (.land, 1) := by decide +kernel
theorem d_X9_has_5 : decode cX9_has 5 = .ok (.lconst 0, 1) := by decide +kernel
theorem d_X9_has_6 : decode cX9_has 6 = .ok (.lcmp, 1) := by decide +kernel
theorem d_X9_has_7 : decode cX9_has 7 = .ok (.ifCond .eq 7, 3) := by decide +kernel
theorem d_X9_has_10 : decode cX9_has 10 = .ok (.iconst 1, 1) := by decide +kernel
theorem d_X9_has_11 : decode cX9_has 11 = .ok (.goto 4, 3) := by decide +kernel
theorem d_X9_has_14 : decode cX9_has 14 = .ok (.iconst 0, 1) := by decide +kernel
theorem d_X9_has_15 : decode cX9_has 15 = .ok (.ireturn, 1) := by decide +kernel
noncomputable def F_X9_has (M : zMem) (p0 : Int64) (p1 : Int32) : Option (Int32 × zMem) :=
  if (lg_cmp ((p0.toUInt64 >>> (p1.toInt64.toUInt64 &&& Int64.toUInt64 63)).toInt64 &&& (1 : Int64)) (0 : Int64)) = 0 then
    some ((0 : Int32), M)
  else
    some ((1 : Int32), M)
def rm_X9_has : Room := { frames := 2, cells := 0, slots := 0, locals := 80 }
set_option maxHeartbeats 4000000 in
set_option maxRecDepth 100000 in
theorem c_X9_has (l : Launch) {G : zG} {ad : Nat → Nat} {n : Nat} (hA : zInj ad n) (M : zMem) (p0 : Int64) (p1 : Int32) {r9 : Int32} {M9 : zMem} (hF : F_X9_has M p0 p1 = some (r9, M9)) : zM l yX9_has cX9_has 3 (some .boolean) rm_X9_has G shX ad n M [.long p0, .int p1] (some (.int r9)) M9 := by
  refine zM_of hA (by decide +kernel) (lv := [(0, .long p0), (2, .int p1)]) (Nat.le_of_ble_eq_true rfl) rfl (fun p e s m args below meth c A cx hr => ?_)
  unfold F_X9_has at hF
  refine z_lload_n cx d_X9_has_0 0 rfl ?_
  refine z_iload_n cx d_X9_has_1 1 rfl ?_
  refine z_lushr cx d_X9_has_2 ?_
  refine z_lconst (v := 1) cx d_X9_has_3 (by decide +kernel) ?_
  refine z_land cx d_X9_has_4 ?_
  refine z_lconst (v := 0) cx d_X9_has_5 (by decide +kernel) ?_
  refine z_lcmp cx d_X9_has_6 ?_
  refine z_if_eq cx 14 d_X9_has_7 (by decide) hF (fun hF => ?_) (fun hF => ?_)
  · refine z_iconst (v := 0) cx d_X9_has_14 ki_0 ?_
    exact z_iret cx hr nb0 hF d_X9_has_15
  refine z_iconst (v := 1) cx d_X9_has_10 ki_1 ?_
  refine z_goto cx 15 d_X9_has_11 (by decide) ?_
  exact z_iret cx hr nb1 hF d_X9_has_15
/-! SunnyPans$Text.sees -/
theorem d_X8_sees_0 : decode cX8_sees 0 = .ok (.aload_n 0, 1) := by decide +kernel
theorem d_X8_sees_1 : decode cX8_sees 1 = .ok (.invokevirtual 40, 3) := by decide +kernel
theorem d_X8_sees_4 : decode cX8_sees 4 = .ok (.aload_n 0, 1) := by decide +kernel
theorem d_X8_sees_5 : decode cX8_sees 5 = .ok (.getfield 37, 3) := by decide +kernel
theorem d_X8_sees_8 : decode cX8_sees 8 = .ok (.ifCond .ne 15, 3) := by decide +kernel
theorem d_X8_sees_11 : decode cX8_sees 11 = .ok (.aload_n 0, 1) := by decide +kernel
theorem d_X8_sees_12 : decode cX8_sees 12 = .ok (.invokevirtual 47, 3) := by decide +kernel
theorem d_X8_sees_15 : decode cX8_sees 15 = .ok (.iload_n 1, 1) := by decide +kernel
theorem d_X8_sees_16 : decode cX8_sees 16 = .ok (.if_icmp .ne 7, 3) := by decide +kernel
theorem d_X8_sees_19 : decode cX8_sees 19 = .ok (.iconst 1, 1) := by decide +kernel
theorem d_X8_sees_20 : decode cX8_sees 20 = .ok (.goto 4, 3) := by decide +kernel
theorem d_X8_sees_23 : decode cX8_sees 23 = .ok (.iconst 0, 1) := by decide +kernel
theorem d_X8_sees_24 : decode cX8_sees 24 = .ok (.ireturn, 1) := by decide +kernel
noncomputable def F_X8_sees (M : zMem) (t : Nat) (p0 : Int32) : Option (Int32 × zMem) :=
  zbv (F_X8_skipBlanks M t) fun M1 =>
  if (M1.1 t 2) = 0 then
    zb (F_X8_peek M1 t) fun v3 M2 =>
    if v3 = p0 then
      some ((1 : Int32), M2)
    else
      some ((0 : Int32), M2)
  else
    some ((0 : Int32), M1)
def rm_X8_sees : Room := { frames := 3, cells := 0, slots := 0, locals := 100 }
set_option maxHeartbeats 4000000 in
set_option maxRecDepth 100000 in
theorem c_X8_sees (l : Launch) {G : zG} {ad : Nat → Nat} {n : Nat} (hA : zInj ad n) (M : zMem) (t : Nat) (p0 : Int32) (hT_t : zT shX n t 9) {r9 : Int32} {M9 : zMem} (hF : F_X8_sees M t p0 = some (r9, M9)) : zM l yX8_sees cX8_sees 2 (some .boolean) rm_X8_sees G shX ad n M [.ref (ad t), .int p0] (some (.int r9)) M9 := by
  refine zM_of hA (by decide +kernel) (lv := [(0, .ref (ad t)), (1, .int p0)]) (Nat.le_of_ble_eq_true rfl) rfl (fun p e s m args below meth c A cx hr => ?_)
  unfold F_X8_sees at hF
  refine z_aload_n cx d_X8_sees_0 0 rfl ?_
  obtain ⟨M1, hc, hF⟩ := zbv_inv hF
  refine z_callV cx (As := []) (rest := []) (c_X8_skipBlanks l cx.2.2.2.1.1 M t hT_t hc) hT_t zo_9 cv_Text_40 ⟨rfl, rfl, Nat.le_of_ble_eq_true rfl, Nat.le_of_ble_eq_true rfl⟩ rfl rfl ⟨Nat.zero_le _, Nat.zero_le _⟩ (Nat.le_of_ble_eq_true rfl) d_X8_sees_1 ?_
  refine z_aload_n cx d_X8_sees_4 0 rfl ?_
  refine z_getI cx hT_t fg_Text_37 d_X8_sees_5 ?_
  refine z_if_ne cx 23 d_X8_sees_8 (by decide) hF (fun hF => ?_) (fun hF => ?_)
  · refine z_iconst (v := 0) cx d_X8_sees_23 ki_0 ?_
    exact z_iret cx hr nb0 hF d_X8_sees_24
  refine z_aload_n cx d_X8_sees_11 0 rfl ?_
  obtain ⟨v3, M2, hc, hF⟩ := zb_inv hF
  refine z_callV cx (As := []) (rest := []) (c_X8_peek l cx.2.2.2.1.1 M1 t hT_t hc) hT_t zo_9 cv_Text_47 ⟨rfl, rfl, Nat.le_of_ble_eq_true rfl, Nat.le_of_ble_eq_true rfl⟩ rfl rfl ⟨Nat.zero_le _, Nat.zero_le _⟩ (Nat.le_of_ble_eq_true rfl) d_X8_sees_12 ?_
  refine z_iload_n cx d_X8_sees_15 1 rfl ?_
  refine z_icmp_ne cx 23 d_X8_sees_16 (by decide) hF (fun hF => ?_) (fun hF => ?_)
  · refine z_iconst (v := 0) cx d_X8_sees_23 ki_0 ?_
    exact z_iret cx hr nb0 hF d_X8_sees_24
  refine z_iconst (v := 1) cx d_X8_sees_19 ki_1 ?_
  refine z_goto cx 24 d_X8_sees_20 (by decide) ?_
  exact z_iret cx hr nb1 hF d_X8_sees_24
/-! SunnyPans$Text.sign -/
set_option maxRecDepth 100000 in
theorem wd_730 : Cond.code yX8_sees cX8_sees 2 (some .boolean) ∈ tbG := tw3 150 rfl rfl
set_option maxRecDepth 100000 in
theorem wd_727 : Cond.methodLink "SunnyPans$Text" 55 yX8_sees ∈ tbG := tw3 147 rfl rfl
set_option maxRecDepth 100000 in
theorem wd_728 : Cond.instanceMethod yX8_sees ∈ tbG := tw3 148 rfl rfl
set_option maxRecDepth 100000 in
theorem wd_729 : Cond.selects "SunnyPans$Text" yX8_sees yX8_sees ∈ tbG := tw3 149 rfl rfl
theorem cv_Text_55 : zCV "SunnyPans$Text" 55 "SunnyPans$Text" yX8_sees cX8_sees 2 (some .boolean) 1 := zCV_of wd_727 wd_728 wd_729 wd_102 wd_730 (by decide +kernel)
theorem d_X8_sign_0 : decode cX8_sign 0 = .ok (.aload_n 0, 1) := by decide +kernel
theorem d_X8_sign_1 : decode cX8_sign 1 = .ok (.iload_n 1, 1) := by decide +kernel
theorem d_X8_sign_2 : decode cX8_sign 2 = .ok (.invokevirtual 55, 3) := by decide +kernel
theorem d_X8_sign_5 : decode cX8_sign 5 = .ok (.ifCond .eq 16, 3) := by decide +kernel
theorem d_X8_sign_8 : decode cX8_sign 8 = .ok (.aload_n 0, 1) := by decide +kernel
theorem d_X8_sign_9 : decode cX8_sign 9 = .ok (.dup, 1) := by decide +kernel
theorem d_X8_sign_10 : decode cX8_sign 10 = .ok (.getfield 34, 3) := by decide +kernel
theorem d_X8_sign_13 : decode cX8_sign 13 = .ok (.iconst 1, 1) := by decide +kernel
theorem d_X8_sign_14 : decode cX8_sign 14 = .ok (.iadd, 1) := by decide +kernel
theorem d_X8_sign_15 : decode cX8_sign 15 = .ok (.putfield 34, 3) := by decide +kernel
theorem d_X8_sign_18 : decode cX8_sign 18 = .ok (.goto 12, 3) := by decide +kernel
theorem d_X8_sign_21 : decode cX8_sign 21 = .ok (.aload_n 0, 1) := by decide +kernel
theorem d_X8_sign_22 : decode cX8_sign 22 = .ok (.iconst 1, 1) := by decide +kernel
theorem d_X8_sign_23 : decode cX8_sign 23 = .ok (.aload_n 0, 1) := by decide +kernel
theorem d_X8_sign_24 : decode cX8_sign 24 = .ok (.getfield 34, 3) := by decide +kernel
theorem d_X8_sign_27 : decode cX8_sign 27 = .ok (.invokevirtual 43, 3) := by decide +kernel
theorem d_X8_sign_30 : decode cX8_sign 30 = .ok (.return_, 1) := by decide +kernel
noncomputable def F_X8_sign (M : zMem) (t : Nat) (p0 : Int32) : Option (zMem) :=
  zb (F_X8_sees M t p0) fun v2 M1 =>
  if v2 = 0 then
    zbv (F_X8_fail M1 t (1 : Int32) (M1.1 t 7)) fun M3 =>
    some M3
  else
    zl (zI M1 t 7 ((M1.1 t 7) + (1 : Int32))) fun M4 =>
    some M4
def rm_X8_sign : Room := { frames := 4, cells := 0, slots := 0, locals := 121 }
set_option maxHeartbeats 4000000 in
set_option maxRecDepth 100000 in
theorem c_X8_sign (l : Launch) {G : zG} {ad : Nat → Nat} {n : Nat} (hA : zInj ad n) (M : zMem) (t : Nat) (p0 : Int32) (hT_t : zT shX n t 9) {M9 : zMem} (hF : F_X8_sign M t p0 = some M9) : zM l yX8_sign cX8_sign 2 none rm_X8_sign G shX ad n M [.ref (ad t), .int p0] none M9 := by
  refine zM_of hA (by decide +kernel) (lv := [(0, .ref (ad t)), (1, .int p0)]) (Nat.le_of_ble_eq_true rfl) rfl (fun p e s m args below meth c A cx hr => ?_)
  unfold F_X8_sign at hF
  refine z_aload_n cx d_X8_sign_0 0 rfl ?_
  refine z_iload_n cx d_X8_sign_1 1 rfl ?_
  obtain ⟨v2, M1, hc, hF⟩ := zb_inv hF
  refine z_callV cx (As := [.int p0]) (rest := []) (c_X8_sees l cx.2.2.2.1.1 M t p0 hT_t hc) hT_t zo_9 cv_Text_55 ⟨rfl, rfl, Nat.le_of_ble_eq_true rfl, Nat.le_of_ble_eq_true rfl⟩ rfl rfl ⟨Nat.zero_le _, Nat.zero_le _⟩ (Nat.le_of_ble_eq_true rfl) d_X8_sign_2 ?_
  refine z_if_eq cx 21 d_X8_sign_5 (by decide) hF (fun hF => ?_) (fun hF => ?_)
  · refine z_aload_n cx d_X8_sign_21 0 rfl ?_
    refine z_iconst (v := 1) cx d_X8_sign_22 ki_1 ?_
    refine z_aload_n cx d_X8_sign_23 0 rfl ?_
    refine z_getI cx hT_t fg_Text_34 d_X8_sign_24 ?_
    obtain ⟨M3, hc, hF⟩ := zbv_inv hF
    refine z_callV cx (As := [.int (1 : Int32), .int (M1.1 t 7)]) (rest := []) (c_X8_fail l cx.2.2.2.1.1 M1 t (1 : Int32) (M1.1 t 7) hT_t hc) hT_t zo_9 cv_Text_43 ⟨rfl, rfl, Nat.le_of_ble_eq_true rfl, Nat.le_of_ble_eq_true rfl⟩ rfl rfl ⟨Nat.zero_le _, Nat.zero_le _⟩ (Nat.le_of_ble_eq_true rfl) d_X8_sign_27 ?_
    exact z_vret cx hr hF d_X8_sign_30
  refine z_aload_n cx d_X8_sign_8 0 rfl ?_
  refine z_dup cx d_X8_sign_9 rfl ?_
  refine z_getI cx hT_t fg_Text_34 d_X8_sign_10 ?_
  refine z_iconst (v := 1) cx d_X8_sign_13 ki_1 ?_
  refine z_iadd cx d_X8_sign_14 ?_
  refine z_putI cx hT_t fp_Text_34 d_X8_sign_15 ?_
  refine z_nmM hF (fun M4 hF => ?_)
  refine z_goto cx 30 d_X8_sign_18 (by decide) ?_
  exact z_vret cx hr hF d_X8_sign_30
/-! SunnyPans.bit -/
theorem d_X9_bit_0 : decode cX9_bit 0 = .ok (.lconst 1, 1) := by decide +kernel
theorem d_X9_bit_1 : decode cX9_bit 1 = .ok (.iload_n 0, 1) := by decide +kernel
theorem d_X9_bit_2 : decode cX9_bit 2 = .ok (.lshl, 1) := by decide +kernel
theorem d_X9_bit_3 : decode cX9_bit 3 = .ok (.lreturn, 1) := by decide +kernel
noncomputable def F_X9_bit (M : zMem) (p0 : Int32) : Option (Int64 × zMem) :=
  some (((1 : Int64) <<< (p0.toInt64 &&& 63)), M)
def rm_X9_bit : Room := { frames := 2, cells := 0, slots := 0, locals := 80 }
set_option maxHeartbeats 4000000 in
set_option maxRecDepth 100000 in
theorem c_X9_bit (l : Launch) {G : zG} {ad : Nat → Nat} {n : Nat} (hA : zInj ad n) (M : zMem) (p0 : Int32) {r9 : Int64} {M9 : zMem} (hF : F_X9_bit M p0 = some (r9, M9)) : zM l yX9_bit cX9_bit 1 (some .long) rm_X9_bit G shX ad n M [.int p0] (some (.long r9)) M9 := by
  refine zM_of hA (by decide +kernel) (lv := [(0, .int p0)]) (Nat.le_of_ble_eq_true rfl) rfl (fun p e s m args below meth c A cx hr => ?_)
  unfold F_X9_bit at hF
  refine z_lconst (v := 1) cx d_X9_bit_0 (by decide +kernel) ?_
  refine z_iload_n cx d_X9_bit_1 0 rfl ?_
  refine z_lshl cx d_X9_bit_2 ?_
  exact z_lret cx hr hF d_X9_bit_3
/-! SunnyPans$Book.readLine -/
theorem tfX_2_1 {n k : Nat} (h : zT shX n k 2) : zT shX n (k + 1) 26 := zT_off h (shX_f (by decide) (by decide +kernel)) (by decide) (by decide)
theorem tfX_2_2 {n k : Nat} (h : zT shX n k 2) : zT shX n (k + 2) 26 := zT_off h (shX_f (by decide) (by decide +kernel)) (by decide) (by decide)
theorem ks_9999 : (Int16.ofInt (9999)).toInt32 = (9999 : Int32) := by decide +kernel
set_option maxRecDepth 100000 in
theorem wd_697 : Cond.code yX8_number cX8_number 4 (some .int) ∈ tbG := tw3 117 rfl rfl
set_option maxRecDepth 100000 in
theorem wd_968 : Cond.methodLink "SunnyPans$Book" 44 yX8_number ∈ tbG := tw4 148 rfl rfl
set_option maxRecDepth 100000 in
theorem wd_695 : Cond.instanceMethod yX8_number ∈ tbG := tw3 115 rfl rfl
set_option maxRecDepth 100000 in
theorem wd_696 : Cond.selects "SunnyPans$Text" yX8_number yX8_number ∈ tbG := tw3 116 rfl rfl
theorem cv_Book_44 : zCV "SunnyPans$Book" 44 "SunnyPans$Text" yX8_number cX8_number 4 (some .int) 2 := zCV_of wd_968 wd_695 wd_696 wd_102 wd_697 (by decide +kernel)
theorem kb_59 : (Int8.ofInt (59)).toInt32 = (59 : Int32) := by decide +kernel
set_option maxRecDepth 100000 in
theorem wd_726 : Cond.code yX8_sign cX8_sign 2 none ∈ tbG := tw3 146 rfl rfl
set_option maxRecDepth 100000 in
theorem wd_972 : Cond.methodLink "SunnyPans$Book" 65 yX8_sign ∈ tbG := tw4 152 rfl rfl
set_option maxRecDepth 100000 in
theorem wd_724 : Cond.instanceMethod yX8_sign ∈ tbG := tw3 144 rfl rfl
set_option maxRecDepth 100000 in
theorem wd_725 : Cond.selects "SunnyPans$Text" yX8_sign yX8_sign ∈ tbG := tw3 145 rfl rfl
theorem cv_Book_65 : zCV "SunnyPans$Book" 65 "SunnyPans$Text" yX8_sign cX8_sign 2 none 1 := zCV_of wd_972 wd_724 wd_725 wd_102 wd_726 (by decide +kernel)
set_option maxRecDepth 100000 in
theorem wd_392 : Cond.fieldLink "SunnyPans$Book" 9 "SunnyPans$Book" "place" "[I" ∈ tbG := tw2 52 rfl rfl
theorem fg_Book_9 : zGetR "SunnyPans$Book" 9 1 2 0 1 := ⟨RX1, TX1, 4, rfl, by decide, uw_1, wd_392, fun _ _ _ _ _ _ => ⟨_, rfl, rfl⟩⟩
theorem za_26 : zArrI 26 8 := fun _ _ _ _ _ _ => rfl
set_option maxRecDepth 100000 in
theorem wd_394 : Cond.fieldLink "SunnyPans$Book" 15 "SunnyPans$Book" "brine" "[I" ∈ tbG := tw2 54 rfl rfl
theorem fg_Book_15 : zGetR "SunnyPans$Book" 15 1 2 1 2 := ⟨RX1, TX1, 4, rfl, by decide, uw_1, wd_394, fun _ _ _ _ _ _ => ⟨_, rfl, rfl⟩⟩
set_option maxRecDepth 100000 in
theorem wd_314 : Cond.code yX9_bit cX9_bit 1 (some .long) ∈ tbG := tw1 214 rfl rfl
set_option maxRecDepth 100000 in
theorem wd_973 : Cond.methodLinkNest "SunnyPans$Book" 69 yX9_bit "SunnyPans" ∈ tbN := twn4 153 rfl rfl
theorem cn_Book_69 : zCN "SunnyPans$Book" 69 yX9_bit cX9_bit 1 (some .long) 1 := ⟨wd_973, wd_101, wd_314, by decide +kernel⟩
set_option maxRecDepth 100000 in
theorem wd_313 : Cond.static yX9_bit ∈ tbG := tw1 213 rfl rfl
set_option maxRecDepth 100000 in
theorem wd_317 : Cond.fieldLink "SunnyPans$Book" 39 "SunnyPans$Plan" "wide" "I" ∈ tbG := tw1 217 rfl rfl
theorem uw_5 : ∀ w ∈ u_ws RX5 TX5 9, w ∈ tbG := zUW _ [340, 342, 344, 346, 348, 350, 352, 354, 356] (by decide +kernel) (by decide +kernel)
theorem fg_Book_39 : zGetI "SunnyPans$Book" 39 5 6 0 := ⟨RX5, TX5, 9, rfl, by decide, uw_5, wd_317, fun _ _ _ _ _ _ => ⟨_, rfl, rfl⟩⟩
set_option maxRecDepth 100000 in
theorem wd_321 : Cond.fieldLink "SunnyPans$Book" 55 "SunnyPans$Plan" "high" "I" ∈ tbG := tw1 221 rfl rfl
theorem fg_Book_55 : zGetI "SunnyPans$Book" 55 5 6 1 := ⟨RX5, TX5, 9, rfl, by decide, uw_5, wd_321, fun _ _ _ _ _ _ => ⟨_, rfl, rfl⟩⟩
set_option maxRecDepth 100000 in
theorem wd_311 : Cond.code yX9_placeOf cX9_placeOf 2 (some .int) ∈ tbG := tw1 211 rfl rfl
set_option maxRecDepth 100000 in
theorem wd_970 : Cond.methodLinkNest "SunnyPans$Book" 58 yX9_placeOf "SunnyPans" ∈ tbN := twn4 150 rfl rfl
theorem cn_Book_58 : zCN "SunnyPans$Book" 58 yX9_placeOf cX9_placeOf 2 (some .int) 2 := ⟨wd_970, wd_101, wd_311, by decide +kernel⟩
set_option maxRecDepth 100000 in
theorem wd_310 : Cond.static yX9_placeOf ∈ tbG := tw1 210 rfl rfl
set_option maxRecDepth 100000 in
theorem wd_737 : Cond.code yX9_has cX9_has 3 (some .boolean) ∈ tbG := tw3 157 rfl rfl
set_option maxRecDepth 100000 in
theorem wd_971 : Cond.methodLinkNest "SunnyPans$Book" 61 yX9_has "SunnyPans" ∈ tbN := twn4 151 rfl rfl
theorem cn_Book_61 : zCN "SunnyPans$Book" 61 yX9_has cX9_has 3 (some .boolean) 2 := ⟨wd_971, wd_101, wd_737, by decide +kernel⟩
set_option maxRecDepth 100000 in
theorem wd_736 : Cond.static yX9_has ∈ tbG := tw3 156 rfl rfl
set_option maxRecDepth 100000 in
theorem wd_149 : Cond.fieldLink "SunnyPans$Book" 48 "SunnyPans$Text" "numberFrom" "I" ∈ tbG := tw1 49 rfl rfl
theorem fg_Book_48 : zGetI "SunnyPans$Book" 48 8 9 5 := ⟨RX8, TX8, 8, rfl, by decide, uw_8, wd_149, fun _ _ _ _ _ _ => ⟨_, rfl, rfl⟩⟩
set_option maxRecDepth 100000 in
theorem wd_969 : Cond.methodLink "SunnyPans$Book" 51 yX8_fail ∈ tbG := tw4 149 rfl rfl
theorem cv_Book_51 : zCV "SunnyPans$Book" 51 "SunnyPans$Text" yX8_fail cX8_fail 3 none 2 := zCV_of wd_969 wd_691 wd_692 wd_102 wd_693 (by decide +kernel)
theorem ki_3 : Int32.ofInt (3) = (3 : Int32) := by decide +kernel
theorem d_X1_readLine_0 : decode cX1_readLine 0 = .ok (.aload_n 1, 1) := by decide +kernel
theorem d_X1_readLine_1 : decode cX1_readLine 1 = .ok (.iconst 0, 1) := by decide +kernel
theorem d_X1_readLine_2 : decode cX1_readLine 2 = .ok (.aload_n 2, 1) := by decide +kernel
theorem d_X1_readLine_3 : decode cX1_readLine 3 = .ok (.getfield 39, 3) := by decide +kernel
theorem d_X1_readLine_6 : decode cX1_readLine 6 = .ok (.iconst 1, 1) := by decide +kernel
theorem d_X1_readLine_7 : decode cX1_readLine 7 = .ok (.isub, 1) := by decide +kernel
theorem d_X1_readLine_8 : decode cX1_readLine 8 = .ok (.invokevirtual 44, 3) := by decide +kernel
theorem d_X1_readLine_11 : decode cX1_readLine 11 = .ok (.istore_n 3, 1) := by decide +kernel
theorem d_X1_readLine_12 : decode cX1_readLine 12 = .ok (.aload_n 0, 1) := by decide +kernel
theorem d_X1_readLine_13 : decode cX1_readLine 13 = .ok (.getfield 18, 3) := by decide +kernel
theorem d_X1_readLine_16 : decode cX1_readLine 16 = .ok (.bipush 8, 2) := by decide +kernel
theorem d_X1_readLine_18 : decode cX1_readLine 18 = .ok (.if_icmp .lt 13, 3) := by decide +kernel
theorem d_X1_readLine_21 : decode cX1_readLine 21 = .ok (.aload_n 1, 1) := by decide +kernel
theorem d_X1_readLine_22 : decode cX1_readLine 22 = .ok (.iconst 3, 1) := by decide +kernel
theorem d_X1_readLine_23 : decode cX1_readLine 23 = .ok (.aload_n 1, 1) := by decide +kernel
theorem d_X1_readLine_24 : decode cX1_readLine 24 = .ok (.getfield 48, 3) := by decide +kernel
theorem d_X1_readLine_27 : decode cX1_readLine 27 = .ok (.invokevirtual 51, 3) := by decide +kernel
theorem d_X1_readLine_30 : decode cX1_readLine 30 = .ok (.return_, 1) := by decide +kernel
theorem d_X1_readLine_31 : decode cX1_readLine 31 = .ok (.aload_n 1, 1) := by decide +kernel
theorem d_X1_readLine_32 : decode cX1_readLine 32 = .ok (.iconst 0, 1) := by decide +kernel
theorem d_X1_readLine_33 : decode cX1_readLine 33 = .ok (.aload_n 2, 1) := by decide +kernel
theorem d_X1_readLine_34 : decode cX1_readLine 34 = .ok (.getfield 55, 3) := by decide +kernel
theorem d_X1_readLine_37 : decode cX1_readLine 37 = .ok (.iconst 1, 1) := by decide +kernel
theorem d_X1_readLine_38 : decode cX1_readLine 38 = .ok (.isub, 1) := by decide +kernel
theorem d_X1_readLine_39 : decode cX1_readLine 39 = .ok (.invokevirtual 44, 3) := by decide +kernel
theorem d_X1_readLine_42 : decode cX1_readLine 42 = .ok (.istore 4, 2) := by decide +kernel
theorem d_X1_readLine_44 : decode cX1_readLine 44 = .ok (.iload_n 3, 1) := by decide +kernel
theorem d_X1_readLine_45 : decode cX1_readLine 45 = .ok (.iload 4, 2) := by decide +kernel
theorem d_X1_readLine_47 : decode cX1_readLine 47 = .ok (.invokestatic 58, 3) := by decide +kernel
theorem d_X1_readLine_50 : decode cX1_readLine 50 = .ok (.istore 5, 2) := by decide +kernel
theorem d_X1_readLine_52 : decode cX1_readLine 52 = .ok (.aload_n 0, 1) := by decide +kernel
theorem d_X1_readLine_53 : decode cX1_readLine 53 = .ok (.getfield 22, 3) := by decide +kernel
theorem d_X1_readLine_56 : decode cX1_readLine 56 = .ok (.iload 5, 2) := by decide +kernel
theorem d_X1_readLine_58 : decode cX1_readLine 58 = .ok (.invokestatic 61, 3) := by decide +kernel
theorem d_X1_readLine_61 : decode cX1_readLine 61 = .ok (.ifCond .eq 12, 3) := by decide +kernel
theorem d_X1_readLine_64 : decode cX1_readLine 64 = .ok (.aload_n 1, 1) := by decide +kernel
theorem d_X1_readLine_65 : decode cX1_readLine 65 = .ok (.iconst 2, 1) := by decide +kernel
theorem d_X1_readLine_66 : decode cX1_readLine 66 = .ok (.aload_n 1, 1) := by decide +kernel
theorem d_X1_readLine_67 : decode cX1_readLine 67 = .ok (.getfield 48, 3) := by decide +kernel
theorem d_X1_readLine_70 : decode cX1_readLine 70 = .ok (.invokevirtual 51, 3) := by decide +kernel
theorem d_X1_readLine_73 : decode cX1_readLine 73 = .ok (.aload_n 1, 1) := by decide +kernel
theorem d_X1_readLine_74 : decode cX1_readLine 74 = .ok (.iconst 0, 1) := by decide +kernel
theorem d_X1_readLine_75 : decode cX1_readLine 75 = .ok (.sipush 9999, 3) := by decide +kernel
theorem d_X1_readLine_78 : decode cX1_readLine 78 = .ok (.invokevirtual 44, 3) := by decide +kernel
theorem d_X1_readLine_81 : decode cX1_readLine 81 = .ok (.istore 6, 2) := by decide +kernel
theorem d_X1_readLine_83 : decode cX1_readLine 83 = .ok (.aload_n 1, 1) := by decide +kernel
theorem d_X1_readLine_84 : decode cX1_readLine 84 = .ok (.bipush 59, 2) := by decide +kernel
theorem d_X1_readLine_86 : decode cX1_readLine 86 = .ok (.invokevirtual 65, 3) := by decide +kernel
theorem d_X1_readLine_89 : decode cX1_readLine 89 = .ok (.aload_n 0, 1) := by decide +kernel
theorem d_X1_readLine_90 : decode cX1_readLine 90 = .ok (.getfield 9, 3) := by decide +kernel
theorem d_X1_readLine_93 : decode cX1_readLine 93 = .ok (.aload_n 0, 1) := by decide +kernel
theorem d_X1_readLine_94 : decode cX1_readLine 94 = .ok (.getfield 18, 3) := by decide +kernel
theorem d_X1_readLine_97 : decode cX1_readLine 97 = .ok (.iload 5, 2) := by decide +kernel
theorem d_X1_readLine_99 : decode cX1_readLine 99 = .ok (.iastore, 1) := by decide +kernel
theorem d_X1_readLine_100 : decode cX1_readLine 100 = .ok (.aload_n 0, 1) := by decide +kernel
theorem d_X1_readLine_101 : decode cX1_readLine 101 = .ok (.getfield 15, 3) := by decide +kernel
theorem d_X1_readLine_104 : decode cX1_readLine 104 = .ok (.aload_n 0, 1) := by decide +kernel
theorem d_X1_readLine_105 : decode cX1_readLine 105 = .ok (.getfield 18, 3) := by decide +kernel
theorem d_X1_readLine_108 : decode cX1_readLine 108 = .ok (.iload 6, 2) := by decide +kernel
theorem d_X1_readLine_110 : decode cX1_readLine 110 = .ok (.iastore, 1) := by decide +kernel
theorem d_X1_readLine_111 : decode cX1_readLine 111 = .ok (.aload_n 0, 1) := by decide +kernel
theorem d_X1_readLine_112 : decode cX1_readLine 112 = .ok (.dup, 1) := by decide +kernel
theorem d_X1_readLine_113 : decode cX1_readLine 113 = .ok (.getfield 22, 3) := by decide +kernel
theorem d_X1_readLine_116 : decode cX1_readLine 116 = .ok (.iload 5, 2) := by decide +kernel
theorem d_X1_readLine_118 : decode cX1_readLine 118 = .ok (.invokestatic 69, 3) := by decide +kernel
theorem d_X1_readLine_121 : decode cX1_readLine 121 = .ok (.lor, 1) := by decide +kernel
theorem d_X1_readLine_122 : decode cX1_readLine 122 = .ok (.putfield 22, 3) := by decide +kernel
theorem d_X1_readLine_125 : decode cX1_readLine 125 = .ok (.aload_n 0, 1) := by decide +kernel
theorem d_X1_readLine_126 : decode cX1_readLine 126 = .ok (.dup, 1) := by decide +kernel
theorem d_X1_readLine_127 : decode cX1_readLine 127 = .ok (.getfield 18, 3) := by decide +kernel
theorem d_X1_readLine_130 : decode cX1_readLine 130 = .ok (.iconst 1, 1) := by decide +kernel
theorem d_X1_readLine_131 : decode cX1_readLine 131 = .ok (.iadd, 1) := by decide +kernel
theorem d_X1_readLine_132 : decode cX1_readLine 132 = .ok (.putfield 18, 3) := by decide +kernel
theorem d_X1_readLine_135 : decode cX1_readLine 135 = .ok (.return_, 1) := by decide +kernel
noncomputable def F_X1_readLine_73 (t : Nat) (p0 : Nat) (p1 : Nat) (b73_L5 : Int32) (M : zMem) : Option (zMem) :=
  zb (F_X8_number M p0 (0 : Int32) (9999 : Int32)) fun v2 M1 =>
  zbv (F_X8_sign M1 p0 (59 : Int32)) fun M3 =>
  gin (M3.1 t 2) 8 <|
  zl (zI M3 (t + 1) ((M3.1 t 2).toNatClampNeg) b73_L5) fun M5 =>
  gin (M5.1 t 2) 8 <|
  zl (zI M5 (t + 2) ((M5.1 t 2).toNatClampNeg) v2) fun M7 =>
  zb (F_X9_bit M7 b73_L5) fun v9 M8 =>
  zl (zL M8 t 3 ((M7.2.1 t 3) ||| v9)) fun M10 =>
  zl (zI M10 t 2 ((M10.1 t 2) + (1 : Int32))) fun M11 =>
  some M11
noncomputable def F_X1_readLine (M : zMem) (t : Nat) (p0 : Nat) (p1 : Nat) : Option (zMem) :=
  zb (F_X8_number M p0 (0 : Int32) ((M.1 p1 0) - (1 : Int32))) fun v13 M12 =>
  if (M12.1 t 2) < (8 : Int32) then
    zb (F_X8_number M12 p0 (0 : Int32) ((M12.1 p1 1) - (1 : Int32))) fun v15 M14 =>
    zb (F_X9_placeOf M14 v13 v15) fun v17 M16 =>
    zb (F_X9_has M16 (M16.2.1 t 3) v17) fun v19 M18 =>
    if v19 = 0 then
      F_X1_readLine_73 t p0 p1 v17 M18
    else
      zbv (F_X8_fail M18 p0 (2 : Int32) (M18.1 p0 5)) fun M20 =>
      F_X1_readLine_73 t p0 p1 v17 M20
  else
    zbv (F_X8_fail M12 p0 (3 : Int32) (M12.1 p0 5)) fun M21 =>
    some M21
def rm_X1_readLine : Room := { frames := 5, cells := 0, slots := 0, locals := 143 }
set_option maxHeartbeats 4000000 in
set_option maxRecDepth 100000 in
theorem c_X1_readLine (l : Launch) {G : zG} {ad : Nat → Nat} {n : Nat} (hA : zInj ad n) (M : zMem) (t : Nat) (p0 : Nat) (p1 : Nat) (hT_t : zT shX n t 2) (hT_p0 : zT shX n p0 9) (hT_p1 : zT shX n p1 6) {M9 : zMem} (hF : F_X1_readLine M t p0 p1 = some M9) : zM l yX1_readLine cX1_readLine 7 none rm_X1_readLine G shX ad n M [.ref (ad t), .ref (ad p0), .ref (ad p1)] none M9 := by
  refine zM_of hA (by decide +kernel) (lv := [(0, .ref (ad t)), (1, .ref (ad p0)), (2, .ref (ad p1))]) (Nat.le_of_ble_eq_true rfl) rfl (fun p e s m args below meth c A cx hr => ?_)
  have hb73 : ∀ (b73_L5 : Int32) (M : zMem), F_X1_readLine_73 t p0 p1 b73_L5 M = some M9 → zJ p l e rm_X1_readLine s m args below meth c G shX ad n A 7 (MQ below (zQ G shX ad n M9 none A) args s 0 0 A) 0 0 M 73 [(0, .ref (ad t)), (1, .ref (ad p0)), (5, .int b73_L5)] [] := by
    intro b73_L5 M hF
    unfold F_X1_readLine_73 at hF
    refine z_aload_n cx d_X1_readLine_73 1 rfl ?_
    refine z_iconst (v := 0) cx d_X1_readLine_74 ki_0 ?_
    refine z_sipush (v := 9999) cx d_X1_readLine_75 ks_9999 ?_
    obtain ⟨v2, M1, hc, hF⟩ := zb_inv hF
    refine z_callV cx (As := [.int (0 : Int32), .int (9999 : Int32)]) (rest := []) (c_X8_number l cx.2.2.2.1.1 M p0 (0 : Int32) (9999 : Int32) hT_p0 hc) hT_p0 zo_9 cv_Book_44 ⟨rfl, rfl, Nat.le_of_ble_eq_true rfl, Nat.le_of_ble_eq_true rfl⟩ rfl rfl ⟨Nat.zero_le _, Nat.zero_le _⟩ (Nat.le_of_ble_eq_true rfl) d_X1_readLine_78 ?_
    refine z_istore cx 6 [(6, .int v2), (0, .ref (ad t)), (1, .ref (ad p0)), (5, .int b73_L5)] d_X1_readLine_81 (by decide) rfl ?_
    refine z_aload_n cx d_X1_readLine_83 2 rfl ?_
    refine z_bipush (v := 59) cx d_X1_readLine_84 kb_59 ?_
    obtain ⟨M3, hc, hF⟩ := zbv_inv hF
    refine z_callV cx (As := [.int (59 : Int32)]) (rest := []) (c_X8_sign l cx.2.2.2.1.1 M1 p0 (59 : Int32) hT_p0 hc) hT_p0 zo_9 cv_Book_65 ⟨rfl, rfl, Nat.le_of_ble_eq_true rfl, Nat.le_of_ble_eq_true rfl⟩ rfl rfl ⟨Nat.zero_le _, Nat.zero_le _⟩ (Nat.le_of_ble_eq_true rfl) d_X1_readLine_86 ?_
    refine z_aload_n cx d_X1_readLine_89 1 rfl ?_
    refine z_getR cx hT_t fg_Book_9 (t + 1) rfl d_X1_readLine_90 ?_
    refine z_aload_n cx d_X1_readLine_93 1 rfl ?_
    refine z_getI cx hT_t fg_Book_18 d_X1_readLine_94 ?_
    refine z_iload cx d_X1_readLine_97 3 rfl ?_
    obtain ⟨hi4, hF⟩ := gin_inv hF
    refine z_iast cx (tfX_2_1 hT_t) za_26 hi4 ((M3.1 t 2).toNatClampNeg) rfl d_X1_readLine_99 ?_
    refine z_nmM hF (fun M5 hF => ?_)
    refine z_aload_n cx d_X1_readLine_100 1 rfl ?_
    refine z_getR cx hT_t fg_Book_15 (t + 2) rfl d_X1_readLine_101 ?_
    refine z_aload_n cx d_X1_readLine_104 1 rfl ?_
    refine z_getI cx hT_t fg_Book_18 d_X1_readLine_105 ?_
    refine z_iload cx d_X1_readLine_108 0 rfl ?_
    obtain ⟨hi6, hF⟩ := gin_inv hF
    refine z_iast cx (tfX_2_2 hT_t) za_26 hi6 ((M5.1 t 2).toNatClampNeg) rfl d_X1_readLine_110 ?_
    refine z_nmM hF (fun M7 hF => ?_)
    refine z_aload_n cx d_X1_readLine_111 1 rfl ?_
    refine z_dup cx d_X1_readLine_112 rfl ?_
    refine z_getL cx hT_t fg_Book_22 d_X1_readLine_113 ?_
    refine z_iload cx d_X1_readLine_116 3 rfl ?_
    obtain ⟨v9, M8, hc, hF⟩ := zb_inv hF
    refine z_callSN cx (As := [.int b73_L5]) (rest := [.long (M7.2.1 t 3), .ref (ad t)]) (c_X9_bit l cx.2.2.2.1.1 M7 b73_L5  hc) cn_Book_69 wd_313 ⟨rfl, rfl, Nat.le_of_ble_eq_true rfl, Nat.le_of_ble_eq_true rfl⟩ rfl rfl ⟨Nat.zero_le _, Nat.zero_le _⟩ (Nat.le_of_ble_eq_true rfl) d_X1_readLine_118 ?_
    refine z_lor cx d_X1_readLine_121 ?_
    refine z_putL cx hT_t fp_Book_22 d_X1_readLine_122 ?_
    refine z_nmM hF (fun M10 hF => ?_)
    refine z_aload_n cx d_X1_readLine_125 1 rfl ?_
    refine z_dup cx d_X1_readLine_126 rfl ?_
    refine z_getI cx hT_t fg_Book_18 d_X1_readLine_127 ?_
    refine z_iconst (v := 1) cx d_X1_readLine_130 ki_1 ?_
    refine z_iadd cx d_X1_readLine_131 ?_
    refine z_putI cx hT_t fp_Book_18 d_X1_readLine_132 ?_
    refine z_nmM hF (fun M11 hF => ?_)
    exact z_vret cx hr hF d_X1_readLine_135
  unfold F_X1_readLine at hF
  refine z_aload_n cx d_X1_readLine_0 1 rfl ?_
  refine z_iconst (v := 0) cx d_X1_readLine_1 ki_0 ?_
  refine z_aload_n cx d_X1_readLine_2 2 rfl ?_
  refine z_getI cx hT_p1 fg_Book_39 d_X1_readLine_3 ?_
  refine z_iconst (v := 1) cx d_X1_readLine_6 ki_1 ?_
  refine z_isub cx d_X1_readLine_7 ?_
  obtain ⟨v13, M12, hc, hF⟩ := zb_inv hF
  refine z_callV cx (As := [.int (0 : Int32), .int ((M.1 p1 0) - (1 : Int32))]) (rest := []) (c_X8_number l cx.2.2.2.1.1 M p0 (0 : Int32) ((M.1 p1 0) - (1 : Int32)) hT_p0 hc) hT_p0 zo_9 cv_Book_44 ⟨rfl, rfl, Nat.le_of_ble_eq_true rfl, Nat.le_of_ble_eq_true rfl⟩ rfl rfl ⟨Nat.zero_le _, Nat.zero_le _⟩ (Nat.le_of_ble_eq_true rfl) d_X1_readLine_8 ?_
  refine z_istore_n cx 3 [(3, .int v13), (0, .ref (ad t)), (1, .ref (ad p0)), (2, .ref (ad p1))] d_X1_readLine_11 rfl (by decide) rfl ?_
  refine z_aload_n cx d_X1_readLine_12 1 rfl ?_
  refine z_getI cx hT_t fg_Book_18 d_X1_readLine_13 ?_
  refine z_bipush (v := 8) cx d_X1_readLine_16 kb_8 ?_
  refine z_icmp_lt cx 31 d_X1_readLine_18 (by decide) hF (fun hF => ?_) (fun hF => ?_)
  · refine z_aload_n cx d_X1_readLine_31 2 rfl ?_
    refine z_iconst (v := 0) cx d_X1_readLine_32 ki_0 ?_
    refine z_aload_n cx d_X1_readLine_33 3 rfl ?_
    refine z_getI cx hT_p1 fg_Book_55 d_X1_readLine_34 ?_
    refine z_iconst (v := 1) cx d_X1_readLine_37 ki_1 ?_
    refine z_isub cx d_X1_readLine_38 ?_
    obtain ⟨v15, M14, hc, hF⟩ := zb_inv hF
    refine z_callV cx (As := [.int (0 : Int32), .int ((M12.1 p1 1) - (1 : Int32))]) (rest := []) (c_X8_number l cx.2.2.2.1.1 M12 p0 (0 : Int32) ((M12.1 p1 1) - (1 : Int32)) hT_p0 hc) hT_p0 zo_9 cv_Book_44 ⟨rfl, rfl, Nat.le_of_ble_eq_true rfl, Nat.le_of_ble_eq_true rfl⟩ rfl rfl ⟨Nat.zero_le _, Nat.zero_le _⟩ (Nat.le_of_ble_eq_true rfl) d_X1_readLine_39 ?_
    refine z_istore cx 4 [(4, .int v15), (3, .int v13), (0, .ref (ad t)), (1, .ref (ad p0)), (2, .ref (ad p1))] d_X1_readLine_42 (by decide) rfl ?_
    refine z_iload_n cx d_X1_readLine_44 1 rfl ?_
    refine z_iload cx d_X1_readLine_45 0 rfl ?_
    obtain ⟨v17, M16, hc, hF⟩ := zb_inv hF
    refine z_callSN cx (As := [.int v13, .int v15]) (rest := []) (c_X9_placeOf l cx.2.2.2.1.1 M14 v13 v15  hc) cn_Book_58 wd_310 ⟨rfl, rfl, Nat.le_of_ble_eq_true rfl, Nat.le_of_ble_eq_true rfl⟩ rfl rfl ⟨Nat.zero_le _, Nat.zero_le _⟩ (Nat.le_of_ble_eq_true rfl) d_X1_readLine_47 ?_
    refine z_istore cx 5 [(5, .int v17), (4, .int v15), (3, .int v13), (0, .ref (ad t)), (1, .ref (ad p0)), (2, .ref (ad p1))] d_X1_readLine_50 (by decide) rfl ?_
    refine z_aload_n cx d_X1_readLine_52 3 rfl ?_
    refine z_getL cx hT_t fg_Book_22 d_X1_readLine_53 ?_
    refine z_iload cx d_X1_readLine_56 0 rfl ?_
    obtain ⟨v19, M18, hc, hF⟩ := zb_inv hF
    refine z_callSN cx (As := [.long (M16.2.1 t 3), .int v17]) (rest := []) (c_X9_has l cx.2.2.2.1.1 M16 (M16.2.1 t 3) v17  hc) cn_Book_61 wd_736 ⟨rfl, rfl, Nat.le_of_ble_eq_true rfl, Nat.le_of_ble_eq_true rfl⟩ rfl rfl ⟨Nat.zero_le _, Nat.zero_le _⟩ (Nat.le_of_ble_eq_true rfl) d_X1_readLine_58 ?_
    refine z_if_eq cx 73 d_X1_readLine_61 (by decide) hF (fun hF => ?_) (fun hF => ?_)
    · exact z_lv [3, 4, 0] _ rfl (hb73 v17 M18 hF)
    refine z_aload_n cx d_X1_readLine_64 4 rfl ?_
    refine z_iconst (v := 2) cx d_X1_readLine_65 ki_2 ?_
    refine z_aload_n cx d_X1_readLine_66 4 rfl ?_
    refine z_getI cx hT_p0 fg_Book_48 d_X1_readLine_67 ?_
    obtain ⟨M20, hc, hF⟩ := zbv_inv hF
    refine z_callV cx (As := [.int (2 : Int32), .int (M18.1 p0 5)]) (rest := []) (c_X8_fail l cx.2.2.2.1.1 M18 p0 (2 : Int32) (M18.1 p0 5) hT_p0 hc) hT_p0 zo_9 cv_Book_51 ⟨rfl, rfl, Nat.le_of_ble_eq_true rfl, Nat.le_of_ble_eq_true rfl⟩ rfl rfl ⟨Nat.zero_le _, Nat.zero_le _⟩ (Nat.le_of_ble_eq_true rfl) d_X1_readLine_70 ?_
    exact z_lv [3, 4, 0] _ rfl (hb73 v17 M20 hF)
  refine z_aload_n cx d_X1_readLine_21 2 rfl ?_
  refine z_iconst (v := 3) cx d_X1_readLine_22 ki_3 ?_
  refine z_aload_n cx d_X1_readLine_23 2 rfl ?_
  refine z_getI cx hT_p0 fg_Book_48 d_X1_readLine_24 ?_
  obtain ⟨M21, hc, hF⟩ := zbv_inv hF
  refine z_callV cx (As := [.int (3 : Int32), .int (M12.1 p0 5)]) (rest := []) (c_X8_fail l cx.2.2.2.1.1 M12 p0 (3 : Int32) (M12.1 p0 5) hT_p0 hc) hT_p0 zo_9 cv_Book_51 ⟨rfl, rfl, Nat.le_of_ble_eq_true rfl, Nat.le_of_ble_eq_true rfl⟩ rfl rfl ⟨Nat.zero_le _, Nat.zero_le _⟩ (Nat.le_of_ble_eq_true rfl) d_X1_readLine_27 ?_
  exact z_vret cx hr hF d_X1_readLine_30
/-! SunnyPans$Book.read -/
set_option maxRecDepth 100000 in
theorem wd_614 : Cond.code yX8_goesOn cX8_goesOn 1 (some .boolean) ∈ tbG := tw3 34 rfl rfl
set_option maxRecDepth 100000 in
theorem wd_963 : Cond.methodLink "SunnyPans$Book" 29 yX8_goesOn ∈ tbG := tw4 143 rfl rfl
set_option maxRecDepth 100000 in
theorem wd_612 : Cond.instanceMethod yX8_goesOn ∈ tbG := tw3 32 rfl rfl
set_option maxRecDepth 100000 in
theorem wd_613 : Cond.selects "SunnyPans$Text" yX8_goesOn yX8_goesOn ∈ tbG := tw3 33 rfl rfl
theorem cv_Book_29 : zCV "SunnyPans$Book" 29 "SunnyPans$Text" yX8_goesOn cX8_goesOn 1 (some .boolean) 0 := zCV_of wd_963 wd_612 wd_613 wd_102 wd_614 (by decide +kernel)
set_option maxRecDepth 100000 in
theorem wd_967 : Cond.code yX1_readLine cX1_readLine 7 none ∈ tbG := tw4 147 rfl rfl
set_option maxRecDepth 100000 in
theorem wd_964 : Cond.methodLink "SunnyPans$Book" 35 yX1_readLine ∈ tbG := tw4 144 rfl rfl
set_option maxRecDepth 100000 in
theorem wd_966 : Cond.instanceMethod yX1_readLine ∈ tbG := tw4 146 rfl rfl
theorem wd_23 : Cond.selects "SunnyPans$Book" yX1_readLine yX1_readLine ∈ tbG := tw 23 (by decide +kernel) rfl
set_option maxRecDepth 100000 in
theorem wd_110 : Cond.initialized "SunnyPans$Book" ∈ tbG := tw1 10 rfl rfl
theorem cv_Book_35 : zCV "SunnyPans$Book" 35 "SunnyPans$Book" yX1_readLine cX1_readLine 7 none 2 := zCV_of wd_964 wd_966 wd_23 wd_110 wd_967 (by decide +kernel)
theorem zo_2 : zObj "SunnyPans$Book" 2 := ⟨1, (RX1, TX1, 4), rfl, rfl, fun _ _ _ _ _ _ => ⟨_, rfl⟩⟩
set_option maxRecDepth 100000 in
theorem wd_742 : Cond.code yX1_clear cX1_clear 1 none ∈ tbG := tw3 162 rfl rfl
set_option maxRecDepth 100000 in
theorem wd_962 : Cond.methodLink "SunnyPans$Book" 26 yX1_clear ∈ tbG := tw4 142 rfl rfl
set_option maxRecDepth 100000 in
theorem wd_740 : Cond.instanceMethod yX1_clear ∈ tbG := tw3 160 rfl rfl
set_option maxRecDepth 100000 in
theorem wd_741 : Cond.selects "SunnyPans$Book" yX1_clear yX1_clear ∈ tbG := tw3 161 rfl rfl
theorem cv_Book_26 : zCV "SunnyPans$Book" 26 "SunnyPans$Book" yX1_clear cX1_clear 1 none 0 := zCV_of wd_962 wd_740 wd_741 wd_110 wd_742 (by decide +kernel)
theorem d_X1_read_0 : decode cX1_read 0 = .ok (.aload_n 0, 1) := by decide +kernel
theorem d_X1_read_1 : decode cX1_read 1 = .ok (.invokevirtual 26, 3) := by decide +kernel
theorem d_X1_read_4 : decode cX1_read 4 = .ok (.iconst 0, 1) := by decide +kernel
theorem d_X1_read_5 : decode cX1_read 5 = .ok (.istore_n 3, 1) := by decide +kernel
theorem d_X1_read_6 : decode cX1_read 6 = .ok (.iload_n 3, 1) := by decide +kernel
theorem d_X1_read_7 : decode cX1_read 7 = .ok (.bipush 8, 2) := by decide +kernel
theorem d_X1_read_9 : decode cX1_read 9 = .ok (.if_icmp .gt 22, 3) := by decide +kernel
theorem d_X1_read_12 : decode cX1_read 12 = .ok (.aload_n 1, 1) := by decide +kernel
theorem d_X1_read_13 : decode cX1_read 13 = .ok (.invokevirtual 29, 3) := by decide +kernel
theorem d_X1_read_16 : decode cX1_read 16 = .ok (.ifCond .eq 15, 3) := by decide +kernel
theorem d_X1_read_19 : decode cX1_read 19 = .ok (.aload_n 0, 1) := by decide +kernel
theorem d_X1_read_20 : decode cX1_read 20 = .ok (.aload_n 1, 1) := by decide +kernel
theorem d_X1_read_21 : decode cX1_read 21 = .ok (.aload_n 2, 1) := by decide +kernel
theorem d_X1_read_22 : decode cX1_read 22 = .ok (.invokevirtual 35, 3) := by decide +kernel
theorem d_X1_read_25 : decode cX1_read 25 = .ok (.iinc 3 1, 3) := by decide +kernel
theorem d_X1_read_28 : decode cX1_read 28 = .ok (.goto (-22), 3) := by decide +kernel
theorem d_X1_read_31 : decode cX1_read 31 = .ok (.return_, 1) := by decide +kernel
noncomputable def F_X1_read_6 (t : Nat) (p0 : Nat) (p1 : Nat) (self6 : Int32 → zMem → Option (zMem)) (b6_L3 : Int32) (M : zMem) : Option (zMem) :=
  if (8 : Int32) < b6_L3 then
    some M
  else
    zb (F_X8_goesOn M p0) fun v2 M1 =>
    if v2 = 0 then
      some M1
    else
      zbv (F_X1_readLine M1 t p0 p1) fun M3 =>
      self6 (b6_L3 + 1) M3
noncomputable def F_X1_read (M : zMem) (t : Nat) (p0 : Nat) (p1 : Nat) : Option (zMem) :=
  zbv (F_X1_clear M t) fun M4 =>
  itF (fun _ _ => none) (F_X1_read_6 t p0 p1) zFuel (0 : Int32) M4
def rm_X1_read : Room := { frames := 6, cells := 0, slots := 0, locals := 169 }
set_option maxHeartbeats 4000000 in
set_option maxRecDepth 100000 in
theorem c_X1_read (l : Launch) {G : zG} {ad : Nat → Nat} {n : Nat} (hA : zInj ad n) (M : zMem) (t : Nat) (p0 : Nat) (p1 : Nat) (hT_t : zT shX n t 2) (hT_p0 : zT shX n p0 9) (hT_p1 : zT shX n p1 6) {M9 : zMem} (hF : F_X1_read M t p0 p1 = some M9) : zM l yX1_read cX1_read 4 none rm_X1_read G shX ad n M [.ref (ad t), .ref (ad p0), .ref (ad p1)] none M9 := by
  refine zM_of hA (by decide +kernel) (lv := [(0, .ref (ad t)), (1, .ref (ad p0)), (2, .ref (ad p1))]) (Nat.le_of_ble_eq_true rfl) rfl (fun p e s m args below meth c A cx hr => ?_)
  have hL6 : ∀ (fuel : Nat), ∀ (b6_L3 : Int32) (M : zMem), itF (fun _ _ => none) (F_X1_read_6 t p0 p1) fuel b6_L3 M = some M9 → zJ p l e rm_X1_read s m args below meth c G shX ad n A 4 (MQ below (zQ G shX ad n M9 none A) args s 0 0 A) 0 0 M 6 [(0, .ref (ad t)), (1, .ref (ad p0)), (2, .ref (ad p1)), (3, .int b6_L3)] [] := by
    intro fuel
    induction fuel with
    | zero => intro b6_L3 M hF; cases hF
    | succ fuel hs6 =>
      intro b6_L3 M hF
      have hF : F_X1_read_6 t p0 p1 (itF (fun _ _ => none) (F_X1_read_6 t p0 p1) fuel) b6_L3 M = some M9 := hF
      generalize itF (fun _ _ => none) (F_X1_read_6 t p0 p1) fuel = self6 at hs6 hF
      unfold F_X1_read_6 at hF
      refine z_iload_n cx d_X1_read_6 3 rfl ?_
      refine z_bipush (v := 8) cx d_X1_read_7 kb_8 ?_
      refine z_icmp_gt cx 31 d_X1_read_9 (by decide) hF (fun hF => ?_) (fun hF => ?_)
      · exact z_vret cx hr hF d_X1_read_31
      refine z_aload_n cx d_X1_read_12 1 rfl ?_
      obtain ⟨v2, M1, hc, hF⟩ := zb_inv hF
      refine z_callV cx (As := []) (rest := []) (c_X8_goesOn l cx.2.2.2.1.1 M p0 hT_p0 hc) hT_p0 zo_9 cv_Book_29 ⟨rfl, rfl, Nat.le_of_ble_eq_true rfl, Nat.le_of_ble_eq_true rfl⟩ rfl rfl ⟨Nat.zero_le _, Nat.zero_le _⟩ (Nat.le_of_ble_eq_true rfl) d_X1_read_13 ?_
      refine z_if_eq cx 31 d_X1_read_16 (by decide) hF (fun hF => ?_) (fun hF => ?_)
      · exact z_vret cx hr hF d_X1_read_31
      refine z_aload_n cx d_X1_read_19 0 rfl ?_
      refine z_aload_n cx d_X1_read_20 1 rfl ?_
      refine z_aload_n cx d_X1_read_21 2 rfl ?_
      obtain ⟨M3, hc, hF⟩ := zbv_inv hF
      refine z_callV cx (As := [.ref (ad p0), .ref (ad p1)]) (rest := []) (c_X1_readLine l cx.2.2.2.1.1 M1 t p0 p1 hT_t hT_p0 hT_p1 hc) hT_t zo_2 cv_Book_35 ⟨rfl, rfl, Nat.le_of_ble_eq_true rfl, Nat.le_of_ble_eq_true rfl⟩ rfl rfl ⟨Nat.zero_le _, Nat.zero_le _⟩ (Nat.le_of_ble_eq_true rfl) d_X1_read_22 ?_
      refine z_iinc cx 3 1 [(3, .int (b6_L3 + 1)), (0, .ref (ad t)), (1, .ref (ad p0)), (2, .ref (ad p1))] d_X1_read_25 3 rfl ki_1 (by decide) rfl ?_
      refine z_goto cx 6 d_X1_read_28 (by decide) ?_
      exact z_lv [1, 2, 3, 0] _ rfl (hs6 (b6_L3 + 1) M3 hF)
  unfold F_X1_read at hF
  refine z_aload_n cx d_X1_read_0 0 rfl ?_
  obtain ⟨M4, hc, hF⟩ := zbv_inv hF
  refine z_callV cx (As := []) (rest := []) (c_X1_clear l cx.2.2.2.1.1 M t hT_t hc) hT_t zo_2 cv_Book_26 ⟨rfl, rfl, Nat.le_of_ble_eq_true rfl, Nat.le_of_ble_eq_true rfl⟩ rfl rfl ⟨Nat.zero_le _, Nat.zero_le _⟩ (Nat.le_of_ble_eq_true rfl) d_X1_read_1 ?_
  refine z_iconst (v := 0) cx d_X1_read_4 ki_0 ?_
  refine z_istore_n cx 3 [(3, .int (0 : Int32)), (0, .ref (ad t)), (1, .ref (ad p0)), (2, .ref (ad p1))] d_X1_read_5 rfl (by decide) rfl ?_
  exact z_lv [1, 2, 3, 0] _ rfl (hL6 zFuel (0 : Int32) M4 hF)
/-! SunnyPans$Job.add -/
theorem tfX_3_1 {n k : Nat} (h : zT shX n k 3) : zT shX n (k + 1) 21 := zT_off h (shX_f (by decide) (by decide +kernel)) (by decide) (by decide)
theorem tfX_3_2 {n k : Nat} (h : zT shX n k 3) : zT shX n (k + 2) 21 := zT_off h (shX_f (by decide) (by decide +kernel)) (by decide) (by decide)
theorem tfX_3_3 {n k : Nat} (h : zT shX n k 3) : zT shX n (k + 3) 21 := zT_off h (shX_f (by decide) (by decide +kernel)) (by decide) (by decide)
theorem tfX_3_4 {n k : Nat} (h : zT shX n k 3) : zT shX n (k + 4) 21 := zT_off h (shX_f (by decide) (by decide +kernel)) (by decide) (by decide)
set_option maxRecDepth 100000 in
theorem wd_245 : Cond.fieldLink "SunnyPans$Job" 33 "SunnyPans$Job" "size" "I" ∈ tbG := tw1 145 rfl rfl
theorem uw_2 : ∀ w ∈ u_ws RX2 TX2 9, w ∈ tbG := zUW _ [246, 248, 250, 252, 254, 256, 258, 260, 262] (by decide +kernel) (by decide +kernel)
theorem fg_Job_33 : zGetI "SunnyPans$Job" 33 2 3 8 := ⟨RX2, TX2, 9, rfl, by decide, uw_2, wd_245, fun _ _ _ _ _ _ => ⟨_, rfl, rfl⟩⟩
theorem ks_150 : (Int16.ofInt (150)).toInt32 = (150 : Int32) := by decide +kernel
set_option maxRecDepth 100000 in
theorem wd_233 : Cond.fieldLink "SunnyPans$Job" 9 "SunnyPans$Job" "kind" "[I" ∈ tbG := tw1 133 rfl rfl
theorem fg_Job_9 : zGetR "SunnyPans$Job" 9 2 3 0 1 := ⟨RX2, TX2, 9, rfl, by decide, uw_2, wd_233, fun _ _ _ _ _ _ => ⟨_, rfl, rfl⟩⟩
theorem za_21 : zArrI 21 150 := fun _ _ _ _ _ _ => rfl
set_option maxRecDepth 100000 in
theorem wd_235 : Cond.fieldLink "SunnyPans$Job" 15 "SunnyPans$Job" "place" "[I" ∈ tbG := tw1 135 rfl rfl
theorem fg_Job_15 : zGetR "SunnyPans$Job" 15 2 3 1 2 := ⟨RX2, TX2, 9, rfl, by decide, uw_2, wd_235, fun _ _ _ _ _ _ => ⟨_, rfl, rfl⟩⟩
set_option maxRecDepth 100000 in
theorem wd_237 : Cond.fieldLink "SunnyPans$Job" 18 "SunnyPans$Job" "other" "[I" ∈ tbG := tw1 137 rfl rfl
theorem fg_Job_18 : zGetR "SunnyPans$Job" 18 2 3 2 3 := ⟨RX2, TX2, 9, rfl, by decide, uw_2, wd_237, fun _ _ _ _ _ _ => ⟨_, rfl, rfl⟩⟩
set_option maxRecDepth 100000 in
theorem wd_239 : Cond.fieldLink "SunnyPans$Job" 21 "SunnyPans$Job" "amount" "[I" ∈ tbG := tw1 139 rfl rfl
theorem fg_Job_21 : zGetR "SunnyPans$Job" 21 2 3 3 4 := ⟨RX2, TX2, 9, rfl, by decide, uw_2, wd_239, fun _ _ _ _ _ _ => ⟨_, rfl, rfl⟩⟩
theorem zc_2 : zCls 2 := ⟨RX2, TX2, 9, tyX2, rfl, tyX2_ok, nmX2⟩
theorem fp_Job_33 : zPutI "SunnyPans$Job" 33 2 3 8 := ⟨zc_2, fg_Job_33, ⟨RX2, TX2, 9, rfl, rfl, by decide +kernel⟩, fun _ _ _ _ _ _ _ => ⟨_, rfl, Nat.le_of_ble_eq_true rfl, rfl⟩⟩
theorem d_X2_add_0 : decode cX2_add 0 = .ok (.aload_n 0, 1) := by decide +kernel
theorem d_X2_add_1 : decode cX2_add 1 = .ok (.getfield 33, 3) := by decide +kernel
theorem d_X2_add_4 : decode cX2_add 4 = .ok (.sipush 150, 3) := by decide +kernel
theorem d_X2_add_7 : decode cX2_add 7 = .ok (.if_icmp .ge 54, 3) := by decide +kernel
theorem d_X2_add_10 : decode cX2_add 10 = .ok (.aload_n 0, 1) := by decide +kernel
theorem d_X2_add_11 : decode cX2_add 11 = .ok (.getfield 9, 3) := by decide +kernel
theorem d_X2_add_14 : decode cX2_add 14 = .ok (.aload_n 0, 1) := by decide +kernel
theorem d_X2_add_15 : decode cX2_add 15 = .ok (.getfield 33, 3) := by decide +kernel
theorem d_X2_add_18 : decode cX2_add 18 = .ok (.iload_n 1, 1) := by decide +kernel
theorem d_X2_add_19 : decode cX2_add 19 = .ok (.iastore, 1) := by decide +kernel
theorem d_X2_add_20 : decode cX2_add 20 = .ok (.aload_n 0, 1) := by decide +kernel
theorem d_X2_add_21 : decode cX2_add 21 = .ok (.getfield 15, 3) := by decide +kernel
theorem d_X2_add_24 : decode cX2_add 24 = .ok (.aload_n 0, 1) := by decide +kernel
theorem d_X2_add_25 : decode cX2_add 25 = .ok (.getfield 33, 3) := by decide +kernel
theorem d_X2_add_28 : decode cX2_add 28 = .ok (.iload_n 2, 1) := by decide +kernel
theorem d_X2_add_29 : decode cX2_add 29 = .ok (.iastore, 1) := by decide +kernel
theorem d_X2_add_30 : decode cX2_add 30 = .ok (.aload_n 0, 1) := by decide +kernel
theorem d_X2_add_31 : decode cX2_add 31 = .ok (.getfield 18, 3) := by decide +kernel
theorem d_X2_add_34 : decode cX2_add 34 = .ok (.aload_n 0, 1) := by decide +kernel
theorem d_X2_add_35 : decode cX2_add 35 = .ok (.getfield 33, 3) := by decide +kernel
theorem d_X2_add_38 : decode cX2_add 38 = .ok (.iload_n 3, 1) := by decide +kernel
theorem d_X2_add_39 : decode cX2_add 39 = .ok (.iastore, 1) := by decide +kernel
theorem d_X2_add_40 : decode cX2_add 40 = .ok (.aload_n 0, 1) := by decide +kernel
theorem d_X2_add_41 : decode cX2_add 41 = .ok (.getfield 21, 3) := by decide +kernel
theorem d_X2_add_44 : decode cX2_add 44 = .ok (.aload_n 0, 1) := by decide +kernel
theorem d_X2_add_45 : decode cX2_add 45 = .ok (.getfield 33, 3) := by decide +kernel
theorem d_X2_add_48 : decode cX2_add 48 = .ok (.iload 4, 2) := by decide +kernel
theorem d_X2_add_50 : decode cX2_add 50 = .ok (.iastore, 1) := by decide +kernel
theorem d_X2_add_51 : decode cX2_add 51 = .ok (.aload_n 0, 1) := by decide +kernel
theorem d_X2_add_52 : decode cX2_add 52 = .ok (.dup, 1) := by decide +kernel
theorem d_X2_add_53 : decode cX2_add 53 = .ok (.getfield 33, 3) := by decide +kernel
theorem d_X2_add_56 : decode cX2_add 56 = .ok (.iconst 1, 1) := by decide +kernel
theorem d_X2_add_57 : decode cX2_add 57 = .ok (.iadd, 1) := by decide +kernel
theorem d_X2_add_58 : decode cX2_add 58 = .ok (.putfield 33, 3) := by decide +kernel
theorem d_X2_add_61 : decode cX2_add 61 = .ok (.return_, 1) := by decide +kernel
noncomputable def F_X2_add (M : zMem) (t : Nat) (p0 : Int32) (p1 : Int32) (p2 : Int32) (p3 : Int32) : Option (zMem) :=
  if (150 : Int32) ≤ (M.1 t 8) then
    some M
  else
    gin (M.1 t 8) 150 <|
    zl (zI M (t + 1) ((M.1 t 8).toNatClampNeg) p0) fun M2 =>
    gin (M2.1 t 8) 150 <|
    zl (zI M2 (t + 2) ((M2.1 t 8).toNatClampNeg) p1) fun M4 =>
    gin (M4.1 t 8) 150 <|
    zl (zI M4 (t + 3) ((M4.1 t 8).toNatClampNeg) p2) fun M6 =>
    gin (M6.1 t 8) 150 <|
    zl (zI M6 (t + 4) ((M6.1 t 8).toNatClampNeg) p3) fun M8 =>
    zl (zI M8 t 8 ((M8.1 t 8) + (1 : Int32))) fun M9 =>
    some M9
def rm_X2_add : Room := { frames := 2, cells := 0, slots := 0, locals := 80 }
set_option maxHeartbeats 4000000 in
set_option maxRecDepth 100000 in
theorem c_X2_add (l : Launch) {G : zG} {ad : Nat → Nat} {n : Nat} (hA : zInj ad n) (M : zMem) (t : Nat) (p0 : Int32) (p1 : Int32) (p2 : Int32) (p3 : Int32) (hT_t : zT shX n t 3) {M9 : zMem} (hF : F_X2_add M t p0 p1 p2 p3 = some M9) : zM l yX2_add cX2_add 5 none rm_X2_add G shX ad n M [.ref (ad t), .int p0, .int p1, .int p2, .int p3] none M9 := by
  refine zM_of hA (by decide +kernel) (lv := [(0, .ref (ad t)), (1, .int p0), (2, .int p1), (3, .int p2), (4, .int p3)]) (Nat.le_of_ble_eq_true rfl) rfl (fun p e s m args below meth c A cx hr => ?_)
  unfold F_X2_add at hF
  refine z_aload_n cx d_X2_add_0 0 rfl ?_
  refine z_getI cx hT_t fg_Job_33 d_X2_add_1 ?_
  refine z_sipush (v := 150) cx d_X2_add_4 ks_150 ?_
  refine z_icmp_ge cx 61 d_X2_add_7 (by decide) hF (fun hF => ?_) (fun hF => ?_)
  · exact z_vret cx hr hF d_X2_add_61
  refine z_aload_n cx d_X2_add_10 0 rfl ?_
  refine z_getR cx hT_t fg_Job_9 (t + 1) rfl d_X2_add_11 ?_
  refine z_aload_n cx d_X2_add_14 0 rfl ?_
  refine z_getI cx hT_t fg_Job_33 d_X2_add_15 ?_
  refine z_iload_n cx d_X2_add_18 1 rfl ?_
  obtain ⟨hi1, hF⟩ := gin_inv hF
  refine z_iast cx (tfX_3_1 hT_t) za_21 hi1 ((M.1 t 8).toNatClampNeg) rfl d_X2_add_19 ?_
  refine z_nmM hF (fun M2 hF => ?_)
  refine z_aload_n cx d_X2_add_20 0 rfl ?_
  refine z_getR cx hT_t fg_Job_15 (t + 2) rfl d_X2_add_21 ?_
  refine z_aload_n cx d_X2_add_24 0 rfl ?_
  refine z_getI cx hT_t fg_Job_33 d_X2_add_25 ?_
  refine z_iload_n cx d_X2_add_28 2 rfl ?_
  obtain ⟨hi3, hF⟩ := gin_inv hF
  refine z_iast cx (tfX_3_2 hT_t) za_21 hi3 ((M2.1 t 8).toNatClampNeg) rfl d_X2_add_29 ?_
  refine z_nmM hF (fun M4 hF => ?_)
  refine z_aload_n cx d_X2_add_30 0 rfl ?_
  refine z_getR cx hT_t fg_Job_18 (t + 3) rfl d_X2_add_31 ?_
  refine z_aload_n cx d_X2_add_34 0 rfl ?_
  refine z_getI cx hT_t fg_Job_33 d_X2_add_35 ?_
  refine z_iload_n cx d_X2_add_38 3 rfl ?_
  obtain ⟨hi5, hF⟩ := gin_inv hF
  refine z_iast cx (tfX_3_3 hT_t) za_21 hi5 ((M4.1 t 8).toNatClampNeg) rfl d_X2_add_39 ?_
  refine z_nmM hF (fun M6 hF => ?_)
  refine z_aload_n cx d_X2_add_40 0 rfl ?_
  refine z_getR cx hT_t fg_Job_21 (t + 4) rfl d_X2_add_41 ?_
  refine z_aload_n cx d_X2_add_44 0 rfl ?_
  refine z_getI cx hT_t fg_Job_33 d_X2_add_45 ?_
  refine z_iload cx d_X2_add_48 4 rfl ?_
  obtain ⟨hi7, hF⟩ := gin_inv hF
  refine z_iast cx (tfX_3_4 hT_t) za_21 hi7 ((M6.1 t 8).toNatClampNeg) rfl d_X2_add_50 ?_
  refine z_nmM hF (fun M8 hF => ?_)
  refine z_aload_n cx d_X2_add_51 0 rfl ?_
  refine z_dup cx d_X2_add_52 rfl ?_
  refine z_getI cx hT_t fg_Job_33 d_X2_add_53 ?_
  refine z_iconst (v := 1) cx d_X2_add_56 ki_1 ?_
  refine z_iadd cx d_X2_add_57 ?_
  refine z_putI cx hT_t fp_Job_33 d_X2_add_58 ?_
  refine z_nmM hF (fun M9 hF => ?_)
  exact z_vret cx hr hF d_X2_add_61
/-! SunnyPans$Job.closeAgain -/
theorem tfX_3_7 {n k : Nat} (h : zT shX n k 3) : zT shX n (k + 7) 22 := zT_off h (shX_f (by decide) (by decide +kernel)) (by decide) (by decide)
theorem tfX_3_5 {n k : Nat} (h : zT shX n k 3) : zT shX n (k + 5) 21 := zT_off h (shX_f (by decide) (by decide +kernel)) (by decide) (by decide)
theorem kb_6 : (Int8.ofInt (6)).toInt32 = (6 : Int32) := by decide +kernel
set_option maxRecDepth 100000 in
theorem wd_851 : Cond.code yX2_add cX2_add 5 none ∈ tbG := tw4 31 rfl rfl
set_option maxRecDepth 100000 in
theorem wd_848 : Cond.methodLink "SunnyPans$Job" 84 yX2_add ∈ tbG := tw4 28 rfl rfl
set_option maxRecDepth 100000 in
theorem wd_850 : Cond.instanceMethod yX2_add ∈ tbG := tw4 30 rfl rfl
theorem wd_16 : Cond.selects "SunnyPans$Job" yX2_add yX2_add ∈ tbG := tw 16 (by decide +kernel) rfl
set_option maxRecDepth 100000 in
theorem wd_105 : Cond.initialized "SunnyPans$Job" ∈ tbG := tw1 5 rfl rfl
theorem cv_Job_84 : zCV "SunnyPans$Job" 84 "SunnyPans$Job" yX2_add cX2_add 5 none 4 := zCV_of wd_848 wd_850 wd_16 wd_105 wd_851 (by decide +kernel)
theorem zo_3 : zObj "SunnyPans$Job" 3 := ⟨2, (RX2, TX2, 9), rfl, rfl, fun _ _ _ _ _ _ => ⟨_, rfl⟩⟩
theorem kb_93 : (Int8.ofInt (93)).toInt32 = (93 : Int32) := by decide +kernel
set_option maxRecDepth 100000 in
theorem wd_847 : Cond.methodLink "SunnyPans$Job" 108 yX8_sign ∈ tbG := tw4 27 rfl rfl
theorem cv_Job_108 : zCV "SunnyPans$Job" 108 "SunnyPans$Text" yX8_sign cX8_sign 2 none 1 := zCV_of wd_847 wd_724 wd_725 wd_102 wd_726 (by decide +kernel)
set_option maxRecDepth 100000 in
theorem wd_244 : Cond.fieldLink "SunnyPans$Job" 37 "SunnyPans$Job" "open" "I" ∈ tbG := tw1 144 rfl rfl
theorem fg_Job_37 : zGetI "SunnyPans$Job" 37 2 3 7 := ⟨RX2, TX2, 9, rfl, by decide, uw_2, wd_244, fun _ _ _ _ _ _ => ⟨_, rfl, rfl⟩⟩
theorem fp_Job_37 : zPutI "SunnyPans$Job" 37 2 3 7 := ⟨zc_2, fg_Job_37, ⟨RX2, TX2, 9, rfl, rfl, by decide +kernel⟩, fun _ _ _ _ _ _ _ => ⟨_, rfl, Nat.le_of_ble_eq_true rfl, rfl⟩⟩
set_option maxRecDepth 100000 in
theorem wd_243 : Cond.fieldLink "SunnyPans$Job" 30 "SunnyPans$Job" "openAt" "[I" ∈ tbG := tw1 143 rfl rfl
theorem fg_Job_30 : zGetR "SunnyPans$Job" 30 2 3 6 7 := ⟨RX2, TX2, 9, rfl, by decide, uw_2, wd_243, fun _ _ _ _ _ _ => ⟨_, rfl, rfl⟩⟩
theorem za_22 : zArrI 22 6 := fun _ _ _ _ _ _ => rfl
set_option maxRecDepth 100000 in
theorem wd_241 : Cond.fieldLink "SunnyPans$Job" 24 "SunnyPans$Job" "mate" "[I" ∈ tbG := tw1 141 rfl rfl
theorem fg_Job_24 : zGetR "SunnyPans$Job" 24 2 3 4 5 := ⟨RX2, TX2, 9, rfl, by decide, uw_2, wd_241, fun _ _ _ _ _ _ => ⟨_, rfl, rfl⟩⟩
theorem d_X2_closeAgain_0 : decode cX2_closeAgain 0 = .ok (.aload_n 1, 1) := by decide +kernel
theorem d_X2_closeAgain_1 : decode cX2_closeAgain 1 = .ok (.bipush 93, 2) := by decide +kernel
theorem d_X2_closeAgain_3 : decode cX2_closeAgain 3 = .ok (.invokevirtual 108, 3) := by decide +kernel
theorem d_X2_closeAgain_6 : decode cX2_closeAgain 6 = .ok (.aload_n 1, 1) := by decide +kernel
theorem d_X2_closeAgain_7 : decode cX2_closeAgain 7 = .ok (.bipush 59, 2) := by decide +kernel
theorem d_X2_closeAgain_9 : decode cX2_closeAgain 9 = .ok (.invokevirtual 108, 3) := by decide +kernel
theorem d_X2_closeAgain_12 : decode cX2_closeAgain 12 = .ok (.aload_n 0, 1) := by decide +kernel
theorem d_X2_closeAgain_13 : decode cX2_closeAgain 13 = .ok (.dup, 1) := by decide +kernel
theorem d_X2_closeAgain_14 : decode cX2_closeAgain 14 = .ok (.getfield 37, 3) := by decide +kernel
theorem d_X2_closeAgain_17 : decode cX2_closeAgain 17 = .ok (.iconst 1, 1) := by decide +kernel
theorem d_X2_closeAgain_18 : decode cX2_closeAgain 18 = .ok (.isub, 1) := by decide +kernel
theorem d_X2_closeAgain_19 : decode cX2_closeAgain 19 = .ok (.putfield 37, 3) := by decide +kernel
theorem d_X2_closeAgain_22 : decode cX2_closeAgain 22 = .ok (.aload_n 0, 1) := by decide +kernel
theorem d_X2_closeAgain_23 : decode cX2_closeAgain 23 = .ok (.getfield 30, 3) := by decide +kernel
theorem d_X2_closeAgain_26 : decode cX2_closeAgain 26 = .ok (.aload_n 0, 1) := by decide +kernel
theorem d_X2_closeAgain_27 : decode cX2_closeAgain 27 = .ok (.getfield 37, 3) := by decide +kernel
theorem d_X2_closeAgain_30 : decode cX2_closeAgain 30 = .ok (.iaload, 1) := by decide +kernel
theorem d_X2_closeAgain_31 : decode cX2_closeAgain 31 = .ok (.istore_n 2, 1) := by decide +kernel
theorem d_X2_closeAgain_32 : decode cX2_closeAgain 32 = .ok (.iload_n 2, 1) := by decide +kernel
theorem d_X2_closeAgain_33 : decode cX2_closeAgain 33 = .ok (.sipush 150, 3) := by decide +kernel
theorem d_X2_closeAgain_36 : decode cX2_closeAgain 36 = .ok (.if_icmp .ge 33, 3) := by decide +kernel
theorem d_X2_closeAgain_39 : decode cX2_closeAgain 39 = .ok (.aload_n 0, 1) := by decide +kernel
theorem d_X2_closeAgain_40 : decode cX2_closeAgain 40 = .ok (.getfield 33, 3) := by decide +kernel
theorem d_X2_closeAgain_43 : decode cX2_closeAgain 43 = .ok (.sipush 150, 3) := by decide +kernel
theorem d_X2_closeAgain_46 : decode cX2_closeAgain 46 = .ok (.if_icmp .ge 23, 3) := by decide +kernel
theorem d_X2_closeAgain_49 : decode cX2_closeAgain 49 = .ok (.aload_n 0, 1) := by decide +kernel
theorem d_X2_closeAgain_50 : decode cX2_closeAgain 50 = .ok (.getfield 24, 3) := by decide +kernel
theorem d_X2_closeAgain_53 : decode cX2_closeAgain 53 = .ok (.iload_n 2, 1) := by decide +kernel
theorem d_X2_closeAgain_54 : decode cX2_closeAgain 54 = .ok (.aload_n 0, 1) := by decide +kernel
theorem d_X2_closeAgain_55 : decode cX2_closeAgain 55 = .ok (.getfield 33, 3) := by decide +kernel
theorem d_X2_closeAgain_58 : decode cX2_closeAgain 58 = .ok (.iastore, 1) := by decide +kernel
theorem d_X2_closeAgain_59 : decode cX2_closeAgain 59 = .ok (.aload_n 0, 1) := by decide +kernel
theorem d_X2_closeAgain_60 : decode cX2_closeAgain 60 = .ok (.getfield 24, 3) := by decide +kernel
theorem d_X2_closeAgain_63 : decode cX2_closeAgain 63 = .ok (.aload_n 0, 1) := by decide +kernel
theorem d_X2_closeAgain_64 : decode cX2_closeAgain 64 = .ok (.getfield 33, 3) := by decide +kernel
theorem d_X2_closeAgain_67 : decode cX2_closeAgain 67 = .ok (.iload_n 2, 1) := by decide +kernel
theorem d_X2_closeAgain_68 : decode cX2_closeAgain 68 = .ok (.iastore, 1) := by decide +kernel
theorem d_X2_closeAgain_69 : decode cX2_closeAgain 69 = .ok (.aload_n 0, 1) := by decide +kernel
theorem d_X2_closeAgain_70 : decode cX2_closeAgain 70 = .ok (.bipush 6, 2) := by decide +kernel
theorem d_X2_closeAgain_72 : decode cX2_closeAgain 72 = .ok (.iconst 0, 1) := by decide +kernel
theorem d_X2_closeAgain_73 : decode cX2_closeAgain 73 = .ok (.iconst 0, 1) := by decide +kernel
theorem d_X2_closeAgain_74 : decode cX2_closeAgain 74 = .ok (.iconst 0, 1) := by decide +kernel
theorem d_X2_closeAgain_75 : decode cX2_closeAgain 75 = .ok (.invokevirtual 84, 3) := by decide +kernel
theorem d_X2_closeAgain_78 : decode cX2_closeAgain 78 = .ok (.return_, 1) := by decide +kernel
noncomputable def F_X2_closeAgain_69 (t : Nat) (p0 : Nat) (M : zMem) : Option (zMem) :=
  zbv (F_X2_add M t (6 : Int32) (0 : Int32) (0 : Int32) (0 : Int32)) fun M1 =>
  some M1
noncomputable def F_X2_closeAgain (M : zMem) (t : Nat) (p0 : Nat) : Option (zMem) :=
  zbv (F_X8_sign M p0 (93 : Int32)) fun M2 =>
  zbv (F_X8_sign M2 p0 (59 : Int32)) fun M3 =>
  zl (zI M3 t 7 ((M3.1 t 7) - (1 : Int32))) fun M4 =>
  gin (M4.1 t 7) 6 <|
  zl (M4.1 (t + 7) (M4.1 t 7).toNatClampNeg) fun v6 =>
  if (150 : Int32) ≤ v6 then
    F_X2_closeAgain_69 t p0 M4
  else
    if (150 : Int32) ≤ (M4.1 t 8) then
      F_X2_closeAgain_69 t p0 M4
    else
      gin v6 150 <|
      zl (zI M4 (t + 5) v6.toNatClampNeg (M4.1 t 8)) fun M8 =>
      gin (M8.1 t 8) 150 <|
      zl (zI M8 (t + 5) ((M8.1 t 8).toNatClampNeg) v6) fun M10 =>
      F_X2_closeAgain_69 t p0 M10
def rm_X2_closeAgain : Room := { frames := 5, cells := 0, slots := 0, locals := 142 }
set_option maxHeartbeats 4000000 in
set_option maxRecDepth 100000 in
theorem c_X2_closeAgain (l : Launch) {G : zG} {ad : Nat → Nat} {n : Nat} (hA : zInj ad n) (M : zMem) (t : Nat) (p0 : Nat) (hT_t : zT shX n t 3) (hT_p0 : zT shX n p0 9) {M9 : zMem} (hF : F_X2_closeAgain M t p0 = some M9) : zM l yX2_closeAgain cX2_closeAgain 3 none rm_X2_closeAgain G shX ad n M [.ref (ad t), .ref (ad p0)] none M9 := by
  refine zM_of hA (by decide +kernel) (lv := [(0, .ref (ad t)), (1, .ref (ad p0))]) (Nat.le_of_ble_eq_true rfl) rfl (fun p e s m args below meth c A cx hr => ?_)
  have hb69 : ∀ (M : zMem), F_X2_closeAgain_69 t p0 M = some M9 → zJ p l e rm_X2_closeAgain s m args below meth c G shX ad n A 3 (MQ below (zQ G shX ad n M9 none A) args s 0 0 A) 0 0 M 69 [(0, .ref (ad t))] [] := by
    intro M hF
    unfold F_X2_closeAgain_69 at hF
    refine z_aload_n cx d_X2_closeAgain_69 0 rfl ?_
    refine z_bipush (v := 6) cx d_X2_closeAgain_70 kb_6 ?_
    refine z_iconst (v := 0) cx d_X2_closeAgain_72 ki_0 ?_
    refine z_iconst (v := 0) cx d_X2_closeAgain_73 ki_0 ?_
    refine z_iconst (v := 0) cx d_X2_closeAgain_74 ki_0 ?_
    obtain ⟨M1, hc, hF⟩ := zbv_inv hF
    refine z_callV cx (As := [.int (6 : Int32), .int (0 : Int32), .int (0 : Int32), .int (0 : Int32)]) (rest := []) (c_X2_add l cx.2.2.2.1.1 M t (6 : Int32) (0 : Int32) (0 : Int32) (0 : Int32) hT_t hc) hT_t zo_3 cv_Job_84 ⟨rfl, rfl, Nat.le_of_ble_eq_true rfl, Nat.le_of_ble_eq_true rfl⟩ rfl rfl ⟨Nat.zero_le _, Nat.zero_le _⟩ (Nat.le_of_ble_eq_true rfl) d_X2_closeAgain_75 ?_
    exact z_vret cx hr hF d_X2_closeAgain_78
  unfold F_X2_closeAgain at hF
  refine z_aload_n cx d_X2_closeAgain_0 1 rfl ?_
  refine z_bipush (v := 93) cx d_X2_closeAgain_1 kb_93 ?_
  obtain ⟨M2, hc, hF⟩ := zbv_inv hF
  refine z_callV cx (As := [.int (93 : Int32)]) (rest := []) (c_X8_sign l cx.2.2.2.1.1 M p0 (93 : Int32) hT_p0 hc) hT_p0 zo_9 cv_Job_108 ⟨rfl, rfl, Nat.le_of_ble_eq_true rfl, Nat.le_of_ble_eq_true rfl⟩ rfl rfl ⟨Nat.zero_le _, Nat.zero_le _⟩ (Nat.le_of_ble_eq_true rfl) d_X2_closeAgain_3 ?_
  refine z_aload_n cx d_X2_closeAgain_6 1 rfl ?_
  refine z_bipush (v := 59) cx d_X2_closeAgain_7 kb_59 ?_
  obtain ⟨M3, hc, hF⟩ := zbv_inv hF
  refine z_callV cx (As := [.int (59 : Int32)]) (rest := []) (c_X8_sign l cx.2.2.2.1.1 M2 p0 (59 : Int32) hT_p0 hc) hT_p0 zo_9 cv_Job_108 ⟨rfl, rfl, Nat.le_of_ble_eq_true rfl, Nat.le_of_ble_eq_true rfl⟩ rfl rfl ⟨Nat.zero_le _, Nat.zero_le _⟩ (Nat.le_of_ble_eq_true rfl) d_X2_closeAgain_9 ?_
  refine z_aload_n cx d_X2_closeAgain_12 0 rfl ?_
  refine z_dup cx d_X2_closeAgain_13 rfl ?_
  refine z_getI cx hT_t fg_Job_37 d_X2_closeAgain_14 ?_
  refine z_iconst (v := 1) cx d_X2_closeAgain_17 ki_1 ?_
  refine z_isub cx d_X2_closeAgain_18 ?_
  refine z_putI cx hT_t fp_Job_37 d_X2_closeAgain_19 ?_
  refine z_nmM hF (fun M4 hF => ?_)
  refine z_aload_n cx d_X2_closeAgain_22 0 rfl ?_
  refine z_getR cx hT_t fg_Job_30 (t + 7) rfl d_X2_closeAgain_23 ?_
  refine z_aload_n cx d_X2_closeAgain_26 0 rfl ?_
  refine z_getI cx hT_t fg_Job_37 d_X2_closeAgain_27 ?_
  obtain ⟨hi5, hF⟩ := gin_inv hF
  refine z_iald cx (tfX_3_7 hT_t) za_22 hi5 ((M4.1 t 7).toNatClampNeg) rfl d_X2_closeAgain_30 ?_
  refine z_nm hF (fun v6 hF => ?_)
  refine z_istore_n cx 2 [(2, .int v6), (0, .ref (ad t)), (1, .ref (ad p0))] d_X2_closeAgain_31 rfl (by decide) rfl ?_
  refine z_iload_n cx d_X2_closeAgain_32 0 rfl ?_
  refine z_sipush (v := 150) cx d_X2_closeAgain_33 ks_150 ?_
  refine z_icmp_ge cx 69 d_X2_closeAgain_36 (by decide) hF (fun hF => ?_) (fun hF => ?_)
  · exact z_lv [1] _ rfl (hb69 M4 hF)
  refine z_aload_n cx d_X2_closeAgain_39 1 rfl ?_
  refine z_getI cx hT_t fg_Job_33 d_X2_closeAgain_40 ?_
  refine z_sipush (v := 150) cx d_X2_closeAgain_43 ks_150 ?_
  refine z_icmp_ge cx 69 d_X2_closeAgain_46 (by decide) hF (fun hF => ?_) (fun hF => ?_)
  · exact z_lv [1] _ rfl (hb69 M4 hF)
  refine z_aload_n cx d_X2_closeAgain_49 1 rfl ?_
  refine z_getR cx hT_t fg_Job_24 (t + 5) rfl d_X2_closeAgain_50 ?_
  refine z_iload_n cx d_X2_closeAgain_53 0 rfl ?_
  refine z_aload_n cx d_X2_closeAgain_54 1 rfl ?_
  refine z_getI cx hT_t fg_Job_33 d_X2_closeAgain_55 ?_
  obtain ⟨hi7, hF⟩ := gin_inv hF
  refine z_iast cx (tfX_3_5 hT_t) za_21 hi7 v6.toNatClampNeg rfl d_X2_closeAgain_58 ?_
  refine z_nmM hF (fun M8 hF => ?_)
  refine z_aload_n cx d_X2_closeAgain_59 1 rfl ?_
  refine z_getR cx hT_t fg_Job_24 (t + 5) rfl d_X2_closeAgain_60 ?_
  refine z_aload_n cx d_X2_closeAgain_63 1 rfl ?_
  refine z_getI cx hT_t fg_Job_33 d_X2_closeAgain_64 ?_
  refine z_iload_n cx d_X2_closeAgain_67 0 rfl ?_
  obtain ⟨hi9, hF⟩ := gin_inv hF
  refine z_iast cx (tfX_3_5 hT_t) za_21 hi9 ((M8.1 t 8).toNatClampNeg) rfl d_X2_closeAgain_68 ?_
  refine z_nmM hF (fun M10 hF => ?_)
  exact z_lv [1] _ rfl (hb69 M10 hF)
/-! SunnyPans$Text.isLetter -/
theorem kb_97 : (Int8.ofInt (97)).toInt32 = (97 : Int32) := by decide +kernel
theorem kb_122 : (Int8.ofInt (122)).toInt32 = (122 : Int32) := by decide +kernel
theorem d_X8_isLetter_0 : decode cX8_isLetter 0 = .ok (.iload_n 0, 1) := by decide +kernel
theorem d_X8_isLetter_1 : decode cX8_isLetter 1 = .ok (.bipush 97, 2) := by decide +kernel
theorem d_X8_isLetter_3 : decode cX8_isLetter 3 = .ok (.if_icmp .lt 13, 3) := by decide +kernel
theorem d_X8_isLetter_6 : decode cX8_isLetter 6 = .ok (.iload_n 0, 1) := by decide +kernel
theorem d_X8_isLetter_7 : decode cX8_isLetter 7 = .ok (.bipush 122, 2) := by decide +kernel
theorem d_X8_isLetter_9 : decode cX8_isLetter 9 = .ok (.if_icmp .gt 7, 3) := by decide +kernel
theorem d_X8_isLetter_12 : decode cX8_isLetter 12 = .ok (.iconst 1, 1) := by decide +kernel
theorem d_X8_isLetter_13 : decode cX8_isLetter 13 = .ok (.goto 4, 3) := by decide +kernel
theorem d_X8_isLetter_16 : decode cX8_isLetter 16 = .ok (.iconst 0, 1) := by decide +kernel
theorem d_X8_isLetter_17 : decode cX8_isLetter 17 = .ok (.ireturn, 1) := by decide +kernel
noncomputable def F_X8_isLetter (M : zMem) (p0 : Int32) : Option (Int32 × zMem) :=
  if p0 < (97 : Int32) then
    some ((0 : Int32), M)
  else
    if (122 : Int32) < p0 then
      some ((0 : Int32), M)
    else
      some ((1 : Int32), M)
def rm_X8_isLetter : Room := { frames := 2, cells := 0, slots := 0, locals := 80 }
set_option maxHeartbeats 4000000 in
set_option maxRecDepth 100000 in
theorem c_X8_isLetter (l : Launch) {G : zG} {ad : Nat → Nat} {n : Nat} (hA : zInj ad n) (M : zMem) (p0 : Int32) {r9 : Int32} {M9 : zMem} (hF : F_X8_isLetter M p0 = some (r9, M9)) : zM l yX8_isLetter cX8_isLetter 1 (some .boolean) rm_X8_isLetter G shX ad n M [.int p0] (some (.int r9)) M9 := by
  refine zM_of hA (by decide +kernel) (lv := [(0, .int p0)]) (Nat.le_of_ble_eq_true rfl) rfl (fun p e s m args below meth c A cx hr => ?_)
  unfold F_X8_isLetter at hF
  refine z_iload_n cx d_X8_isLetter_0 0 rfl ?_
  refine z_bipush (v := 97) cx d_X8_isLetter_1 kb_97 ?_
  refine z_icmp_lt cx 16 d_X8_isLetter_3 (by decide) hF (fun hF => ?_) (fun hF => ?_)
  · refine z_iconst (v := 0) cx d_X8_isLetter_16 ki_0 ?_
    exact z_iret cx hr nb0 hF d_X8_isLetter_17
  refine z_iload_n cx d_X8_isLetter_6 0 rfl ?_
  refine z_bipush (v := 122) cx d_X8_isLetter_7 kb_122 ?_
  refine z_icmp_gt cx 16 d_X8_isLetter_9 (by decide) hF (fun hF => ?_) (fun hF => ?_)
  · refine z_iconst (v := 0) cx d_X8_isLetter_16 ki_0 ?_
    exact z_iret cx hr nb0 hF d_X8_isLetter_17
  refine z_iconst (v := 1) cx d_X8_isLetter_12 ki_1 ?_
  refine z_goto cx 17 d_X8_isLetter_13 (by decide) ?_
  exact z_iret cx hr nb1 hF d_X8_isLetter_17
/-! SunnyPans$Text.word -/
set_option maxRecDepth 100000 in
theorem wd_633 : Cond.code yX8_isLetter cX8_isLetter 1 (some .boolean) ∈ tbG := tw3 53 rfl rfl
set_option maxRecDepth 100000 in
theorem wd_631 : Cond.methodLink "SunnyPans$Text" 73 yX8_isLetter ∈ tbG := tw3 51 rfl rfl
set_option maxRecDepth 100000 in
theorem wd_632 : Cond.static yX8_isLetter ∈ tbG := tw3 52 rfl rfl
theorem cs_Text_73 : zCS "SunnyPans$Text" 73 yX8_isLetter cX8_isLetter 1 (some .boolean) 1 := zCS_of wd_631 wd_632 wd_102 wd_633 (by decide +kernel)
set_option maxRecDepth 100000 in
theorem wd_148 : Cond.fieldLink "SunnyPans$Text" 70 "SunnyPans$Text" "wordFrom" "I" ∈ tbG := tw1 48 rfl rfl
theorem fg_Text_70 : zGetI "SunnyPans$Text" 70 8 9 4 := ⟨RX8, TX8, 8, rfl, by decide, uw_8, wd_148, fun _ _ _ _ _ _ => ⟨_, rfl, rfl⟩⟩
theorem fp_Text_70 : zPutI "SunnyPans$Text" 70 8 9 4 := ⟨zc_8, fg_Text_70, ⟨RX8, TX8, 8, rfl, rfl, by decide +kernel⟩, fun _ _ _ _ _ _ _ => ⟨_, rfl, Nat.le_of_ble_eq_true rfl, rfl⟩⟩
theorem d_X8_word_0 : decode cX8_word 0 = .ok (.aload_n 0, 1) := by decide +kernel
theorem d_X8_word_1 : decode cX8_word 1 = .ok (.invokevirtual 40, 3) := by decide +kernel
theorem d_X8_word_4 : decode cX8_word 4 = .ok (.aload_n 0, 1) := by decide +kernel
theorem d_X8_word_5 : decode cX8_word 5 = .ok (.aload_n 0, 1) := by decide +kernel
theorem d_X8_word_6 : decode cX8_word 6 = .ok (.getfield 34, 3) := by decide +kernel
theorem d_X8_word_9 : decode cX8_word 9 = .ok (.putfield 70, 3) := by decide +kernel
theorem d_X8_word_12 : decode cX8_word 12 = .ok (.aload_n 0, 1) := by decide +kernel
theorem d_X8_word_13 : decode cX8_word 13 = .ok (.getfield 34, 3) := by decide +kernel
theorem d_X8_word_16 : decode cX8_word 16 = .ok (.aload_n 0, 1) := by decide +kernel
theorem d_X8_word_17 : decode cX8_word 17 = .ok (.getfield 31, 3) := by decide +kernel
theorem d_X8_word_20 : decode cX8_word 20 = .ok (.if_icmp .ge 33, 3) := by decide +kernel
theorem d_X8_word_23 : decode cX8_word 23 = .ok (.aload_n 0, 1) := by decide +kernel
theorem d_X8_word_24 : decode cX8_word 24 = .ok (.invokevirtual 47, 3) := by decide +kernel
theorem d_X8_word_27 : decode cX8_word 27 = .ok (.invokestatic 73, 3) := by decide +kernel
theorem d_X8_word_30 : decode cX8_word 30 = .ok (.ifCond .eq 23, 3) := by decide +kernel
theorem d_X8_word_33 : decode cX8_word 33 = .ok (.aload_n 0, 1) := by decide +kernel
theorem d_X8_word_34 : decode cX8_word 34 = .ok (.getfield 37, 3) := by decide +kernel
theorem d_X8_word_37 : decode cX8_word 37 = .ok (.ifCond .ne 16, 3) := by decide +kernel
theorem d_X8_word_40 : decode cX8_word 40 = .ok (.aload_n 0, 1) := by decide +kernel
theorem d_X8_word_41 : decode cX8_word 41 = .ok (.dup, 1) := by decide +kernel
theorem d_X8_word_42 : decode cX8_word 42 = .ok (.getfield 34, 3) := by decide +kernel
theorem d_X8_word_45 : decode cX8_word 45 = .ok (.iconst 1, 1) := by decide +kernel
theorem d_X8_word_46 : decode cX8_word 46 = .ok (.iadd, 1) := by decide +kernel
theorem d_X8_word_47 : decode cX8_word 47 = .ok (.putfield 34, 3) := by decide +kernel
theorem d_X8_word_50 : decode cX8_word 50 = .ok (.goto (-38), 3) := by decide +kernel
theorem d_X8_word_53 : decode cX8_word 53 = .ok (.return_, 1) := by decide +kernel
noncomputable def F_X8_word_12 (t : Nat) (self12 : zMem → Option (zMem)) (M : zMem) : Option (zMem) :=
  if (M.1 t 6) ≤ (M.1 t 7) then
    some M
  else
    zb (F_X8_peek M t) fun v2 M1 =>
    zb (F_X8_isLetter M1 v2) fun v4 M3 =>
    if v4 = 0 then
      some M3
    else
      if (M3.1 t 2) = 0 then
        zl (zI M3 t 7 ((M3.1 t 7) + (1 : Int32))) fun M5 =>
        self12  M5
      else
        some M3
noncomputable def F_X8_word (M : zMem) (t : Nat) : Option (zMem) :=
  zbv (F_X8_skipBlanks M t) fun M6 =>
  zl (zI M6 t 4 (M6.1 t 7)) fun M7 =>
  itF (fun _ => none) (F_X8_word_12 t) zFuel  M7
def rm_X8_word : Room := { frames := 3, cells := 0, slots := 0, locals := 100 }
set_option maxHeartbeats 4000000 in
set_option maxRecDepth 100000 in
theorem c_X8_word (l : Launch) {G : zG} {ad : Nat → Nat} {n : Nat} (hA : zInj ad n) (M : zMem) (t : Nat) (hT_t : zT shX n t 9) {M9 : zMem} (hF : F_X8_word M t = some M9) : zM l yX8_word cX8_word 1 none rm_X8_word G shX ad n M [.ref (ad t)] none M9 := by
  refine zM_of hA (by decide +kernel) (lv := [(0, .ref (ad t))]) (Nat.le_of_ble_eq_true rfl) rfl (fun p e s m args below meth c A cx hr => ?_)
  have hL12 : ∀ (fuel : Nat), ∀ (M : zMem), itF (fun _ => none) (F_X8_word_12 t) fuel M = some M9 → zJ p l e rm_X8_word s m args below meth c G shX ad n A 1 (MQ below (zQ G shX ad n M9 none A) args s 0 0 A) 0 0 M 12 [(0, .ref (ad t))] [] := by
    intro fuel
    induction fuel with
    | zero => intro M hF; cases hF
    | succ fuel hs12 =>
      intro M hF
      have hF : F_X8_word_12 t (itF (fun _ => none) (F_X8_word_12 t) fuel) M = some M9 := hF
      generalize itF (fun _ => none) (F_X8_word_12 t) fuel = self12 at hs12 hF
      unfold F_X8_word_12 at hF
      refine z_aload_n cx d_X8_word_12 0 rfl ?_
      refine z_getI cx hT_t fg_Text_34 d_X8_word_13 ?_
      refine z_aload_n cx d_X8_word_16 0 rfl ?_
      refine z_getI cx hT_t fg_Text_31 d_X8_word_17 ?_
      refine z_icmp_ge cx 53 d_X8_word_20 (by decide) hF (fun hF => ?_) (fun hF => ?_)
      · exact z_vret cx hr hF d_X8_word_53
      refine z_aload_n cx d_X8_word_23 0 rfl ?_
      obtain ⟨v2, M1, hc, hF⟩ := zb_inv hF
      refine z_callV cx (As := []) (rest := []) (c_X8_peek l cx.2.2.2.1.1 M t hT_t hc) hT_t zo_9 cv_Text_47 ⟨rfl, rfl, Nat.le_of_ble_eq_true rfl, Nat.le_of_ble_eq_true rfl⟩ rfl rfl ⟨Nat.zero_le _, Nat.zero_le _⟩ (Nat.le_of_ble_eq_true rfl) d_X8_word_24 ?_
      obtain ⟨v4, M3, hc, hF⟩ := zb_inv hF
      refine z_callS cx (As := [.int v2]) (rest := []) (c_X8_isLetter l cx.2.2.2.1.1 M1 v2  hc) cs_Text_73 ⟨rfl, rfl, Nat.le_of_ble_eq_true rfl, Nat.le_of_ble_eq_true rfl⟩ rfl rfl ⟨Nat.zero_le _, Nat.zero_le _⟩ (Nat.le_of_ble_eq_true rfl) d_X8_word_27 ?_
      refine z_if_eq cx 53 d_X8_word_30 (by decide) hF (fun hF => ?_) (fun hF => ?_)
      · exact z_vret cx hr hF d_X8_word_53
      refine z_aload_n cx d_X8_word_33 0 rfl ?_
      refine z_getI cx hT_t fg_Text_37 d_X8_word_34 ?_
      refine z_if_ne cx 53 d_X8_word_37 (by decide) hF (fun hF => ?_) (fun hF => ?_)
      · exact z_vret cx hr hF d_X8_word_53
      refine z_aload_n cx d_X8_word_40 0 rfl ?_
      refine z_dup cx d_X8_word_41 rfl ?_
      refine z_getI cx hT_t fg_Text_34 d_X8_word_42 ?_
      refine z_iconst (v := 1) cx d_X8_word_45 ki_1 ?_
      refine z_iadd cx d_X8_word_46 ?_
      refine z_putI cx hT_t fp_Text_34 d_X8_word_47 ?_
      refine z_nmM hF (fun M5 hF => ?_)
      refine z_goto cx 12 d_X8_word_50 (by decide) ?_
      exact hs12 M5 hF
  unfold F_X8_word at hF
  refine z_aload_n cx d_X8_word_0 0 rfl ?_
  obtain ⟨M6, hc, hF⟩ := zbv_inv hF
  refine z_callV cx (As := []) (rest := []) (c_X8_skipBlanks l cx.2.2.2.1.1 M t hT_t hc) hT_t zo_9 cv_Text_40 ⟨rfl, rfl, Nat.le_of_ble_eq_true rfl, Nat.le_of_ble_eq_true rfl⟩ rfl rfl ⟨Nat.zero_le _, Nat.zero_le _⟩ (Nat.le_of_ble_eq_true rfl) d_X8_word_1 ?_
  refine z_aload_n cx d_X8_word_4 0 rfl ?_
  refine z_aload_n cx d_X8_word_5 0 rfl ?_
  refine z_getI cx hT_t fg_Text_34 d_X8_word_6 ?_
  refine z_putI cx hT_t fp_Text_70 d_X8_word_9 ?_
  refine z_nmM hF (fun M7 hF => ?_)
  exact hL12 zFuel M7 hF
/-! SunnyPans$Text.wordIs -/
set_option maxRecDepth 100000 in
theorem wd_639 : Cond.methodLink "SunnyPans$Text" 76 yJ0_length_8abf5 ∈ tbG := tw3 59 rfl rfl
set_option maxRecDepth 100000 in
theorem wd_640 : Cond.instanceMethod yJ0_length_8abf5 ∈ tbG := tw3 60 rfl rfl
set_option maxRecDepth 100000 in
theorem wd_641 : Cond.selects "java/lang/String" yJ0_length_8abf5 yJ0_length_8abf5 ∈ tbG := tw3 61 rfl rfl
set_option maxRecDepth 100000 in
theorem wd_642 : Cond.code yJ0_length_8abf5 cJ0_length_8abf5 1 (some .int) ∈ tbG := tw3 62 rfl rfl
theorem ck_Text_76 : zCV "SunnyPans$Text" 76 "java/lang/String" yJ0_length_8abf5 cJ0_length_8abf5 1 (some .int) 0 := zCV_of wd_639 wd_640 wd_641 wd_117 wd_642 (by decide +kernel)
set_option maxRecDepth 100000 in
theorem wd_649 : Cond.methodLink "SunnyPans$Text" 81 yJ0_charAt_5068e ∈ tbG := tw3 69 rfl rfl
set_option maxRecDepth 100000 in
theorem wd_650 : Cond.instanceMethod yJ0_charAt_5068e ∈ tbG := tw3 70 rfl rfl
set_option maxRecDepth 100000 in
theorem wd_651 : Cond.selects "java/lang/String" yJ0_charAt_5068e yJ0_charAt_5068e ∈ tbG := tw3 71 rfl rfl
set_option maxRecDepth 100000 in
theorem wd_652 : Cond.code yJ0_charAt_5068e cJ0_charAt_5068e 2 (some .char) ∈ tbG := tw3 72 rfl rfl
theorem ck_Text_81 : zCV "SunnyPans$Text" 81 "java/lang/String" yJ0_charAt_5068e cJ0_charAt_5068e 2 (some .char) 1 := zCV_of wd_649 wd_650 wd_651 wd_117 wd_652 (by decide +kernel)
theorem d_X8_wordIs_0 : decode cX8_wordIs 0 = .ok (.aload_n 0, 1) := by decide +kernel
theorem d_X8_wordIs_1 : decode cX8_wordIs 1 = .ok (.getfield 37, 3) := by decide +kernel
theorem d_X8_wordIs_4 : decode cX8_wordIs 4 = .ok (.ifCond .ne 19, 3) := by decide +kernel
theorem d_X8_wordIs_7 : decode cX8_wordIs 7 = .ok (.aload_n 1, 1) := by decide +kernel
theorem d_X8_wordIs_8 : decode cX8_wordIs 8 = .ok (.invokevirtual 76, 3) := by decide +kernel
theorem d_X8_wordIs_11 : decode cX8_wordIs 11 = .ok (.aload_n 0, 1) := by decide +kernel
theorem d_X8_wordIs_12 : decode cX8_wordIs 12 = .ok (.getfield 34, 3) := by decide +kernel
theorem d_X8_wordIs_15 : decode cX8_wordIs 15 = .ok (.aload_n 0, 1) := by decide +kernel
theorem d_X8_wordIs_16 : decode cX8_wordIs 16 = .ok (.getfield 70, 3) := by decide +kernel
theorem d_X8_wordIs_19 : decode cX8_wordIs 19 = .ok (.isub, 1) := by decide +kernel
theorem d_X8_wordIs_20 : decode cX8_wordIs 20 = .ok (.if_icmp .eq 5, 3) := by decide +kernel
theorem d_X8_wordIs_23 : decode cX8_wordIs 23 = .ok (.iconst 0, 1) := by decide +kernel
theorem d_X8_wordIs_24 : decode cX8_wordIs 24 = .ok (.ireturn, 1) := by decide +kernel
theorem d_X8_wordIs_25 : decode cX8_wordIs 25 = .ok (.iconst 0, 1) := by decide +kernel
theorem d_X8_wordIs_26 : decode cX8_wordIs 26 = .ok (.istore_n 2, 1) := by decide +kernel
theorem d_X8_wordIs_27 : decode cX8_wordIs 27 = .ok (.iload_n 2, 1) := by decide +kernel
theorem d_X8_wordIs_28 : decode cX8_wordIs 28 = .ok (.aload_n 1, 1) := by decide +kernel
theorem d_X8_wordIs_29 : decode cX8_wordIs 29 = .ok (.invokevirtual 76, 3) := by decide +kernel
theorem d_X8_wordIs_32 : decode cX8_wordIs 32 = .ok (.if_icmp .ge 45, 3) := by decide +kernel
theorem d_X8_wordIs_35 : decode cX8_wordIs 35 = .ok (.aload_n 0, 1) := by decide +kernel
theorem d_X8_wordIs_36 : decode cX8_wordIs 36 = .ok (.getfield 70, 3) := by decide +kernel
theorem d_X8_wordIs_39 : decode cX8_wordIs 39 = .ok (.iload_n 2, 1) := by decide +kernel
theorem d_X8_wordIs_40 : decode cX8_wordIs 40 = .ok (.iadd, 1) := by decide +kernel
theorem d_X8_wordIs_41 : decode cX8_wordIs 41 = .ok (.istore_n 3, 1) := by decide +kernel
theorem d_X8_wordIs_42 : decode cX8_wordIs 42 = .ok (.iload_n 3, 1) := by decide +kernel
theorem d_X8_wordIs_43 : decode cX8_wordIs 43 = .ok (.ifCond .lt 26, 3) := by decide +kernel
theorem d_X8_wordIs_46 : decode cX8_wordIs 46 = .ok (.iload_n 3, 1) := by decide +kernel
theorem d_X8_wordIs_47 : decode cX8_wordIs 47 = .ok (.aload_n 0, 1) := by decide +kernel
theorem d_X8_wordIs_48 : decode cX8_wordIs 48 = .ok (.getfield 9, 3) := by decide +kernel
theorem d_X8_wordIs_51 : decode cX8_wordIs 51 = .ok (.arraylength, 1) := by decide +kernel
theorem d_X8_wordIs_52 : decode cX8_wordIs 52 = .ok (.if_icmp .ge 17, 3) := by decide +kernel
theorem d_X8_wordIs_55 : decode cX8_wordIs 55 = .ok (.aload_n 0, 1) := by decide +kernel
theorem d_X8_wordIs_56 : decode cX8_wordIs 56 = .ok (.getfield 9, 3) := by decide +kernel
theorem d_X8_wordIs_59 : decode cX8_wordIs 59 = .ok (.iload_n 3, 1) := by decide +kernel
theorem d_X8_wordIs_60 : decode cX8_wordIs 60 = .ok (.iaload, 1) := by decide +kernel
theorem d_X8_wordIs_61 : decode cX8_wordIs 61 = .ok (.aload_n 1, 1) := by decide +kernel
theorem d_X8_wordIs_62 : decode cX8_wordIs 62 = .ok (.iload_n 2, 1) := by decide +kernel
theorem d_X8_wordIs_63 : decode cX8_wordIs 63 = .ok (.invokevirtual 81, 3) := by decide +kernel
theorem d_X8_wordIs_66 : decode cX8_wordIs 66 = .ok (.if_icmp .eq 5, 3) := by decide +kernel
theorem d_X8_wordIs_69 : decode cX8_wordIs 69 = .ok (.iconst 0, 1) := by decide +kernel
theorem d_X8_wordIs_70 : decode cX8_wordIs 70 = .ok (.ireturn, 1) := by decide +kernel
theorem d_X8_wordIs_71 : decode cX8_wordIs 71 = .ok (.iinc 2 1, 3) := by decide +kernel
theorem d_X8_wordIs_74 : decode cX8_wordIs 74 = .ok (.goto (-47), 3) := by decide +kernel
theorem d_X8_wordIs_77 : decode cX8_wordIs 77 = .ok (.iconst 1, 1) := by decide +kernel
theorem d_X8_wordIs_78 : decode cX8_wordIs 78 = .ok (.ireturn, 1) := by decide +kernel
noncomputable def F_X8_wordIs_27 (t : Nat) (p0 : Nat) (self27 : Int32 → zMem → Option (Int32 × zMem)) (b27_L2 : Int32) (M : zMem) : Option (Int32 × zMem) :=
  if (nI (zLen.getD p0 0)) ≤ b27_L2 then
    some ((1 : Int32), M)
  else
    zl ((M.1 t 4) + b27_L2) fun v1 =>
    if v1 < 0 then
      some ((0 : Int32), M)
    else
      if (nI 600) ≤ v1 then
        some ((0 : Int32), M)
      else
        gin v1 600 <|
        gin b27_L2 (zLen.getD p0 0) <|
        if (M.1 (t + 1) v1.toNatClampNeg) = (zCh p0 b27_L2.toNatClampNeg) then
          self27 (b27_L2 + 1) M
        else
          some ((0 : Int32), M)
noncomputable def F_X8_wordIs (M : zMem) (t : Nat) (p0 : Nat) : Option (Int32 × zMem) :=
  if (M.1 t 2) = 0 then
    if (nI (zLen.getD p0 0)) = ((M.1 t 7) - (M.1 t 4)) then
      itF (fun _ _ => none) (F_X8_wordIs_27 t p0) zFuel (0 : Int32) M
    else
      some ((0 : Int32), M)
  else
    some ((0 : Int32), M)
def rm_X8_wordIs : Room := { frames := 8, cells := 0, slots := 0, locals := 260 }
set_option maxHeartbeats 4000000 in
set_option maxRecDepth 100000 in
theorem c_X8_wordIs (l : Launch) {G : zG} {ad : Nat → Nat} {n : Nat} (hA : zInj ad n) (M : zMem) (t : Nat) (p0 : Nat) (hT_t : zT shX n t 9) (hs_p0 : p0 < 20) {r9 : Int32} {M9 : zMem} (hF : F_X8_wordIs M t p0 = some (r9, M9)) : zM l yX8_wordIs cX8_wordIs 4 (some .boolean) rm_X8_wordIs G shX ad n M [.ref (ad t), .ref (zSK G p0)] (some (.int r9)) M9 := by
  refine zM_of hA (by decide +kernel) (lv := [(0, .ref (ad t)), (1, .ref (zSK G p0))]) (Nat.le_of_ble_eq_true rfl) rfl (fun p e s m args below meth c A cx hr => ?_)
  have hL27 : ∀ (fuel : Nat), ∀ (b27_L2 : Int32) (M : zMem), itF (fun _ _ => none) (F_X8_wordIs_27 t p0) fuel b27_L2 M = some (r9, M9) → zJ p l e rm_X8_wordIs s m args below meth c G shX ad n A 4 (MQ below (zQ G shX ad n M9 (some (.int r9)) A) args s 0 0 A) 0 0 M 27 [(0, .ref (ad t)), (1, .ref (zSK G p0)), (2, .int b27_L2)] [] := by
    intro fuel
    induction fuel with
    | zero => intro b27_L2 M hF; cases hF
    | succ fuel hs27 =>
      intro b27_L2 M hF
      have hF : F_X8_wordIs_27 t p0 (itF (fun _ _ => none) (F_X8_wordIs_27 t p0) fuel) b27_L2 M = some (r9, M9) := hF
      generalize itF (fun _ _ => none) (F_X8_wordIs_27 t p0) fuel = self27 at hs27 hF
      unfold F_X8_wordIs_27 at hF
      refine z_iload_n cx d_X8_wordIs_27 2 rfl ?_
      refine z_aload_n cx d_X8_wordIs_28 1 rfl ?_
      refine z_callK cx (As := []) (rest := [.int b27_L2]) (c_str_length l cx.2.2.2.1.1 M p0 hs_p0) hs_p0 ck_Text_76 ⟨rfl, rfl, Nat.le_of_ble_eq_true rfl, Nat.le_of_ble_eq_true rfl⟩ rfl rfl ⟨Nat.le_of_ble_eq_true rfl, Nat.le_of_ble_eq_true rfl⟩ (Nat.le_of_ble_eq_true rfl) d_X8_wordIs_29 ?_
      refine z_icmp_ge cx 77 d_X8_wordIs_32 (by decide) hF (fun hF => ?_) (fun hF => ?_)
      · refine z_iconst (v := 1) cx d_X8_wordIs_77 ki_1 ?_
        exact z_iret cx hr nb1 hF d_X8_wordIs_78
      refine z_aload_n cx d_X8_wordIs_35 0 rfl ?_
      refine z_getI cx hT_t fg_Text_70 d_X8_wordIs_36 ?_
      refine z_iload_n cx d_X8_wordIs_39 2 rfl ?_
      refine z_iadd cx d_X8_wordIs_40 ?_
      refine z_nm hF (fun v1 hF => ?_)
      refine z_istore_n cx 3 [(3, .int v1), (0, .ref (ad t)), (1, .ref (zSK G p0)), (2, .int b27_L2)] d_X8_wordIs_41 rfl (by decide) rfl ?_
      refine z_iload_n cx d_X8_wordIs_42 0 rfl ?_
      refine z_if_lt cx 69 d_X8_wordIs_43 (by decide) hF (fun hF => ?_) (fun hF => ?_)
      · refine z_iconst (v := 0) cx d_X8_wordIs_69 ki_0 ?_
        exact z_iret cx hr nb0 hF d_X8_wordIs_70
      refine z_iload_n cx d_X8_wordIs_46 0 rfl ?_
      refine z_aload_n cx d_X8_wordIs_47 1 rfl ?_
      refine z_getR cx hT_t fg_Text_9 (t + 1) rfl d_X8_wordIs_48 ?_
      refine z_alenI cx (tfX_9_1 hT_t) za_17 d_X8_wordIs_51 ?_
      refine z_icmp_ge cx 69 d_X8_wordIs_52 (by decide) hF (fun hF => ?_) (fun hF => ?_)
      · refine z_iconst (v := 0) cx d_X8_wordIs_69 ki_0 ?_
        exact z_iret cx hr nb0 hF d_X8_wordIs_70
      refine z_aload_n cx d_X8_wordIs_55 1 rfl ?_
      refine z_getR cx hT_t fg_Text_9 (t + 1) rfl d_X8_wordIs_56 ?_
      refine z_iload_n cx d_X8_wordIs_59 0 rfl ?_
      obtain ⟨hi2, hF⟩ := gin_inv hF
      refine z_iald cx (tfX_9_1 hT_t) za_17 hi2 v1.toNatClampNeg rfl d_X8_wordIs_60 ?_
      refine z_aload_n cx d_X8_wordIs_61 2 rfl ?_
      refine z_iload_n cx d_X8_wordIs_62 3 rfl ?_
      obtain ⟨hi3, hF⟩ := gin_inv hF
      refine z_callK cx (As := [.int b27_L2]) (rest := [.int (M.1 (t + 1) v1.toNatClampNeg)]) (c_str_charAt l cx.2.2.2.1.1 M p0 hs_p0 b27_L2 hi3) hs_p0 ck_Text_81 ⟨rfl, rfl, Nat.le_of_ble_eq_true rfl, Nat.le_of_ble_eq_true rfl⟩ rfl rfl ⟨Nat.le_of_ble_eq_true rfl, Nat.le_of_ble_eq_true rfl⟩ (Nat.le_of_ble_eq_true rfl) d_X8_wordIs_63 ?_
      refine z_icmp_eq cx 71 d_X8_wordIs_66 (by decide) hF (fun hF => ?_) (fun hF => ?_)
      · refine z_iinc cx 2 1 [(2, .int (b27_L2 + 1)), (3, .int v1), (0, .ref (ad t)), (1, .ref (zSK G p0))] d_X8_wordIs_71 3 rfl ki_1 (by decide) rfl ?_
        refine z_goto cx 27 d_X8_wordIs_74 (by decide) ?_
        exact z_lv [2, 3, 0] _ rfl (hs27 (b27_L2 + 1) M hF)
      refine z_iconst (v := 0) cx d_X8_wordIs_69 ki_0 ?_
      exact z_iret cx hr nb0 hF d_X8_wordIs_70
  unfold F_X8_wordIs at hF
  refine z_aload_n cx d_X8_wordIs_0 0 rfl ?_
  refine z_getI cx hT_t fg_Text_37 d_X8_wordIs_1 ?_
  refine z_if_ne cx 23 d_X8_wordIs_4 (by decide) hF (fun hF => ?_) (fun hF => ?_)
  · refine z_iconst (v := 0) cx d_X8_wordIs_23 ki_0 ?_
    exact z_iret cx hr nb0 hF d_X8_wordIs_24
  refine z_aload_n cx d_X8_wordIs_7 1 rfl ?_
  refine z_callK cx (As := []) (rest := []) (c_str_length l cx.2.2.2.1.1 M p0 hs_p0) hs_p0 ck_Text_76 ⟨rfl, rfl, Nat.le_of_ble_eq_true rfl, Nat.le_of_ble_eq_true rfl⟩ rfl rfl ⟨Nat.le_of_ble_eq_true rfl, Nat.le_of_ble_eq_true rfl⟩ (Nat.le_of_ble_eq_true rfl) d_X8_wordIs_8 ?_
  refine z_aload_n cx d_X8_wordIs_11 0 rfl ?_
  refine z_getI cx hT_t fg_Text_34 d_X8_wordIs_12 ?_
  refine z_aload_n cx d_X8_wordIs_15 0 rfl ?_
  refine z_getI cx hT_t fg_Text_70 d_X8_wordIs_16 ?_
  refine z_isub cx d_X8_wordIs_19 ?_
  refine z_icmp_eq cx 25 d_X8_wordIs_20 (by decide) hF (fun hF => ?_) (fun hF => ?_)
  · refine z_iconst (v := 0) cx d_X8_wordIs_25 ki_0 ?_
    refine z_istore_n cx 2 [(2, .int (0 : Int32)), (0, .ref (ad t)), (1, .ref (zSK G p0))] d_X8_wordIs_26 rfl (by decide) rfl ?_
    exact z_lv [1, 2, 0] _ rfl (hL27 zFuel (0 : Int32) M hF)
  refine z_iconst (v := 0) cx d_X8_wordIs_23 ki_0 ?_
  exact z_iret cx hr nb0 hF d_X8_wordIs_24
/-! SunnyPans$Text.place -/
set_option maxRecDepth 100000 in
theorem wd_720 : Cond.methodLink "SunnyPans$Text" 85 yX8_number ∈ tbG := tw3 140 rfl rfl
theorem cv_Text_85 : zCV "SunnyPans$Text" 85 "SunnyPans$Text" yX8_number cX8_number 4 (some .int) 2 := zCV_of wd_720 wd_695 wd_696 wd_102 wd_697 (by decide +kernel)
set_option maxRecDepth 100000 in
theorem wd_721 : Cond.methodLinkNest "SunnyPans$Text" 88 yX9_placeOf "SunnyPans" ∈ tbN := twn3 141 rfl rfl
theorem cn_Text_88 : zCN "SunnyPans$Text" 88 yX9_placeOf cX9_placeOf 2 (some .int) 2 := ⟨wd_721, wd_101, wd_311, by decide +kernel⟩
theorem d_X8_place_0 : decode cX8_place 0 = .ok (.aload_n 0, 1) := by decide +kernel
theorem d_X8_place_1 : decode cX8_place 1 = .ok (.iconst 0, 1) := by decide +kernel
theorem d_X8_place_2 : decode cX8_place 2 = .ok (.iload_n 1, 1) := by decide +kernel
theorem d_X8_place_3 : decode cX8_place 3 = .ok (.iconst 1, 1) := by decide +kernel
theorem d_X8_place_4 : decode cX8_place 4 = .ok (.isub, 1) := by decide +kernel
theorem d_X8_place_5 : decode cX8_place 5 = .ok (.invokevirtual 85, 3) := by decide +kernel
theorem d_X8_place_8 : decode cX8_place 8 = .ok (.istore_n 3, 1) := by decide +kernel
theorem d_X8_place_9 : decode cX8_place 9 = .ok (.aload_n 0, 1) := by decide +kernel
theorem d_X8_place_10 : decode cX8_place 10 = .ok (.iconst 0, 1) := by decide +kernel
theorem d_X8_place_11 : decode cX8_place 11 = .ok (.iload_n 2, 1) := by decide +kernel
theorem d_X8_place_12 : decode cX8_place 12 = .ok (.iconst 1, 1) := by decide +kernel
theorem d_X8_place_13 : decode cX8_place 13 = .ok (.isub, 1) := by decide +kernel
theorem d_X8_place_14 : decode cX8_place 14 = .ok (.invokevirtual 85, 3) := by decide +kernel
theorem d_X8_place_17 : decode cX8_place 17 = .ok (.istore 4, 2) := by decide +kernel
theorem d_X8_place_19 : decode cX8_place 19 = .ok (.iload_n 3, 1) := by decide +kernel
theorem d_X8_place_20 : decode cX8_place 20 = .ok (.iload 4, 2) := by decide +kernel
theorem d_X8_place_22 : decode cX8_place 22 = .ok (.invokestatic 88, 3) := by decide +kernel
theorem d_X8_place_25 : decode cX8_place 25 = .ok (.ireturn, 1) := by decide +kernel
noncomputable def F_X8_place (M : zMem) (t : Nat) (p0 : Int32) (p1 : Int32) : Option (Int32 × zMem) :=
  zb (F_X8_number M t (0 : Int32) (p0 - (1 : Int32))) fun v2 M1 =>
  zb (F_X8_number M1 t (0 : Int32) (p1 - (1 : Int32))) fun v4 M3 =>
  zb (F_X9_placeOf M3 v2 v4) fun v6 M5 =>
  some (v6, M5)
def rm_X8_place : Room := { frames := 5, cells := 0, slots := 0, locals := 143 }
set_option maxHeartbeats 4000000 in
set_option maxRecDepth 100000 in
theorem c_X8_place (l : Launch) {G : zG} {ad : Nat → Nat} {n : Nat} (hA : zInj ad n) (M : zMem) (t : Nat) (p0 : Int32) (p1 : Int32) (hT_t : zT shX n t 9) {r9 : Int32} {M9 : zMem} (hF : F_X8_place M t p0 p1 = some (r9, M9)) : zM l yX8_place cX8_place 5 (some .int) rm_X8_place G shX ad n M [.ref (ad t), .int p0, .int p1] (some (.int r9)) M9 := by
  refine zM_of hA (by decide +kernel) (lv := [(0, .ref (ad t)), (1, .int p0), (2, .int p1)]) (Nat.le_of_ble_eq_true rfl) rfl (fun p e s m args below meth c A cx hr => ?_)
  unfold F_X8_place at hF
  refine z_aload_n cx d_X8_place_0 0 rfl ?_
  refine z_iconst (v := 0) cx d_X8_place_1 ki_0 ?_
  refine z_iload_n cx d_X8_place_2 1 rfl ?_
  refine z_iconst (v := 1) cx d_X8_place_3 ki_1 ?_
  refine z_isub cx d_X8_place_4 ?_
  obtain ⟨v2, M1, hc, hF⟩ := zb_inv hF
  refine z_callV cx (As := [.int (0 : Int32), .int (p0 - (1 : Int32))]) (rest := []) (c_X8_number l cx.2.2.2.1.1 M t (0 : Int32) (p0 - (1 : Int32)) hT_t hc) hT_t zo_9 cv_Text_85 ⟨rfl, rfl, Nat.le_of_ble_eq_true rfl, Nat.le_of_ble_eq_true rfl⟩ rfl rfl ⟨Nat.zero_le _, Nat.zero_le _⟩ (Nat.le_of_ble_eq_true rfl) d_X8_place_5 ?_
  refine z_istore_n cx 3 [(3, .int v2), (0, .ref (ad t)), (1, .int p0), (2, .int p1)] d_X8_place_8 rfl (by decide) rfl ?_
  refine z_aload_n cx d_X8_place_9 1 rfl ?_
  refine z_iconst (v := 0) cx d_X8_place_10 ki_0 ?_
  refine z_iload_n cx d_X8_place_11 3 rfl ?_
  refine z_iconst (v := 1) cx d_X8_place_12 ki_1 ?_
  refine z_isub cx d_X8_place_13 ?_
  obtain ⟨v4, M3, hc, hF⟩ := zb_inv hF
  refine z_callV cx (As := [.int (0 : Int32), .int (p1 - (1 : Int32))]) (rest := []) (c_X8_number l cx.2.2.2.1.1 M1 t (0 : Int32) (p1 - (1 : Int32)) hT_t hc) hT_t zo_9 cv_Text_85 ⟨rfl, rfl, Nat.le_of_ble_eq_true rfl, Nat.le_of_ble_eq_true rfl⟩ rfl rfl ⟨Nat.zero_le _, Nat.zero_le _⟩ (Nat.le_of_ble_eq_true rfl) d_X8_place_14 ?_
  refine z_istore cx 4 [(4, .int v4), (3, .int v2), (0, .ref (ad t)), (1, .int p0), (2, .int p1)] d_X8_place_17 (by decide) rfl ?_
  refine z_iload_n cx d_X8_place_19 1 rfl ?_
  refine z_iload cx d_X8_place_20 0 rfl ?_
  obtain ⟨v6, M5, hc, hF⟩ := zb_inv hF
  refine z_callSN cx (As := [.int v2, .int v4]) (rest := []) (c_X9_placeOf l cx.2.2.2.1.1 M3 v2 v4  hc) cn_Text_88 wd_310 ⟨rfl, rfl, Nat.le_of_ble_eq_true rfl, Nat.le_of_ble_eq_true rfl⟩ rfl rfl ⟨Nat.zero_le _, Nat.zero_le _⟩ (Nat.le_of_ble_eq_true rfl) d_X8_place_22 ?_
  exact z_iret cx hr rfl hF d_X8_place_25
/-! SunnyPans$Job.openAgain -/
theorem kb_60 : (Int8.ofInt (60)).toInt32 = (60 : Int32) := by decide +kernel
set_option maxRecDepth 100000 in
theorem wd_860 : Cond.methodLink "SunnyPans$Job" 81 yX8_number ∈ tbG := tw4 40 rfl rfl
theorem cv_Job_81 : zCV "SunnyPans$Job" 81 "SunnyPans$Text" yX8_number cX8_number 4 (some .int) 2 := zCV_of wd_860 wd_695 wd_696 wd_102 wd_697 (by decide +kernel)
theorem kb_91 : (Int8.ofInt (91)).toInt32 = (91 : Int32) := by decide +kernel
theorem ki_5 : Int32.ofInt (5) = (5 : Int32) := by decide +kernel
set_option maxRecDepth 100000 in
theorem wd_146 : Cond.fieldLink "SunnyPans$Job" 101 "SunnyPans$Text" "wordFrom" "I" ∈ tbG := tw1 46 rfl rfl
theorem fg_Job_101 : zGetI "SunnyPans$Job" 101 8 9 4 := ⟨RX8, TX8, 8, rfl, by decide, uw_8, wd_146, fun _ _ _ _ _ _ => ⟨_, rfl, rfl⟩⟩
set_option maxRecDepth 100000 in
theorem wd_870 : Cond.methodLink "SunnyPans$Job" 104 yX8_fail ∈ tbG := tw4 50 rfl rfl
theorem cv_Job_104 : zCV "SunnyPans$Job" 104 "SunnyPans$Text" yX8_fail cX8_fail 3 none 2 := zCV_of wd_870 wd_691 wd_692 wd_102 wd_693 (by decide +kernel)
theorem d_X2_openAgain_0 : decode cX2_openAgain 0 = .ok (.aload_n 0, 1) := by decide +kernel
theorem d_X2_openAgain_1 : decode cX2_openAgain 1 = .ok (.getfield 37, 3) := by decide +kernel
theorem d_X2_openAgain_4 : decode cX2_openAgain 4 = .ok (.bipush 6, 2) := by decide +kernel
theorem d_X2_openAgain_6 : decode cX2_openAgain 6 = .ok (.if_icmp .lt 13, 3) := by decide +kernel
theorem d_X2_openAgain_9 : decode cX2_openAgain 9 = .ok (.aload_n 1, 1) := by decide +kernel
theorem d_X2_openAgain_10 : decode cX2_openAgain 10 = .ok (.iconst 3, 1) := by decide +kernel
theorem d_X2_openAgain_11 : decode cX2_openAgain 11 = .ok (.aload_n 1, 1) := by decide +kernel
theorem d_X2_openAgain_12 : decode cX2_openAgain 12 = .ok (.getfield 101, 3) := by decide +kernel
theorem d_X2_openAgain_15 : decode cX2_openAgain 15 = .ok (.invokevirtual 104, 3) := by decide +kernel
theorem d_X2_openAgain_18 : decode cX2_openAgain 18 = .ok (.return_, 1) := by decide +kernel
theorem d_X2_openAgain_19 : decode cX2_openAgain 19 = .ok (.aload_n 1, 1) := by decide +kernel
theorem d_X2_openAgain_20 : decode cX2_openAgain 20 = .ok (.iconst 0, 1) := by decide +kernel
theorem d_X2_openAgain_21 : decode cX2_openAgain 21 = .ok (.bipush 60, 2) := by decide +kernel
theorem d_X2_openAgain_23 : decode cX2_openAgain 23 = .ok (.invokevirtual 81, 3) := by decide +kernel
theorem d_X2_openAgain_26 : decode cX2_openAgain 26 = .ok (.istore_n 2, 1) := by decide +kernel
theorem d_X2_openAgain_27 : decode cX2_openAgain 27 = .ok (.aload_n 1, 1) := by decide +kernel
theorem d_X2_openAgain_28 : decode cX2_openAgain 28 = .ok (.bipush 91, 2) := by decide +kernel
theorem d_X2_openAgain_30 : decode cX2_openAgain 30 = .ok (.invokevirtual 108, 3) := by decide +kernel
theorem d_X2_openAgain_33 : decode cX2_openAgain 33 = .ok (.aload_n 0, 1) := by decide +kernel
theorem d_X2_openAgain_34 : decode cX2_openAgain 34 = .ok (.getfield 30, 3) := by decide +kernel
theorem d_X2_openAgain_37 : decode cX2_openAgain 37 = .ok (.aload_n 0, 1) := by decide +kernel
theorem d_X2_openAgain_38 : decode cX2_openAgain 38 = .ok (.getfield 37, 3) := by decide +kernel
theorem d_X2_openAgain_41 : decode cX2_openAgain 41 = .ok (.aload_n 0, 1) := by decide +kernel
theorem d_X2_openAgain_42 : decode cX2_openAgain 42 = .ok (.getfield 33, 3) := by decide +kernel
theorem d_X2_openAgain_45 : decode cX2_openAgain 45 = .ok (.iastore, 1) := by decide +kernel
theorem d_X2_openAgain_46 : decode cX2_openAgain 46 = .ok (.aload_n 0, 1) := by decide +kernel
theorem d_X2_openAgain_47 : decode cX2_openAgain 47 = .ok (.dup, 1) := by decide +kernel
theorem d_X2_openAgain_48 : decode cX2_openAgain 48 = .ok (.getfield 37, 3) := by decide +kernel
theorem d_X2_openAgain_51 : decode cX2_openAgain 51 = .ok (.iconst 1, 1) := by decide +kernel
theorem d_X2_openAgain_52 : decode cX2_openAgain 52 = .ok (.iadd, 1) := by decide +kernel
theorem d_X2_openAgain_53 : decode cX2_openAgain 53 = .ok (.putfield 37, 3) := by decide +kernel
theorem d_X2_openAgain_56 : decode cX2_openAgain 56 = .ok (.aload_n 0, 1) := by decide +kernel
theorem d_X2_openAgain_57 : decode cX2_openAgain 57 = .ok (.iconst 5, 1) := by decide +kernel
theorem d_X2_openAgain_58 : decode cX2_openAgain 58 = .ok (.iconst 0, 1) := by decide +kernel
theorem d_X2_openAgain_59 : decode cX2_openAgain 59 = .ok (.iconst 0, 1) := by decide +kernel
theorem d_X2_openAgain_60 : decode cX2_openAgain 60 = .ok (.iload_n 2, 1) := by decide +kernel
theorem d_X2_openAgain_61 : decode cX2_openAgain 61 = .ok (.invokevirtual 84, 3) := by decide +kernel
theorem d_X2_openAgain_64 : decode cX2_openAgain 64 = .ok (.return_, 1) := by decide +kernel
noncomputable def F_X2_openAgain (M : zMem) (t : Nat) (p0 : Nat) : Option (zMem) :=
  if (M.1 t 7) < (6 : Int32) then
    zb (F_X8_number M p0 (0 : Int32) (60 : Int32)) fun v2 M1 =>
    zbv (F_X8_sign M1 p0 (91 : Int32)) fun M3 =>
    gin (M3.1 t 7) 6 <|
    zl (zI M3 (t + 7) ((M3.1 t 7).toNatClampNeg) (M3.1 t 8)) fun M5 =>
    zl (zI M5 t 7 ((M5.1 t 7) + (1 : Int32))) fun M6 =>
    zbv (F_X2_add M6 t (5 : Int32) (0 : Int32) (0 : Int32) v2) fun M7 =>
    some M7
  else
    zbv (F_X8_fail M p0 (3 : Int32) (M.1 p0 4)) fun M8 =>
    some M8
def rm_X2_openAgain : Room := { frames := 5, cells := 0, slots := 0, locals := 143 }
set_option maxHeartbeats 4000000 in
set_option maxRecDepth 100000 in
theorem c_X2_openAgain (l : Launch) {G : zG} {ad : Nat → Nat} {n : Nat} (hA : zInj ad n) (M : zMem) (t : Nat) (p0 : Nat) (hT_t : zT shX n t 3) (hT_p0 : zT shX n p0 9) {M9 : zMem} (hF : F_X2_openAgain M t p0 = some M9) : zM l yX2_openAgain cX2_openAgain 3 none rm_X2_openAgain G shX ad n M [.ref (ad t), .ref (ad p0)] none M9 := by
  refine zM_of hA (by decide +kernel) (lv := [(0, .ref (ad t)), (1, .ref (ad p0))]) (Nat.le_of_ble_eq_true rfl) rfl (fun p e s m args below meth c A cx hr => ?_)
  unfold F_X2_openAgain at hF
  refine z_aload_n cx d_X2_openAgain_0 0 rfl ?_
  refine z_getI cx hT_t fg_Job_37 d_X2_openAgain_1 ?_
  refine z_bipush (v := 6) cx d_X2_openAgain_4 kb_6 ?_
  refine z_icmp_lt cx 19 d_X2_openAgain_6 (by decide) hF (fun hF => ?_) (fun hF => ?_)
  · refine z_aload_n cx d_X2_openAgain_19 1 rfl ?_
    refine z_iconst (v := 0) cx d_X2_openAgain_20 ki_0 ?_
    refine z_bipush (v := 60) cx d_X2_openAgain_21 kb_60 ?_
    obtain ⟨v2, M1, hc, hF⟩ := zb_inv hF
    refine z_callV cx (As := [.int (0 : Int32), .int (60 : Int32)]) (rest := []) (c_X8_number l cx.2.2.2.1.1 M p0 (0 : Int32) (60 : Int32) hT_p0 hc) hT_p0 zo_9 cv_Job_81 ⟨rfl, rfl, Nat.le_of_ble_eq_true rfl, Nat.le_of_ble_eq_true rfl⟩ rfl rfl ⟨Nat.zero_le _, Nat.zero_le _⟩ (Nat.le_of_ble_eq_true rfl) d_X2_openAgain_23 ?_
    refine z_istore_n cx 2 [(2, .int v2), (0, .ref (ad t)), (1, .ref (ad p0))] d_X2_openAgain_26 rfl (by decide) rfl ?_
    refine z_aload_n cx d_X2_openAgain_27 2 rfl ?_
    refine z_bipush (v := 91) cx d_X2_openAgain_28 kb_91 ?_
    obtain ⟨M3, hc, hF⟩ := zbv_inv hF
    refine z_callV cx (As := [.int (91 : Int32)]) (rest := []) (c_X8_sign l cx.2.2.2.1.1 M1 p0 (91 : Int32) hT_p0 hc) hT_p0 zo_9 cv_Job_108 ⟨rfl, rfl, Nat.le_of_ble_eq_true rfl, Nat.le_of_ble_eq_true rfl⟩ rfl rfl ⟨Nat.zero_le _, Nat.zero_le _⟩ (Nat.le_of_ble_eq_true rfl) d_X2_openAgain_30 ?_
    refine z_aload_n cx d_X2_openAgain_33 1 rfl ?_
    refine z_getR cx hT_t fg_Job_30 (t + 7) rfl d_X2_openAgain_34 ?_
    refine z_aload_n cx d_X2_openAgain_37 1 rfl ?_
    refine z_getI cx hT_t fg_Job_37 d_X2_openAgain_38 ?_
    refine z_aload_n cx d_X2_openAgain_41 1 rfl ?_
    refine z_getI cx hT_t fg_Job_33 d_X2_openAgain_42 ?_
    obtain ⟨hi4, hF⟩ := gin_inv hF
    refine z_iast cx (tfX_3_7 hT_t) za_22 hi4 ((M3.1 t 7).toNatClampNeg) rfl d_X2_openAgain_45 ?_
    refine z_nmM hF (fun M5 hF => ?_)
    refine z_aload_n cx d_X2_openAgain_46 1 rfl ?_
    refine z_dup cx d_X2_openAgain_47 rfl ?_
    refine z_getI cx hT_t fg_Job_37 d_X2_openAgain_48 ?_
    refine z_iconst (v := 1) cx d_X2_openAgain_51 ki_1 ?_
    refine z_iadd cx d_X2_openAgain_52 ?_
    refine z_putI cx hT_t fp_Job_37 d_X2_openAgain_53 ?_
    refine z_nmM hF (fun M6 hF => ?_)
    refine z_aload_n cx d_X2_openAgain_56 1 rfl ?_
    refine z_iconst (v := 5) cx d_X2_openAgain_57 ki_5 ?_
    refine z_iconst (v := 0) cx d_X2_openAgain_58 ki_0 ?_
    refine z_iconst (v := 0) cx d_X2_openAgain_59 ki_0 ?_
    refine z_iload_n cx d_X2_openAgain_60 0 rfl ?_
    obtain ⟨M7, hc, hF⟩ := zbv_inv hF
    refine z_callV cx (As := [.int (5 : Int32), .int (0 : Int32), .int (0 : Int32), .int v2]) (rest := []) (c_X2_add l cx.2.2.2.1.1 M6 t (5 : Int32) (0 : Int32) (0 : Int32) v2 hT_t hc) hT_t zo_3 cv_Job_84 ⟨rfl, rfl, Nat.le_of_ble_eq_true rfl, Nat.le_of_ble_eq_true rfl⟩ rfl rfl ⟨Nat.zero_le _, Nat.zero_le _⟩ (Nat.le_of_ble_eq_true rfl) d_X2_openAgain_61 ?_
    exact z_vret cx hr hF d_X2_openAgain_64
  refine z_aload_n cx d_X2_openAgain_9 1 rfl ?_
  refine z_iconst (v := 3) cx d_X2_openAgain_10 ki_3 ?_
  refine z_aload_n cx d_X2_openAgain_11 1 rfl ?_
  refine z_getI cx hT_p0 fg_Job_101 d_X2_openAgain_12 ?_
  obtain ⟨M8, hc, hF⟩ := zbv_inv hF
  refine z_callV cx (As := [.int (3 : Int32), .int (M.1 p0 4)]) (rest := []) (c_X8_fail l cx.2.2.2.1.1 M p0 (3 : Int32) (M.1 p0 4) hT_p0 hc) hT_p0 zo_9 cv_Job_104 ⟨rfl, rfl, Nat.le_of_ble_eq_true rfl, Nat.le_of_ble_eq_true rfl⟩ rfl rfl ⟨Nat.zero_le _, Nat.zero_le _⟩ (Nat.le_of_ble_eq_true rfl) d_X2_openAgain_15 ?_
  exact z_vret cx hr hF d_X2_openAgain_18
/-! SunnyPans$Job.readStep -/
set_option maxRecDepth 100000 in
theorem wd_626 : Cond.code yX8_word cX8_word 1 none ∈ tbG := tw3 46 rfl rfl
set_option maxRecDepth 100000 in
theorem wd_856 : Cond.methodLink "SunnyPans$Job" 61 yX8_word ∈ tbG := tw4 36 rfl rfl
set_option maxRecDepth 100000 in
theorem wd_624 : Cond.instanceMethod yX8_word ∈ tbG := tw3 44 rfl rfl
set_option maxRecDepth 100000 in
theorem wd_625 : Cond.selects "SunnyPans$Text" yX8_word yX8_word ∈ tbG := tw3 45 rfl rfl
theorem cv_Job_61 : zCV "SunnyPans$Job" 61 "SunnyPans$Text" yX8_word cX8_word 1 none 0 := zCV_of wd_856 wd_624 wd_625 wd_102 wd_626 (by decide +kernel)
set_option maxRecDepth 100000 in
theorem wd_638 : Cond.code yX8_wordIs cX8_wordIs 4 (some .boolean) ∈ tbG := tw3 58 rfl rfl
set_option maxRecDepth 100000 in
theorem wd_858 : Cond.methodLink "SunnyPans$Job" 66 yX8_wordIs ∈ tbG := tw4 38 rfl rfl
set_option maxRecDepth 100000 in
theorem wd_636 : Cond.instanceMethod yX8_wordIs ∈ tbG := tw3 56 rfl rfl
set_option maxRecDepth 100000 in
theorem wd_637 : Cond.selects "SunnyPans$Text" yX8_wordIs yX8_wordIs ∈ tbG := tw3 57 rfl rfl
theorem cv_Job_66 : zCV "SunnyPans$Job" 66 "SunnyPans$Text" yX8_wordIs cX8_wordIs 4 (some .boolean) 1 := zCV_of wd_858 wd_636 wd_637 wd_102 wd_638 (by decide +kernel)
set_option maxRecDepth 100000 in
theorem wd_869 : Cond.code yX2_openAgain cX2_openAgain 3 none ∈ tbG := tw4 49 rfl rfl
set_option maxRecDepth 100000 in
theorem wd_866 : Cond.methodLink "SunnyPans$Job" 98 yX2_openAgain ∈ tbG := tw4 46 rfl rfl
set_option maxRecDepth 100000 in
theorem wd_868 : Cond.instanceMethod yX2_openAgain ∈ tbG := tw4 48 rfl rfl
theorem wd_18 : Cond.selects "SunnyPans$Job" yX2_openAgain yX2_openAgain ∈ tbG := tw 18 (by decide +kernel) rfl
theorem cv_Job_98 : zCV "SunnyPans$Job" 98 "SunnyPans$Job" yX2_openAgain cX2_openAgain 3 none 1 := zCV_of wd_866 wd_868 wd_18 wd_105 wd_869 (by decide +kernel)
theorem ki_4 : Int32.ofInt (4) = (4 : Int32) := by decide +kernel
theorem kb_99 : (Int8.ofInt (99)).toInt32 = (99 : Int32) := by decide +kernel
set_option maxRecDepth 100000 in
theorem wd_316 : Cond.fieldLink "SunnyPans$Job" 70 "SunnyPans$Plan" "wide" "I" ∈ tbG := tw1 216 rfl rfl
theorem fg_Job_70 : zGetI "SunnyPans$Job" 70 5 6 0 := ⟨RX5, TX5, 9, rfl, by decide, uw_5, wd_316, fun _ _ _ _ _ _ => ⟨_, rfl, rfl⟩⟩
set_option maxRecDepth 100000 in
theorem wd_320 : Cond.fieldLink "SunnyPans$Job" 75 "SunnyPans$Plan" "high" "I" ∈ tbG := tw1 220 rfl rfl
theorem fg_Job_75 : zGetI "SunnyPans$Job" 75 5 6 1 := ⟨RX5, TX5, 9, rfl, by decide, uw_5, wd_320, fun _ _ _ _ _ _ => ⟨_, rfl, rfl⟩⟩
set_option maxRecDepth 100000 in
theorem wd_719 : Cond.code yX8_place cX8_place 5 (some .int) ∈ tbG := tw3 139 rfl rfl
set_option maxRecDepth 100000 in
theorem wd_859 : Cond.methodLink "SunnyPans$Job" 78 yX8_place ∈ tbG := tw4 39 rfl rfl
set_option maxRecDepth 100000 in
theorem wd_717 : Cond.instanceMethod yX8_place ∈ tbG := tw3 137 rfl rfl
set_option maxRecDepth 100000 in
theorem wd_718 : Cond.selects "SunnyPans$Text" yX8_place yX8_place ∈ tbG := tw3 138 rfl rfl
theorem cv_Job_78 : zCV "SunnyPans$Job" 78 "SunnyPans$Text" yX8_place cX8_place 5 (some .int) 2 := zCV_of wd_859 wd_717 wd_718 wd_102 wd_719 (by decide +kernel)
theorem ks_999 : (Int16.ofInt (999)).toInt32 = (999 : Int32) := by decide +kernel
theorem d_X2_readStep_0 : decode cX2_readStep 0 = .ok (.aload_n 1, 1) := by decide +kernel
theorem d_X2_readStep_1 : decode cX2_readStep 1 = .ok (.invokevirtual 61, 3) := by decide +kernel
theorem d_X2_readStep_4 : decode cX2_readStep 4 = .ok (.aload_n 1, 1) := by decide +kernel
theorem d_X2_readStep_5 : decode cX2_readStep 5 = .ok (.ldc 64, 2) := by decide +kernel
theorem d_X2_readStep_7 : decode cX2_readStep 7 = .ok (.invokevirtual 66, 3) := by decide +kernel
theorem d_X2_readStep_10 : decode cX2_readStep 10 = .ok (.ifCond .eq 34, 3) := by decide +kernel
theorem d_X2_readStep_13 : decode cX2_readStep 13 = .ok (.aload_n 1, 1) := by decide +kernel
theorem d_X2_readStep_14 : decode cX2_readStep 14 = .ok (.aload_n 2, 1) := by decide +kernel
theorem d_X2_readStep_15 : decode cX2_readStep 15 = .ok (.getfield 70, 3) := by decide +kernel
theorem d_X2_readStep_18 : decode cX2_readStep 18 = .ok (.aload_n 2, 1) := by decide +kernel
theorem d_X2_readStep_19 : decode cX2_readStep 19 = .ok (.getfield 75, 3) := by decide +kernel
theorem d_X2_readStep_22 : decode cX2_readStep 22 = .ok (.invokevirtual 78, 3) := by decide +kernel
theorem d_X2_readStep_25 : decode cX2_readStep 25 = .ok (.istore_n 3, 1) := by decide +kernel
theorem d_X2_readStep_26 : decode cX2_readStep 26 = .ok (.aload_n 0, 1) := by decide +kernel
theorem d_X2_readStep_27 : decode cX2_readStep 27 = .ok (.iconst 0, 1) := by decide +kernel
theorem d_X2_readStep_28 : decode cX2_readStep 28 = .ok (.iload_n 3, 1) := by decide +kernel
theorem d_X2_readStep_29 : decode cX2_readStep 29 = .ok (.iconst 0, 1) := by decide +kernel
theorem d_X2_readStep_30 : decode cX2_readStep 30 = .ok (.aload_n 1, 1) := by decide +kernel
theorem d_X2_readStep_31 : decode cX2_readStep 31 = .ok (.iconst 1, 1) := by decide +kernel
theorem d_X2_readStep_32 : decode cX2_readStep 32 = .ok (.sipush 999, 3) := by decide +kernel
theorem d_X2_readStep_35 : decode cX2_readStep 35 = .ok (.invokevirtual 81, 3) := by decide +kernel
theorem d_X2_readStep_38 : decode cX2_readStep 38 = .ok (.invokevirtual 84, 3) := by decide +kernel
theorem d_X2_readStep_41 : decode cX2_readStep 41 = .ok (.goto 148, 3) := by decide +kernel
theorem d_X2_readStep_44 : decode cX2_readStep 44 = .ok (.aload_n 1, 1) := by decide +kernel
theorem d_X2_readStep_45 : decode cX2_readStep 45 = .ok (.ldc 88, 2) := by decide +kernel
theorem d_X2_readStep_47 : decode cX2_readStep 47 = .ok (.invokevirtual 66, 3) := by decide +kernel
theorem d_X2_readStep_50 : decode cX2_readStep 50 = .ok (.ifCond .eq 38, 3) := by decide +kernel
theorem d_X2_readStep_53 : decode cX2_readStep 53 = .ok (.aload_n 1, 1) := by decide +kernel
theorem d_X2_readStep_54 : decode cX2_readStep 54 = .ok (.aload_n 2, 1) := by decide +kernel
theorem d_X2_readStep_55 : decode cX2_readStep 55 = .ok (.getfield 70, 3) := by decide +kernel
theorem d_X2_readStep_58 : decode cX2_readStep 58 = .ok (.aload_n 2, 1) := by decide +kernel
theorem d_X2_readStep_59 : decode cX2_readStep 59 = .ok (.getfield 75, 3) := by decide +kernel
theorem d_X2_readStep_62 : decode cX2_readStep 62 = .ok (.invokevirtual 78, 3) := by decide +kernel
theorem d_X2_readStep_65 : decode cX2_readStep 65 = .ok (.istore_n 3, 1) := by decide +kernel
theorem d_X2_readStep_66 : decode cX2_readStep 66 = .ok (.aload_n 0, 1) := by decide +kernel
theorem d_X2_readStep_67 : decode cX2_readStep 67 = .ok (.iconst 1, 1) := by decide +kernel
theorem d_X2_readStep_68 : decode cX2_readStep 68 = .ok (.iload_n 3, 1) := by decide +kernel
theorem d_X2_readStep_69 : decode cX2_readStep 69 = .ok (.aload_n 1, 1) := by decide +kernel
theorem d_X2_readStep_70 : decode cX2_readStep 70 = .ok (.aload_n 2, 1) := by decide +kernel
theorem d_X2_readStep_71 : decode cX2_readStep 71 = .ok (.getfield 70, 3) := by decide +kernel
theorem d_X2_readStep_74 : decode cX2_readStep 74 = .ok (.aload_n 2, 1) := by decide +kernel
theorem d_X2_readStep_75 : decode cX2_readStep 75 = .ok (.getfield 75, 3) := by decide +kernel
theorem d_X2_readStep_78 : decode cX2_readStep 78 = .ok (.invokevirtual 78, 3) := by decide +kernel
theorem d_X2_readStep_81 : decode cX2_readStep 81 = .ok (.iconst 0, 1) := by decide +kernel
theorem d_X2_readStep_82 : decode cX2_readStep 82 = .ok (.invokevirtual 84, 3) := by decide +kernel
theorem d_X2_readStep_85 : decode cX2_readStep 85 = .ok (.goto 104, 3) := by decide +kernel
theorem d_X2_readStep_88 : decode cX2_readStep 88 = .ok (.aload_n 1, 1) := by decide +kernel
theorem d_X2_readStep_89 : decode cX2_readStep 89 = .ok (.ldc 90, 2) := by decide +kernel
theorem d_X2_readStep_91 : decode cX2_readStep 91 = .ok (.invokevirtual 66, 3) := by decide +kernel
theorem d_X2_readStep_94 : decode cX2_readStep 94 = .ok (.ifCond .eq 25, 3) := by decide +kernel
theorem d_X2_readStep_97 : decode cX2_readStep 97 = .ok (.aload_n 0, 1) := by decide +kernel
theorem d_X2_readStep_98 : decode cX2_readStep 98 = .ok (.iconst 2, 1) := by decide +kernel
theorem d_X2_readStep_99 : decode cX2_readStep 99 = .ok (.aload_n 1, 1) := by decide +kernel
theorem d_X2_readStep_100 : decode cX2_readStep 100 = .ok (.aload_n 2, 1) := by decide +kernel
theorem d_X2_readStep_101 : decode cX2_readStep 101 = .ok (.getfield 70, 3) := by decide +kernel
theorem d_X2_readStep_104 : decode cX2_readStep 104 = .ok (.aload_n 2, 1) := by decide +kernel
theorem d_X2_readStep_105 : decode cX2_readStep 105 = .ok (.getfield 75, 3) := by decide +kernel
theorem d_X2_readStep_108 : decode cX2_readStep 108 = .ok (.invokevirtual 78, 3) := by decide +kernel
theorem d_X2_readStep_111 : decode cX2_readStep 111 = .ok (.iconst 0, 1) := by decide +kernel
theorem d_X2_readStep_112 : decode cX2_readStep 112 = .ok (.iconst 0, 1) := by decide +kernel
theorem d_X2_readStep_113 : decode cX2_readStep 113 = .ok (.invokevirtual 84, 3) := by decide +kernel
theorem d_X2_readStep_116 : decode cX2_readStep 116 = .ok (.goto 73, 3) := by decide +kernel
theorem d_X2_readStep_119 : decode cX2_readStep 119 = .ok (.aload_n 1, 1) := by decide +kernel
theorem d_X2_readStep_120 : decode cX2_readStep 120 = .ok (.ldc 92, 2) := by decide +kernel
theorem d_X2_readStep_122 : decode cX2_readStep 122 = .ok (.invokevirtual 66, 3) := by decide +kernel
theorem d_X2_readStep_125 : decode cX2_readStep 125 = .ok (.ifCond .eq 20, 3) := by decide +kernel
theorem d_X2_readStep_128 : decode cX2_readStep 128 = .ok (.aload_n 0, 1) := by decide +kernel
theorem d_X2_readStep_129 : decode cX2_readStep 129 = .ok (.iconst 3, 1) := by decide +kernel
theorem d_X2_readStep_130 : decode cX2_readStep 130 = .ok (.iconst 0, 1) := by decide +kernel
theorem d_X2_readStep_131 : decode cX2_readStep 131 = .ok (.iconst 0, 1) := by decide +kernel
theorem d_X2_readStep_132 : decode cX2_readStep 132 = .ok (.aload_n 1, 1) := by decide +kernel
theorem d_X2_readStep_133 : decode cX2_readStep 133 = .ok (.iconst 1, 1) := by decide +kernel
theorem d_X2_readStep_134 : decode cX2_readStep 134 = .ok (.bipush 99, 2) := by decide +kernel
theorem d_X2_readStep_136 : decode cX2_readStep 136 = .ok (.invokevirtual 81, 3) := by decide +kernel
theorem d_X2_readStep_139 : decode cX2_readStep 139 = .ok (.invokevirtual 84, 3) := by decide +kernel
theorem d_X2_readStep_142 : decode cX2_readStep 142 = .ok (.goto 47, 3) := by decide +kernel
theorem d_X2_readStep_145 : decode cX2_readStep 145 = .ok (.aload_n 1, 1) := by decide +kernel
theorem d_X2_readStep_146 : decode cX2_readStep 146 = .ok (.ldc 94, 2) := by decide +kernel
theorem d_X2_readStep_148 : decode cX2_readStep 148 = .ok (.invokevirtual 66, 3) := by decide +kernel
theorem d_X2_readStep_151 : decode cX2_readStep 151 = .ok (.ifCond .eq 14, 3) := by decide +kernel
theorem d_X2_readStep_154 : decode cX2_readStep 154 = .ok (.aload_n 0, 1) := by decide +kernel
theorem d_X2_readStep_155 : decode cX2_readStep 155 = .ok (.iconst 4, 1) := by decide +kernel
theorem d_X2_readStep_156 : decode cX2_readStep 156 = .ok (.iconst 0, 1) := by decide +kernel
theorem d_X2_readStep_157 : decode cX2_readStep 157 = .ok (.iconst 0, 1) := by decide +kernel
theorem d_X2_readStep_158 : decode cX2_readStep 158 = .ok (.iconst 0, 1) := by decide +kernel
theorem d_X2_readStep_159 : decode cX2_readStep 159 = .ok (.invokevirtual 84, 3) := by decide +kernel
theorem d_X2_readStep_162 : decode cX2_readStep 162 = .ok (.goto 27, 3) := by decide +kernel
theorem d_X2_readStep_165 : decode cX2_readStep 165 = .ok (.aload_n 1, 1) := by decide +kernel
theorem d_X2_readStep_166 : decode cX2_readStep 166 = .ok (.ldc 96, 2) := by decide +kernel
theorem d_X2_readStep_168 : decode cX2_readStep 168 = .ok (.invokevirtual 66, 3) := by decide +kernel
theorem d_X2_readStep_171 : decode cX2_readStep 171 = .ok (.ifCond .eq 9, 3) := by decide +kernel
theorem d_X2_readStep_174 : decode cX2_readStep 174 = .ok (.aload_n 0, 1) := by decide +kernel
theorem d_X2_readStep_175 : decode cX2_readStep 175 = .ok (.aload_n 1, 1) := by decide +kernel
theorem d_X2_readStep_176 : decode cX2_readStep 176 = .ok (.invokevirtual 98, 3) := by decide +kernel
theorem d_X2_readStep_179 : decode cX2_readStep 179 = .ok (.return_, 1) := by decide +kernel
theorem d_X2_readStep_180 : decode cX2_readStep 180 = .ok (.aload_n 1, 1) := by decide +kernel
theorem d_X2_readStep_181 : decode cX2_readStep 181 = .ok (.iconst 1, 1) := by decide +kernel
theorem d_X2_readStep_182 : decode cX2_readStep 182 = .ok (.aload_n 1, 1) := by decide +kernel
theorem d_X2_readStep_183 : decode cX2_readStep 183 = .ok (.getfield 101, 3) := by decide +kernel
theorem d_X2_readStep_186 : decode cX2_readStep 186 = .ok (.invokevirtual 104, 3) := by decide +kernel
theorem d_X2_readStep_189 : decode cX2_readStep 189 = .ok (.aload_n 1, 1) := by decide +kernel
theorem d_X2_readStep_190 : decode cX2_readStep 190 = .ok (.bipush 59, 2) := by decide +kernel
theorem d_X2_readStep_192 : decode cX2_readStep 192 = .ok (.invokevirtual 108, 3) := by decide +kernel
theorem d_X2_readStep_195 : decode cX2_readStep 195 = .ok (.return_, 1) := by decide +kernel
noncomputable def F_X2_readStep_189 (t : Nat) (p0 : Nat) (p1 : Nat) (M : zMem) : Option (zMem) :=
  zbv (F_X8_sign M p0 (59 : Int32)) fun M1 =>
  some M1
noncomputable def F_X2_readStep (M : zMem) (t : Nat) (p0 : Nat) (p1 : Nat) : Option (zMem) :=
  zbv (F_X8_word M p0) fun M2 =>
  zb (F_X8_wordIs M2 p0 14) fun v4 M3 =>
  if v4 = 0 then
    zb (F_X8_wordIs M3 p0 15) fun v6 M5 =>
    if v6 = 0 then
      zb (F_X8_wordIs M5 p0 16) fun v8 M7 =>
      if v8 = 0 then
        zb (F_X8_wordIs M7 p0 17) fun v10 M9 =>
        if v10 = 0 then
          zb (F_X8_wordIs M9 p0 2) fun v12 M11 =>
          if v12 = 0 then
            zb (F_X8_wordIs M11 p0 18) fun v14 M13 =>
            if v14 = 0 then
              zbv (F_X8_fail M13 p0 (1 : Int32) (M13.1 p0 4)) fun M15 =>
              F_X2_readStep_189 t p0 p1 M15
            else
              zbv (F_X2_openAgain M13 t p0) fun M16 =>
              some M16
          else
            zbv (F_X2_add M11 t (4 : Int32) (0 : Int32) (0 : Int32) (0 : Int32)) fun M17 =>
            F_X2_readStep_189 t p0 p1 M17
        else
          zb (F_X8_number M9 p0 (1 : Int32) (99 : Int32)) fun v19 M18 =>
          zbv (F_X2_add M18 t (3 : Int32) (0 : Int32) (0 : Int32) v19) fun M20 =>
          F_X2_readStep_189 t p0 p1 M20
      else
        zb (F_X8_place M7 p0 (M7.1 p1 0) (M7.1 p1 1)) fun v22 M21 =>
        zbv (F_X2_add M21 t (2 : Int32) v22 (0 : Int32) (0 : Int32)) fun M23 =>
        F_X2_readStep_189 t p0 p1 M23
    else
      zb (F_X8_place M5 p0 (M5.1 p1 0) (M5.1 p1 1)) fun v25 M24 =>
      zb (F_X8_place M24 p0 (M24.1 p1 0) (M24.1 p1 1)) fun v27 M26 =>
      zbv (F_X2_add M26 t (1 : Int32) v25 v27 (0 : Int32)) fun M28 =>
      F_X2_readStep_189 t p0 p1 M28
  else
    zb (F_X8_place M3 p0 (M3.1 p1 0) (M3.1 p1 1)) fun v30 M29 =>
    zb (F_X8_number M29 p0 (1 : Int32) (999 : Int32)) fun v32 M31 =>
    zbv (F_X2_add M31 t (0 : Int32) v30 (0 : Int32) v32) fun M33 =>
    F_X2_readStep_189 t p0 p1 M33
def rm_X2_readStep : Room := { frames := 9, cells := 0, slots := 0, locals := 283 }
set_option maxHeartbeats 4000000 in
set_option maxRecDepth 100000 in
theorem c_X2_readStep (l : Launch) {G : zG} {ad : Nat → Nat} {n : Nat} (hA : zInj ad n) (M : zMem) (t : Nat) (p0 : Nat) (p1 : Nat) (hT_t : zT shX n t 3) (hT_p0 : zT shX n p0 9) (hT_p1 : zT shX n p1 6) {M9 : zMem} (hF : F_X2_readStep M t p0 p1 = some M9) : zM l yX2_readStep cX2_readStep 4 none rm_X2_readStep G shX ad n M [.ref (ad t), .ref (ad p0), .ref (ad p1)] none M9 := by
  refine zM_of hA (by decide +kernel) (lv := [(0, .ref (ad t)), (1, .ref (ad p0)), (2, .ref (ad p1))]) (Nat.le_of_ble_eq_true rfl) rfl (fun p e s m args below meth c A cx hr => ?_)
  have hb189 : ∀ (M : zMem), F_X2_readStep_189 t p0 p1 M = some M9 → zJ p l e rm_X2_readStep s m args below meth c G shX ad n A 4 (MQ below (zQ G shX ad n M9 none A) args s 0 0 A) 0 0 M 189 [(1, .ref (ad p0))] [] := by
    intro M hF
    unfold F_X2_readStep_189 at hF
    refine z_aload_n cx d_X2_readStep_189 0 rfl ?_
    refine z_bipush (v := 59) cx d_X2_readStep_190 kb_59 ?_
    obtain ⟨M1, hc, hF⟩ := zbv_inv hF
    refine z_callV cx (As := [.int (59 : Int32)]) (rest := []) (c_X8_sign l cx.2.2.2.1.1 M p0 (59 : Int32) hT_p0 hc) hT_p0 zo_9 cv_Job_108 ⟨rfl, rfl, Nat.le_of_ble_eq_true rfl, Nat.le_of_ble_eq_true rfl⟩ rfl rfl ⟨Nat.zero_le _, Nat.zero_le _⟩ (Nat.le_of_ble_eq_true rfl) d_X2_readStep_192 ?_
    exact z_vret cx hr hF d_X2_readStep_195
  unfold F_X2_readStep at hF
  refine z_aload_n cx d_X2_readStep_0 1 rfl ?_
  obtain ⟨M2, hc, hF⟩ := zbv_inv hF
  refine z_callV cx (As := []) (rest := []) (c_X8_word l cx.2.2.2.1.1 M p0 hT_p0 hc) hT_p0 zo_9 cv_Job_61 ⟨rfl, rfl, Nat.le_of_ble_eq_true rfl, Nat.le_of_ble_eq_true rfl⟩ rfl rfl ⟨Nat.zero_le _, Nat.zero_le _⟩ (Nat.le_of_ble_eq_true rfl) d_X2_readStep_1 ?_
  refine z_aload_n cx d_X2_readStep_4 1 rfl ?_
  refine z_ldcS cx 14 (by decide) d_X2_readStep_5 ?_
  obtain ⟨v4, M3, hc, hF⟩ := zb_inv hF
  refine z_callV cx (As := [.ref (zSK G 14)]) (rest := []) (c_X8_wordIs l cx.2.2.2.1.1 M2 p0 14 hT_p0 (by decide) hc) hT_p0 zo_9 cv_Job_66 ⟨rfl, rfl, Nat.le_of_ble_eq_true rfl, Nat.le_of_ble_eq_true rfl⟩ rfl rfl ⟨Nat.zero_le _, Nat.zero_le _⟩ (Nat.le_of_ble_eq_true rfl) d_X2_readStep_7 ?_
  refine z_if_eq cx 44 d_X2_readStep_10 (by decide) hF (fun hF => ?_) (fun hF => ?_)
  · refine z_aload_n cx d_X2_readStep_44 1 rfl ?_
    refine z_ldcS cx 15 (by decide) d_X2_readStep_45 ?_
    obtain ⟨v6, M5, hc, hF⟩ := zb_inv hF
    refine z_callV cx (As := [.ref (zSK G 15)]) (rest := []) (c_X8_wordIs l cx.2.2.2.1.1 M3 p0 15 hT_p0 (by decide) hc) hT_p0 zo_9 cv_Job_66 ⟨rfl, rfl, Nat.le_of_ble_eq_true rfl, Nat.le_of_ble_eq_true rfl⟩ rfl rfl ⟨Nat.zero_le _, Nat.zero_le _⟩ (Nat.le_of_ble_eq_true rfl) d_X2_readStep_47 ?_
    refine z_if_eq cx 88 d_X2_readStep_50 (by decide) hF (fun hF => ?_) (fun hF => ?_)
    · refine z_aload_n cx d_X2_readStep_88 1 rfl ?_
      refine z_ldcS cx 16 (by decide) d_X2_readStep_89 ?_
      obtain ⟨v8, M7, hc, hF⟩ := zb_inv hF
      refine z_callV cx (As := [.ref (zSK G 16)]) (rest := []) (c_X8_wordIs l cx.2.2.2.1.1 M5 p0 16 hT_p0 (by decide) hc) hT_p0 zo_9 cv_Job_66 ⟨rfl, rfl, Nat.le_of_ble_eq_true rfl, Nat.le_of_ble_eq_true rfl⟩ rfl rfl ⟨Nat.zero_le _, Nat.zero_le _⟩ (Nat.le_of_ble_eq_true rfl) d_X2_readStep_91 ?_
      refine z_if_eq cx 119 d_X2_readStep_94 (by decide) hF (fun hF => ?_) (fun hF => ?_)
      · refine z_aload_n cx d_X2_readStep_119 1 rfl ?_
        refine z_ldcS cx 17 (by decide) d_X2_readStep_120 ?_
        obtain ⟨v10, M9, hc, hF⟩ := zb_inv hF
        refine z_callV cx (As := [.ref (zSK G 17)]) (rest := []) (c_X8_wordIs l cx.2.2.2.1.1 M7 p0 17 hT_p0 (by decide) hc) hT_p0 zo_9 cv_Job_66 ⟨rfl, rfl, Nat.le_of_ble_eq_true rfl, Nat.le_of_ble_eq_true rfl⟩ rfl rfl ⟨Nat.zero_le _, Nat.zero_le _⟩ (Nat.le_of_ble_eq_true rfl) d_X2_readStep_122 ?_
        refine z_if_eq cx 145 d_X2_readStep_125 (by decide) hF (fun hF => ?_) (fun hF => ?_)
        · refine z_aload_n cx d_X2_readStep_145 1 rfl ?_
          refine z_ldcS cx 2 (by decide) d_X2_readStep_146 ?_
          obtain ⟨v12, M11, hc, hF⟩ := zb_inv hF
          refine z_callV cx (As := [.ref (zSK G 2)]) (rest := []) (c_X8_wordIs l cx.2.2.2.1.1 M9 p0 2 hT_p0 (by decide) hc) hT_p0 zo_9 cv_Job_66 ⟨rfl, rfl, Nat.le_of_ble_eq_true rfl, Nat.le_of_ble_eq_true rfl⟩ rfl rfl ⟨Nat.zero_le _, Nat.zero_le _⟩ (Nat.le_of_ble_eq_true rfl) d_X2_readStep_148 ?_
          refine z_if_eq cx 165 d_X2_readStep_151 (by decide) hF (fun hF => ?_) (fun hF => ?_)
          · refine z_aload_n cx d_X2_readStep_165 1 rfl ?_
            refine z_ldcS cx 18 (by decide) d_X2_readStep_166 ?_
            obtain ⟨v14, M13, hc, hF⟩ := zb_inv hF
            refine z_callV cx (As := [.ref (zSK G 18)]) (rest := []) (c_X8_wordIs l cx.2.2.2.1.1 M11 p0 18 hT_p0 (by decide) hc) hT_p0 zo_9 cv_Job_66 ⟨rfl, rfl, Nat.le_of_ble_eq_true rfl, Nat.le_of_ble_eq_true rfl⟩ rfl rfl ⟨Nat.zero_le _, Nat.zero_le _⟩ (Nat.le_of_ble_eq_true rfl) d_X2_readStep_168 ?_
            refine z_if_eq cx 180 d_X2_readStep_171 (by decide) hF (fun hF => ?_) (fun hF => ?_)
            · refine z_aload_n cx d_X2_readStep_180 1 rfl ?_
              refine z_iconst (v := 1) cx d_X2_readStep_181 ki_1 ?_
              refine z_aload_n cx d_X2_readStep_182 1 rfl ?_
              refine z_getI cx hT_p0 fg_Job_101 d_X2_readStep_183 ?_
              obtain ⟨M15, hc, hF⟩ := zbv_inv hF
              refine z_callV cx (As := [.int (1 : Int32), .int (M13.1 p0 4)]) (rest := []) (c_X8_fail l cx.2.2.2.1.1 M13 p0 (1 : Int32) (M13.1 p0 4) hT_p0 hc) hT_p0 zo_9 cv_Job_104 ⟨rfl, rfl, Nat.le_of_ble_eq_true rfl, Nat.le_of_ble_eq_true rfl⟩ rfl rfl ⟨Nat.zero_le _, Nat.zero_le _⟩ (Nat.le_of_ble_eq_true rfl) d_X2_readStep_186 ?_
              exact z_lv [1] _ rfl (hb189 M15 hF)
            refine z_aload_n cx d_X2_readStep_174 0 rfl ?_
            refine z_aload_n cx d_X2_readStep_175 1 rfl ?_
            obtain ⟨M16, hc, hF⟩ := zbv_inv hF
            refine z_callV cx (As := [.ref (ad p0)]) (rest := []) (c_X2_openAgain l cx.2.2.2.1.1 M13 t p0 hT_t hT_p0 hc) hT_t zo_3 cv_Job_98 ⟨rfl, rfl, Nat.le_of_ble_eq_true rfl, Nat.le_of_ble_eq_true rfl⟩ rfl rfl ⟨Nat.zero_le _, Nat.zero_le _⟩ (Nat.le_of_ble_eq_true rfl) d_X2_readStep_176 ?_
            exact z_vret cx hr hF d_X2_readStep_179
          refine z_aload_n cx d_X2_readStep_154 0 rfl ?_
          refine z_iconst (v := 4) cx d_X2_readStep_155 ki_4 ?_
          refine z_iconst (v := 0) cx d_X2_readStep_156 ki_0 ?_
          refine z_iconst (v := 0) cx d_X2_readStep_157 ki_0 ?_
          refine z_iconst (v := 0) cx d_X2_readStep_158 ki_0 ?_
          obtain ⟨M17, hc, hF⟩ := zbv_inv hF
          refine z_callV cx (As := [.int (4 : Int32), .int (0 : Int32), .int (0 : Int32), .int (0 : Int32)]) (rest := []) (c_X2_add l cx.2.2.2.1.1 M11 t (4 : Int32) (0 : Int32) (0 : Int32) (0 : Int32) hT_t hc) hT_t zo_3 cv_Job_84 ⟨rfl, rfl, Nat.le_of_ble_eq_true rfl, Nat.le_of_ble_eq_true rfl⟩ rfl rfl ⟨Nat.zero_le _, Nat.zero_le _⟩ (Nat.le_of_ble_eq_true rfl) d_X2_readStep_159 ?_
          refine z_goto cx 189 d_X2_readStep_162 (by decide) ?_
          exact z_lv [1] _ rfl (hb189 M17 hF)
        refine z_aload_n cx d_X2_readStep_128 0 rfl ?_
        refine z_iconst (v := 3) cx d_X2_readStep_129 ki_3 ?_
        refine z_iconst (v := 0) cx d_X2_readStep_130 ki_0 ?_
        refine z_iconst (v := 0) cx d_X2_readStep_131 ki_0 ?_
        refine z_aload_n cx d_X2_readStep_132 1 rfl ?_
        refine z_iconst (v := 1) cx d_X2_readStep_133 ki_1 ?_
        refine z_bipush (v := 99) cx d_X2_readStep_134 kb_99 ?_
        obtain ⟨v19, M18, hc, hF⟩ := zb_inv hF
        refine z_callV cx (As := [.int (1 : Int32), .int (99 : Int32)]) (rest := [.int (0 : Int32), .int (0 : Int32), .int (3 : Int32), .ref (ad t)]) (c_X8_number l cx.2.2.2.1.1 M9 p0 (1 : Int32) (99 : Int32) hT_p0 hc) hT_p0 zo_9 cv_Job_81 ⟨rfl, rfl, Nat.le_of_ble_eq_true rfl, Nat.le_of_ble_eq_true rfl⟩ rfl rfl ⟨Nat.zero_le _, Nat.zero_le _⟩ (Nat.le_of_ble_eq_true rfl) d_X2_readStep_136 ?_
        obtain ⟨M20, hc, hF⟩ := zbv_inv hF
        refine z_callV cx (As := [.int (3 : Int32), .int (0 : Int32), .int (0 : Int32), .int v19]) (rest := []) (c_X2_add l cx.2.2.2.1.1 M18 t (3 : Int32) (0 : Int32) (0 : Int32) v19 hT_t hc) hT_t zo_3 cv_Job_84 ⟨rfl, rfl, Nat.le_of_ble_eq_true rfl, Nat.le_of_ble_eq_true rfl⟩ rfl rfl ⟨Nat.zero_le _, Nat.zero_le _⟩ (Nat.le_of_ble_eq_true rfl) d_X2_readStep_139 ?_
        refine z_goto cx 189 d_X2_readStep_142 (by decide) ?_
        exact z_lv [1] _ rfl (hb189 M20 hF)
      refine z_aload_n cx d_X2_readStep_97 0 rfl ?_
      refine z_iconst (v := 2) cx d_X2_readStep_98 ki_2 ?_
      refine z_aload_n cx d_X2_readStep_99 1 rfl ?_
      refine z_aload_n cx d_X2_readStep_100 2 rfl ?_
      refine z_getI cx hT_p1 fg_Job_70 d_X2_readStep_101 ?_
      refine z_aload_n cx d_X2_readStep_104 2 rfl ?_
      refine z_getI cx hT_p1 fg_Job_75 d_X2_readStep_105 ?_
      obtain ⟨v22, M21, hc, hF⟩ := zb_inv hF
      refine z_callV cx (As := [.int (M7.1 p1 0), .int (M7.1 p1 1)]) (rest := [.int (2 : Int32), .ref (ad t)]) (c_X8_place l cx.2.2.2.1.1 M7 p0 (M7.1 p1 0) (M7.1 p1 1) hT_p0 hc) hT_p0 zo_9 cv_Job_78 ⟨rfl, rfl, Nat.le_of_ble_eq_true rfl, Nat.le_of_ble_eq_true rfl⟩ rfl rfl ⟨Nat.zero_le _, Nat.zero_le _⟩ (Nat.le_of_ble_eq_true rfl) d_X2_readStep_108 ?_
      refine z_iconst (v := 0) cx d_X2_readStep_111 ki_0 ?_
      refine z_iconst (v := 0) cx d_X2_readStep_112 ki_0 ?_
      obtain ⟨M23, hc, hF⟩ := zbv_inv hF
      refine z_callV cx (As := [.int (2 : Int32), .int v22, .int (0 : Int32), .int (0 : Int32)]) (rest := []) (c_X2_add l cx.2.2.2.1.1 M21 t (2 : Int32) v22 (0 : Int32) (0 : Int32) hT_t hc) hT_t zo_3 cv_Job_84 ⟨rfl, rfl, Nat.le_of_ble_eq_true rfl, Nat.le_of_ble_eq_true rfl⟩ rfl rfl ⟨Nat.zero_le _, Nat.zero_le _⟩ (Nat.le_of_ble_eq_true rfl) d_X2_readStep_113 ?_
      refine z_goto cx 189 d_X2_readStep_116 (by decide) ?_
      exact z_lv [1] _ rfl (hb189 M23 hF)
    refine z_aload_n cx d_X2_readStep_53 1 rfl ?_
    refine z_aload_n cx d_X2_readStep_54 2 rfl ?_
    refine z_getI cx hT_p1 fg_Job_70 d_X2_readStep_55 ?_
    refine z_aload_n cx d_X2_readStep_58 2 rfl ?_
    refine z_getI cx hT_p1 fg_Job_75 d_X2_readStep_59 ?_
    obtain ⟨v25, M24, hc, hF⟩ := zb_inv hF
    refine z_callV cx (As := [.int (M5.1 p1 0), .int (M5.1 p1 1)]) (rest := []) (c_X8_place l cx.2.2.2.1.1 M5 p0 (M5.1 p1 0) (M5.1 p1 1) hT_p0 hc) hT_p0 zo_9 cv_Job_78 ⟨rfl, rfl, Nat.le_of_ble_eq_true rfl, Nat.le_of_ble_eq_true rfl⟩ rfl rfl ⟨Nat.zero_le _, Nat.zero_le _⟩ (Nat.le_of_ble_eq_true rfl) d_X2_readStep_62 ?_
    refine z_istore_n cx 3 [(3, .int v25), (0, .ref (ad t)), (1, .ref (ad p0)), (2, .ref (ad p1))] d_X2_readStep_65 rfl (by decide) rfl ?_
    refine z_aload_n cx d_X2_readStep_66 1 rfl ?_
    refine z_iconst (v := 1) cx d_X2_readStep_67 ki_1 ?_
    refine z_iload_n cx d_X2_readStep_68 0 rfl ?_
    refine z_aload_n cx d_X2_readStep_69 2 rfl ?_
    refine z_aload_n cx d_X2_readStep_70 3 rfl ?_
    refine z_getI cx hT_p1 fg_Job_70 d_X2_readStep_71 ?_
    refine z_aload_n cx d_X2_readStep_74 3 rfl ?_
    refine z_getI cx hT_p1 fg_Job_75 d_X2_readStep_75 ?_
    obtain ⟨v27, M26, hc, hF⟩ := zb_inv hF
    refine z_callV cx (As := [.int (M24.1 p1 0), .int (M24.1 p1 1)]) (rest := [.int v25, .int (1 : Int32), .ref (ad t)]) (c_X8_place l cx.2.2.2.1.1 M24 p0 (M24.1 p1 0) (M24.1 p1 1) hT_p0 hc) hT_p0 zo_9 cv_Job_78 ⟨rfl, rfl, Nat.le_of_ble_eq_true rfl, Nat.le_of_ble_eq_true rfl⟩ rfl rfl ⟨Nat.zero_le _, Nat.zero_le _⟩ (Nat.le_of_ble_eq_true rfl) d_X2_readStep_78 ?_
    refine z_iconst (v := 0) cx d_X2_readStep_81 ki_0 ?_
    obtain ⟨M28, hc, hF⟩ := zbv_inv hF
    refine z_callV cx (As := [.int (1 : Int32), .int v25, .int v27, .int (0 : Int32)]) (rest := []) (c_X2_add l cx.2.2.2.1.1 M26 t (1 : Int32) v25 v27 (0 : Int32) hT_t hc) hT_t zo_3 cv_Job_84 ⟨rfl, rfl, Nat.le_of_ble_eq_true rfl, Nat.le_of_ble_eq_true rfl⟩ rfl rfl ⟨Nat.zero_le _, Nat.zero_le _⟩ (Nat.le_of_ble_eq_true rfl) d_X2_readStep_82 ?_
    refine z_goto cx 189 d_X2_readStep_85 (by decide) ?_
    exact z_lv [2] _ rfl (hb189 M28 hF)
  refine z_aload_n cx d_X2_readStep_13 1 rfl ?_
  refine z_aload_n cx d_X2_readStep_14 2 rfl ?_
  refine z_getI cx hT_p1 fg_Job_70 d_X2_readStep_15 ?_
  refine z_aload_n cx d_X2_readStep_18 2 rfl ?_
  refine z_getI cx hT_p1 fg_Job_75 d_X2_readStep_19 ?_
  obtain ⟨v30, M29, hc, hF⟩ := zb_inv hF
  refine z_callV cx (As := [.int (M3.1 p1 0), .int (M3.1 p1 1)]) (rest := []) (c_X8_place l cx.2.2.2.1.1 M3 p0 (M3.1 p1 0) (M3.1 p1 1) hT_p0 hc) hT_p0 zo_9 cv_Job_78 ⟨rfl, rfl, Nat.le_of_ble_eq_true rfl, Nat.le_of_ble_eq_true rfl⟩ rfl rfl ⟨Nat.zero_le _, Nat.zero_le _⟩ (Nat.le_of_ble_eq_true rfl) d_X2_readStep_22 ?_
  refine z_istore_n cx 3 [(3, .int v30), (0, .ref (ad t)), (1, .ref (ad p0)), (2, .ref (ad p1))] d_X2_readStep_25 rfl (by decide) rfl ?_
  refine z_aload_n cx d_X2_readStep_26 1 rfl ?_
  refine z_iconst (v := 0) cx d_X2_readStep_27 ki_0 ?_
  refine z_iload_n cx d_X2_readStep_28 0 rfl ?_
  refine z_iconst (v := 0) cx d_X2_readStep_29 ki_0 ?_
  refine z_aload_n cx d_X2_readStep_30 2 rfl ?_
  refine z_iconst (v := 1) cx d_X2_readStep_31 ki_1 ?_
  refine z_sipush (v := 999) cx d_X2_readStep_32 ks_999 ?_
  obtain ⟨v32, M31, hc, hF⟩ := zb_inv hF
  refine z_callV cx (As := [.int (1 : Int32), .int (999 : Int32)]) (rest := [.int (0 : Int32), .int v30, .int (0 : Int32), .ref (ad t)]) (c_X8_number l cx.2.2.2.1.1 M29 p0 (1 : Int32) (999 : Int32) hT_p0 hc) hT_p0 zo_9 cv_Job_81 ⟨rfl, rfl, Nat.le_of_ble_eq_true rfl, Nat.le_of_ble_eq_true rfl⟩ rfl rfl ⟨Nat.zero_le _, Nat.zero_le _⟩ (Nat.le_of_ble_eq_true rfl) d_X2_readStep_35 ?_
  obtain ⟨M33, hc, hF⟩ := zbv_inv hF
  refine z_callV cx (As := [.int (0 : Int32), .int v30, .int (0 : Int32), .int v32]) (rest := []) (c_X2_add l cx.2.2.2.1.1 M31 t (0 : Int32) v30 (0 : Int32) v32 hT_t hc) hT_t zo_3 cv_Job_84 ⟨rfl, rfl, Nat.le_of_ble_eq_true rfl, Nat.le_of_ble_eq_true rfl⟩ rfl rfl ⟨Nat.zero_le _, Nat.zero_le _⟩ (Nat.le_of_ble_eq_true rfl) d_X2_readStep_38 ?_
  refine z_goto cx 189 d_X2_readStep_41 (by decide) ?_
  exact z_lv [2] _ rfl (hb189 M33 hF)
/-! SunnyPans$Text.failAtEnd -/
theorem d_X8_failAtEnd_0 : decode cX8_failAtEnd 0 = .ok (.aload_n 0, 1) := by decide +kernel
theorem d_X8_failAtEnd_1 : decode cX8_failAtEnd 1 = .ok (.iconst 1, 1) := by decide +kernel
theorem d_X8_failAtEnd_2 : decode cX8_failAtEnd 2 = .ok (.aload_n 0, 1) := by decide +kernel
theorem d_X8_failAtEnd_3 : decode cX8_failAtEnd 3 = .ok (.getfield 31, 3) := by decide +kernel
theorem d_X8_failAtEnd_6 : decode cX8_failAtEnd 6 = .ok (.invokevirtual 43, 3) := by decide +kernel
theorem d_X8_failAtEnd_9 : decode cX8_failAtEnd 9 = .ok (.return_, 1) := by decide +kernel
noncomputable def F_X8_failAtEnd (M : zMem) (t : Nat) : Option (zMem) :=
  zbv (F_X8_fail M t (1 : Int32) (M.1 t 6)) fun M1 =>
  some M1
def rm_X8_failAtEnd : Room := { frames := 3, cells := 0, slots := 0, locals := 102 }
set_option maxHeartbeats 4000000 in
set_option maxRecDepth 100000 in
theorem c_X8_failAtEnd (l : Launch) {G : zG} {ad : Nat → Nat} {n : Nat} (hA : zInj ad n) (M : zMem) (t : Nat) (hT_t : zT shX n t 9) {M9 : zMem} (hF : F_X8_failAtEnd M t = some M9) : zM l yX8_failAtEnd cX8_failAtEnd 1 none rm_X8_failAtEnd G shX ad n M [.ref (ad t)] none M9 := by
  refine zM_of hA (by decide +kernel) (lv := [(0, .ref (ad t))]) (Nat.le_of_ble_eq_true rfl) rfl (fun p e s m args below meth c A cx hr => ?_)
  unfold F_X8_failAtEnd at hF
  refine z_aload_n cx d_X8_failAtEnd_0 0 rfl ?_
  refine z_iconst (v := 1) cx d_X8_failAtEnd_1 ki_1 ?_
  refine z_aload_n cx d_X8_failAtEnd_2 0 rfl ?_
  refine z_getI cx hT_t fg_Text_31 d_X8_failAtEnd_3 ?_
  obtain ⟨M1, hc, hF⟩ := zbv_inv hF
  refine z_callV cx (As := [.int (1 : Int32), .int (M.1 t 6)]) (rest := []) (c_X8_fail l cx.2.2.2.1.1 M t (1 : Int32) (M.1 t 6) hT_t hc) hT_t zo_9 cv_Text_43 ⟨rfl, rfl, Nat.le_of_ble_eq_true rfl, Nat.le_of_ble_eq_true rfl⟩ rfl rfl ⟨Nat.zero_le _, Nat.zero_le _⟩ (Nat.le_of_ble_eq_true rfl) d_X8_failAtEnd_6 ?_
  exact z_vret cx hr hF d_X8_failAtEnd_9
/-! SunnyPans$Job.read -/
set_option maxRecDepth 100000 in
theorem wd_874 : Cond.code yX8_failAtEnd cX8_failAtEnd 1 none ∈ tbG := tw4 54 rfl rfl
set_option maxRecDepth 100000 in
theorem wd_871 : Cond.methodLink "SunnyPans$Job" 58 yX8_failAtEnd ∈ tbG := tw4 51 rfl rfl
set_option maxRecDepth 100000 in
theorem wd_872 : Cond.instanceMethod yX8_failAtEnd ∈ tbG := tw4 52 rfl rfl
set_option maxRecDepth 100000 in
theorem wd_873 : Cond.selects "SunnyPans$Text" yX8_failAtEnd yX8_failAtEnd ∈ tbG := tw4 53 rfl rfl
theorem cv_Job_58 : zCV "SunnyPans$Job" 58 "SunnyPans$Text" yX8_failAtEnd cX8_failAtEnd 1 none 0 := zCV_of wd_871 wd_872 wd_873 wd_102 wd_874 (by decide +kernel)
set_option maxRecDepth 100000 in
theorem wd_855 : Cond.code yX2_readStep cX2_readStep 4 none ∈ tbG := tw4 35 rfl rfl
set_option maxRecDepth 100000 in
theorem wd_852 : Cond.methodLink "SunnyPans$Job" 54 yX2_readStep ∈ tbG := tw4 32 rfl rfl
set_option maxRecDepth 100000 in
theorem wd_854 : Cond.instanceMethod yX2_readStep ∈ tbG := tw4 34 rfl rfl
theorem wd_17 : Cond.selects "SunnyPans$Job" yX2_readStep yX2_readStep ∈ tbG := tw 17 (by decide +kernel) rfl
theorem cv_Job_54 : zCV "SunnyPans$Job" 54 "SunnyPans$Job" yX2_readStep cX2_readStep 4 none 2 := zCV_of wd_852 wd_854 wd_17 wd_105 wd_855 (by decide +kernel)
set_option maxRecDepth 100000 in
theorem wd_841 : Cond.methodLink "SunnyPans$Job" 40 yX8_goesOn ∈ tbG := tw4 21 rfl rfl
theorem cv_Job_40 : zCV "SunnyPans$Job" 40 "SunnyPans$Text" yX8_goesOn cX8_goesOn 1 (some .boolean) 0 := zCV_of wd_841 wd_612 wd_613 wd_102 wd_614 (by decide +kernel)
set_option maxRecDepth 100000 in
theorem wd_842 : Cond.methodLink "SunnyPans$Job" 46 yX8_sees ∈ tbG := tw4 22 rfl rfl
theorem cv_Job_46 : zCV "SunnyPans$Job" 46 "SunnyPans$Text" yX8_sees cX8_sees 2 (some .boolean) 1 := zCV_of wd_842 wd_728 wd_729 wd_102 wd_730 (by decide +kernel)
set_option maxRecDepth 100000 in
theorem wd_846 : Cond.code yX2_closeAgain cX2_closeAgain 3 none ∈ tbG := tw4 26 rfl rfl
set_option maxRecDepth 100000 in
theorem wd_843 : Cond.methodLink "SunnyPans$Job" 50 yX2_closeAgain ∈ tbG := tw4 23 rfl rfl
set_option maxRecDepth 100000 in
theorem wd_845 : Cond.instanceMethod yX2_closeAgain ∈ tbG := tw4 25 rfl rfl
theorem wd_15 : Cond.selects "SunnyPans$Job" yX2_closeAgain yX2_closeAgain ∈ tbG := tw 15 (by decide +kernel) rfl
theorem cv_Job_50 : zCV "SunnyPans$Job" 50 "SunnyPans$Job" yX2_closeAgain cX2_closeAgain 3 none 1 := zCV_of wd_843 wd_845 wd_15 wd_105 wd_846 (by decide +kernel)
theorem d_X2_read_0 : decode cX2_read 0 = .ok (.aload_n 0, 1) := by decide +kernel
theorem d_X2_read_1 : decode cX2_read 1 = .ok (.iconst 0, 1) := by decide +kernel
theorem d_X2_read_2 : decode cX2_read 2 = .ok (.putfield 33, 3) := by decide +kernel
theorem d_X2_read_5 : decode cX2_read 5 = .ok (.aload_n 0, 1) := by decide +kernel
theorem d_X2_read_6 : decode cX2_read 6 = .ok (.iconst 0, 1) := by decide +kernel
theorem d_X2_read_7 : decode cX2_read 7 = .ok (.putfield 37, 3) := by decide +kernel
theorem d_X2_read_10 : decode cX2_read 10 = .ok (.iconst 0, 1) := by decide +kernel
theorem d_X2_read_11 : decode cX2_read 11 = .ok (.istore_n 3, 1) := by decide +kernel
theorem d_X2_read_12 : decode cX2_read 12 = .ok (.iload_n 3, 1) := by decide +kernel
theorem d_X2_read_13 : decode cX2_read 13 = .ok (.sipush 150, 3) := by decide +kernel
theorem d_X2_read_16 : decode cX2_read 16 = .ok (.if_icmp .ge 46, 3) := by decide +kernel
theorem d_X2_read_19 : decode cX2_read 19 = .ok (.aload_n 1, 1) := by decide +kernel
theorem d_X2_read_20 : decode cX2_read 20 = .ok (.invokevirtual 40, 3) := by decide +kernel
theorem d_X2_read_23 : decode cX2_read 23 = .ok (.ifCond .eq 39, 3) := by decide +kernel
theorem d_X2_read_26 : decode cX2_read 26 = .ok (.aload_n 0, 1) := by decide +kernel
theorem d_X2_read_27 : decode cX2_read 27 = .ok (.getfield 37, 3) := by decide +kernel
theorem d_X2_read_30 : decode cX2_read 30 = .ok (.ifCond .le 20, 3) := by decide +kernel
theorem d_X2_read_33 : decode cX2_read 33 = .ok (.aload_n 1, 1) := by decide +kernel
theorem d_X2_read_34 : decode cX2_read 34 = .ok (.bipush 93, 2) := by decide +kernel
theorem d_X2_read_36 : decode cX2_read 36 = .ok (.invokevirtual 46, 3) := by decide +kernel
theorem d_X2_read_39 : decode cX2_read 39 = .ok (.ifCond .eq 11, 3) := by decide +kernel
theorem d_X2_read_42 : decode cX2_read 42 = .ok (.aload_n 0, 1) := by decide +kernel
theorem d_X2_read_43 : decode cX2_read 43 = .ok (.aload_n 1, 1) := by decide +kernel
theorem d_X2_read_44 : decode cX2_read 44 = .ok (.invokevirtual 50, 3) := by decide +kernel
theorem d_X2_read_47 : decode cX2_read 47 = .ok (.goto 9, 3) := by decide +kernel
theorem d_X2_read_50 : decode cX2_read 50 = .ok (.aload_n 0, 1) := by decide +kernel
theorem d_X2_read_51 : decode cX2_read 51 = .ok (.aload_n 1, 1) := by decide +kernel
theorem d_X2_read_52 : decode cX2_read 52 = .ok (.aload_n 2, 1) := by decide +kernel
theorem d_X2_read_53 : decode cX2_read 53 = .ok (.invokevirtual 54, 3) := by decide +kernel
theorem d_X2_read_56 : decode cX2_read 56 = .ok (.iinc 3 1, 3) := by decide +kernel
theorem d_X2_read_59 : decode cX2_read 59 = .ok (.goto (-47), 3) := by decide +kernel
theorem d_X2_read_62 : decode cX2_read 62 = .ok (.aload_n 0, 1) := by decide +kernel
theorem d_X2_read_63 : decode cX2_read 63 = .ok (.getfield 37, 3) := by decide +kernel
theorem d_X2_read_66 : decode cX2_read 66 = .ok (.ifCond .le 7, 3) := by decide +kernel
theorem d_X2_read_69 : decode cX2_read 69 = .ok (.aload_n 1, 1) := by decide +kernel
theorem d_X2_read_70 : decode cX2_read 70 = .ok (.invokevirtual 58, 3) := by decide +kernel
theorem d_X2_read_73 : decode cX2_read 73 = .ok (.return_, 1) := by decide +kernel
noncomputable def F_X2_read_62 (t : Nat) (p0 : Nat) (p1 : Nat) (M : zMem) : Option (zMem) :=
  if (M.1 t 7) ≤ 0 then
    some M
  else
    zbv (F_X8_failAtEnd M p0) fun M1 =>
    some M1
noncomputable def F_X2_read_56 (t : Nat) (p0 : Nat) (p1 : Nat) (self12 : Int32 → zMem → Option (zMem)) (b56_L3 : Int32) (M : zMem) : Option (zMem) :=
  self12 (b56_L3 + 1) M
noncomputable def F_X2_read_50 (t : Nat) (p0 : Nat) (p1 : Nat) (self12 : Int32 → zMem → Option (zMem)) (b50_L3 : Int32) (M : zMem) : Option (zMem) :=
  zbv (F_X2_readStep M t p0 p1) fun M2 =>
  F_X2_read_56 t p0 p1 self12 b50_L3 M2
noncomputable def F_X2_read_12 (t : Nat) (p0 : Nat) (p1 : Nat) (self12 : Int32 → zMem → Option (zMem)) (b12_L3 : Int32) (M : zMem) : Option (zMem) :=
  if (150 : Int32) ≤ b12_L3 then
    F_X2_read_62 t p0 p1 M
  else
    zb (F_X8_goesOn M p0) fun v4 M3 =>
    if v4 = 0 then
      F_X2_read_62 t p0 p1 M3
    else
      if (M3.1 t 7) ≤ 0 then
        F_X2_read_50 t p0 p1 self12 b12_L3 M3
      else
        zb (F_X8_sees M3 p0 (93 : Int32)) fun v6 M5 =>
        if v6 = 0 then
          F_X2_read_50 t p0 p1 self12 b12_L3 M5
        else
          zbv (F_X2_closeAgain M5 t p0) fun M7 =>
          F_X2_read_56 t p0 p1 self12 b12_L3 M7
noncomputable def F_X2_read (M : zMem) (t : Nat) (p0 : Nat) (p1 : Nat) : Option (zMem) :=
  zl (zI M t 8 (0 : Int32)) fun M8 =>
  zl (zI M8 t 7 (0 : Int32)) fun M9 =>
  itF (fun _ _ => none) (F_X2_read_12 t p0 p1) zFuel (0 : Int32) M9
def rm_X2_read : Room := { frames := 10, cells := 0, slots := 0, locals := 306 }
set_option maxHeartbeats 4000000 in
set_option maxRecDepth 100000 in
theorem c_X2_read (l : Launch) {G : zG} {ad : Nat → Nat} {n : Nat} (hA : zInj ad n) (M : zMem) (t : Nat) (p0 : Nat) (p1 : Nat) (hT_t : zT shX n t 3) (hT_p0 : zT shX n p0 9) (hT_p1 : zT shX n p1 6) {M9 : zMem} (hF : F_X2_read M t p0 p1 = some M9) : zM l yX2_read cX2_read 4 none rm_X2_read G shX ad n M [.ref (ad t), .ref (ad p0), .ref (ad p1)] none M9 := by
  refine zM_of hA (by decide +kernel) (lv := [(0, .ref (ad t)), (1, .ref (ad p0)), (2, .ref (ad p1))]) (Nat.le_of_ble_eq_true rfl) rfl (fun p e s m args below meth c A cx hr => ?_)
  have hb62 : ∀ (M : zMem), F_X2_read_62 t p0 p1 M = some M9 → zJ p l e rm_X2_read s m args below meth c G shX ad n A 4 (MQ below (zQ G shX ad n M9 none A) args s 0 0 A) 0 0 M 62 [(0, .ref (ad t)), (1, .ref (ad p0))] [] := by
    intro M hF
    unfold F_X2_read_62 at hF
    refine z_aload_n cx d_X2_read_62 0 rfl ?_
    refine z_getI cx hT_t fg_Job_37 d_X2_read_63 ?_
    refine z_if_le cx 73 d_X2_read_66 (by decide) hF (fun hF => ?_) (fun hF => ?_)
    · exact z_vret cx hr hF d_X2_read_73
    refine z_aload_n cx d_X2_read_69 1 rfl ?_
    obtain ⟨M1, hc, hF⟩ := zbv_inv hF
    refine z_callV cx (As := []) (rest := []) (c_X8_failAtEnd l cx.2.2.2.1.1 M p0 hT_p0 hc) hT_p0 zo_9 cv_Job_58 ⟨rfl, rfl, Nat.le_of_ble_eq_true rfl, Nat.le_of_ble_eq_true rfl⟩ rfl rfl ⟨Nat.zero_le _, Nat.zero_le _⟩ (Nat.le_of_ble_eq_true rfl) d_X2_read_70 ?_
    exact z_vret cx hr hF d_X2_read_73
  have hb56 : ∀ (self12 : Int32 → zMem → Option (zMem)) (hs12 : ∀ (b12_L3 : Int32) (M : zMem), self12 b12_L3 M = some M9 → zJ p l e rm_X2_read s m args below meth c G shX ad n A 4 (MQ below (zQ G shX ad n M9 none A) args s 0 0 A) 0 0 M 12 [(0, .ref (ad t)), (1, .ref (ad p0)), (2, .ref (ad p1)), (3, .int b12_L3)] []), ∀ (b56_L3 : Int32) (M : zMem), F_X2_read_56 t p0 p1 self12 b56_L3 M = some M9 → zJ p l e rm_X2_read s m args below meth c G shX ad n A 4 (MQ below (zQ G shX ad n M9 none A) args s 0 0 A) 0 0 M 56 [(0, .ref (ad t)), (1, .ref (ad p0)), (2, .ref (ad p1)), (3, .int b56_L3)] [] := by
    intro self12 hs12 b56_L3 M hF
    unfold F_X2_read_56 at hF
    refine z_iinc cx 3 1 [(3, .int (b56_L3 + 1)), (0, .ref (ad t)), (1, .ref (ad p0)), (2, .ref (ad p1))] d_X2_read_56 3 rfl ki_1 (by decide) rfl ?_
    refine z_goto cx 12 d_X2_read_59 (by decide) ?_
    exact z_lv [1, 2, 3, 0] _ rfl (hs12 (b56_L3 + 1) M hF)
  have hb50 : ∀ (self12 : Int32 → zMem → Option (zMem)) (hs12 : ∀ (b12_L3 : Int32) (M : zMem), self12 b12_L3 M = some M9 → zJ p l e rm_X2_read s m args below meth c G shX ad n A 4 (MQ below (zQ G shX ad n M9 none A) args s 0 0 A) 0 0 M 12 [(0, .ref (ad t)), (1, .ref (ad p0)), (2, .ref (ad p1)), (3, .int b12_L3)] []), ∀ (b50_L3 : Int32) (M : zMem), F_X2_read_50 t p0 p1 self12 b50_L3 M = some M9 → zJ p l e rm_X2_read s m args below meth c G shX ad n A 4 (MQ below (zQ G shX ad n M9 none A) args s 0 0 A) 0 0 M 50 [(0, .ref (ad t)), (1, .ref (ad p0)), (2, .ref (ad p1)), (3, .int b50_L3)] [] := by
    intro self12 hs12 b50_L3 M hF
    unfold F_X2_read_50 at hF
    refine z_aload_n cx d_X2_read_50 0 rfl ?_
    refine z_aload_n cx d_X2_read_51 1 rfl ?_
    refine z_aload_n cx d_X2_read_52 2 rfl ?_
    obtain ⟨M2, hc, hF⟩ := zbv_inv hF
    refine z_callV cx (As := [.ref (ad p0), .ref (ad p1)]) (rest := []) (c_X2_readStep l cx.2.2.2.1.1 M t p0 p1 hT_t hT_p0 hT_p1 hc) hT_t zo_3 cv_Job_54 ⟨rfl, rfl, Nat.le_of_ble_eq_true rfl, Nat.le_of_ble_eq_true rfl⟩ rfl rfl ⟨Nat.zero_le _, Nat.zero_le _⟩ (Nat.le_of_ble_eq_true rfl) d_X2_read_53 ?_
    exact hb56 self12 hs12 b50_L3 M2 hF
  have hL12 : ∀ (fuel : Nat), ∀ (b12_L3 : Int32) (M : zMem), itF (fun _ _ => none) (F_X2_read_12 t p0 p1) fuel b12_L3 M = some M9 → zJ p l e rm_X2_read s m args below meth c G shX ad n A 4 (MQ below (zQ G shX ad n M9 none A) args s 0 0 A) 0 0 M 12 [(0, .ref (ad t)), (1, .ref (ad p0)), (2, .ref (ad p1)), (3, .int b12_L3)] [] := by
    intro fuel
    induction fuel with
    | zero => intro b12_L3 M hF; cases hF
    | succ fuel hs12 =>
      intro b12_L3 M hF
      have hF : F_X2_read_12 t p0 p1 (itF (fun _ _ => none) (F_X2_read_12 t p0 p1) fuel) b12_L3 M = some M9 := hF
      generalize itF (fun _ _ => none) (F_X2_read_12 t p0 p1) fuel = self12 at hs12 hF
      unfold F_X2_read_12 at hF
      refine z_iload_n cx d_X2_read_12 3 rfl ?_
      refine z_sipush (v := 150) cx d_X2_read_13 ks_150 ?_
      refine z_icmp_ge cx 62 d_X2_read_16 (by decide) hF (fun hF => ?_) (fun hF => ?_)
      · exact z_lv [0, 1] _ rfl (hb62 M hF)
      refine z_aload_n cx d_X2_read_19 1 rfl ?_
      obtain ⟨v4, M3, hc, hF⟩ := zb_inv hF
      refine z_callV cx (As := []) (rest := []) (c_X8_goesOn l cx.2.2.2.1.1 M p0 hT_p0 hc) hT_p0 zo_9 cv_Job_40 ⟨rfl, rfl, Nat.le_of_ble_eq_true rfl, Nat.le_of_ble_eq_true rfl⟩ rfl rfl ⟨Nat.zero_le _, Nat.zero_le _⟩ (Nat.le_of_ble_eq_true rfl) d_X2_read_20 ?_
      refine z_if_eq cx 62 d_X2_read_23 (by decide) hF (fun hF => ?_) (fun hF => ?_)
      · exact z_lv [0, 1] _ rfl (hb62 M3 hF)
      refine z_aload_n cx d_X2_read_26 0 rfl ?_
      refine z_getI cx hT_t fg_Job_37 d_X2_read_27 ?_
      refine z_if_le cx 50 d_X2_read_30 (by decide) hF (fun hF => ?_) (fun hF => ?_)
      · exact hb50 self12 hs12 b12_L3 M3 hF
      refine z_aload_n cx d_X2_read_33 1 rfl ?_
      refine z_bipush (v := 93) cx d_X2_read_34 kb_93 ?_
      obtain ⟨v6, M5, hc, hF⟩ := zb_inv hF
      refine z_callV cx (As := [.int (93 : Int32)]) (rest := []) (c_X8_sees l cx.2.2.2.1.1 M3 p0 (93 : Int32) hT_p0 hc) hT_p0 zo_9 cv_Job_46 ⟨rfl, rfl, Nat.le_of_ble_eq_true rfl, Nat.le_of_ble_eq_true rfl⟩ rfl rfl ⟨Nat.zero_le _, Nat.zero_le _⟩ (Nat.le_of_ble_eq_true rfl) d_X2_read_36 ?_
      refine z_if_eq cx 50 d_X2_read_39 (by decide) hF (fun hF => ?_) (fun hF => ?_)
      · exact hb50 self12 hs12 b12_L3 M5 hF
      refine z_aload_n cx d_X2_read_42 0 rfl ?_
      refine z_aload_n cx d_X2_read_43 1 rfl ?_
      obtain ⟨M7, hc, hF⟩ := zbv_inv hF
      refine z_callV cx (As := [.ref (ad p0)]) (rest := []) (c_X2_closeAgain l cx.2.2.2.1.1 M5 t p0 hT_t hT_p0 hc) hT_t zo_3 cv_Job_50 ⟨rfl, rfl, Nat.le_of_ble_eq_true rfl, Nat.le_of_ble_eq_true rfl⟩ rfl rfl ⟨Nat.zero_le _, Nat.zero_le _⟩ (Nat.le_of_ble_eq_true rfl) d_X2_read_44 ?_
      refine z_goto cx 56 d_X2_read_47 (by decide) ?_
      exact hb56 self12 hs12 b12_L3 M7 hF
  unfold F_X2_read at hF
  refine z_aload_n cx d_X2_read_0 0 rfl ?_
  refine z_iconst (v := 0) cx d_X2_read_1 ki_0 ?_
  refine z_putI cx hT_t fp_Job_33 d_X2_read_2 ?_
  refine z_nmM hF (fun M8 hF => ?_)
  refine z_aload_n cx d_X2_read_5 0 rfl ?_
  refine z_iconst (v := 0) cx d_X2_read_6 ki_0 ?_
  refine z_putI cx hT_t fp_Job_37 d_X2_read_7 ?_
  refine z_nmM hF (fun M9 hF => ?_)
  refine z_iconst (v := 0) cx d_X2_read_10 ki_0 ?_
  refine z_istore_n cx 3 [(3, .int (0 : Int32)), (0, .ref (ad t)), (1, .ref (ad p0)), (2, .ref (ad p1))] d_X2_read_11 rfl (by decide) rfl ?_
  exact z_lv [1, 2, 3, 0] _ rfl (hL12 zFuel (0 : Int32) M9 hF)
/-! SunnyPans$Job.isAt -/
theorem d_X2_isAt_0 : decode cX2_isAt 0 = .ok (.iload_n 1, 1) := by decide +kernel
theorem d_X2_isAt_1 : decode cX2_isAt 1 = .ok (.ifCond .lt 22, 3) := by decide +kernel
theorem d_X2_isAt_4 : decode cX2_isAt 4 = .ok (.iload_n 1, 1) := by decide +kernel
theorem d_X2_isAt_5 : decode cX2_isAt 5 = .ok (.aload_n 0, 1) := by decide +kernel
theorem d_X2_isAt_6 : decode cX2_isAt 6 = .ok (.getfield 33, 3) := by decide +kernel
theorem d_X2_isAt_9 : decode cX2_isAt 9 = .ok (.if_icmp .ge 14, 3) := by decide +kernel
theorem d_X2_isAt_12 : decode cX2_isAt 12 = .ok (.iload_n 1, 1) := by decide +kernel
theorem d_X2_isAt_13 : decode cX2_isAt 13 = .ok (.sipush 150, 3) := by decide +kernel
theorem d_X2_isAt_16 : decode cX2_isAt 16 = .ok (.if_icmp .ge 7, 3) := by decide +kernel
theorem d_X2_isAt_19 : decode cX2_isAt 19 = .ok (.iconst 1, 1) := by decide +kernel
theorem d_X2_isAt_20 : decode cX2_isAt 20 = .ok (.goto 4, 3) := by decide +kernel
theorem d_X2_isAt_23 : decode cX2_isAt 23 = .ok (.iconst 0, 1) := by decide +kernel
theorem d_X2_isAt_24 : decode cX2_isAt 24 = .ok (.ireturn, 1) := by decide +kernel
noncomputable def F_X2_isAt (M : zMem) (t : Nat) (p0 : Int32) : Option (Int32 × zMem) :=
  if p0 < 0 then
    some ((0 : Int32), M)
  else
    if (M.1 t 8) ≤ p0 then
      some ((0 : Int32), M)
    else
      if (150 : Int32) ≤ p0 then
        some ((0 : Int32), M)
      else
        some ((1 : Int32), M)
def rm_X2_isAt : Room := { frames := 2, cells := 0, slots := 0, locals := 80 }
set_option maxHeartbeats 4000000 in
set_option maxRecDepth 100000 in
theorem c_X2_isAt (l : Launch) {G : zG} {ad : Nat → Nat} {n : Nat} (hA : zInj ad n) (M : zMem) (t : Nat) (p0 : Int32) (hT_t : zT shX n t 3) {r9 : Int32} {M9 : zMem} (hF : F_X2_isAt M t p0 = some (r9, M9)) : zM l yX2_isAt cX2_isAt 2 (some .boolean) rm_X2_isAt G shX ad n M [.ref (ad t), .int p0] (some (.int r9)) M9 := by
  refine zM_of hA (by decide +kernel) (lv := [(0, .ref (ad t)), (1, .int p0)]) (Nat.le_of_ble_eq_true rfl) rfl (fun p e s m args below meth c A cx hr => ?_)
  unfold F_X2_isAt at hF
  refine z_iload_n cx d_X2_isAt_0 1 rfl ?_
  refine z_if_lt cx 23 d_X2_isAt_1 (by decide) hF (fun hF => ?_) (fun hF => ?_)
  · refine z_iconst (v := 0) cx d_X2_isAt_23 ki_0 ?_
    exact z_iret cx hr nb0 hF d_X2_isAt_24
  refine z_iload_n cx d_X2_isAt_4 1 rfl ?_
  refine z_aload_n cx d_X2_isAt_5 0 rfl ?_
  refine z_getI cx hT_t fg_Job_33 d_X2_isAt_6 ?_
  refine z_icmp_ge cx 23 d_X2_isAt_9 (by decide) hF (fun hF => ?_) (fun hF => ?_)
  · refine z_iconst (v := 0) cx d_X2_isAt_23 ki_0 ?_
    exact z_iret cx hr nb0 hF d_X2_isAt_24
  refine z_iload_n cx d_X2_isAt_12 1 rfl ?_
  refine z_sipush (v := 150) cx d_X2_isAt_13 ks_150 ?_
  refine z_icmp_ge cx 23 d_X2_isAt_16 (by decide) hF (fun hF => ?_) (fun hF => ?_)
  · refine z_iconst (v := 0) cx d_X2_isAt_23 ki_0 ?_
    exact z_iret cx hr nb0 hF d_X2_isAt_24
  refine z_iconst (v := 1) cx d_X2_isAt_19 ki_1 ?_
  refine z_goto cx 24 d_X2_isAt_20 (by decide) ?_
  exact z_iret cx hr nb1 hF d_X2_isAt_24
/-! SunnyPans$Job.behindAgain -/
theorem tfX_3_6 {n k : Nat} (h : zT shX n k 3) : zT shX n (k + 6) 21 := zT_off h (shX_f (by decide) (by decide +kernel)) (by decide) (by decide)
set_option maxRecDepth 100000 in
theorem wd_242 : Cond.fieldLink "SunnyPans$Job" 27 "SunnyPans$Job" "left" "[I" ∈ tbG := tw1 142 rfl rfl
theorem fg_Job_27 : zGetR "SunnyPans$Job" 27 2 3 5 6 := ⟨RX2, TX2, 9, rfl, by decide, uw_2, wd_242, fun _ _ _ _ _ _ => ⟨_, rfl, rfl⟩⟩
theorem d_X2_behindAgain_0 : decode cX2_behindAgain 0 = .ok (.aload_n 0, 1) := by decide +kernel
theorem d_X2_behindAgain_1 : decode cX2_behindAgain 1 = .ok (.getfield 21, 3) := by decide +kernel
theorem d_X2_behindAgain_4 : decode cX2_behindAgain 4 = .ok (.iload_n 1, 1) := by decide +kernel
theorem d_X2_behindAgain_5 : decode cX2_behindAgain 5 = .ok (.iaload, 1) := by decide +kernel
theorem d_X2_behindAgain_6 : decode cX2_behindAgain 6 = .ok (.ifCond .ne 12, 3) := by decide +kernel
theorem d_X2_behindAgain_9 : decode cX2_behindAgain 9 = .ok (.aload_n 0, 1) := by decide +kernel
theorem d_X2_behindAgain_10 : decode cX2_behindAgain 10 = .ok (.getfield 24, 3) := by decide +kernel
theorem d_X2_behindAgain_13 : decode cX2_behindAgain 13 = .ok (.iload_n 1, 1) := by decide +kernel
theorem d_X2_behindAgain_14 : decode cX2_behindAgain 14 = .ok (.iaload, 1) := by decide +kernel
theorem d_X2_behindAgain_15 : decode cX2_behindAgain 15 = .ok (.iconst 1, 1) := by decide +kernel
theorem d_X2_behindAgain_16 : decode cX2_behindAgain 16 = .ok (.iadd, 1) := by decide +kernel
theorem d_X2_behindAgain_17 : decode cX2_behindAgain 17 = .ok (.ireturn, 1) := by decide +kernel
theorem d_X2_behindAgain_18 : decode cX2_behindAgain 18 = .ok (.aload_n 0, 1) := by decide +kernel
theorem d_X2_behindAgain_19 : decode cX2_behindAgain 19 = .ok (.getfield 27, 3) := by decide +kernel
theorem d_X2_behindAgain_22 : decode cX2_behindAgain 22 = .ok (.iload_n 1, 1) := by decide +kernel
theorem d_X2_behindAgain_23 : decode cX2_behindAgain 23 = .ok (.aload_n 0, 1) := by decide +kernel
theorem d_X2_behindAgain_24 : decode cX2_behindAgain 24 = .ok (.getfield 21, 3) := by decide +kernel
theorem d_X2_behindAgain_27 : decode cX2_behindAgain 27 = .ok (.iload_n 1, 1) := by decide +kernel
theorem d_X2_behindAgain_28 : decode cX2_behindAgain 28 = .ok (.iaload, 1) := by decide +kernel
theorem d_X2_behindAgain_29 : decode cX2_behindAgain 29 = .ok (.iastore, 1) := by decide +kernel
theorem d_X2_behindAgain_30 : decode cX2_behindAgain 30 = .ok (.iload_n 1, 1) := by decide +kernel
theorem d_X2_behindAgain_31 : decode cX2_behindAgain 31 = .ok (.iconst 1, 1) := by decide +kernel
theorem d_X2_behindAgain_32 : decode cX2_behindAgain 32 = .ok (.iadd, 1) := by decide +kernel
theorem d_X2_behindAgain_33 : decode cX2_behindAgain 33 = .ok (.ireturn, 1) := by decide +kernel
noncomputable def F_X2_behindAgain (M : zMem) (t : Nat) (p0 : Int32) : Option (Int32 × zMem) :=
  gin p0 150 <|
  if (M.1 (t + 4) p0.toNatClampNeg) = 0 then
    some (((M.1 (t + 5) p0.toNatClampNeg) + (1 : Int32)), M)
  else
    zl (zI M (t + 6) p0.toNatClampNeg (M.1 (t + 4) p0.toNatClampNeg)) fun M2 =>
    some ((p0 + (1 : Int32)), M2)
def rm_X2_behindAgain : Room := { frames := 2, cells := 0, slots := 0, locals := 80 }
set_option maxHeartbeats 4000000 in
set_option maxRecDepth 100000 in
theorem c_X2_behindAgain (l : Launch) {G : zG} {ad : Nat → Nat} {n : Nat} (hA : zInj ad n) (M : zMem) (t : Nat) (p0 : Int32) (hT_t : zT shX n t 3) {r9 : Int32} {M9 : zMem} (hF : F_X2_behindAgain M t p0 = some (r9, M9)) : zM l yX2_behindAgain cX2_behindAgain 2 (some .int) rm_X2_behindAgain G shX ad n M [.ref (ad t), .int p0] (some (.int r9)) M9 := by
  refine zM_of hA (by decide +kernel) (lv := [(0, .ref (ad t)), (1, .int p0)]) (Nat.le_of_ble_eq_true rfl) rfl (fun p e s m args below meth c A cx hr => ?_)
  unfold F_X2_behindAgain at hF
  refine z_aload_n cx d_X2_behindAgain_0 0 rfl ?_
  refine z_getR cx hT_t fg_Job_21 (t + 4) rfl d_X2_behindAgain_1 ?_
  refine z_iload_n cx d_X2_behindAgain_4 1 rfl ?_
  obtain ⟨hi1, hF⟩ := gin_inv hF
  refine z_iald cx (tfX_3_4 hT_t) za_21 hi1 p0.toNatClampNeg rfl d_X2_behindAgain_5 ?_
  refine z_if_ne cx 18 d_X2_behindAgain_6 (by decide) hF (fun hF => ?_) (fun hF => ?_)
  · refine z_aload_n cx d_X2_behindAgain_18 0 rfl ?_
    refine z_getR cx hT_t fg_Job_27 (t + 6) rfl d_X2_behindAgain_19 ?_
    refine z_iload_n cx d_X2_behindAgain_22 1 rfl ?_
    refine z_aload_n cx d_X2_behindAgain_23 0 rfl ?_
    refine z_getR cx hT_t fg_Job_21 (t + 4) rfl d_X2_behindAgain_24 ?_
    refine z_iload_n cx d_X2_behindAgain_27 1 rfl ?_
    refine z_iald cx (tfX_3_4 hT_t) za_21 hi1 p0.toNatClampNeg rfl d_X2_behindAgain_28 ?_
    refine z_iast cx (tfX_3_6 hT_t) za_21 hi1 p0.toNatClampNeg rfl d_X2_behindAgain_29 ?_
    refine z_nmM hF (fun M2 hF => ?_)
    refine z_iload_n cx d_X2_behindAgain_30 1 rfl ?_
    refine z_iconst (v := 1) cx d_X2_behindAgain_31 ki_1 ?_
    refine z_iadd cx d_X2_behindAgain_32 ?_
    exact z_iret cx hr rfl hF d_X2_behindAgain_33
  refine z_aload_n cx d_X2_behindAgain_9 0 rfl ?_
  refine z_getR cx hT_t fg_Job_24 (t + 5) rfl d_X2_behindAgain_10 ?_
  refine z_iload_n cx d_X2_behindAgain_13 1 rfl ?_
  refine z_iald cx (tfX_3_5 hT_t) za_21 hi1 p0.toNatClampNeg rfl d_X2_behindAgain_14 ?_
  refine z_iconst (v := 1) cx d_X2_behindAgain_15 ki_1 ?_
  refine z_iadd cx d_X2_behindAgain_16 ?_
  exact z_iret cx hr rfl hF d_X2_behindAgain_17
/-! SunnyPans$Job.behindClose -/
set_option maxRecDepth 100000 in
theorem wd_887 : Cond.code yX2_isAt cX2_isAt 2 (some .boolean) ∈ tbG := tw4 67 rfl rfl
set_option maxRecDepth 100000 in
theorem wd_892 : Cond.methodLink "SunnyPans$Job" 112 yX2_isAt ∈ tbG := tw4 72 rfl rfl
set_option maxRecDepth 100000 in
theorem wd_885 : Cond.instanceMethod yX2_isAt ∈ tbG := tw4 65 rfl rfl
set_option maxRecDepth 100000 in
theorem wd_886 : Cond.selects "SunnyPans$Job" yX2_isAt yX2_isAt ∈ tbG := tw4 66 rfl rfl
theorem cv_Job_112 : zCV "SunnyPans$Job" 112 "SunnyPans$Job" yX2_isAt cX2_isAt 2 (some .boolean) 1 := zCV_of wd_892 wd_885 wd_886 wd_105 wd_887 (by decide +kernel)
theorem d_X2_behindClose_0 : decode cX2_behindClose 0 = .ok (.aload_n 0, 1) := by decide +kernel
theorem d_X2_behindClose_1 : decode cX2_behindClose 1 = .ok (.getfield 24, 3) := by decide +kernel
theorem d_X2_behindClose_4 : decode cX2_behindClose 4 = .ok (.iload_n 1, 1) := by decide +kernel
theorem d_X2_behindClose_5 : decode cX2_behindClose 5 = .ok (.iaload, 1) := by decide +kernel
theorem d_X2_behindClose_6 : decode cX2_behindClose 6 = .ok (.istore_n 2, 1) := by decide +kernel
theorem d_X2_behindClose_7 : decode cX2_behindClose 7 = .ok (.aload_n 0, 1) := by decide +kernel
theorem d_X2_behindClose_8 : decode cX2_behindClose 8 = .ok (.iload_n 2, 1) := by decide +kernel
theorem d_X2_behindClose_9 : decode cX2_behindClose 9 = .ok (.invokevirtual 112, 3) := by decide +kernel
theorem d_X2_behindClose_12 : decode cX2_behindClose 12 = .ok (.ifCond .ne 7, 3) := by decide +kernel
theorem d_X2_behindClose_15 : decode cX2_behindClose 15 = .ok (.iload_n 1, 1) := by decide +kernel
theorem d_X2_behindClose_16 : decode cX2_behindClose 16 = .ok (.iconst 1, 1) := by decide +kernel
theorem d_X2_behindClose_17 : decode cX2_behindClose 17 = .ok (.iadd, 1) := by decide +kernel
theorem d_X2_behindClose_18 : decode cX2_behindClose 18 = .ok (.ireturn, 1) := by decide +kernel
theorem d_X2_behindClose_19 : decode cX2_behindClose 19 = .ok (.aload_n 0, 1) := by decide +kernel
theorem d_X2_behindClose_20 : decode cX2_behindClose 20 = .ok (.getfield 27, 3) := by decide +kernel
theorem d_X2_behindClose_23 : decode cX2_behindClose 23 = .ok (.iload_n 2, 1) := by decide +kernel
theorem d_X2_behindClose_24 : decode cX2_behindClose 24 = .ok (.dup2, 1) := by decide +kernel
theorem d_X2_behindClose_25 : decode cX2_behindClose 25 = .ok (.iaload, 1) := by decide +kernel
theorem d_X2_behindClose_26 : decode cX2_behindClose 26 = .ok (.iconst 1, 1) := by decide +kernel
theorem d_X2_behindClose_27 : decode cX2_behindClose 27 = .ok (.isub, 1) := by decide +kernel
theorem d_X2_behindClose_28 : decode cX2_behindClose 28 = .ok (.iastore, 1) := by decide +kernel
theorem d_X2_behindClose_29 : decode cX2_behindClose 29 = .ok (.aload_n 0, 1) := by decide +kernel
theorem d_X2_behindClose_30 : decode cX2_behindClose 30 = .ok (.getfield 27, 3) := by decide +kernel
theorem d_X2_behindClose_33 : decode cX2_behindClose 33 = .ok (.iload_n 2, 1) := by decide +kernel
theorem d_X2_behindClose_34 : decode cX2_behindClose 34 = .ok (.iaload, 1) := by decide +kernel
theorem d_X2_behindClose_35 : decode cX2_behindClose 35 = .ok (.ifCond .le 9, 3) := by decide +kernel
theorem d_X2_behindClose_38 : decode cX2_behindClose 38 = .ok (.iload_n 2, 1) := by decide +kernel
theorem d_X2_behindClose_39 : decode cX2_behindClose 39 = .ok (.iconst 1, 1) := by decide +kernel
theorem d_X2_behindClose_40 : decode cX2_behindClose 40 = .ok (.iadd, 1) := by decide +kernel
theorem d_X2_behindClose_41 : decode cX2_behindClose 41 = .ok (.goto 6, 3) := by decide +kernel
theorem d_X2_behindClose_44 : decode cX2_behindClose 44 = .ok (.iload_n 1, 1) := by decide +kernel
theorem d_X2_behindClose_45 : decode cX2_behindClose 45 = .ok (.iconst 1, 1) := by decide +kernel
theorem d_X2_behindClose_46 : decode cX2_behindClose 46 = .ok (.iadd, 1) := by decide +kernel
theorem d_X2_behindClose_47 : decode cX2_behindClose 47 = .ok (.ireturn, 1) := by decide +kernel
noncomputable def F_X2_behindClose (M : zMem) (t : Nat) (p0 : Int32) : Option (Int32 × zMem) :=
  gin p0 150 <|
  zl (M.1 (t + 5) p0.toNatClampNeg) fun v2 =>
  zb (F_X2_isAt M t v2) fun v4 M3 =>
  if v4 = 0 then
    some ((p0 + (1 : Int32)), M3)
  else
    gin v2 150 <|
    zl (zI M3 (t + 6) v2.toNatClampNeg ((M3.1 (t + 6) v2.toNatClampNeg) - (1 : Int32))) fun M6 =>
    if (M6.1 (t + 6) v2.toNatClampNeg) ≤ 0 then
      some ((p0 + (1 : Int32)), M6)
    else
      some ((v2 + (1 : Int32)), M6)
def rm_X2_behindClose : Room := { frames := 3, cells := 0, slots := 0, locals := 101 }
set_option maxHeartbeats 4000000 in
set_option maxRecDepth 100000 in
theorem c_X2_behindClose (l : Launch) {G : zG} {ad : Nat → Nat} {n : Nat} (hA : zInj ad n) (M : zMem) (t : Nat) (p0 : Int32) (hT_t : zT shX n t 3) {r9 : Int32} {M9 : zMem} (hF : F_X2_behindClose M t p0 = some (r9, M9)) : zM l yX2_behindClose cX2_behindClose 3 (some .int) rm_X2_behindClose G shX ad n M [.ref (ad t), .int p0] (some (.int r9)) M9 := by
  refine zM_of hA (by decide +kernel) (lv := [(0, .ref (ad t)), (1, .int p0)]) (Nat.le_of_ble_eq_true rfl) rfl (fun p e s m args below meth c A cx hr => ?_)
  unfold F_X2_behindClose at hF
  refine z_aload_n cx d_X2_behindClose_0 0 rfl ?_
  refine z_getR cx hT_t fg_Job_24 (t + 5) rfl d_X2_behindClose_1 ?_
  refine z_iload_n cx d_X2_behindClose_4 1 rfl ?_
  obtain ⟨hi1, hF⟩ := gin_inv hF
  refine z_iald cx (tfX_3_5 hT_t) za_21 hi1 p0.toNatClampNeg rfl d_X2_behindClose_5 ?_
  refine z_nm hF (fun v2 hF => ?_)
  refine z_istore_n cx 2 [(2, .int v2), (0, .ref (ad t)), (1, .int p0)] d_X2_behindClose_6 rfl (by decide) rfl ?_
  refine z_aload_n cx d_X2_behindClose_7 1 rfl ?_
  refine z_iload_n cx d_X2_behindClose_8 0 rfl ?_
  obtain ⟨v4, M3, hc, hF⟩ := zb_inv hF
  refine z_callV cx (As := [.int v2]) (rest := []) (c_X2_isAt l cx.2.2.2.1.1 M t v2 hT_t hc) hT_t zo_3 cv_Job_112 ⟨rfl, rfl, Nat.le_of_ble_eq_true rfl, Nat.le_of_ble_eq_true rfl⟩ rfl rfl ⟨Nat.zero_le _, Nat.zero_le _⟩ (Nat.le_of_ble_eq_true rfl) d_X2_behindClose_9 ?_
  refine z_if_ne cx 19 d_X2_behindClose_12 (by decide) hF (fun hF => ?_) (fun hF => ?_)
  · refine z_aload_n cx d_X2_behindClose_19 1 rfl ?_
    refine z_getR cx hT_t fg_Job_27 (t + 6) rfl d_X2_behindClose_20 ?_
    refine z_iload_n cx d_X2_behindClose_23 0 rfl ?_
    refine z_dup2 cx d_X2_behindClose_24 rfl rfl ?_
    obtain ⟨hi5, hF⟩ := gin_inv hF
    refine z_iald cx (tfX_3_6 hT_t) za_21 hi5 v2.toNatClampNeg rfl d_X2_behindClose_25 ?_
    refine z_iconst (v := 1) cx d_X2_behindClose_26 ki_1 ?_
    refine z_isub cx d_X2_behindClose_27 ?_
    refine z_iast cx (tfX_3_6 hT_t) za_21 hi5 v2.toNatClampNeg rfl d_X2_behindClose_28 ?_
    refine z_nmM hF (fun M6 hF => ?_)
    refine z_aload_n cx d_X2_behindClose_29 1 rfl ?_
    refine z_getR cx hT_t fg_Job_27 (t + 6) rfl d_X2_behindClose_30 ?_
    refine z_iload_n cx d_X2_behindClose_33 0 rfl ?_
    refine z_iald cx (tfX_3_6 hT_t) za_21 hi5 v2.toNatClampNeg rfl d_X2_behindClose_34 ?_
    refine z_if_le cx 44 d_X2_behindClose_35 (by decide) hF (fun hF => ?_) (fun hF => ?_)
    · refine z_iload_n cx d_X2_behindClose_44 2 rfl ?_
      refine z_iconst (v := 1) cx d_X2_behindClose_45 ki_1 ?_
      refine z_iadd cx d_X2_behindClose_46 ?_
      exact z_iret cx hr rfl hF d_X2_behindClose_47
    refine z_iload_n cx d_X2_behindClose_38 0 rfl ?_
    refine z_iconst (v := 1) cx d_X2_behindClose_39 ki_1 ?_
    refine z_iadd cx d_X2_behindClose_40 ?_
    refine z_goto cx 47 d_X2_behindClose_41 (by decide) ?_
    exact z_iret cx hr rfl hF d_X2_behindClose_47
  refine z_iload_n cx d_X2_behindClose_15 2 rfl ?_
  refine z_iconst (v := 1) cx d_X2_behindClose_16 ki_1 ?_
  refine z_iadd cx d_X2_behindClose_17 ?_
  exact z_iret cx hr rfl hF d_X2_behindClose_18
/-! SunnyPans$Law.emit -/
theorem tfX_4_1 {n k : Nat} (h : zT shX n k 4) : zT shX n (k + 1) 21 := zT_off h (shX_f (by decide) (by decide +kernel)) (by decide) (by decide)
set_option maxRecDepth 100000 in
theorem wd_376 : Cond.fieldLink "SunnyPans$Law" 24 "SunnyPans$Law" "size" "I" ∈ tbG := tw2 36 rfl rfl
theorem uw_3 : ∀ w ∈ u_ws RX3 TX3 4, w ∈ tbG := zUW _ [377, 379, 381, 383] (by decide +kernel) (by decide +kernel)
theorem fg_Law_24 : zGetI "SunnyPans$Law" 24 3 4 3 := ⟨RX3, TX3, 4, rfl, by decide, uw_3, wd_376, fun _ _ _ _ _ _ => ⟨_, rfl, rfl⟩⟩
set_option maxRecDepth 100000 in
theorem wd_373 : Cond.fieldLink "SunnyPans$Law" 11 "SunnyPans$Law" "code" "[I" ∈ tbG := tw2 33 rfl rfl
theorem fg_Law_11 : zGetR "SunnyPans$Law" 11 3 4 0 1 := ⟨RX3, TX3, 4, rfl, by decide, uw_3, wd_373, fun _ _ _ _ _ _ => ⟨_, rfl, rfl⟩⟩
theorem zc_3 : zCls 3 := ⟨RX3, TX3, 4, tyX3, rfl, tyX3_ok, nmX3⟩
theorem fp_Law_24 : zPutI "SunnyPans$Law" 24 3 4 3 := ⟨zc_3, fg_Law_24, ⟨RX3, TX3, 4, rfl, rfl, by decide +kernel⟩, fun _ _ _ _ _ _ _ => ⟨_, rfl, Nat.le_of_ble_eq_true rfl, rfl⟩⟩
theorem d_X3_emit_0 : decode cX3_emit 0 = .ok (.aload_n 0, 1) := by decide +kernel
theorem d_X3_emit_1 : decode cX3_emit 1 = .ok (.getfield 24, 3) := by decide +kernel
theorem d_X3_emit_4 : decode cX3_emit 4 = .ok (.aload_n 0, 1) := by decide +kernel
theorem d_X3_emit_5 : decode cX3_emit 5 = .ok (.getfield 11, 3) := by decide +kernel
theorem d_X3_emit_8 : decode cX3_emit 8 = .ok (.arraylength, 1) := by decide +kernel
theorem d_X3_emit_9 : decode cX3_emit 9 = .ok (.if_icmp .ge 23, 3) := by decide +kernel
theorem d_X3_emit_12 : decode cX3_emit 12 = .ok (.aload_n 0, 1) := by decide +kernel
theorem d_X3_emit_13 : decode cX3_emit 13 = .ok (.getfield 11, 3) := by decide +kernel
theorem d_X3_emit_16 : decode cX3_emit 16 = .ok (.aload_n 0, 1) := by decide +kernel
theorem d_X3_emit_17 : decode cX3_emit 17 = .ok (.getfield 24, 3) := by decide +kernel
theorem d_X3_emit_20 : decode cX3_emit 20 = .ok (.iload_n 1, 1) := by decide +kernel
theorem d_X3_emit_21 : decode cX3_emit 21 = .ok (.iastore, 1) := by decide +kernel
theorem d_X3_emit_22 : decode cX3_emit 22 = .ok (.aload_n 0, 1) := by decide +kernel
theorem d_X3_emit_23 : decode cX3_emit 23 = .ok (.dup, 1) := by decide +kernel
theorem d_X3_emit_24 : decode cX3_emit 24 = .ok (.getfield 24, 3) := by decide +kernel
theorem d_X3_emit_27 : decode cX3_emit 27 = .ok (.iconst 1, 1) := by decide +kernel
theorem d_X3_emit_28 : decode cX3_emit 28 = .ok (.iadd, 1) := by decide +kernel
theorem d_X3_emit_29 : decode cX3_emit 29 = .ok (.putfield 24, 3) := by decide +kernel
theorem d_X3_emit_32 : decode cX3_emit 32 = .ok (.return_, 1) := by decide +kernel
noncomputable def F_X3_emit (M : zMem) (t : Nat) (p0 : Int32) : Option (zMem) :=
  if (nI 150) ≤ (M.1 t 3) then
    some M
  else
    gin (M.1 t 3) 150 <|
    zl (zI M (t + 1) ((M.1 t 3).toNatClampNeg) p0) fun M2 =>
    zl (zI M2 t 3 ((M2.1 t 3) + (1 : Int32))) fun M3 =>
    some M3
def rm_X3_emit : Room := { frames := 2, cells := 0, slots := 0, locals := 80 }
set_option maxHeartbeats 4000000 in
set_option maxRecDepth 100000 in
theorem c_X3_emit (l : Launch) {G : zG} {ad : Nat → Nat} {n : Nat} (hA : zInj ad n) (M : zMem) (t : Nat) (p0 : Int32) (hT_t : zT shX n t 4) {M9 : zMem} (hF : F_X3_emit M t p0 = some M9) : zM l yX3_emit cX3_emit 2 none rm_X3_emit G shX ad n M [.ref (ad t), .int p0] none M9 := by
  refine zM_of hA (by decide +kernel) (lv := [(0, .ref (ad t)), (1, .int p0)]) (Nat.le_of_ble_eq_true rfl) rfl (fun p e s m args below meth c A cx hr => ?_)
  unfold F_X3_emit at hF
  refine z_aload_n cx d_X3_emit_0 0 rfl ?_
  refine z_getI cx hT_t fg_Law_24 d_X3_emit_1 ?_
  refine z_aload_n cx d_X3_emit_4 0 rfl ?_
  refine z_getR cx hT_t fg_Law_11 (t + 1) rfl d_X3_emit_5 ?_
  refine z_alenI cx (tfX_4_1 hT_t) za_21 d_X3_emit_8 ?_
  refine z_icmp_ge cx 32 d_X3_emit_9 (by decide) hF (fun hF => ?_) (fun hF => ?_)
  · exact z_vret cx hr hF d_X3_emit_32
  refine z_aload_n cx d_X3_emit_12 0 rfl ?_
  refine z_getR cx hT_t fg_Law_11 (t + 1) rfl d_X3_emit_13 ?_
  refine z_aload_n cx d_X3_emit_16 0 rfl ?_
  refine z_getI cx hT_t fg_Law_24 d_X3_emit_17 ?_
  refine z_iload_n cx d_X3_emit_20 1 rfl ?_
  obtain ⟨hi1, hF⟩ := gin_inv hF
  refine z_iast cx (tfX_4_1 hT_t) za_21 hi1 ((M.1 t 3).toNatClampNeg) rfl d_X3_emit_21 ?_
  refine z_nmM hF (fun M2 hF => ?_)
  refine z_aload_n cx d_X3_emit_22 0 rfl ?_
  refine z_dup cx d_X3_emit_23 rfl ?_
  refine z_getI cx hT_t fg_Law_24 d_X3_emit_24 ?_
  refine z_iconst (v := 1) cx d_X3_emit_27 ki_1 ?_
  refine z_iadd cx d_X3_emit_28 ?_
  refine z_putI cx hT_t fp_Law_24 d_X3_emit_29 ?_
  refine z_nmM hF (fun M3 hF => ?_)
  exact z_vret cx hr hF d_X3_emit_32
/-! SunnyPans$Law.reset -/
set_option maxRecDepth 100000 in
theorem wd_372 : Cond.code yX3_emit cX3_emit 2 none ∈ tbG := tw2 32 rfl rfl
set_option maxRecDepth 100000 in
theorem wd_369 : Cond.methodLink "SunnyPans$Law" 28 yX3_emit ∈ tbG := tw2 29 rfl rfl
set_option maxRecDepth 100000 in
theorem wd_371 : Cond.instanceMethod yX3_emit ∈ tbG := tw2 31 rfl rfl
theorem wd_0 : Cond.selects "SunnyPans$Law" yX3_emit yX3_emit ∈ tbG := tw 0 (by decide +kernel) rfl
set_option maxRecDepth 100000 in
theorem wd_109 : Cond.initialized "SunnyPans$Law" ∈ tbG := tw1 9 rfl rfl
theorem cv_Law_28 : zCV "SunnyPans$Law" 28 "SunnyPans$Law" yX3_emit cX3_emit 2 none 1 := zCV_of wd_369 wd_371 wd_0 wd_109 wd_372 (by decide +kernel)
theorem zo_4 : zObj "SunnyPans$Law" 4 := ⟨3, (RX3, TX3, 4), rfl, rfl, fun _ _ _ _ _ _ => ⟨_, rfl⟩⟩
theorem ks_1002 : (Int16.ofInt (1002)).toInt32 = (1002 : Int32) := by decide +kernel
theorem ks_1011 : (Int16.ofInt (1011)).toInt32 = (1011 : Int32) := by decide +kernel
theorem ks_1008 : (Int16.ofInt (1008)).toInt32 = (1008 : Int32) := by decide +kernel
theorem d_X3_reset_0 : decode cX3_reset 0 = .ok (.aload_n 0, 1) := by decide +kernel
theorem d_X3_reset_1 : decode cX3_reset 1 = .ok (.iconst 0, 1) := by decide +kernel
theorem d_X3_reset_2 : decode cX3_reset 2 = .ok (.putfield 24, 3) := by decide +kernel
theorem d_X3_reset_5 : decode cX3_reset 5 = .ok (.aload_n 0, 1) := by decide +kernel
theorem d_X3_reset_6 : decode cX3_reset 6 = .ok (.bipush 10, 2) := by decide +kernel
theorem d_X3_reset_8 : decode cX3_reset 8 = .ok (.invokevirtual 28, 3) := by decide +kernel
theorem d_X3_reset_11 : decode cX3_reset 11 = .ok (.aload_n 0, 1) := by decide +kernel
theorem d_X3_reset_12 : decode cX3_reset 12 = .ok (.sipush 1002, 3) := by decide +kernel
theorem d_X3_reset_15 : decode cX3_reset 15 = .ok (.invokevirtual 28, 3) := by decide +kernel
theorem d_X3_reset_18 : decode cX3_reset 18 = .ok (.aload_n 0, 1) := by decide +kernel
theorem d_X3_reset_19 : decode cX3_reset 19 = .ok (.iconst 4, 1) := by decide +kernel
theorem d_X3_reset_20 : decode cX3_reset 20 = .ok (.invokevirtual 28, 3) := by decide +kernel
theorem d_X3_reset_23 : decode cX3_reset 23 = .ok (.aload_n 0, 1) := by decide +kernel
theorem d_X3_reset_24 : decode cX3_reset 24 = .ok (.sipush 1011, 3) := by decide +kernel
theorem d_X3_reset_27 : decode cX3_reset 27 = .ok (.invokevirtual 28, 3) := by decide +kernel
theorem d_X3_reset_30 : decode cX3_reset 30 = .ok (.aload_n 0, 1) := by decide +kernel
theorem d_X3_reset_31 : decode cX3_reset 31 = .ok (.sipush 1008, 3) := by decide +kernel
theorem d_X3_reset_34 : decode cX3_reset 34 = .ok (.invokevirtual 28, 3) := by decide +kernel
theorem d_X3_reset_37 : decode cX3_reset 37 = .ok (.return_, 1) := by decide +kernel
noncomputable def F_X3_reset (M : zMem) (t : Nat) : Option (zMem) :=
  zl (zI M t 3 (0 : Int32)) fun M1 =>
  zbv (F_X3_emit M1 t (10 : Int32)) fun M2 =>
  zbv (F_X3_emit M2 t (1002 : Int32)) fun M3 =>
  zbv (F_X3_emit M3 t (4 : Int32)) fun M4 =>
  zbv (F_X3_emit M4 t (1011 : Int32)) fun M5 =>
  zbv (F_X3_emit M5 t (1008 : Int32)) fun M6 =>
  some M6
def rm_X3_reset : Room := { frames := 3, cells := 0, slots := 0, locals := 101 }
set_option maxHeartbeats 4000000 in
set_option maxRecDepth 100000 in
theorem c_X3_reset (l : Launch) {G : zG} {ad : Nat → Nat} {n : Nat} (hA : zInj ad n) (M : zMem) (t : Nat) (hT_t : zT shX n t 4) {M9 : zMem} (hF : F_X3_reset M t = some M9) : zM l yX3_reset cX3_reset 1 none rm_X3_reset G shX ad n M [.ref (ad t)] none M9 := by
  refine zM_of hA (by decide +kernel) (lv := [(0, .ref (ad t))]) (Nat.le_of_ble_eq_true rfl) rfl (fun p e s m args below meth c A cx hr => ?_)
  unfold F_X3_reset at hF
  refine z_aload_n cx d_X3_reset_0 0 rfl ?_
  refine z_iconst (v := 0) cx d_X3_reset_1 ki_0 ?_
  refine z_putI cx hT_t fp_Law_24 d_X3_reset_2 ?_
  refine z_nmM hF (fun M1 hF => ?_)
  refine z_aload_n cx d_X3_reset_5 0 rfl ?_
  refine z_bipush (v := 10) cx d_X3_reset_6 kb_10 ?_
  obtain ⟨M2, hc, hF⟩ := zbv_inv hF
  refine z_callV cx (As := [.int (10 : Int32)]) (rest := []) (c_X3_emit l cx.2.2.2.1.1 M1 t (10 : Int32) hT_t hc) hT_t zo_4 cv_Law_28 ⟨rfl, rfl, Nat.le_of_ble_eq_true rfl, Nat.le_of_ble_eq_true rfl⟩ rfl rfl ⟨Nat.zero_le _, Nat.zero_le _⟩ (Nat.le_of_ble_eq_true rfl) d_X3_reset_8 ?_
  refine z_aload_n cx d_X3_reset_11 0 rfl ?_
  refine z_sipush (v := 1002) cx d_X3_reset_12 ks_1002 ?_
  obtain ⟨M3, hc, hF⟩ := zbv_inv hF
  refine z_callV cx (As := [.int (1002 : Int32)]) (rest := []) (c_X3_emit l cx.2.2.2.1.1 M2 t (1002 : Int32) hT_t hc) hT_t zo_4 cv_Law_28 ⟨rfl, rfl, Nat.le_of_ble_eq_true rfl, Nat.le_of_ble_eq_true rfl⟩ rfl rfl ⟨Nat.zero_le _, Nat.zero_le _⟩ (Nat.le_of_ble_eq_true rfl) d_X3_reset_15 ?_
  refine z_aload_n cx d_X3_reset_18 0 rfl ?_
  refine z_iconst (v := 4) cx d_X3_reset_19 ki_4 ?_
  obtain ⟨M4, hc, hF⟩ := zbv_inv hF
  refine z_callV cx (As := [.int (4 : Int32)]) (rest := []) (c_X3_emit l cx.2.2.2.1.1 M3 t (4 : Int32) hT_t hc) hT_t zo_4 cv_Law_28 ⟨rfl, rfl, Nat.le_of_ble_eq_true rfl, Nat.le_of_ble_eq_true rfl⟩ rfl rfl ⟨Nat.zero_le _, Nat.zero_le _⟩ (Nat.le_of_ble_eq_true rfl) d_X3_reset_20 ?_
  refine z_aload_n cx d_X3_reset_23 0 rfl ?_
  refine z_sipush (v := 1011) cx d_X3_reset_24 ks_1011 ?_
  obtain ⟨M5, hc, hF⟩ := zbv_inv hF
  refine z_callV cx (As := [.int (1011 : Int32)]) (rest := []) (c_X3_emit l cx.2.2.2.1.1 M4 t (1011 : Int32) hT_t hc) hT_t zo_4 cv_Law_28 ⟨rfl, rfl, Nat.le_of_ble_eq_true rfl, Nat.le_of_ble_eq_true rfl⟩ rfl rfl ⟨Nat.zero_le _, Nat.zero_le _⟩ (Nat.le_of_ble_eq_true rfl) d_X3_reset_27 ?_
  refine z_aload_n cx d_X3_reset_30 0 rfl ?_
  refine z_sipush (v := 1008) cx d_X3_reset_31 ks_1008 ?_
  obtain ⟨M6, hc, hF⟩ := zbv_inv hF
  refine z_callV cx (As := [.int (1008 : Int32)]) (rest := []) (c_X3_emit l cx.2.2.2.1.1 M5 t (1008 : Int32) hT_t hc) hT_t zo_4 cv_Law_28 ⟨rfl, rfl, Nat.le_of_ble_eq_true rfl, Nat.le_of_ble_eq_true rfl⟩ rfl rfl ⟨Nat.zero_le _, Nat.zero_le _⟩ (Nat.le_of_ble_eq_true rfl) d_X3_reset_34 ?_
  exact z_vret cx hr hF d_X3_reset_37
/-! SunnyPans$Text.here -/
theorem d_X8_here_0 : decode cX8_here 0 = .ok (.aload_n 0, 1) := by decide +kernel
theorem d_X8_here_1 : decode cX8_here 1 = .ok (.invokevirtual 40, 3) := by decide +kernel
theorem d_X8_here_4 : decode cX8_here 4 = .ok (.aload_n 0, 1) := by decide +kernel
theorem d_X8_here_5 : decode cX8_here 5 = .ok (.getfield 34, 3) := by decide +kernel
theorem d_X8_here_8 : decode cX8_here 8 = .ok (.ireturn, 1) := by decide +kernel
noncomputable def F_X8_here (M : zMem) (t : Nat) : Option (Int32 × zMem) :=
  zbv (F_X8_skipBlanks M t) fun M1 =>
  some ((M1.1 t 7), M1)
def rm_X8_here : Room := { frames := 3, cells := 0, slots := 0, locals := 100 }
set_option maxHeartbeats 4000000 in
set_option maxRecDepth 100000 in
theorem c_X8_here (l : Launch) {G : zG} {ad : Nat → Nat} {n : Nat} (hA : zInj ad n) (M : zMem) (t : Nat) (hT_t : zT shX n t 9) {r9 : Int32} {M9 : zMem} (hF : F_X8_here M t = some (r9, M9)) : zM l yX8_here cX8_here 1 (some .int) rm_X8_here G shX ad n M [.ref (ad t)] (some (.int r9)) M9 := by
  refine zM_of hA (by decide +kernel) (lv := [(0, .ref (ad t))]) (Nat.le_of_ble_eq_true rfl) rfl (fun p e s m args below meth c A cx hr => ?_)
  unfold F_X8_here at hF
  refine z_aload_n cx d_X8_here_0 0 rfl ?_
  obtain ⟨M1, hc, hF⟩ := zbv_inv hF
  refine z_callV cx (As := []) (rest := []) (c_X8_skipBlanks l cx.2.2.2.1.1 M t hT_t hc) hT_t zo_9 cv_Text_40 ⟨rfl, rfl, Nat.le_of_ble_eq_true rfl, Nat.le_of_ble_eq_true rfl⟩ rfl rfl ⟨Nat.zero_le _, Nat.zero_le _⟩ (Nat.le_of_ble_eq_true rfl) d_X8_here_1 ?_
  refine z_aload_n cx d_X8_here_4 0 rfl ?_
  refine z_getI cx hT_t fg_Text_34 d_X8_here_5 ?_
  exact z_iret cx hr rfl hF d_X8_here_8
/-! SunnyPans$Law.nameOf -/
set_option maxRecDepth 100000 in
theorem wd_808 : Cond.methodLink "SunnyPans$Law" 81 yX8_wordIs ∈ tbG := tw3 228 rfl rfl
theorem cv_Law_81 : zCV "SunnyPans$Law" 81 "SunnyPans$Text" yX8_wordIs cX8_wordIs 4 (some .boolean) 1 := zCV_of wd_808 wd_636 wd_637 wd_102 wd_638 (by decide +kernel)
theorem kb_7 : (Int8.ofInt (7)).toInt32 = (7 : Int32) := by decide +kernel
theorem d_X3_nameOf_0 : decode cX3_nameOf 0 = .ok (.aload_n 0, 1) := by decide +kernel
theorem d_X3_nameOf_1 : decode cX3_nameOf 1 = .ok (.ldc 97, 2) := by decide +kernel
theorem d_X3_nameOf_3 : decode cX3_nameOf 3 = .ok (.invokevirtual 81, 3) := by decide +kernel
theorem d_X3_nameOf_6 : decode cX3_nameOf 6 = .ok (.ifCond .eq 5, 3) := by decide +kernel
theorem d_X3_nameOf_9 : decode cX3_nameOf 9 = .ok (.iconst 0, 1) := by decide +kernel
theorem d_X3_nameOf_10 : decode cX3_nameOf 10 = .ok (.ireturn, 1) := by decide +kernel
theorem d_X3_nameOf_11 : decode cX3_nameOf 11 = .ok (.aload_n 0, 1) := by decide +kernel
theorem d_X3_nameOf_12 : decode cX3_nameOf 12 = .ok (.ldc 99, 2) := by decide +kernel
theorem d_X3_nameOf_14 : decode cX3_nameOf 14 = .ok (.invokevirtual 81, 3) := by decide +kernel
theorem d_X3_nameOf_17 : decode cX3_nameOf 17 = .ok (.ifCond .eq 5, 3) := by decide +kernel
theorem d_X3_nameOf_20 : decode cX3_nameOf 20 = .ok (.iconst 1, 1) := by decide +kernel
theorem d_X3_nameOf_21 : decode cX3_nameOf 21 = .ok (.ireturn, 1) := by decide +kernel
theorem d_X3_nameOf_22 : decode cX3_nameOf 22 = .ok (.aload_n 0, 1) := by decide +kernel
theorem d_X3_nameOf_23 : decode cX3_nameOf 23 = .ok (.ldc 101, 2) := by decide +kernel
theorem d_X3_nameOf_25 : decode cX3_nameOf 25 = .ok (.invokevirtual 81, 3) := by decide +kernel
theorem d_X3_nameOf_28 : decode cX3_nameOf 28 = .ok (.ifCond .eq 5, 3) := by decide +kernel
theorem d_X3_nameOf_31 : decode cX3_nameOf 31 = .ok (.iconst 2, 1) := by decide +kernel
theorem d_X3_nameOf_32 : decode cX3_nameOf 32 = .ok (.ireturn, 1) := by decide +kernel
theorem d_X3_nameOf_33 : decode cX3_nameOf 33 = .ok (.aload_n 0, 1) := by decide +kernel
theorem d_X3_nameOf_34 : decode cX3_nameOf 34 = .ok (.ldc 103, 2) := by decide +kernel
theorem d_X3_nameOf_36 : decode cX3_nameOf 36 = .ok (.invokevirtual 81, 3) := by decide +kernel
theorem d_X3_nameOf_39 : decode cX3_nameOf 39 = .ok (.ifCond .eq 5, 3) := by decide +kernel
theorem d_X3_nameOf_42 : decode cX3_nameOf 42 = .ok (.iconst 3, 1) := by decide +kernel
theorem d_X3_nameOf_43 : decode cX3_nameOf 43 = .ok (.ireturn, 1) := by decide +kernel
theorem d_X3_nameOf_44 : decode cX3_nameOf 44 = .ok (.aload_n 0, 1) := by decide +kernel
theorem d_X3_nameOf_45 : decode cX3_nameOf 45 = .ok (.ldc 105, 2) := by decide +kernel
theorem d_X3_nameOf_47 : decode cX3_nameOf 47 = .ok (.invokevirtual 81, 3) := by decide +kernel
theorem d_X3_nameOf_50 : decode cX3_nameOf 50 = .ok (.ifCond .eq 5, 3) := by decide +kernel
theorem d_X3_nameOf_53 : decode cX3_nameOf 53 = .ok (.iconst 4, 1) := by decide +kernel
theorem d_X3_nameOf_54 : decode cX3_nameOf 54 = .ok (.ireturn, 1) := by decide +kernel
theorem d_X3_nameOf_55 : decode cX3_nameOf 55 = .ok (.aload_n 0, 1) := by decide +kernel
theorem d_X3_nameOf_56 : decode cX3_nameOf 56 = .ok (.ldc 107, 2) := by decide +kernel
theorem d_X3_nameOf_58 : decode cX3_nameOf 58 = .ok (.invokevirtual 81, 3) := by decide +kernel
theorem d_X3_nameOf_61 : decode cX3_nameOf 61 = .ok (.ifCond .eq 5, 3) := by decide +kernel
theorem d_X3_nameOf_64 : decode cX3_nameOf 64 = .ok (.iconst 5, 1) := by decide +kernel
theorem d_X3_nameOf_65 : decode cX3_nameOf 65 = .ok (.ireturn, 1) := by decide +kernel
theorem d_X3_nameOf_66 : decode cX3_nameOf 66 = .ok (.aload_n 0, 1) := by decide +kernel
theorem d_X3_nameOf_67 : decode cX3_nameOf 67 = .ok (.ldc 109, 2) := by decide +kernel
theorem d_X3_nameOf_69 : decode cX3_nameOf 69 = .ok (.invokevirtual 81, 3) := by decide +kernel
theorem d_X3_nameOf_72 : decode cX3_nameOf 72 = .ok (.ifCond .eq 6, 3) := by decide +kernel
theorem d_X3_nameOf_75 : decode cX3_nameOf 75 = .ok (.bipush 6, 2) := by decide +kernel
theorem d_X3_nameOf_77 : decode cX3_nameOf 77 = .ok (.ireturn, 1) := by decide +kernel
theorem d_X3_nameOf_78 : decode cX3_nameOf 78 = .ok (.aload_n 0, 1) := by decide +kernel
theorem d_X3_nameOf_79 : decode cX3_nameOf 79 = .ok (.ldc 111, 2) := by decide +kernel
theorem d_X3_nameOf_81 : decode cX3_nameOf 81 = .ok (.invokevirtual 81, 3) := by decide +kernel
theorem d_X3_nameOf_84 : decode cX3_nameOf 84 = .ok (.ifCond .eq 8, 3) := by decide +kernel
theorem d_X3_nameOf_87 : decode cX3_nameOf 87 = .ok (.bipush 7, 2) := by decide +kernel
theorem d_X3_nameOf_89 : decode cX3_nameOf 89 = .ok (.goto 4, 3) := by decide +kernel
theorem d_X3_nameOf_92 : decode cX3_nameOf 92 = .ok (.iconst (-1), 1) := by decide +kernel
theorem d_X3_nameOf_93 : decode cX3_nameOf 93 = .ok (.ireturn, 1) := by decide +kernel
noncomputable def F_X3_nameOf (M : zMem) (p0 : Nat) : Option (Int32 × zMem) :=
  zb (F_X8_wordIs M p0 7) fun v2 M1 =>
  if v2 = 0 then
    zb (F_X8_wordIs M1 p0 8) fun v4 M3 =>
    if v4 = 0 then
      zb (F_X8_wordIs M3 p0 9) fun v6 M5 =>
      if v6 = 0 then
        zb (F_X8_wordIs M5 p0 10) fun v8 M7 =>
        if v8 = 0 then
          zb (F_X8_wordIs M7 p0 2) fun v10 M9 =>
          if v10 = 0 then
            zb (F_X8_wordIs M9 p0 11) fun v12 M11 =>
            if v12 = 0 then
              zb (F_X8_wordIs M11 p0 12) fun v14 M13 =>
              if v14 = 0 then
                zb (F_X8_wordIs M13 p0 13) fun v16 M15 =>
                if v16 = 0 then
                  some ((-1 : Int32), M15)
                else
                  some ((7 : Int32), M15)
              else
                some ((6 : Int32), M13)
            else
              some ((5 : Int32), M11)
          else
            some ((4 : Int32), M9)
        else
          some ((3 : Int32), M7)
      else
        some ((2 : Int32), M5)
    else
      some ((1 : Int32), M3)
  else
    some ((0 : Int32), M1)
def rm_X3_nameOf : Room := { frames := 9, cells := 0, slots := 0, locals := 283 }
set_option maxHeartbeats 4000000 in
set_option maxRecDepth 100000 in
theorem c_X3_nameOf (l : Launch) {G : zG} {ad : Nat → Nat} {n : Nat} (hA : zInj ad n) (M : zMem) (p0 : Nat) (hT_p0 : zT shX n p0 9) {r9 : Int32} {M9 : zMem} (hF : F_X3_nameOf M p0 = some (r9, M9)) : zM l yX3_nameOf cX3_nameOf 1 (some .int) rm_X3_nameOf G shX ad n M [.ref (ad p0)] (some (.int r9)) M9 := by
  refine zM_of hA (by decide +kernel) (lv := [(0, .ref (ad p0))]) (Nat.le_of_ble_eq_true rfl) rfl (fun p e s m args below meth c A cx hr => ?_)
  unfold F_X3_nameOf at hF
  refine z_aload_n cx d_X3_nameOf_0 0 rfl ?_
  refine z_ldcS cx 7 (by decide) d_X3_nameOf_1 ?_
  obtain ⟨v2, M1, hc, hF⟩ := zb_inv hF
  refine z_callV cx (As := [.ref (zSK G 7)]) (rest := []) (c_X8_wordIs l cx.2.2.2.1.1 M p0 7 hT_p0 (by decide) hc) hT_p0 zo_9 cv_Law_81 ⟨rfl, rfl, Nat.le_of_ble_eq_true rfl, Nat.le_of_ble_eq_true rfl⟩ rfl rfl ⟨Nat.zero_le _, Nat.zero_le _⟩ (Nat.le_of_ble_eq_true rfl) d_X3_nameOf_3 ?_
  refine z_if_eq cx 11 d_X3_nameOf_6 (by decide) hF (fun hF => ?_) (fun hF => ?_)
  · refine z_aload_n cx d_X3_nameOf_11 0 rfl ?_
    refine z_ldcS cx 8 (by decide) d_X3_nameOf_12 ?_
    obtain ⟨v4, M3, hc, hF⟩ := zb_inv hF
    refine z_callV cx (As := [.ref (zSK G 8)]) (rest := []) (c_X8_wordIs l cx.2.2.2.1.1 M1 p0 8 hT_p0 (by decide) hc) hT_p0 zo_9 cv_Law_81 ⟨rfl, rfl, Nat.le_of_ble_eq_true rfl, Nat.le_of_ble_eq_true rfl⟩ rfl rfl ⟨Nat.zero_le _, Nat.zero_le _⟩ (Nat.le_of_ble_eq_true rfl) d_X3_nameOf_14 ?_
    refine z_if_eq cx 22 d_X3_nameOf_17 (by decide) hF (fun hF => ?_) (fun hF => ?_)
    · refine z_aload_n cx d_X3_nameOf_22 0 rfl ?_
      refine z_ldcS cx 9 (by decide) d_X3_nameOf_23 ?_
      obtain ⟨v6, M5, hc, hF⟩ := zb_inv hF
      refine z_callV cx (As := [.ref (zSK G 9)]) (rest := []) (c_X8_wordIs l cx.2.2.2.1.1 M3 p0 9 hT_p0 (by decide) hc) hT_p0 zo_9 cv_Law_81 ⟨rfl, rfl, Nat.le_of_ble_eq_true rfl, Nat.le_of_ble_eq_true rfl⟩ rfl rfl ⟨Nat.zero_le _, Nat.zero_le _⟩ (Nat.le_of_ble_eq_true rfl) d_X3_nameOf_25 ?_
      refine z_if_eq cx 33 d_X3_nameOf_28 (by decide) hF (fun hF => ?_) (fun hF => ?_)
      · refine z_aload_n cx d_X3_nameOf_33 0 rfl ?_
        refine z_ldcS cx 10 (by decide) d_X3_nameOf_34 ?_
        obtain ⟨v8, M7, hc, hF⟩ := zb_inv hF
        refine z_callV cx (As := [.ref (zSK G 10)]) (rest := []) (c_X8_wordIs l cx.2.2.2.1.1 M5 p0 10 hT_p0 (by decide) hc) hT_p0 zo_9 cv_Law_81 ⟨rfl, rfl, Nat.le_of_ble_eq_true rfl, Nat.le_of_ble_eq_true rfl⟩ rfl rfl ⟨Nat.zero_le _, Nat.zero_le _⟩ (Nat.le_of_ble_eq_true rfl) d_X3_nameOf_36 ?_
        refine z_if_eq cx 44 d_X3_nameOf_39 (by decide) hF (fun hF => ?_) (fun hF => ?_)
        · refine z_aload_n cx d_X3_nameOf_44 0 rfl ?_
          refine z_ldcS cx 2 (by decide) d_X3_nameOf_45 ?_
          obtain ⟨v10, M9, hc, hF⟩ := zb_inv hF
          refine z_callV cx (As := [.ref (zSK G 2)]) (rest := []) (c_X8_wordIs l cx.2.2.2.1.1 M7 p0 2 hT_p0 (by decide) hc) hT_p0 zo_9 cv_Law_81 ⟨rfl, rfl, Nat.le_of_ble_eq_true rfl, Nat.le_of_ble_eq_true rfl⟩ rfl rfl ⟨Nat.zero_le _, Nat.zero_le _⟩ (Nat.le_of_ble_eq_true rfl) d_X3_nameOf_47 ?_
          refine z_if_eq cx 55 d_X3_nameOf_50 (by decide) hF (fun hF => ?_) (fun hF => ?_)
          · refine z_aload_n cx d_X3_nameOf_55 0 rfl ?_
            refine z_ldcS cx 11 (by decide) d_X3_nameOf_56 ?_
            obtain ⟨v12, M11, hc, hF⟩ := zb_inv hF
            refine z_callV cx (As := [.ref (zSK G 11)]) (rest := []) (c_X8_wordIs l cx.2.2.2.1.1 M9 p0 11 hT_p0 (by decide) hc) hT_p0 zo_9 cv_Law_81 ⟨rfl, rfl, Nat.le_of_ble_eq_true rfl, Nat.le_of_ble_eq_true rfl⟩ rfl rfl ⟨Nat.zero_le _, Nat.zero_le _⟩ (Nat.le_of_ble_eq_true rfl) d_X3_nameOf_58 ?_
            refine z_if_eq cx 66 d_X3_nameOf_61 (by decide) hF (fun hF => ?_) (fun hF => ?_)
            · refine z_aload_n cx d_X3_nameOf_66 0 rfl ?_
              refine z_ldcS cx 12 (by decide) d_X3_nameOf_67 ?_
              obtain ⟨v14, M13, hc, hF⟩ := zb_inv hF
              refine z_callV cx (As := [.ref (zSK G 12)]) (rest := []) (c_X8_wordIs l cx.2.2.2.1.1 M11 p0 12 hT_p0 (by decide) hc) hT_p0 zo_9 cv_Law_81 ⟨rfl, rfl, Nat.le_of_ble_eq_true rfl, Nat.le_of_ble_eq_true rfl⟩ rfl rfl ⟨Nat.zero_le _, Nat.zero_le _⟩ (Nat.le_of_ble_eq_true rfl) d_X3_nameOf_69 ?_
              refine z_if_eq cx 78 d_X3_nameOf_72 (by decide) hF (fun hF => ?_) (fun hF => ?_)
              · refine z_aload_n cx d_X3_nameOf_78 0 rfl ?_
                refine z_ldcS cx 13 (by decide) d_X3_nameOf_79 ?_
                obtain ⟨v16, M15, hc, hF⟩ := zb_inv hF
                refine z_callV cx (As := [.ref (zSK G 13)]) (rest := []) (c_X8_wordIs l cx.2.2.2.1.1 M13 p0 13 hT_p0 (by decide) hc) hT_p0 zo_9 cv_Law_81 ⟨rfl, rfl, Nat.le_of_ble_eq_true rfl, Nat.le_of_ble_eq_true rfl⟩ rfl rfl ⟨Nat.zero_le _, Nat.zero_le _⟩ (Nat.le_of_ble_eq_true rfl) d_X3_nameOf_81 ?_
                refine z_if_eq cx 92 d_X3_nameOf_84 (by decide) hF (fun hF => ?_) (fun hF => ?_)
                · refine z_iconst (v := -1) cx d_X3_nameOf_92 ki_m1 ?_
                  exact z_iret cx hr rfl hF d_X3_nameOf_93
                refine z_bipush (v := 7) cx d_X3_nameOf_87 kb_7 ?_
                refine z_goto cx 93 d_X3_nameOf_89 (by decide) ?_
                exact z_iret cx hr rfl hF d_X3_nameOf_93
              refine z_bipush (v := 6) cx d_X3_nameOf_75 kb_6 ?_
              exact z_iret cx hr rfl hF d_X3_nameOf_77
            refine z_iconst (v := 5) cx d_X3_nameOf_64 ki_5 ?_
            exact z_iret cx hr rfl hF d_X3_nameOf_65
          refine z_iconst (v := 4) cx d_X3_nameOf_53 ki_4 ?_
          exact z_iret cx hr rfl hF d_X3_nameOf_54
        refine z_iconst (v := 3) cx d_X3_nameOf_42 ki_3 ?_
        exact z_iret cx hr rfl hF d_X3_nameOf_43
      refine z_iconst (v := 2) cx d_X3_nameOf_31 ki_2 ?_
      exact z_iret cx hr rfl hF d_X3_nameOf_32
    refine z_iconst (v := 1) cx d_X3_nameOf_20 ki_1 ?_
    exact z_iret cx hr rfl hF d_X3_nameOf_21
  refine z_iconst (v := 0) cx d_X3_nameOf_9 ki_0 ?_
  exact z_iret cx hr rfl hF d_X3_nameOf_10
