def shL_Text : List Nat := [9, 17]
def shL_Pans : List Nat := [5, 16, 16, 16, 18]
def shL_Stand : List Nat := [8, 5, 16, 16, 16, 18, 19, 5, 16, 16, 16, 18, 5, 16, 16, 16, 18, 5, 16, 16, 16, 18, 5, 16, 16, 16, 18, 5, 16, 16, 16, 18, 5, 16, 16, 16, 18, 5, 16, 16, 16, 18, 5, 16, 16, 16, 18, 5, 16, 16, 16, 18, 5, 16, 16, 16, 18, 5, 16, 16, 16, 18, 5, 16, 16, 16, 18, 5, 16, 16, 16, 18, 5, 16, 16, 16, 18, 5, 16, 16, 16, 18, 5, 16, 16, 16, 18]
def shL_Job : List Nat := [3, 21, 21, 21, 21, 21, 21, 22]
def shL_Shadows : List Nat := [7, 23, 18, 18, 18, 18, 18, 18, 18, 18, 18, 18, 18, 18, 18, 18, 18, 18, 18, 18, 18, 18, 18, 18, 18, 18, 18, 18, 18, 18, 18, 18, 18, 18, 18, 18, 18, 18, 18, 18, 18, 18, 18, 18, 18, 18, 18, 18, 18, 18, 18, 18, 18, 18, 18, 18, 18, 18, 18, 18, 18, 18, 18, 18, 18, 18, 24, 18]
def shL_Best : List Nat := [1]
def shL_Plan : List Nat := [6, 25, 25, 16, 16, 16]
def shL_Law : List Nat := [4, 21, 21, 26]
def shL_Book : List Nat := [2, 26, 26]
def shL_SunnyPans : List Nat := shXl
def shL_SunnyPansModel : List Nat := shMl
theorem f22_X3_emit {M M9 : zMem} {t : Nat} {v : Int32} (hF : F_X3_emit M t v = some M9) : M9.2.2 = M.2.2 := by
  revert hF
  unfold F_X3_emit
  simp only [zl, gin]
  intro hF
  repeat (first | (split at hF) | (cases hF; rfl) | (simp at hF))
theorem f22_X3_reset {M M9 : zMem} {t : Nat} (hF : F_X3_reset M t = some M9) : ∀ a, 0 ≤ a → M9.2.2 a = M.2.2 a := by
  intro a _
  unfold F_X3_reset at hF
  obtain ⟨M1, e1, hF⟩ := zl_inv hF
  obtain ⟨M2, h2, hF⟩ := zbv_inv hF
  obtain ⟨M3, h3, hF⟩ := zbv_inv hF
  obtain ⟨M4, h4, hF⟩ := zbv_inv hF
  obtain ⟨M5, h5, hF⟩ := zbv_inv hF
  obtain ⟨M6, h6, hF⟩ := zbv_inv hF
  cases hF
  rw [f22_X3_emit h6, f22_X3_emit h5, f22_X3_emit h4, f22_X3_emit h3, f22_X3_emit h2, e1]
  rfl
set_option maxHeartbeats 4000000 in
set_option maxRecDepth 100000 in
theorem cS_X9_placeOf (l : Launch) {G : zG} {sh : Nat → Nat} {ad : Nat → Nat} {n : Nat} (hA : zInj ad n) (M : zMem) (p0 : Int32) (p1 : Int32) {r9 : Int32} {M9 : zMem} (hF : F_X9_placeOf M p0 p1 = some (r9, M9)) : zM l yX9_placeOf cX9_placeOf 2 (some .int) rm_X9_placeOf G sh ad n M [.int p0, .int p1] (some (.int r9)) M9 := by
  refine zM_of hA (by decide +kernel) (lv := [(0, .int p0), (1, .int p1)]) (Nat.le_of_ble_eq_true rfl) rfl (fun p e s m args below meth c A cx hr => ?_)
  unfold F_X9_placeOf at hF
  refine z_iload_n cx d_X9_placeOf_0 1 rfl ?_
  refine z_bipush (v := 8) cx d_X9_placeOf_1 kb_8 ?_
  refine z_imul cx d_X9_placeOf_3 ?_
  refine z_iload_n cx d_X9_placeOf_4 0 rfl ?_
  refine z_iadd cx d_X9_placeOf_5 ?_
  exact z_iret cx hr rfl hF d_X9_placeOf_6
set_option maxHeartbeats 4000000 in
set_option maxRecDepth 100000 in
theorem cS_X9_bit (l : Launch) {G : zG} {sh : Nat → Nat} {ad : Nat → Nat} {n : Nat} (hA : zInj ad n) (M : zMem) (p0 : Int32) {r9 : Int64} {M9 : zMem} (hF : F_X9_bit M p0 = some (r9, M9)) : zM l yX9_bit cX9_bit 1 (some .long) rm_X9_bit G sh ad n M [.int p0] (some (.long r9)) M9 := by
  refine zM_of hA (by decide +kernel) (lv := [(0, .int p0)]) (Nat.le_of_ble_eq_true rfl) rfl (fun p e s m args below meth c A cx hr => ?_)
  unfold F_X9_bit at hF
  refine z_lconst (v := 1) cx d_X9_bit_0 (by decide +kernel) ?_
  refine z_iload_n cx d_X9_bit_1 0 rfl ?_
  refine z_lshl cx d_X9_bit_2 ?_
  exact z_lret cx hr hF d_X9_bit_3
set_option maxHeartbeats 4000000 in
set_option maxRecDepth 100000 in
theorem cS_X5_square (l : Launch) {G : zG} {sh : Nat → Nat} {ad : Nat → Nat} {n : Nat} (hA : zInj ad n) (M : zMem) (p0 : Int32) (p1 : Int32) {r9 : Int64} {M9 : zMem} (hF : F_X5_square M p0 p1 = some (r9, M9)) : zM l yX5_square cX5_square 6 (some .long) rm_X5_square G sh ad n M [.int p0, .int p1] (some (.long r9)) M9 := by
  refine zM_of hA (by decide +kernel) (lv := [(0, .int p0), (1, .int p1)]) (Nat.le_of_ble_eq_true rfl) rfl (fun p e s m args below meth c A cx hr => ?_)
  have hL14 : ∀ (self5 : Int32 → Int32 → Int64 → Int32 → zMem → Option (Int64 × zMem)) (hs5 : ∀ (b5_L0 : Int32) (b5_L1 : Int32) (b5_L2 : Int64) (b5_L4 : Int32) (M : zMem), self5 b5_L0 b5_L1 b5_L2 b5_L4 M = some (r9, M9) → zJ p l e rm_X5_square s m args below meth c G sh ad n A 6 (MQ below (zQ G sh ad n M9 (some (.long r9)) A) args s 0 0 A) 0 0 M 5 [(0, .int b5_L0), (1, .int b5_L1), (2, .long b5_L2), (4, .int b5_L4)] []) (fuel : Nat), ∀ (b14_L0 : Int32) (b14_L1 : Int32) (b14_L2 : Int64) (b14_L4 : Int32) (b14_L5 : Int32) (M : zMem), itF (fun _ _ _ _ _ _ => none) (F_X5_square_14 p0 p1 self5) fuel b14_L0 b14_L1 b14_L2 b14_L4 b14_L5 M = some (r9, M9) → zJ p l e rm_X5_square s m args below meth c G sh ad n A 6 (MQ below (zQ G sh ad n M9 (some (.long r9)) A) args s 0 0 A) 0 0 M 14 [(0, .int b14_L0), (1, .int b14_L1), (2, .long b14_L2), (4, .int b14_L4), (5, .int b14_L5)] [] := by
    intro self5 hs5 fuel
    induction fuel with
    | zero => intro b14_L0 b14_L1 b14_L2 b14_L4 b14_L5 M hF; cases hF
    | succ fuel hs14 =>
      intro b14_L0 b14_L1 b14_L2 b14_L4 b14_L5 M hF
      have hF : F_X5_square_14 p0 p1 self5 (itF (fun _ _ _ _ _ _ => none) (F_X5_square_14 p0 p1 self5) fuel) b14_L0 b14_L1 b14_L2 b14_L4 b14_L5 M = some (r9, M9) := hF
      generalize itF (fun _ _ _ _ _ _ => none) (F_X5_square_14 p0 p1 self5) fuel = self14 at hs14 hF
      unfold F_X5_square_14 at hF
      refine z_iload cx d_X5_square_14 4 rfl ?_
      refine z_iload_n cx d_X5_square_16 0 rfl ?_
      refine z_icmp_ge cx 39 d_X5_square_17 (by decide) hF (fun hF => ?_) (fun hF => ?_)
      · refine z_iinc cx 4 1 [(4, .int (b14_L4 + 1)), (0, .int b14_L0), (1, .int b14_L1), (2, .long b14_L2), (5, .int b14_L5)] d_X5_square_39 3 rfl ki_1 (by decide) rfl ?_
        refine z_goto cx 5 d_X5_square_42 (by decide) ?_
        exact z_lv [1, 2, 3, 0] _ rfl (hs5 b14_L0 b14_L1 b14_L2 (b14_L4 + 1) M hF)
      refine z_lload_n cx d_X5_square_20 2 rfl ?_
      refine z_iload cx d_X5_square_21 4 rfl ?_
      refine z_iload cx d_X5_square_23 3 rfl ?_
      obtain ⟨v2, M1, hc, hF⟩ := zb_inv hF
      refine z_callSN cx (As := [.int b14_L5, .int b14_L4]) (rest := [.long b14_L2]) (cS_X9_placeOf l cx.2.2.2.1.1 M b14_L5 b14_L4  hc) cn_Plan_103 wd_310 ⟨rfl, rfl, Nat.le_of_ble_eq_true rfl, Nat.le_of_ble_eq_true rfl⟩ rfl rfl ⟨Nat.zero_le _, Nat.zero_le _⟩ (Nat.le_of_ble_eq_true rfl) d_X5_square_25 ?_
      obtain ⟨v4, M3, hc, hF⟩ := zb_inv hF
      refine z_callSN cx (As := [.int v2]) (rest := [.long b14_L2]) (cS_X9_bit l cx.2.2.2.1.1 M1 v2  hc) cn_Plan_106 wd_313 ⟨rfl, rfl, Nat.le_of_ble_eq_true rfl, Nat.le_of_ble_eq_true rfl⟩ rfl rfl ⟨Nat.zero_le _, Nat.zero_le _⟩ (Nat.le_of_ble_eq_true rfl) d_X5_square_28 ?_
      refine z_lor cx d_X5_square_31 ?_
      refine z_nml hF (fun v5 hF => ?_)
      refine z_lstore_n cx 2 [(2, .long v5), (0, .int b14_L0), (1, .int b14_L1), (4, .int b14_L4), (5, .int b14_L5)] d_X5_square_32 rfl (by decide) rfl ?_
      refine z_iinc cx 5 1 [(5, .int (b14_L5 + 1)), (2, .long v5), (0, .int b14_L0), (1, .int b14_L1), (4, .int b14_L4)] d_X5_square_33 4 rfl ki_1 (by decide) rfl ?_
      refine z_goto cx 14 d_X5_square_36 (by decide) ?_
      exact z_lv [2, 3, 1, 4, 0] _ rfl (hs14 b14_L0 b14_L1 v5 b14_L4 (b14_L5 + 1) M3 hF)
  have hL5 : ∀ (fuel : Nat), ∀ (b5_L0 : Int32) (b5_L1 : Int32) (b5_L2 : Int64) (b5_L4 : Int32) (M : zMem), itF (fun _ _ _ _ _ => none) (F_X5_square_5 p0 p1) fuel b5_L0 b5_L1 b5_L2 b5_L4 M = some (r9, M9) → zJ p l e rm_X5_square s m args below meth c G sh ad n A 6 (MQ below (zQ G sh ad n M9 (some (.long r9)) A) args s 0 0 A) 0 0 M 5 [(0, .int b5_L0), (1, .int b5_L1), (2, .long b5_L2), (4, .int b5_L4)] [] := by
    intro fuel
    induction fuel with
    | zero => intro b5_L0 b5_L1 b5_L2 b5_L4 M hF; cases hF
    | succ fuel hs5 =>
      intro b5_L0 b5_L1 b5_L2 b5_L4 M hF
      have hF : F_X5_square_5 p0 p1 (itF (fun _ _ _ _ _ => none) (F_X5_square_5 p0 p1) fuel) b5_L0 b5_L1 b5_L2 b5_L4 M = some (r9, M9) := hF
      generalize itF (fun _ _ _ _ _ => none) (F_X5_square_5 p0 p1) fuel = self5 at hs5 hF
      unfold F_X5_square_5 at hF
      refine z_iload cx d_X5_square_5 3 rfl ?_
      refine z_iload_n cx d_X5_square_7 1 rfl ?_
      refine z_icmp_ge cx 45 d_X5_square_8 (by decide) hF (fun hF => ?_) (fun hF => ?_)
      · refine z_lload_n cx d_X5_square_45 2 rfl ?_
        exact z_lret cx hr hF d_X5_square_46
      refine z_iconst (v := 0) cx d_X5_square_11 ki_0 ?_
      refine z_istore cx 5 [(5, .int (0 : Int32)), (0, .int b5_L0), (1, .int b5_L1), (2, .long b5_L2), (4, .int b5_L4)] d_X5_square_12 (by decide) rfl ?_
      exact z_lv [1, 2, 3, 4, 0] _ rfl (hL14 self5 hs5 zFuel b5_L0 b5_L1 b5_L2 b5_L4 (0 : Int32) M hF)
  unfold F_X5_square at hF
  refine z_lconst (v := 0) cx d_X5_square_0 (by decide +kernel) ?_
  refine z_lstore_n cx 2 [(2, .long (0 : Int64)), (0, .int p0), (1, .int p1)] d_X5_square_1 rfl (by decide) rfl ?_
  refine z_iconst (v := 0) cx d_X5_square_2 ki_0 ?_
  refine z_istore cx 4 [(4, .int (0 : Int32)), (2, .long (0 : Int64)), (0, .int p0), (1, .int p1)] d_X5_square_3 (by decide) rfl ?_
  exact z_lv [2, 3, 1, 0] _ rfl (hL5 zFuel p0 p1 (0 : Int64) (0 : Int32) M hF)
set_option maxHeartbeats 4000000 in
set_option maxRecDepth 100000 in
theorem cS_X3_emit (l : Launch) {G : zG} {sh : Nat → Nat} {ad : Nat → Nat} {n : Nat} (hA : zInj ad n) (M : zMem) (t : Nat) (p0 : Int32) (hT_t : zT sh n t 4) (h1_t : zT sh n (t + 1) 21) {M9 : zMem} (hF : F_X3_emit M t p0 = some M9) : zM l yX3_emit cX3_emit 2 none rm_X3_emit G sh ad n M [.ref (ad t), .int p0] none M9 := by
  refine zM_of hA (by decide +kernel) (lv := [(0, .ref (ad t)), (1, .int p0)]) (Nat.le_of_ble_eq_true rfl) rfl (fun p e s m args below meth c A cx hr => ?_)
  unfold F_X3_emit at hF
  refine z_aload_n cx d_X3_emit_0 0 rfl ?_
  refine z_getI cx hT_t fg_Law_24 d_X3_emit_1 ?_
  refine z_aload_n cx d_X3_emit_4 0 rfl ?_
  refine z_getR cx hT_t fg_Law_11 (t + 1) rfl d_X3_emit_5 ?_
  refine z_alenI cx h1_t za_21 d_X3_emit_8 ?_
  refine z_icmp_ge cx 32 d_X3_emit_9 (by decide) hF (fun hF => ?_) (fun hF => ?_)
  · exact z_vret cx hr hF d_X3_emit_32
  refine z_aload_n cx d_X3_emit_12 0 rfl ?_
  refine z_getR cx hT_t fg_Law_11 (t + 1) rfl d_X3_emit_13 ?_
  refine z_aload_n cx d_X3_emit_16 0 rfl ?_
  refine z_getI cx hT_t fg_Law_24 d_X3_emit_17 ?_
  refine z_iload_n cx d_X3_emit_20 1 rfl ?_
  obtain ⟨hi1, hF⟩ := gin_inv hF
  refine z_iast cx h1_t za_21 hi1 ((M.1 t 3).toNatClampNeg) rfl d_X3_emit_21 ?_
  refine z_nmM hF (fun M2 hF => ?_)
  refine z_aload_n cx d_X3_emit_22 0 rfl ?_
  refine z_dup cx d_X3_emit_23 rfl ?_
  refine z_getI cx hT_t fg_Law_24 d_X3_emit_24 ?_
  refine z_iconst (v := 1) cx d_X3_emit_27 ki_1 ?_
  refine z_iadd cx d_X3_emit_28 ?_
  refine z_putI cx hT_t fp_Law_24 d_X3_emit_29 ?_
  refine z_nmM hF (fun M3 hF => ?_)
  exact z_vret cx hr hF d_X3_emit_32
set_option maxHeartbeats 4000000 in
set_option maxRecDepth 100000 in
theorem cS_X3_reset (l : Launch) {G : zG} {sh : Nat → Nat} {ad : Nat → Nat} {n : Nat} (hA : zInj ad n) (M : zMem) (t : Nat) (hT_t : zT sh n t 4) (h1_t : zT sh n (t + 1) 21) {M9 : zMem} (hF : F_X3_reset M t = some M9) : zM l yX3_reset cX3_reset 1 none rm_X3_reset G sh ad n M [.ref (ad t)] none M9 := by
  refine zM_of hA (by decide +kernel) (lv := [(0, .ref (ad t))]) (Nat.le_of_ble_eq_true rfl) rfl (fun p e s m args below meth c A cx hr => ?_)
  unfold F_X3_reset at hF
  refine z_aload_n cx d_X3_reset_0 0 rfl ?_
  refine z_iconst (v := 0) cx d_X3_reset_1 ki_0 ?_
  refine z_putI cx hT_t fp_Law_24 d_X3_reset_2 ?_
  refine z_nmM hF (fun M1 hF => ?_)
  refine z_aload_n cx d_X3_reset_5 0 rfl ?_
  refine z_bipush (v := 10) cx d_X3_reset_6 kb_10 ?_
  obtain ⟨M2, hc, hF⟩ := zbv_inv hF
  refine z_callV cx (As := [.int (10 : Int32)]) (rest := []) (cS_X3_emit l cx.2.2.2.1.1 M1 t (10 : Int32) hT_t h1_t hc) hT_t zo_4 cv_Law_28 ⟨rfl, rfl, Nat.le_of_ble_eq_true rfl, Nat.le_of_ble_eq_true rfl⟩ rfl rfl ⟨Nat.zero_le _, Nat.zero_le _⟩ (Nat.le_of_ble_eq_true rfl) d_X3_reset_8 ?_
  refine z_aload_n cx d_X3_reset_11 0 rfl ?_
  refine z_sipush (v := 1002) cx d_X3_reset_12 ks_1002 ?_
  obtain ⟨M3, hc, hF⟩ := zbv_inv hF
  refine z_callV cx (As := [.int (1002 : Int32)]) (rest := []) (cS_X3_emit l cx.2.2.2.1.1 M2 t (1002 : Int32) hT_t h1_t hc) hT_t zo_4 cv_Law_28 ⟨rfl, rfl, Nat.le_of_ble_eq_true rfl, Nat.le_of_ble_eq_true rfl⟩ rfl rfl ⟨Nat.zero_le _, Nat.zero_le _⟩ (Nat.le_of_ble_eq_true rfl) d_X3_reset_15 ?_
  refine z_aload_n cx d_X3_reset_18 0 rfl ?_
  refine z_iconst (v := 4) cx d_X3_reset_19 ki_4 ?_
  obtain ⟨M4, hc, hF⟩ := zbv_inv hF
  refine z_callV cx (As := [.int (4 : Int32)]) (rest := []) (cS_X3_emit l cx.2.2.2.1.1 M3 t (4 : Int32) hT_t h1_t hc) hT_t zo_4 cv_Law_28 ⟨rfl, rfl, Nat.le_of_ble_eq_true rfl, Nat.le_of_ble_eq_true rfl⟩ rfl rfl ⟨Nat.zero_le _, Nat.zero_le _⟩ (Nat.le_of_ble_eq_true rfl) d_X3_reset_20 ?_
  refine z_aload_n cx d_X3_reset_23 0 rfl ?_
  refine z_sipush (v := 1011) cx d_X3_reset_24 ks_1011 ?_
  obtain ⟨M5, hc, hF⟩ := zbv_inv hF
  refine z_callV cx (As := [.int (1011 : Int32)]) (rest := []) (cS_X3_emit l cx.2.2.2.1.1 M4 t (1011 : Int32) hT_t h1_t hc) hT_t zo_4 cv_Law_28 ⟨rfl, rfl, Nat.le_of_ble_eq_true rfl, Nat.le_of_ble_eq_true rfl⟩ rfl rfl ⟨Nat.zero_le _, Nat.zero_le _⟩ (Nat.le_of_ble_eq_true rfl) d_X3_reset_27 ?_
  refine z_aload_n cx d_X3_reset_30 0 rfl ?_
  refine z_sipush (v := 1008) cx d_X3_reset_31 ks_1008 ?_
  obtain ⟨M6, hc, hF⟩ := zbv_inv hF
  refine z_callV cx (As := [.int (1008 : Int32)]) (rest := []) (cS_X3_emit l cx.2.2.2.1.1 M5 t (1008 : Int32) hT_t h1_t hc) hT_t zo_4 cv_Law_28 ⟨rfl, rfl, Nat.le_of_ble_eq_true rfl, Nat.le_of_ble_eq_true rfl⟩ rfl rfl ⟨Nat.zero_le _, Nat.zero_le _⟩ (Nat.le_of_ble_eq_true rfl) d_X3_reset_34 ?_
  exact z_vret cx hr hF d_X3_reset_37
theorem f22_X9_placeOf {M M9 : zMem} {a b v : Int32} (hF : F_X9_placeOf M a b = some (v, M9)) : M9 = M := by
  unfold F_X9_placeOf at hF
  cases hF
  rfl
theorem f22_X9_bit {M M9 : zMem} {a : Int32} {v : Int64} (hF : F_X9_bit M a = some (v, M9)) : M9 = M := by
  unfold F_X9_bit at hF
  cases hF
  rfl
theorem f22_X5_square {M M9 : zMem} {a b : Int32} {v : Int64} (hF : F_X5_square M a b = some (v, M9)) : ∀ q, M9.2.2 q = M.2.2 q := by
  have in14 : ∀ (self5 : Int32 → Int32 → Int64 → Int32 → zMem → Option (Int64 × zMem)), (∀ x1 x2 x3 x4 (M : zMem) v M9, self5 x1 x2 x3 x4 M = some (v, M9) → M9 = M) → ∀ (fuel : Nat) x1 x2 x3 x4 x5 (M : zMem) v M9, itF (fun _ _ _ _ _ _ => none) (F_X5_square_14 a b self5) fuel x1 x2 x3 x4 x5 M = some (v, M9) → M9 = M := by
    intro self5 hs fuel
    induction fuel with
    | zero => intro x1 x2 x3 x4 x5 M v M9 h; cases h
    | succ fuel ih =>
      intro x1 x2 x3 x4 x5 M v M9 h
      have h : F_X5_square_14 a b self5 (itF (fun _ _ _ _ _ _ => none) (F_X5_square_14 a b self5) fuel) x1 x2 x3 x4 x5 M = some (v, M9) := h
      generalize itF (fun _ _ _ _ _ _ => none) (F_X5_square_14 a b self5) fuel = self14 at ih h
      unfold F_X5_square_14 at h
      split at h
      · exact hs _ _ _ _ _ _ _ h
      · obtain ⟨y1, M1, h1, h⟩ := zb_inv h
        obtain ⟨y2, M2, h2, h⟩ := zb_inv h
        obtain ⟨y3, e3, h⟩ := zl_inv h
        have e := ih _ _ _ _ _ _ _ _ h
        rw [e, f22_X9_bit h2, f22_X9_placeOf h1]
  have in5 : ∀ (fuel : Nat) x1 x2 x3 x4 (M : zMem) v M9, itF (fun _ _ _ _ _ => none) (F_X5_square_5 a b) fuel x1 x2 x3 x4 M = some (v, M9) → M9 = M := by
    intro fuel
    induction fuel with
    | zero => intro x1 x2 x3 x4 M v M9 h; cases h
    | succ fuel ih =>
      intro x1 x2 x3 x4 M v M9 h
      have h : F_X5_square_5 a b (itF (fun _ _ _ _ _ => none) (F_X5_square_5 a b) fuel) x1 x2 x3 x4 M = some (v, M9) := h
      generalize itF (fun _ _ _ _ _ => none) (F_X5_square_5 a b) fuel = self5 at ih h
      unfold F_X5_square_5 at h
      split at h
      · cases h
        rfl
      · exact in14 self5 (fun _ _ _ _ _ _ _ h => ih _ _ _ _ _ _ _ h) _ _ _ _ _ _ _ _ _ h
  intro q
  rw [in5 _ _ _ _ _ _ _ _ hF]
set_option maxRecDepth 100000 in
theorem wd_137 : Cond.methodLink "SunnyPans$Text" 3 objectInit ∈ tbG := tw1 37 rfl rfl
set_option maxRecDepth 100000 in
theorem wd_130 : Cond.instanceMethod objectInit ∈ tbG := tw1 30 rfl rfl
set_option maxRecDepth 100000 in
theorem wd_131 : Cond.code objectInit ⟨#[0xb1]⟩ 1 none ∈ tbG := tw1 31 rfl rfl
set_option maxRecDepth 100000 in
theorem wd_170 : Cond.arrayClass .int ∈ tbG := tw1 70 rfl rfl
theorem fq_Text_9 : zPutF "SunnyPans$Text" 9 8 49 0 := ⟨zc_8, ⟨RX8, TX8, 8, _, rfl, by decide, uw_8, wd_138, rfl, rfl, tyX8_ok 0 (by decide), fun _ => ⟨by rfl, by rfl⟩⟩, fun _ _ _ _ _ _ v hv => ⟨_, rfl, Nat.le_of_ble_eq_true rfl, by simp [zE, zrv, hv]⟩⟩
theorem d_X8_init_0 : decode cX8_init 0 = .ok (.aload_n 0, 1) := by decide +kernel
theorem d_X8_init_1 : decode cX8_init 1 = .ok (.invokespecial 3, 3) := by decide +kernel
theorem d_X8_init_4 : decode cX8_init 4 = .ok (.aload_n 0, 1) := by decide +kernel
theorem d_X8_init_5 : decode cX8_init 5 = .ok (.sipush 600, 3) := by decide +kernel
theorem d_X8_init_8 : decode cX8_init 8 = .ok (.newarray .int, 2) := by decide +kernel
theorem d_X8_init_10 : decode cX8_init 10 = .ok (.putfield 9, 3) := by decide +kernel
theorem d_X8_init_13 : decode cX8_init 13 = .ok (.aload_n 0, 1) := by decide +kernel
theorem d_X8_init_14 : decode cX8_init 14 = .ok (.iconst (-1), 1) := by decide +kernel
theorem d_X8_init_15 : decode cX8_init 15 = .ok (.putfield 15, 3) := by decide +kernel
theorem d_X8_init_18 : decode cX8_init 18 = .ok (.return_, 1) := by decide +kernel
noncomputable def F_X8_init (M : zMem) (t : Nat) : Option zMem :=
  zl (zNew M (t + 1) 1) fun M1 =>
  zl (zR M1 t 0 (t + 1)) fun M2 =>
  zl (zI M2 t 3 (-1 : Int32)) fun M4 =>
  some M4
def rm_X8_init : Room := { frames := 3, cells := 1, slots := 600, locals := 80 }
set_option maxHeartbeats 16000000 in
set_option maxRecDepth 100000 in
theorem c_X8_init (l : Launch) {G : zG} {b0 t n : Nat} (hn : n = t + 1) {sh : Nat → Nat} (hs : ∀ j, j < 2 → sh (t + j) = shL_Text.getD j 0) {M M9 : zMem} (hF : F_X8_init M t = some M9) : zMC l yX8_init cX8_init 1 rm_X8_init 1 600 G b0 (zsh sh t 49) n M [.ref (zad b0 t)] sh (t + 2) M9 := by
  subst hn
  refine zMC_of (by decide +kernel) rfl (lv := [(0, .ref (zad b0 t))]) (Nat.le_of_ble_eq_true rfl) rfl (fun p e s m args below meth c A cx hr hin hsz hb => ?_)
  unfold F_X8_init at hF
  refine z_aload_n (zX_to hb cx) d_X8_init_0 0 rfl ?_
  refine z_objInit (zX_to hb cx) ⟨wd_137, wd_130, wd_131⟩ d_X8_init_1 ⟨Nat.le_of_ble_eq_true rfl, Nat.le_of_ble_eq_true rfl⟩ ?_
  refine z_aload_n (zX_to hb cx) d_X8_init_4 0 rfl ?_
  refine z_sipush (v := 600) (zX_to hb cx) d_X8_init_5 ks_600 ?_
  refine z_newArrI (len := 600) (zX_to hb cx) (by omega) (Or.inl (by omega)) ((zsh_old (by omega)).trans (hs 1 (by decide))) za_17 wd_170 (by decide) (by decide +kernel) (by decide) ⟨Nat.le_of_ble_eq_true rfl, Nat.le_of_ble_eq_true rfl⟩ d_X8_init_8 ?_
  refine z_nmE hF (fun M1 eM1 hF => ?_)
  refine z_putF (zX_to hb cx) hin (by omega) (zT_self (by show _ + 1 ≤ _; omega) (by omega)) fq_Text_9 d_X8_init_10 ?_
  refine z_nmE hF (fun M2 eM2 hF => ?_)
  have f3 : M2.2.2 t 0 = (t + 1) := by
    rw [eM2, zR22e]
  refine z_shape (zHP_sealE (by rw [show sh t = 9 from (hs 0 (by decide))]; simp [zE, zrv, f3])) ?_
  refine z_aload_n (zX_to hb cx) d_X8_init_13 0 rfl ?_
  refine z_iconst (v := -1) (zX_to hb cx) d_X8_init_14 ki_m1 ?_
  refine z_putI (zX_to hb cx) ((⟨(hs 0 (by decide)), by omega, by show _ + 2 ≤ _; omega⟩ : zT sh _ _ 9)) fp_Text_15 d_X8_init_15 ?_
  refine z_nmE hF (fun M4 eM4 hF => ?_)
  cases hF
  exact z_vretC (zX_to hb cx) hr d_X8_init_18
theorem f22_X8_init {M M9 : zMem} {t : Nat} (hF : F_X8_init M t = some M9) : ∀ a, a < t → M9.2.2 a = M.2.2 a := by
  intro a ha
  unfold F_X8_init at hF
  obtain ⟨M1, eM1, hF⟩ := zl_inv hF
  obtain ⟨M2, eM2, hF⟩ := zl_inv hF
  obtain ⟨M4, eM4, hF⟩ := zl_inv hF
  cases hF
  rw [eM4, show (zI M2 t 3 (-1 : Int32)).2.2 = M2.2.2 from rfl]
  rw [eM2, zR22n (k := t) (a := a) (by omega)]
  rw [eM1, zNew22 (n := (t + 1)) (k := 1) (a := a) (by omega)]
set_option maxRecDepth 100000 in
theorem wd_182 : Cond.methodLink "SunnyPans$Pans" 3 objectInit ∈ tbG := tw1 82 rfl rfl
theorem fq_Pans_9 : zPutF "SunnyPans$Pans" 9 4 45 0 := ⟨zc_4, ⟨RX4, TX4, 7, _, rfl, by decide, uw_4, wd_183, rfl, rfl, tyX4_ok 0 (by decide), fun _ => ⟨by rfl, by rfl⟩⟩, fun _ _ _ _ _ _ v hv => ⟨_, rfl, Nat.le_of_ble_eq_true rfl, by simp [zE, zrv, hv]⟩⟩
theorem fq_Pans_15 : zPutF "SunnyPans$Pans" 15 4 45 1 := ⟨zc_4, ⟨RX4, TX4, 7, _, rfl, by decide, uw_4, wd_185, rfl, rfl, tyX4_ok 1 (by decide), fun _ => ⟨by rfl, by rfl⟩⟩, fun _ _ _ _ _ _ v hv => ⟨_, rfl, Nat.le_of_ble_eq_true rfl, by simp [zE, zrv, hv]⟩⟩
theorem fq_Pans_18 : zPutF "SunnyPans$Pans" 18 4 45 2 := ⟨zc_4, ⟨RX4, TX4, 7, _, rfl, by decide, uw_4, wd_187, rfl, rfl, tyX4_ok 2 (by decide), fun _ => ⟨by rfl, by rfl⟩⟩, fun _ _ _ _ _ _ v hv => ⟨_, rfl, Nat.le_of_ble_eq_true rfl, by simp [zE, zrv, hv]⟩⟩
set_option maxRecDepth 100000 in
theorem wd_212 : Cond.arrayClass .long ∈ tbG := tw1 112 rfl rfl
theorem fq_Pans_21 : zPutF "SunnyPans$Pans" 21 4 45 6 := ⟨zc_4, ⟨RX4, TX4, 7, _, rfl, by decide, uw_4, wd_196, rfl, rfl, tyX4_ok 6 (by decide), fun _ => ⟨by rfl, by rfl⟩⟩, fun _ _ _ _ _ _ v hv => ⟨_, rfl, Nat.le_of_ble_eq_true rfl, by simp [zE, zrv, hv]⟩⟩
theorem d_X4_init_0 : decode cX4_init 0 = .ok (.aload_n 0, 1) := by decide +kernel
theorem d_X4_init_1 : decode cX4_init 1 = .ok (.invokespecial 3, 3) := by decide +kernel
theorem d_X4_init_4 : decode cX4_init 4 = .ok (.aload_n 0, 1) := by decide +kernel
theorem d_X4_init_5 : decode cX4_init 5 = .ok (.bipush 64, 2) := by decide +kernel
theorem d_X4_init_7 : decode cX4_init 7 = .ok (.newarray .int, 2) := by decide +kernel
theorem d_X4_init_9 : decode cX4_init 9 = .ok (.putfield 9, 3) := by decide +kernel
theorem d_X4_init_12 : decode cX4_init 12 = .ok (.aload_n 0, 1) := by decide +kernel
theorem d_X4_init_13 : decode cX4_init 13 = .ok (.bipush 64, 2) := by decide +kernel
theorem d_X4_init_15 : decode cX4_init 15 = .ok (.newarray .int, 2) := by decide +kernel
theorem d_X4_init_17 : decode cX4_init 17 = .ok (.putfield 15, 3) := by decide +kernel
theorem d_X4_init_20 : decode cX4_init 20 = .ok (.aload_n 0, 1) := by decide +kernel
theorem d_X4_init_21 : decode cX4_init 21 = .ok (.bipush 64, 2) := by decide +kernel
theorem d_X4_init_23 : decode cX4_init 23 = .ok (.newarray .int, 2) := by decide +kernel
theorem d_X4_init_25 : decode cX4_init 25 = .ok (.putfield 18, 3) := by decide +kernel
theorem d_X4_init_28 : decode cX4_init 28 = .ok (.aload_n 0, 1) := by decide +kernel
theorem d_X4_init_29 : decode cX4_init 29 = .ok (.bipush 10, 2) := by decide +kernel
theorem d_X4_init_31 : decode cX4_init 31 = .ok (.newarray .long, 2) := by decide +kernel
theorem d_X4_init_33 : decode cX4_init 33 = .ok (.putfield 21, 3) := by decide +kernel
theorem d_X4_init_36 : decode cX4_init 36 = .ok (.return_, 1) := by decide +kernel
noncomputable def F_X4_init (M : zMem) (t : Nat) : Option zMem :=
  zl (zNew M (t + 1) 1) fun M1 =>
  zl (zR M1 t 0 (t + 1)) fun M2 =>
  zl (zNew M2 (t + 2) 1) fun M3 =>
  zl (zR M3 t 1 (t + 2)) fun M4 =>
  zl (zNew M4 (t + 3) 1) fun M5 =>
  zl (zR M5 t 2 (t + 3)) fun M6 =>
  zl (zNew M6 (t + 4) 1) fun M7 =>
  zl (zR M7 t 6 (t + 4)) fun M8 =>
  some M8
def rm_X4_init : Room := { frames := 3, cells := 4, slots := 202, locals := 80 }
set_option maxHeartbeats 16000000 in
set_option maxRecDepth 100000 in
theorem c_X4_init (l : Launch) {G : zG} {b0 t n : Nat} (hn : n = t + 1) {sh : Nat → Nat} (hs : ∀ j, j < 5 → sh (t + j) = shL_Pans.getD j 0) {M M9 : zMem} (hF : F_X4_init M t = some M9) : zMC l yX4_init cX4_init 1 rm_X4_init 4 202 G b0 (zsh sh t 45) n M [.ref (zad b0 t)] sh (t + 5) M9 := by
  subst hn
  refine zMC_of (by decide +kernel) rfl (lv := [(0, .ref (zad b0 t))]) (Nat.le_of_ble_eq_true rfl) rfl (fun p e s m args below meth c A cx hr hin hsz hb => ?_)
  unfold F_X4_init at hF
  refine z_aload_n (zX_to hb cx) d_X4_init_0 0 rfl ?_
  refine z_objInit (zX_to hb cx) ⟨wd_182, wd_130, wd_131⟩ d_X4_init_1 ⟨Nat.le_of_ble_eq_true rfl, Nat.le_of_ble_eq_true rfl⟩ ?_
  refine z_aload_n (zX_to hb cx) d_X4_init_4 0 rfl ?_
  refine z_bipush (v := 64) (zX_to hb cx) d_X4_init_5 kb_64 ?_
  refine z_newArrI (len := 64) (zX_to hb cx) (by omega) (Or.inl (by omega)) ((zsh_old (by omega)).trans (hs 1 (by decide))) za_16 wd_170 (by decide) (by decide +kernel) (by decide) ⟨Nat.le_of_ble_eq_true rfl, Nat.le_of_ble_eq_true rfl⟩ d_X4_init_7 ?_
  refine z_nmE hF (fun M1 eM1 hF => ?_)
  refine z_putF (zX_to hb cx) hin (by omega) (zT_self (by show _ + 1 ≤ _; omega) (by omega)) fq_Pans_9 d_X4_init_9 ?_
  refine z_nmE hF (fun M2 eM2 hF => ?_)
  refine z_aload_n (zX_to hb cx) d_X4_init_12 0 rfl ?_
  refine z_bipush (v := 64) (zX_to hb cx) d_X4_init_13 kb_64 ?_
  refine z_newArrI (len := 64) (zX_to hb cx) (by omega) (Or.inl (by omega)) ((zsh_old (by omega)).trans (hs 2 (by decide))) za_16 wd_170 (by decide) (by decide +kernel) (by decide) ⟨Nat.le_of_ble_eq_true rfl, Nat.le_of_ble_eq_true rfl⟩ d_X4_init_15 ?_
  refine z_nmE hF (fun M3 eM3 hF => ?_)
  refine z_putF (zX_to hb cx) hin (by omega) (zT_self (by show _ + 1 ≤ _; omega) (by omega)) fq_Pans_15 d_X4_init_17 ?_
  refine z_nmE hF (fun M4 eM4 hF => ?_)
  refine z_aload_n (zX_to hb cx) d_X4_init_20 0 rfl ?_
  refine z_bipush (v := 64) (zX_to hb cx) d_X4_init_21 kb_64 ?_
  refine z_newArrI (len := 64) (zX_to hb cx) (by omega) (Or.inl (by omega)) ((zsh_old (by omega)).trans (hs 3 (by decide))) za_16 wd_170 (by decide) (by decide +kernel) (by decide) ⟨Nat.le_of_ble_eq_true rfl, Nat.le_of_ble_eq_true rfl⟩ d_X4_init_23 ?_
  refine z_nmE hF (fun M5 eM5 hF => ?_)
  refine z_putF (zX_to hb cx) hin (by omega) (zT_self (by show _ + 1 ≤ _; omega) (by omega)) fq_Pans_18 d_X4_init_25 ?_
  refine z_nmE hF (fun M6 eM6 hF => ?_)
  refine z_aload_n (zX_to hb cx) d_X4_init_28 0 rfl ?_
  refine z_bipush (v := 10) (zX_to hb cx) d_X4_init_29 kb_10 ?_
  refine z_newArrL (len := 10) (zX_to hb cx) (by omega) (Or.inl (by omega)) ((zsh_old (by omega)).trans (hs 4 (by decide))) za_18 wd_212 (by decide) (by decide +kernel) (by decide) ⟨Nat.le_of_ble_eq_true rfl, Nat.le_of_ble_eq_true rfl⟩ d_X4_init_31 ?_
  refine z_nmE hF (fun M7 eM7 hF => ?_)
  refine z_putF (zX_to hb cx) hin (by omega) (zT_self (by show _ + 1 ≤ _; omega) (by omega)) fq_Pans_21 d_X4_init_33 ?_
  refine z_nmE hF (fun M8 eM8 hF => ?_)
  have f9 : M8.2.2 t 0 = (t + 1) := by
    rw [eM8, zR22j (j := 6) (i := 0) (by decide)]
    rw [eM7, zNew22 (n := (t + 4)) (k := 1) (a := t) (by omega)]
    rw [eM6, zR22j (j := 2) (i := 0) (by decide)]
    rw [eM5, zNew22 (n := (t + 3)) (k := 1) (a := t) (by omega)]
    rw [eM4, zR22j (j := 1) (i := 0) (by decide)]
    rw [eM3, zNew22 (n := (t + 2)) (k := 1) (a := t) (by omega)]
    rw [eM2, zR22e]
  have f10 : M8.2.2 t 1 = (t + 2) := by
    rw [eM8, zR22j (j := 6) (i := 1) (by decide)]
    rw [eM7, zNew22 (n := (t + 4)) (k := 1) (a := t) (by omega)]
    rw [eM6, zR22j (j := 2) (i := 1) (by decide)]
    rw [eM5, zNew22 (n := (t + 3)) (k := 1) (a := t) (by omega)]
    rw [eM4, zR22e]
  have f11 : M8.2.2 t 2 = (t + 3) := by
    rw [eM8, zR22j (j := 6) (i := 2) (by decide)]
    rw [eM7, zNew22 (n := (t + 4)) (k := 1) (a := t) (by omega)]
    rw [eM6, zR22e]
  have f12 : M8.2.2 t 6 = (t + 4) := by
    rw [eM8, zR22e]
  refine z_shape (zHP_sealE (by rw [show sh t = 5 from (hs 0 (by decide))]; simp [zE, zrv, f9, f10, f11, f12])) ?_
  cases hF
  exact z_vretC (zX_to hb cx) hr d_X4_init_36
theorem f22_X4_init {M M9 : zMem} {t : Nat} (hF : F_X4_init M t = some M9) : ∀ a, a < t → M9.2.2 a = M.2.2 a := by
  intro a ha
  unfold F_X4_init at hF
  obtain ⟨M1, eM1, hF⟩ := zl_inv hF
  obtain ⟨M2, eM2, hF⟩ := zl_inv hF
  obtain ⟨M3, eM3, hF⟩ := zl_inv hF
  obtain ⟨M4, eM4, hF⟩ := zl_inv hF
  obtain ⟨M5, eM5, hF⟩ := zl_inv hF
  obtain ⟨M6, eM6, hF⟩ := zl_inv hF
  obtain ⟨M7, eM7, hF⟩ := zl_inv hF
  obtain ⟨M8, eM8, hF⟩ := zl_inv hF
  cases hF
  rw [eM8, zR22n (k := t) (a := a) (by omega)]
  rw [eM7, zNew22 (n := (t + 4)) (k := 1) (a := a) (by omega)]
  rw [eM6, zR22n (k := t) (a := a) (by omega)]
  rw [eM5, zNew22 (n := (t + 3)) (k := 1) (a := a) (by omega)]
  rw [eM4, zR22n (k := t) (a := a) (by omega)]
  rw [eM3, zNew22 (n := (t + 2)) (k := 1) (a := a) (by omega)]
  rw [eM2, zR22n (k := t) (a := a) (by omega)]
  rw [eM1, zNew22 (n := (t + 1)) (k := 1) (a := a) (by omega)]
set_option maxRecDepth 100000 in
theorem wd_176 : Cond.methodLink "SunnyPans$Stand" 3 objectInit ∈ tbG := tw1 76 rfl rfl
set_option maxRecDepth 100000 in
theorem wd_177 : Cond.classLink "SunnyPans$Stand" 9 "SunnyPans$Pans" ∈ tbG := tw1 77 rfl rfl
set_option maxRecDepth 100000 in
theorem wd_178 : Cond.instantiable "SunnyPans$Pans" 7 ∈ tbG := tw1 78 rfl rfl
set_option maxRecDepth 100000 in
theorem wd_181 : Cond.code yX4_init cX4_init 1 none ∈ tbG := tw1 81 rfl rfl
set_option maxRecDepth 100000 in
theorem wd_179 : Cond.methodLinkNest "SunnyPans$Stand" 11 yX4_init "SunnyPans" ∈ tbN := twn1 79 rfl rfl
theorem cn_Stand_11 : zCN "SunnyPans$Stand" 11 yX4_init cX4_init 1 none 0 := ⟨wd_179, wd_104, wd_181, by decide +kernel⟩
set_option maxRecDepth 100000 in
theorem wd_180 : Cond.instanceMethod yX4_init ∈ tbG := tw1 80 rfl rfl
theorem fq_Stand_12 : zPutF "SunnyPans$Stand" 12 7 48 0 := ⟨zc_7, ⟨RX7, TX7, 3, _, rfl, by decide, uw_7, wd_214, rfl, rfl, tyX7_ok 0 (by decide), fun _ => ⟨by rfl, by rfl⟩⟩, fun _ _ _ _ _ _ v hv => ⟨_, rfl, Nat.le_of_ble_eq_true rfl, by simp [zE, zrv, hv]⟩⟩
theorem fq_Stand_18 : zPutF "SunnyPans$Stand" 18 7 48 2 := ⟨zc_7, ⟨RX7, TX7, 3, _, rfl, by decide, uw_7, wd_218, rfl, rfl, tyX7_ok 2 (by decide), fun _ => ⟨by rfl, by rfl⟩⟩, fun _ _ _ _ _ _ v hv => ⟨_, rfl, Nat.le_of_ble_eq_true rfl, by simp [zE, zrv, hv]⟩⟩
theorem d_X7_init_0 : decode cX7_init 0 = .ok (.aload_n 0, 1) := by decide +kernel
theorem d_X7_init_1 : decode cX7_init 1 = .ok (.invokespecial 3, 3) := by decide +kernel
theorem d_X7_init_4 : decode cX7_init 4 = .ok (.aload_n 0, 1) := by decide +kernel
theorem d_X7_init_5 : decode cX7_init 5 = .ok (.new 9, 3) := by decide +kernel
theorem d_X7_init_8 : decode cX7_init 8 = .ok (.dup, 1) := by decide +kernel
theorem d_X7_init_9 : decode cX7_init 9 = .ok (.invokespecial 11, 3) := by decide +kernel
theorem d_X7_init_12 : decode cX7_init 12 = .ok (.putfield 12, 3) := by decide +kernel
theorem d_X7_init_15 : decode cX7_init 15 = .ok (.aload_n 0, 1) := by decide +kernel
theorem d_X7_init_16 : decode cX7_init 16 = .ok (.bipush 16, 2) := by decide +kernel
theorem d_X7_init_18 : decode cX7_init 18 = .ok (.anewarray 9, 3) := by decide +kernel
theorem d_X7_init_21 : decode cX7_init 21 = .ok (.putfield 18, 3) := by decide +kernel
theorem d_X7_init_24 : decode cX7_init 24 = .ok (.iconst 0, 1) := by decide +kernel
theorem d_X7_init_25 : decode cX7_init 25 = .ok (.istore_n 1, 1) := by decide +kernel
theorem d_X7_init_26 : decode cX7_init 26 = .ok (.iload_n 1, 1) := by decide +kernel
theorem d_X7_init_27 : decode cX7_init 27 = .ok (.bipush 16, 2) := by decide +kernel
theorem d_X7_init_29 : decode cX7_init 29 = .ok (.if_icmp .ge 22, 3) := by decide +kernel
theorem d_X7_init_32 : decode cX7_init 32 = .ok (.aload_n 0, 1) := by decide +kernel
theorem d_X7_init_33 : decode cX7_init 33 = .ok (.getfield 18, 3) := by decide +kernel
theorem d_X7_init_36 : decode cX7_init 36 = .ok (.iload_n 1, 1) := by decide +kernel
theorem d_X7_init_37 : decode cX7_init 37 = .ok (.new 9, 3) := by decide +kernel
theorem d_X7_init_40 : decode cX7_init 40 = .ok (.dup, 1) := by decide +kernel
theorem d_X7_init_41 : decode cX7_init 41 = .ok (.invokespecial 11, 3) := by decide +kernel
theorem d_X7_init_44 : decode cX7_init 44 = .ok (.aastore, 1) := by decide +kernel
theorem d_X7_init_45 : decode cX7_init 45 = .ok (.iinc 1 1, 3) := by decide +kernel
theorem d_X7_init_48 : decode cX7_init 48 = .ok (.goto (-22), 3) := by decide +kernel
theorem d_X7_init_51 : decode cX7_init 51 = .ok (.return_, 1) := by decide +kernel
noncomputable def F_X7_init (M : zMem) (t : Nat) : Option zMem :=
  zl (zNew M (t + 1) 1) fun M1 =>
  zbv (F_X4_init M1 (t + 1)) fun M2 =>
  zl (zR M2 t 0 (t + 1)) fun M3 =>
  zl (zNew M3 (t + 6) 1) fun M4 =>
  zl (zR M4 t 2 (t + 6)) fun M5 =>
  zl (zNew M5 (t + 7) 1) fun M8 =>
  zbv (F_X4_init M8 (t + 7)) fun M9 =>
  zl (zR M9 (t + 6) 0 (t + 7)) fun M10 =>
  zl (zNew M10 (t + 12) 1) fun M11 =>
  zbv (F_X4_init M11 (t + 12)) fun M12 =>
  zl (zR M12 (t + 6) 1 (t + 12)) fun M13 =>
  zl (zNew M13 (t + 17) 1) fun M14 =>
  zbv (F_X4_init M14 (t + 17)) fun M15 =>
  zl (zR M15 (t + 6) 2 (t + 17)) fun M16 =>
  zl (zNew M16 (t + 22) 1) fun M17 =>
  zbv (F_X4_init M17 (t + 22)) fun M18 =>
  zl (zR M18 (t + 6) 3 (t + 22)) fun M19 =>
  zl (zNew M19 (t + 27) 1) fun M20 =>
  zbv (F_X4_init M20 (t + 27)) fun M21 =>
  zl (zR M21 (t + 6) 4 (t + 27)) fun M22 =>
  zl (zNew M22 (t + 32) 1) fun M23 =>
  zbv (F_X4_init M23 (t + 32)) fun M24 =>
  zl (zR M24 (t + 6) 5 (t + 32)) fun M25 =>
  zl (zNew M25 (t + 37) 1) fun M26 =>
  zbv (F_X4_init M26 (t + 37)) fun M27 =>
  zl (zR M27 (t + 6) 6 (t + 37)) fun M28 =>
  zl (zNew M28 (t + 42) 1) fun M29 =>
  zbv (F_X4_init M29 (t + 42)) fun M30 =>
  zl (zR M30 (t + 6) 7 (t + 42)) fun M31 =>
  zl (zNew M31 (t + 47) 1) fun M32 =>
  zbv (F_X4_init M32 (t + 47)) fun M33 =>
  zl (zR M33 (t + 6) 8 (t + 47)) fun M34 =>
  zl (zNew M34 (t + 52) 1) fun M35 =>
  zbv (F_X4_init M35 (t + 52)) fun M36 =>
  zl (zR M36 (t + 6) 9 (t + 52)) fun M37 =>
  zl (zNew M37 (t + 57) 1) fun M38 =>
  zbv (F_X4_init M38 (t + 57)) fun M39 =>
  zl (zR M39 (t + 6) 10 (t + 57)) fun M40 =>
  zl (zNew M40 (t + 62) 1) fun M41 =>
  zbv (F_X4_init M41 (t + 62)) fun M42 =>
  zl (zR M42 (t + 6) 11 (t + 62)) fun M43 =>
  zl (zNew M43 (t + 67) 1) fun M44 =>
  zbv (F_X4_init M44 (t + 67)) fun M45 =>
  zl (zR M45 (t + 6) 12 (t + 67)) fun M46 =>
  zl (zNew M46 (t + 72) 1) fun M47 =>
  zbv (F_X4_init M47 (t + 72)) fun M48 =>
  zl (zR M48 (t + 6) 13 (t + 72)) fun M49 =>
  zl (zNew M49 (t + 77) 1) fun M50 =>
  zbv (F_X4_init M50 (t + 77)) fun M51 =>
  zl (zR M51 (t + 6) 14 (t + 77)) fun M52 =>
  zl (zNew M52 (t + 82) 1) fun M53 =>
  zbv (F_X4_init M53 (t + 82)) fun M54 =>
  zl (zR M54 (t + 6) 15 (t + 82)) fun M55 =>
  some M55
def rm_X7_init : Room := { frames := 4, cells := 86, slots := 3569, locals := 100 }
set_option maxHeartbeats 16000000 in
set_option maxRecDepth 100000 in
theorem c_X7_init (l : Launch) {G : zG} {b0 t n : Nat} (hn : n = t + 1) {sh : Nat → Nat} (hs : ∀ j, j < 87 → sh (t + j) = shL_Stand.getD j 0) {M M9 : zMem} (hF : F_X7_init M t = some M9) : zMC l yX7_init cX7_init 2 rm_X7_init 86 3569 G b0 (zsh sh t 48) n M [.ref (zad b0 t)] sh (t + 87) M9 := by
  subst hn
  refine zMC_of (by decide +kernel) rfl (lv := [(0, .ref (zad b0 t))]) (Nat.le_of_ble_eq_true rfl) rfl (fun p e s m args below meth c A cx hr hin hsz hb => ?_)
  unfold F_X7_init at hF
  refine z_aload_n (zX_to hb cx) d_X7_init_0 0 rfl ?_
  refine z_objInit (zX_to hb cx) ⟨wd_176, wd_130, wd_131⟩ d_X7_init_1 ⟨Nat.le_of_ble_eq_true rfl, Nat.le_of_ble_eq_true rfl⟩ ?_
  refine z_aload_n (zX_to hb cx) d_X7_init_4 0 rfl ?_
  refine z_newObj (ci := 4) (cd := 45) (zX_to hb cx) (by omega) (Or.inl (by omega)) rfl tyX4 tyX4_ok uw_4 wd_177 wd_178 wd_104 (fs := [.null, .null, .null, .int 0, .int 0, .int 0, .null]) (by intro j hj; match j, hj with | 0, _ => rfl | 1, _ => rfl | 2, _ => rfl | 3, _ => rfl | 4, _ => rfl | 5, _ => rfl | 6, _ => rfl | k + 7, h => exact absurd h (by show ¬ (k + 7 < 7); omega)) rfl ⟨Nat.le_of_ble_eq_true rfl, Nat.le_of_ble_eq_true rfl⟩ d_X7_init_5 ?_
  refine z_nmE hF (fun M1 eM1 hF => ?_)
  refine z_dup (zX_to hb cx) d_X7_init_8 rfl ?_
  have hsc1 : ∀ j, j < 5 → shL_Stand.getD (1 + j) 0 = shL_Pans.getD j 0 := by decide +kernel
  obtain ⟨M2, hc, hF⟩ := zbv_inv hF
  have gM2 := f22_X4_init hc
  refine z_callCN (zX_to hb cx) (by omega) (Or.inl (by omega)) (c_X4_init l (by omega) (fun j hj => by
    have h9 := hs (1 + j) (by omega)
    rw [hsc1 j hj] at h9
    refine (zsh_old (by omega)).trans ?_
    exact (congrArg sh (by omega)).trans h9) hc) cn_Stand_11 rfl wd_180 ⟨rfl, rfl, Nat.le_of_ble_eq_true rfl, Nat.le_of_ble_eq_true rfl⟩ ⟨Nat.le_of_ble_eq_true rfl, Nat.le_of_ble_eq_true rfl⟩ (Nat.le_of_ble_eq_true rfl) d_X7_init_9 ?_
  refine z_putF (zX_to hb cx) hin (by omega) (zT_self (by show _ + 1 ≤ _; omega) (by omega)) fq_Stand_12 d_X7_init_12 ?_
  refine z_nmE hF (fun M3 eM3 hF => ?_)
  refine z_aload_n (zX_to hb cx) d_X7_init_15 0 rfl ?_
  refine z_bipush (v := 16) (zX_to hb cx) d_X7_init_16 kb_16 ?_
  refine z_newArrR (kd := 2) (len := 16) (cg := 52) (zX_to hb cx) (by omega) (Or.inl (by omega)) rfl (by decide) wd_177 (by decide) (by decide +kernel) (by decide) (fun _ _ _ _ => rfl) ⟨Nat.le_of_ble_eq_true rfl, Nat.le_of_ble_eq_true rfl⟩ d_X7_init_18 ?_
  refine z_nmE hF (fun M4 eM4 hF => ?_)
  refine z_putF (zX_to hb cx) hin (by omega) (zT_sh (zT_self (by show _ + 1 ≤ _; omega) (by omega)) (by omega)) fq_Stand_18 d_X7_init_21 ?_
  refine z_nmE hF (fun M5 eM5 hF => ?_)
  refine z_shapeE (zsh_comm (by omega)) ?_
  have f6 : M5.2.2 t 0 = (t + 1) := by
    rw [eM5, zR22j (j := 2) (i := 0) (by decide)]
    rw [eM4, zNew22 (n := (t + 6)) (k := 1) (a := t) (by omega)]
    rw [eM3, zR22e]
  have f7 : M5.2.2 t 2 = (t + 6) := by
    rw [eM5, zR22e]
  refine z_shape (zHP_sealE (by rw [show (zsh sh (t + 6) 52) t = 8 from (zsh_old (by omega)).trans ((hs 0 (by decide)))]; simp [zE, zrv, f6, f7])) ?_
  refine z_iconst (v := 0) (zX_to hb cx) d_X7_init_24 ki_0 ?_
  refine z_istore_n (zX_to hb cx) 1 [(1, .int (0 : Int32)), (0, .ref (zad b0 t))] d_X7_init_25 rfl (by decide) rfl ?_
  refine z_iload_n (zX_to hb cx) d_X7_init_26 0 rfl ?_
  refine z_bipush (v := 16) (zX_to hb cx) d_X7_init_27 kb_16 ?_
  refine z_icmp_ge (F1 := none) (F2 := some ()) (res := ()) (zX_to hb cx) 51 d_X7_init_29 (by decide) (by rw [if_neg (by decide)]) (fun h => by cases h) (fun _ => ?_)
  refine z_aload_n (zX_to hb cx) d_X7_init_32 1 rfl ?_
  refine z_getR0 (zX_to hb cx) ((zsh_old (by omega)).trans (hs 0 (by decide))) (by omega) fg_Stand_18 (t + 6) (by omega) d_X7_init_33 ?_
  refine z_iload_n (zX_to hb cx) d_X7_init_36 0 rfl ?_
  refine z_newObj (ci := 4) (cd := 45) (zX_to hb cx) (by omega) (Or.inl (by omega)) rfl tyX4 tyX4_ok uw_4 wd_177 wd_178 wd_104 (fs := [.null, .null, .null, .int 0, .int 0, .int 0, .null]) (by intro j hj; match j, hj with | 0, _ => rfl | 1, _ => rfl | 2, _ => rfl | 3, _ => rfl | 4, _ => rfl | 5, _ => rfl | 6, _ => rfl | k + 7, h => exact absurd h (by show ¬ (k + 7 < 7); omega)) rfl ⟨Nat.le_of_ble_eq_true rfl, Nat.le_of_ble_eq_true rfl⟩ d_X7_init_37 ?_
  refine z_nmE hF (fun M8 eM8 hF => ?_)
  refine z_dup (zX_to hb cx) d_X7_init_40 rfl ?_
  have hsc7 : ∀ j, j < 5 → shL_Stand.getD (7 + j) 0 = shL_Pans.getD j 0 := by decide +kernel
  obtain ⟨M9, hc, hF⟩ := zbv_inv hF
  have gM9 := f22_X4_init hc
  refine z_callCN (zX_to hb cx) (by omega) (Or.inl (by omega)) (c_X4_init l (by omega) (fun j hj => by
    have h9 := hs (7 + j) (by omega)
    rw [hsc7 j hj] at h9
    refine (zsh_old (by omega)).trans ?_
    exact (congrArg sh (by omega)).trans h9) hc) cn_Stand_11 rfl wd_180 ⟨rfl, rfl, Nat.le_of_ble_eq_true rfl, Nat.le_of_ble_eq_true rfl⟩ ⟨Nat.le_of_ble_eq_true rfl, Nat.le_of_ble_eq_true rfl⟩ (Nat.le_of_ble_eq_true rfl) d_X7_init_41 ?_
  refine z_aastG (kd := 2) (len := 16) (cg := 52) (cv := 5) (ci := 4) (j := 0) (r := (RX4, TX4, 7)) (zX_to hb cx) rfl (zT_self (by show _ + 1 ≤ _; omega) (by omega)) (fun _ _ _ _ => rfl) (zT_sh ((⟨(hs 7 (by decide)), by omega, by show _ + 5 ≤ _; omega⟩ : zT sh _ _ 5)) (by omega)) rfl (fun _ _ _ _ => ⟨_, rfl⟩) (by omega) (zvp (by decide +kernel)) (by decide +kernel) d_X7_init_44 ?_
  refine z_nmE hF (fun M10 eM10 hF => ?_)
  refine z_iinc (zX_to hb cx) 1 1 [(1, .int ((0 : Int32) + 1)), (0, .ref (zad b0 t))] d_X7_init_45 0 rfl ki_1 (by decide) rfl ?_
  rw [show ((0 : Int32) + 1) = 1 from by decide]
  refine z_goto (zX_to hb cx) 26 d_X7_init_48 (by decide) ?_
  refine z_iload_n (zX_to hb cx) d_X7_init_26 0 rfl ?_
  refine z_bipush (v := 16) (zX_to hb cx) d_X7_init_27 kb_16 ?_
  refine z_icmp_ge (F1 := none) (F2 := some ()) (res := ()) (zX_to hb cx) 51 d_X7_init_29 (by decide) (by rw [if_neg (by decide)]) (fun h => by cases h) (fun _ => ?_)
  refine z_aload_n (zX_to hb cx) d_X7_init_32 1 rfl ?_
  refine z_getR0 (zX_to hb cx) ((zsh_old (by omega)).trans (hs 0 (by decide))) (by omega) fg_Stand_18 (t + 6) (by omega) d_X7_init_33 ?_
  refine z_iload_n (zX_to hb cx) d_X7_init_36 0 rfl ?_
  refine z_newObj (ci := 4) (cd := 45) (zX_to hb cx) (by omega) (Or.inl (by omega)) rfl tyX4 tyX4_ok uw_4 wd_177 wd_178 wd_104 (fs := [.null, .null, .null, .int 0, .int 0, .int 0, .null]) (by intro j hj; match j, hj with | 0, _ => rfl | 1, _ => rfl | 2, _ => rfl | 3, _ => rfl | 4, _ => rfl | 5, _ => rfl | 6, _ => rfl | k + 7, h => exact absurd h (by show ¬ (k + 7 < 7); omega)) rfl ⟨Nat.le_of_ble_eq_true rfl, Nat.le_of_ble_eq_true rfl⟩ d_X7_init_37 ?_
  refine z_nmE hF (fun M11 eM11 hF => ?_)
  refine z_dup (zX_to hb cx) d_X7_init_40 rfl ?_
  have hsc12 : ∀ j, j < 5 → shL_Stand.getD (12 + j) 0 = shL_Pans.getD j 0 := by decide +kernel
  obtain ⟨M12, hc, hF⟩ := zbv_inv hF
  have gM12 := f22_X4_init hc
  refine z_callCN (zX_to hb cx) (by omega) (Or.inl (by omega)) (c_X4_init l (by omega) (fun j hj => by
    have h9 := hs (12 + j) (by omega)
    rw [hsc12 j hj] at h9
    refine (zsh_old (by omega)).trans ?_
    exact (congrArg sh (by omega)).trans h9) hc) cn_Stand_11 rfl wd_180 ⟨rfl, rfl, Nat.le_of_ble_eq_true rfl, Nat.le_of_ble_eq_true rfl⟩ ⟨Nat.le_of_ble_eq_true rfl, Nat.le_of_ble_eq_true rfl⟩ (Nat.le_of_ble_eq_true rfl) d_X7_init_41 ?_
  refine z_aastG (kd := 2) (len := 16) (cg := 52) (cv := 5) (ci := 4) (j := 1) (r := (RX4, TX4, 7)) (zX_to hb cx) rfl (zT_self (by show _ + 1 ≤ _; omega) (by omega)) (fun _ _ _ _ => rfl) (zT_sh ((⟨(hs 12 (by decide)), by omega, by show _ + 5 ≤ _; omega⟩ : zT sh _ _ 5)) (by omega)) rfl (fun _ _ _ _ => ⟨_, rfl⟩) (by omega) (zvp (by decide +kernel)) (by decide +kernel) d_X7_init_44 ?_
  refine z_nmE hF (fun M13 eM13 hF => ?_)
  refine z_iinc (zX_to hb cx) 1 1 [(1, .int ((1 : Int32) + 1)), (0, .ref (zad b0 t))] d_X7_init_45 0 rfl ki_1 (by decide) rfl ?_
  rw [show ((1 : Int32) + 1) = 2 from by decide]
  refine z_goto (zX_to hb cx) 26 d_X7_init_48 (by decide) ?_
  refine z_iload_n (zX_to hb cx) d_X7_init_26 0 rfl ?_
  refine z_bipush (v := 16) (zX_to hb cx) d_X7_init_27 kb_16 ?_
  refine z_icmp_ge (F1 := none) (F2 := some ()) (res := ()) (zX_to hb cx) 51 d_X7_init_29 (by decide) (by rw [if_neg (by decide)]) (fun h => by cases h) (fun _ => ?_)
  refine z_aload_n (zX_to hb cx) d_X7_init_32 1 rfl ?_
  refine z_getR0 (zX_to hb cx) ((zsh_old (by omega)).trans (hs 0 (by decide))) (by omega) fg_Stand_18 (t + 6) (by omega) d_X7_init_33 ?_
  refine z_iload_n (zX_to hb cx) d_X7_init_36 0 rfl ?_
  refine z_newObj (ci := 4) (cd := 45) (zX_to hb cx) (by omega) (Or.inl (by omega)) rfl tyX4 tyX4_ok uw_4 wd_177 wd_178 wd_104 (fs := [.null, .null, .null, .int 0, .int 0, .int 0, .null]) (by intro j hj; match j, hj with | 0, _ => rfl | 1, _ => rfl | 2, _ => rfl | 3, _ => rfl | 4, _ => rfl | 5, _ => rfl | 6, _ => rfl | k + 7, h => exact absurd h (by show ¬ (k + 7 < 7); omega)) rfl ⟨Nat.le_of_ble_eq_true rfl, Nat.le_of_ble_eq_true rfl⟩ d_X7_init_37 ?_
  refine z_nmE hF (fun M14 eM14 hF => ?_)
  refine z_dup (zX_to hb cx) d_X7_init_40 rfl ?_
  have hsc17 : ∀ j, j < 5 → shL_Stand.getD (17 + j) 0 = shL_Pans.getD j 0 := by decide +kernel
  obtain ⟨M15, hc, hF⟩ := zbv_inv hF
  have gM15 := f22_X4_init hc
  refine z_callCN (zX_to hb cx) (by omega) (Or.inl (by omega)) (c_X4_init l (by omega) (fun j hj => by
    have h9 := hs (17 + j) (by omega)
    rw [hsc17 j hj] at h9
    refine (zsh_old (by omega)).trans ?_
    exact (congrArg sh (by omega)).trans h9) hc) cn_Stand_11 rfl wd_180 ⟨rfl, rfl, Nat.le_of_ble_eq_true rfl, Nat.le_of_ble_eq_true rfl⟩ ⟨Nat.le_of_ble_eq_true rfl, Nat.le_of_ble_eq_true rfl⟩ (Nat.le_of_ble_eq_true rfl) d_X7_init_41 ?_
  refine z_aastG (kd := 2) (len := 16) (cg := 52) (cv := 5) (ci := 4) (j := 2) (r := (RX4, TX4, 7)) (zX_to hb cx) rfl (zT_self (by show _ + 1 ≤ _; omega) (by omega)) (fun _ _ _ _ => rfl) (zT_sh ((⟨(hs 17 (by decide)), by omega, by show _ + 5 ≤ _; omega⟩ : zT sh _ _ 5)) (by omega)) rfl (fun _ _ _ _ => ⟨_, rfl⟩) (by omega) (zvp (by decide +kernel)) (by decide +kernel) d_X7_init_44 ?_
  refine z_nmE hF (fun M16 eM16 hF => ?_)
  refine z_iinc (zX_to hb cx) 1 1 [(1, .int ((2 : Int32) + 1)), (0, .ref (zad b0 t))] d_X7_init_45 0 rfl ki_1 (by decide) rfl ?_
  rw [show ((2 : Int32) + 1) = 3 from by decide]
  refine z_goto (zX_to hb cx) 26 d_X7_init_48 (by decide) ?_
  refine z_iload_n (zX_to hb cx) d_X7_init_26 0 rfl ?_
  refine z_bipush (v := 16) (zX_to hb cx) d_X7_init_27 kb_16 ?_
  refine z_icmp_ge (F1 := none) (F2 := some ()) (res := ()) (zX_to hb cx) 51 d_X7_init_29 (by decide) (by rw [if_neg (by decide)]) (fun h => by cases h) (fun _ => ?_)
  refine z_aload_n (zX_to hb cx) d_X7_init_32 1 rfl ?_
  refine z_getR0 (zX_to hb cx) ((zsh_old (by omega)).trans (hs 0 (by decide))) (by omega) fg_Stand_18 (t + 6) (by omega) d_X7_init_33 ?_
  refine z_iload_n (zX_to hb cx) d_X7_init_36 0 rfl ?_
  refine z_newObj (ci := 4) (cd := 45) (zX_to hb cx) (by omega) (Or.inl (by omega)) rfl tyX4 tyX4_ok uw_4 wd_177 wd_178 wd_104 (fs := [.null, .null, .null, .int 0, .int 0, .int 0, .null]) (by intro j hj; match j, hj with | 0, _ => rfl | 1, _ => rfl | 2, _ => rfl | 3, _ => rfl | 4, _ => rfl | 5, _ => rfl | 6, _ => rfl | k + 7, h => exact absurd h (by show ¬ (k + 7 < 7); omega)) rfl ⟨Nat.le_of_ble_eq_true rfl, Nat.le_of_ble_eq_true rfl⟩ d_X7_init_37 ?_
  refine z_nmE hF (fun M17 eM17 hF => ?_)
  refine z_dup (zX_to hb cx) d_X7_init_40 rfl ?_
  have hsc22 : ∀ j, j < 5 → shL_Stand.getD (22 + j) 0 = shL_Pans.getD j 0 := by decide +kernel
  obtain ⟨M18, hc, hF⟩ := zbv_inv hF
  have gM18 := f22_X4_init hc
  refine z_callCN (zX_to hb cx) (by omega) (Or.inl (by omega)) (c_X4_init l (by omega) (fun j hj => by
    have h9 := hs (22 + j) (by omega)
    rw [hsc22 j hj] at h9
    refine (zsh_old (by omega)).trans ?_
    exact (congrArg sh (by omega)).trans h9) hc) cn_Stand_11 rfl wd_180 ⟨rfl, rfl, Nat.le_of_ble_eq_true rfl, Nat.le_of_ble_eq_true rfl⟩ ⟨Nat.le_of_ble_eq_true rfl, Nat.le_of_ble_eq_true rfl⟩ (Nat.le_of_ble_eq_true rfl) d_X7_init_41 ?_
  refine z_aastG (kd := 2) (len := 16) (cg := 52) (cv := 5) (ci := 4) (j := 3) (r := (RX4, TX4, 7)) (zX_to hb cx) rfl (zT_self (by show _ + 1 ≤ _; omega) (by omega)) (fun _ _ _ _ => rfl) (zT_sh ((⟨(hs 22 (by decide)), by omega, by show _ + 5 ≤ _; omega⟩ : zT sh _ _ 5)) (by omega)) rfl (fun _ _ _ _ => ⟨_, rfl⟩) (by omega) (zvp (by decide +kernel)) (by decide +kernel) d_X7_init_44 ?_
  refine z_nmE hF (fun M19 eM19 hF => ?_)
  refine z_iinc (zX_to hb cx) 1 1 [(1, .int ((3 : Int32) + 1)), (0, .ref (zad b0 t))] d_X7_init_45 0 rfl ki_1 (by decide) rfl ?_
  rw [show ((3 : Int32) + 1) = 4 from by decide]
  refine z_goto (zX_to hb cx) 26 d_X7_init_48 (by decide) ?_
  refine z_iload_n (zX_to hb cx) d_X7_init_26 0 rfl ?_
  refine z_bipush (v := 16) (zX_to hb cx) d_X7_init_27 kb_16 ?_
  refine z_icmp_ge (F1 := none) (F2 := some ()) (res := ()) (zX_to hb cx) 51 d_X7_init_29 (by decide) (by rw [if_neg (by decide)]) (fun h => by cases h) (fun _ => ?_)
  refine z_aload_n (zX_to hb cx) d_X7_init_32 1 rfl ?_
  refine z_getR0 (zX_to hb cx) ((zsh_old (by omega)).trans (hs 0 (by decide))) (by omega) fg_Stand_18 (t + 6) (by omega) d_X7_init_33 ?_
  refine z_iload_n (zX_to hb cx) d_X7_init_36 0 rfl ?_
  refine z_newObj (ci := 4) (cd := 45) (zX_to hb cx) (by omega) (Or.inl (by omega)) rfl tyX4 tyX4_ok uw_4 wd_177 wd_178 wd_104 (fs := [.null, .null, .null, .int 0, .int 0, .int 0, .null]) (by intro j hj; match j, hj with | 0, _ => rfl | 1, _ => rfl | 2, _ => rfl | 3, _ => rfl | 4, _ => rfl | 5, _ => rfl | 6, _ => rfl | k + 7, h => exact absurd h (by show ¬ (k + 7 < 7); omega)) rfl ⟨Nat.le_of_ble_eq_true rfl, Nat.le_of_ble_eq_true rfl⟩ d_X7_init_37 ?_
  refine z_nmE hF (fun M20 eM20 hF => ?_)
  refine z_dup (zX_to hb cx) d_X7_init_40 rfl ?_
  have hsc27 : ∀ j, j < 5 → shL_Stand.getD (27 + j) 0 = shL_Pans.getD j 0 := by decide +kernel
  obtain ⟨M21, hc, hF⟩ := zbv_inv hF
  have gM21 := f22_X4_init hc
  refine z_callCN (zX_to hb cx) (by omega) (Or.inl (by omega)) (c_X4_init l (by omega) (fun j hj => by
    have h9 := hs (27 + j) (by omega)
    rw [hsc27 j hj] at h9
    refine (zsh_old (by omega)).trans ?_
    exact (congrArg sh (by omega)).trans h9) hc) cn_Stand_11 rfl wd_180 ⟨rfl, rfl, Nat.le_of_ble_eq_true rfl, Nat.le_of_ble_eq_true rfl⟩ ⟨Nat.le_of_ble_eq_true rfl, Nat.le_of_ble_eq_true rfl⟩ (Nat.le_of_ble_eq_true rfl) d_X7_init_41 ?_
  refine z_aastG (kd := 2) (len := 16) (cg := 52) (cv := 5) (ci := 4) (j := 4) (r := (RX4, TX4, 7)) (zX_to hb cx) rfl (zT_self (by show _ + 1 ≤ _; omega) (by omega)) (fun _ _ _ _ => rfl) (zT_sh ((⟨(hs 27 (by decide)), by omega, by show _ + 5 ≤ _; omega⟩ : zT sh _ _ 5)) (by omega)) rfl (fun _ _ _ _ => ⟨_, rfl⟩) (by omega) (zvp (by decide +kernel)) (by decide +kernel) d_X7_init_44 ?_
  refine z_nmE hF (fun M22 eM22 hF => ?_)
  refine z_iinc (zX_to hb cx) 1 1 [(1, .int ((4 : Int32) + 1)), (0, .ref (zad b0 t))] d_X7_init_45 0 rfl ki_1 (by decide) rfl ?_
  rw [show ((4 : Int32) + 1) = 5 from by decide]
  refine z_goto (zX_to hb cx) 26 d_X7_init_48 (by decide) ?_
  refine z_iload_n (zX_to hb cx) d_X7_init_26 0 rfl ?_
  refine z_bipush (v := 16) (zX_to hb cx) d_X7_init_27 kb_16 ?_
  refine z_icmp_ge (F1 := none) (F2 := some ()) (res := ()) (zX_to hb cx) 51 d_X7_init_29 (by decide) (by rw [if_neg (by decide)]) (fun h => by cases h) (fun _ => ?_)
  refine z_aload_n (zX_to hb cx) d_X7_init_32 1 rfl ?_
  refine z_getR0 (zX_to hb cx) ((zsh_old (by omega)).trans (hs 0 (by decide))) (by omega) fg_Stand_18 (t + 6) (by omega) d_X7_init_33 ?_
  refine z_iload_n (zX_to hb cx) d_X7_init_36 0 rfl ?_
  refine z_newObj (ci := 4) (cd := 45) (zX_to hb cx) (by omega) (Or.inl (by omega)) rfl tyX4 tyX4_ok uw_4 wd_177 wd_178 wd_104 (fs := [.null, .null, .null, .int 0, .int 0, .int 0, .null]) (by intro j hj; match j, hj with | 0, _ => rfl | 1, _ => rfl | 2, _ => rfl | 3, _ => rfl | 4, _ => rfl | 5, _ => rfl | 6, _ => rfl | k + 7, h => exact absurd h (by show ¬ (k + 7 < 7); omega)) rfl ⟨Nat.le_of_ble_eq_true rfl, Nat.le_of_ble_eq_true rfl⟩ d_X7_init_37 ?_
  refine z_nmE hF (fun M23 eM23 hF => ?_)
  refine z_dup (zX_to hb cx) d_X7_init_40 rfl ?_
  have hsc32 : ∀ j, j < 5 → shL_Stand.getD (32 + j) 0 = shL_Pans.getD j 0 := by decide +kernel
  obtain ⟨M24, hc, hF⟩ := zbv_inv hF
  have gM24 := f22_X4_init hc
  refine z_callCN (zX_to hb cx) (by omega) (Or.inl (by omega)) (c_X4_init l (by omega) (fun j hj => by
    have h9 := hs (32 + j) (by omega)
    rw [hsc32 j hj] at h9
    refine (zsh_old (by omega)).trans ?_
    exact (congrArg sh (by omega)).trans h9) hc) cn_Stand_11 rfl wd_180 ⟨rfl, rfl, Nat.le_of_ble_eq_true rfl, Nat.le_of_ble_eq_true rfl⟩ ⟨Nat.le_of_ble_eq_true rfl, Nat.le_of_ble_eq_true rfl⟩ (Nat.le_of_ble_eq_true rfl) d_X7_init_41 ?_
  refine z_aastG (kd := 2) (len := 16) (cg := 52) (cv := 5) (ci := 4) (j := 5) (r := (RX4, TX4, 7)) (zX_to hb cx) rfl (zT_self (by show _ + 1 ≤ _; omega) (by omega)) (fun _ _ _ _ => rfl) (zT_sh ((⟨(hs 32 (by decide)), by omega, by show _ + 5 ≤ _; omega⟩ : zT sh _ _ 5)) (by omega)) rfl (fun _ _ _ _ => ⟨_, rfl⟩) (by omega) (zvp (by decide +kernel)) (by decide +kernel) d_X7_init_44 ?_
  refine z_nmE hF (fun M25 eM25 hF => ?_)
  refine z_iinc (zX_to hb cx) 1 1 [(1, .int ((5 : Int32) + 1)), (0, .ref (zad b0 t))] d_X7_init_45 0 rfl ki_1 (by decide) rfl ?_
  rw [show ((5 : Int32) + 1) = 6 from by decide]
  refine z_goto (zX_to hb cx) 26 d_X7_init_48 (by decide) ?_
  refine z_iload_n (zX_to hb cx) d_X7_init_26 0 rfl ?_
  refine z_bipush (v := 16) (zX_to hb cx) d_X7_init_27 kb_16 ?_
  refine z_icmp_ge (F1 := none) (F2 := some ()) (res := ()) (zX_to hb cx) 51 d_X7_init_29 (by decide) (by rw [if_neg (by decide)]) (fun h => by cases h) (fun _ => ?_)
  refine z_aload_n (zX_to hb cx) d_X7_init_32 1 rfl ?_
  refine z_getR0 (zX_to hb cx) ((zsh_old (by omega)).trans (hs 0 (by decide))) (by omega) fg_Stand_18 (t + 6) (by omega) d_X7_init_33 ?_
  refine z_iload_n (zX_to hb cx) d_X7_init_36 0 rfl ?_
  refine z_newObj (ci := 4) (cd := 45) (zX_to hb cx) (by omega) (Or.inl (by omega)) rfl tyX4 tyX4_ok uw_4 wd_177 wd_178 wd_104 (fs := [.null, .null, .null, .int 0, .int 0, .int 0, .null]) (by intro j hj; match j, hj with | 0, _ => rfl | 1, _ => rfl | 2, _ => rfl | 3, _ => rfl | 4, _ => rfl | 5, _ => rfl | 6, _ => rfl | k + 7, h => exact absurd h (by show ¬ (k + 7 < 7); omega)) rfl ⟨Nat.le_of_ble_eq_true rfl, Nat.le_of_ble_eq_true rfl⟩ d_X7_init_37 ?_
  refine z_nmE hF (fun M26 eM26 hF => ?_)
  refine z_dup (zX_to hb cx) d_X7_init_40 rfl ?_
  have hsc37 : ∀ j, j < 5 → shL_Stand.getD (37 + j) 0 = shL_Pans.getD j 0 := by decide +kernel
  obtain ⟨M27, hc, hF⟩ := zbv_inv hF
  have gM27 := f22_X4_init hc
  refine z_callCN (zX_to hb cx) (by omega) (Or.inl (by omega)) (c_X4_init l (by omega) (fun j hj => by
    have h9 := hs (37 + j) (by omega)
    rw [hsc37 j hj] at h9
    refine (zsh_old (by omega)).trans ?_
    exact (congrArg sh (by omega)).trans h9) hc) cn_Stand_11 rfl wd_180 ⟨rfl, rfl, Nat.le_of_ble_eq_true rfl, Nat.le_of_ble_eq_true rfl⟩ ⟨Nat.le_of_ble_eq_true rfl, Nat.le_of_ble_eq_true rfl⟩ (Nat.le_of_ble_eq_true rfl) d_X7_init_41 ?_
  refine z_aastG (kd := 2) (len := 16) (cg := 52) (cv := 5) (ci := 4) (j := 6) (r := (RX4, TX4, 7)) (zX_to hb cx) rfl (zT_self (by show _ + 1 ≤ _; omega) (by omega)) (fun _ _ _ _ => rfl) (zT_sh ((⟨(hs 37 (by decide)), by omega, by show _ + 5 ≤ _; omega⟩ : zT sh _ _ 5)) (by omega)) rfl (fun _ _ _ _ => ⟨_, rfl⟩) (by omega) (zvp (by decide +kernel)) (by decide +kernel) d_X7_init_44 ?_
  refine z_nmE hF (fun M28 eM28 hF => ?_)
  refine z_iinc (zX_to hb cx) 1 1 [(1, .int ((6 : Int32) + 1)), (0, .ref (zad b0 t))] d_X7_init_45 0 rfl ki_1 (by decide) rfl ?_
  rw [show ((6 : Int32) + 1) = 7 from by decide]
  refine z_goto (zX_to hb cx) 26 d_X7_init_48 (by decide) ?_
  refine z_iload_n (zX_to hb cx) d_X7_init_26 0 rfl ?_
  refine z_bipush (v := 16) (zX_to hb cx) d_X7_init_27 kb_16 ?_
  refine z_icmp_ge (F1 := none) (F2 := some ()) (res := ()) (zX_to hb cx) 51 d_X7_init_29 (by decide) (by rw [if_neg (by decide)]) (fun h => by cases h) (fun _ => ?_)
  refine z_aload_n (zX_to hb cx) d_X7_init_32 1 rfl ?_
  refine z_getR0 (zX_to hb cx) ((zsh_old (by omega)).trans (hs 0 (by decide))) (by omega) fg_Stand_18 (t + 6) (by omega) d_X7_init_33 ?_
  refine z_iload_n (zX_to hb cx) d_X7_init_36 0 rfl ?_
  refine z_newObj (ci := 4) (cd := 45) (zX_to hb cx) (by omega) (Or.inl (by omega)) rfl tyX4 tyX4_ok uw_4 wd_177 wd_178 wd_104 (fs := [.null, .null, .null, .int 0, .int 0, .int 0, .null]) (by intro j hj; match j, hj with | 0, _ => rfl | 1, _ => rfl | 2, _ => rfl | 3, _ => rfl | 4, _ => rfl | 5, _ => rfl | 6, _ => rfl | k + 7, h => exact absurd h (by show ¬ (k + 7 < 7); omega)) rfl ⟨Nat.le_of_ble_eq_true rfl, Nat.le_of_ble_eq_true rfl⟩ d_X7_init_37 ?_
  refine z_nmE hF (fun M29 eM29 hF => ?_)
  refine z_dup (zX_to hb cx) d_X7_init_40 rfl ?_
  have hsc42 : ∀ j, j < 5 → shL_Stand.getD (42 + j) 0 = shL_Pans.getD j 0 := by decide +kernel
  obtain ⟨M30, hc, hF⟩ := zbv_inv hF
  have gM30 := f22_X4_init hc
  refine z_callCN (zX_to hb cx) (by omega) (Or.inl (by omega)) (c_X4_init l (by omega) (fun j hj => by
    have h9 := hs (42 + j) (by omega)
    rw [hsc42 j hj] at h9
    refine (zsh_old (by omega)).trans ?_
    exact (congrArg sh (by omega)).trans h9) hc) cn_Stand_11 rfl wd_180 ⟨rfl, rfl, Nat.le_of_ble_eq_true rfl, Nat.le_of_ble_eq_true rfl⟩ ⟨Nat.le_of_ble_eq_true rfl, Nat.le_of_ble_eq_true rfl⟩ (Nat.le_of_ble_eq_true rfl) d_X7_init_41 ?_
  refine z_aastG (kd := 2) (len := 16) (cg := 52) (cv := 5) (ci := 4) (j := 7) (r := (RX4, TX4, 7)) (zX_to hb cx) rfl (zT_self (by show _ + 1 ≤ _; omega) (by omega)) (fun _ _ _ _ => rfl) (zT_sh ((⟨(hs 42 (by decide)), by omega, by show _ + 5 ≤ _; omega⟩ : zT sh _ _ 5)) (by omega)) rfl (fun _ _ _ _ => ⟨_, rfl⟩) (by omega) (zvp (by decide +kernel)) (by decide +kernel) d_X7_init_44 ?_
  refine z_nmE hF (fun M31 eM31 hF => ?_)
  refine z_iinc (zX_to hb cx) 1 1 [(1, .int ((7 : Int32) + 1)), (0, .ref (zad b0 t))] d_X7_init_45 0 rfl ki_1 (by decide) rfl ?_
  rw [show ((7 : Int32) + 1) = 8 from by decide]
  refine z_goto (zX_to hb cx) 26 d_X7_init_48 (by decide) ?_
  refine z_iload_n (zX_to hb cx) d_X7_init_26 0 rfl ?_
  refine z_bipush (v := 16) (zX_to hb cx) d_X7_init_27 kb_16 ?_
  refine z_icmp_ge (F1 := none) (F2 := some ()) (res := ()) (zX_to hb cx) 51 d_X7_init_29 (by decide) (by rw [if_neg (by decide)]) (fun h => by cases h) (fun _ => ?_)
  refine z_aload_n (zX_to hb cx) d_X7_init_32 1 rfl ?_
  refine z_getR0 (zX_to hb cx) ((zsh_old (by omega)).trans (hs 0 (by decide))) (by omega) fg_Stand_18 (t + 6) (by omega) d_X7_init_33 ?_
  refine z_iload_n (zX_to hb cx) d_X7_init_36 0 rfl ?_
  refine z_newObj (ci := 4) (cd := 45) (zX_to hb cx) (by omega) (Or.inl (by omega)) rfl tyX4 tyX4_ok uw_4 wd_177 wd_178 wd_104 (fs := [.null, .null, .null, .int 0, .int 0, .int 0, .null]) (by intro j hj; match j, hj with | 0, _ => rfl | 1, _ => rfl | 2, _ => rfl | 3, _ => rfl | 4, _ => rfl | 5, _ => rfl | 6, _ => rfl | k + 7, h => exact absurd h (by show ¬ (k + 7 < 7); omega)) rfl ⟨Nat.le_of_ble_eq_true rfl, Nat.le_of_ble_eq_true rfl⟩ d_X7_init_37 ?_
  refine z_nmE hF (fun M32 eM32 hF => ?_)
  refine z_dup (zX_to hb cx) d_X7_init_40 rfl ?_
  have hsc47 : ∀ j, j < 5 → shL_Stand.getD (47 + j) 0 = shL_Pans.getD j 0 := by decide +kernel
  obtain ⟨M33, hc, hF⟩ := zbv_inv hF
  have gM33 := f22_X4_init hc
  refine z_callCN (zX_to hb cx) (by omega) (Or.inl (by omega)) (c_X4_init l (by omega) (fun j hj => by
    have h9 := hs (47 + j) (by omega)
    rw [hsc47 j hj] at h9
    refine (zsh_old (by omega)).trans ?_
    exact (congrArg sh (by omega)).trans h9) hc) cn_Stand_11 rfl wd_180 ⟨rfl, rfl, Nat.le_of_ble_eq_true rfl, Nat.le_of_ble_eq_true rfl⟩ ⟨Nat.le_of_ble_eq_true rfl, Nat.le_of_ble_eq_true rfl⟩ (Nat.le_of_ble_eq_true rfl) d_X7_init_41 ?_
  refine z_aastG (kd := 2) (len := 16) (cg := 52) (cv := 5) (ci := 4) (j := 8) (r := (RX4, TX4, 7)) (zX_to hb cx) rfl (zT_self (by show _ + 1 ≤ _; omega) (by omega)) (fun _ _ _ _ => rfl) (zT_sh ((⟨(hs 47 (by decide)), by omega, by show _ + 5 ≤ _; omega⟩ : zT sh _ _ 5)) (by omega)) rfl (fun _ _ _ _ => ⟨_, rfl⟩) (by omega) (zvp (by decide +kernel)) (by decide +kernel) d_X7_init_44 ?_
  refine z_nmE hF (fun M34 eM34 hF => ?_)
  refine z_iinc (zX_to hb cx) 1 1 [(1, .int ((8 : Int32) + 1)), (0, .ref (zad b0 t))] d_X7_init_45 0 rfl ki_1 (by decide) rfl ?_
  rw [show ((8 : Int32) + 1) = 9 from by decide]
  refine z_goto (zX_to hb cx) 26 d_X7_init_48 (by decide) ?_
  refine z_iload_n (zX_to hb cx) d_X7_init_26 0 rfl ?_
  refine z_bipush (v := 16) (zX_to hb cx) d_X7_init_27 kb_16 ?_
  refine z_icmp_ge (F1 := none) (F2 := some ()) (res := ()) (zX_to hb cx) 51 d_X7_init_29 (by decide) (by rw [if_neg (by decide)]) (fun h => by cases h) (fun _ => ?_)
  refine z_aload_n (zX_to hb cx) d_X7_init_32 1 rfl ?_
  refine z_getR0 (zX_to hb cx) ((zsh_old (by omega)).trans (hs 0 (by decide))) (by omega) fg_Stand_18 (t + 6) (by omega) d_X7_init_33 ?_
  refine z_iload_n (zX_to hb cx) d_X7_init_36 0 rfl ?_
  refine z_newObj (ci := 4) (cd := 45) (zX_to hb cx) (by omega) (Or.inl (by omega)) rfl tyX4 tyX4_ok uw_4 wd_177 wd_178 wd_104 (fs := [.null, .null, .null, .int 0, .int 0, .int 0, .null]) (by intro j hj; match j, hj with | 0, _ => rfl | 1, _ => rfl | 2, _ => rfl | 3, _ => rfl | 4, _ => rfl | 5, _ => rfl | 6, _ => rfl | k + 7, h => exact absurd h (by show ¬ (k + 7 < 7); omega)) rfl ⟨Nat.le_of_ble_eq_true rfl, Nat.le_of_ble_eq_true rfl⟩ d_X7_init_37 ?_
  refine z_nmE hF (fun M35 eM35 hF => ?_)
  refine z_dup (zX_to hb cx) d_X7_init_40 rfl ?_
  have hsc52 : ∀ j, j < 5 → shL_Stand.getD (52 + j) 0 = shL_Pans.getD j 0 := by decide +kernel
  obtain ⟨M36, hc, hF⟩ := zbv_inv hF
  have gM36 := f22_X4_init hc
  refine z_callCN (zX_to hb cx) (by omega) (Or.inl (by omega)) (c_X4_init l (by omega) (fun j hj => by
    have h9 := hs (52 + j) (by omega)
    rw [hsc52 j hj] at h9
    refine (zsh_old (by omega)).trans ?_
    exact (congrArg sh (by omega)).trans h9) hc) cn_Stand_11 rfl wd_180 ⟨rfl, rfl, Nat.le_of_ble_eq_true rfl, Nat.le_of_ble_eq_true rfl⟩ ⟨Nat.le_of_ble_eq_true rfl, Nat.le_of_ble_eq_true rfl⟩ (Nat.le_of_ble_eq_true rfl) d_X7_init_41 ?_
  refine z_aastG (kd := 2) (len := 16) (cg := 52) (cv := 5) (ci := 4) (j := 9) (r := (RX4, TX4, 7)) (zX_to hb cx) rfl (zT_self (by show _ + 1 ≤ _; omega) (by omega)) (fun _ _ _ _ => rfl) (zT_sh ((⟨(hs 52 (by decide)), by omega, by show _ + 5 ≤ _; omega⟩ : zT sh _ _ 5)) (by omega)) rfl (fun _ _ _ _ => ⟨_, rfl⟩) (by omega) (zvp (by decide +kernel)) (by decide +kernel) d_X7_init_44 ?_
  refine z_nmE hF (fun M37 eM37 hF => ?_)
  refine z_iinc (zX_to hb cx) 1 1 [(1, .int ((9 : Int32) + 1)), (0, .ref (zad b0 t))] d_X7_init_45 0 rfl ki_1 (by decide) rfl ?_
  rw [show ((9 : Int32) + 1) = 10 from by decide]
  refine z_goto (zX_to hb cx) 26 d_X7_init_48 (by decide) ?_
  refine z_iload_n (zX_to hb cx) d_X7_init_26 0 rfl ?_
  refine z_bipush (v := 16) (zX_to hb cx) d_X7_init_27 kb_16 ?_
  refine z_icmp_ge (F1 := none) (F2 := some ()) (res := ()) (zX_to hb cx) 51 d_X7_init_29 (by decide) (by rw [if_neg (by decide)]) (fun h => by cases h) (fun _ => ?_)
  refine z_aload_n (zX_to hb cx) d_X7_init_32 1 rfl ?_
  refine z_getR0 (zX_to hb cx) ((zsh_old (by omega)).trans (hs 0 (by decide))) (by omega) fg_Stand_18 (t + 6) (by omega) d_X7_init_33 ?_
  refine z_iload_n (zX_to hb cx) d_X7_init_36 0 rfl ?_
  refine z_newObj (ci := 4) (cd := 45) (zX_to hb cx) (by omega) (Or.inl (by omega)) rfl tyX4 tyX4_ok uw_4 wd_177 wd_178 wd_104 (fs := [.null, .null, .null, .int 0, .int 0, .int 0, .null]) (by intro j hj; match j, hj with | 0, _ => rfl | 1, _ => rfl | 2, _ => rfl | 3, _ => rfl | 4, _ => rfl | 5, _ => rfl | 6, _ => rfl | k + 7, h => exact absurd h (by show ¬ (k + 7 < 7); omega)) rfl ⟨Nat.le_of_ble_eq_true rfl, Nat.le_of_ble_eq_true rfl⟩ d_X7_init_37 ?_
  refine z_nmE hF (fun M38 eM38 hF => ?_)
  refine z_dup (zX_to hb cx) d_X7_init_40 rfl ?_
  have hsc57 : ∀ j, j < 5 → shL_Stand.getD (57 + j) 0 = shL_Pans.getD j 0 := by decide +kernel
  obtain ⟨M39, hc, hF⟩ := zbv_inv hF
  have gM39 := f22_X4_init hc
  refine z_callCN (zX_to hb cx) (by omega) (Or.inl (by omega)) (c_X4_init l (by omega) (fun j hj => by
    have h9 := hs (57 + j) (by omega)
    rw [hsc57 j hj] at h9
    refine (zsh_old (by omega)).trans ?_
    exact (congrArg sh (by omega)).trans h9) hc) cn_Stand_11 rfl wd_180 ⟨rfl, rfl, Nat.le_of_ble_eq_true rfl, Nat.le_of_ble_eq_true rfl⟩ ⟨Nat.le_of_ble_eq_true rfl, Nat.le_of_ble_eq_true rfl⟩ (Nat.le_of_ble_eq_true rfl) d_X7_init_41 ?_
  refine z_aastG (kd := 2) (len := 16) (cg := 52) (cv := 5) (ci := 4) (j := 10) (r := (RX4, TX4, 7)) (zX_to hb cx) rfl (zT_self (by show _ + 1 ≤ _; omega) (by omega)) (fun _ _ _ _ => rfl) (zT_sh ((⟨(hs 57 (by decide)), by omega, by show _ + 5 ≤ _; omega⟩ : zT sh _ _ 5)) (by omega)) rfl (fun _ _ _ _ => ⟨_, rfl⟩) (by omega) (zvp (by decide +kernel)) (by decide +kernel) d_X7_init_44 ?_
  refine z_nmE hF (fun M40 eM40 hF => ?_)
  refine z_iinc (zX_to hb cx) 1 1 [(1, .int ((10 : Int32) + 1)), (0, .ref (zad b0 t))] d_X7_init_45 0 rfl ki_1 (by decide) rfl ?_
  rw [show ((10 : Int32) + 1) = 11 from by decide]
  refine z_goto (zX_to hb cx) 26 d_X7_init_48 (by decide) ?_
  refine z_iload_n (zX_to hb cx) d_X7_init_26 0 rfl ?_
  refine z_bipush (v := 16) (zX_to hb cx) d_X7_init_27 kb_16 ?_
  refine z_icmp_ge (F1 := none) (F2 := some ()) (res := ()) (zX_to hb cx) 51 d_X7_init_29 (by decide) (by rw [if_neg (by decide)]) (fun h => by cases h) (fun _ => ?_)
  refine z_aload_n (zX_to hb cx) d_X7_init_32 1 rfl ?_
  refine z_getR0 (zX_to hb cx) ((zsh_old (by omega)).trans (hs 0 (by decide))) (by omega) fg_Stand_18 (t + 6) (by omega) d_X7_init_33 ?_
  refine z_iload_n (zX_to hb cx) d_X7_init_36 0 rfl ?_
  refine z_newObj (ci := 4) (cd := 45) (zX_to hb cx) (by omega) (Or.inl (by omega)) rfl tyX4 tyX4_ok uw_4 wd_177 wd_178 wd_104 (fs := [.null, .null, .null, .int 0, .int 0, .int 0, .null]) (by intro j hj; match j, hj with | 0, _ => rfl | 1, _ => rfl | 2, _ => rfl | 3, _ => rfl | 4, _ => rfl | 5, _ => rfl | 6, _ => rfl | k + 7, h => exact absurd h (by show ¬ (k + 7 < 7); omega)) rfl ⟨Nat.le_of_ble_eq_true rfl, Nat.le_of_ble_eq_true rfl⟩ d_X7_init_37 ?_
  refine z_nmE hF (fun M41 eM41 hF => ?_)
  refine z_dup (zX_to hb cx) d_X7_init_40 rfl ?_
  have hsc62 : ∀ j, j < 5 → shL_Stand.getD (62 + j) 0 = shL_Pans.getD j 0 := by decide +kernel
  obtain ⟨M42, hc, hF⟩ := zbv_inv hF
  have gM42 := f22_X4_init hc
  refine z_callCN (zX_to hb cx) (by omega) (Or.inl (by omega)) (c_X4_init l (by omega) (fun j hj => by
    have h9 := hs (62 + j) (by omega)
    rw [hsc62 j hj] at h9
    refine (zsh_old (by omega)).trans ?_
    exact (congrArg sh (by omega)).trans h9) hc) cn_Stand_11 rfl wd_180 ⟨rfl, rfl, Nat.le_of_ble_eq_true rfl, Nat.le_of_ble_eq_true rfl⟩ ⟨Nat.le_of_ble_eq_true rfl, Nat.le_of_ble_eq_true rfl⟩ (Nat.le_of_ble_eq_true rfl) d_X7_init_41 ?_
  refine z_aastG (kd := 2) (len := 16) (cg := 52) (cv := 5) (ci := 4) (j := 11) (r := (RX4, TX4, 7)) (zX_to hb cx) rfl (zT_self (by show _ + 1 ≤ _; omega) (by omega)) (fun _ _ _ _ => rfl) (zT_sh ((⟨(hs 62 (by decide)), by omega, by show _ + 5 ≤ _; omega⟩ : zT sh _ _ 5)) (by omega)) rfl (fun _ _ _ _ => ⟨_, rfl⟩) (by omega) (zvp (by decide +kernel)) (by decide +kernel) d_X7_init_44 ?_
  refine z_nmE hF (fun M43 eM43 hF => ?_)
  refine z_iinc (zX_to hb cx) 1 1 [(1, .int ((11 : Int32) + 1)), (0, .ref (zad b0 t))] d_X7_init_45 0 rfl ki_1 (by decide) rfl ?_
  rw [show ((11 : Int32) + 1) = 12 from by decide]
  refine z_goto (zX_to hb cx) 26 d_X7_init_48 (by decide) ?_
  refine z_iload_n (zX_to hb cx) d_X7_init_26 0 rfl ?_
  refine z_bipush (v := 16) (zX_to hb cx) d_X7_init_27 kb_16 ?_
  refine z_icmp_ge (F1 := none) (F2 := some ()) (res := ()) (zX_to hb cx) 51 d_X7_init_29 (by decide) (by rw [if_neg (by decide)]) (fun h => by cases h) (fun _ => ?_)
  refine z_aload_n (zX_to hb cx) d_X7_init_32 1 rfl ?_
  refine z_getR0 (zX_to hb cx) ((zsh_old (by omega)).trans (hs 0 (by decide))) (by omega) fg_Stand_18 (t + 6) (by omega) d_X7_init_33 ?_
  refine z_iload_n (zX_to hb cx) d_X7_init_36 0 rfl ?_
  refine z_newObj (ci := 4) (cd := 45) (zX_to hb cx) (by omega) (Or.inl (by omega)) rfl tyX4 tyX4_ok uw_4 wd_177 wd_178 wd_104 (fs := [.null, .null, .null, .int 0, .int 0, .int 0, .null]) (by intro j hj; match j, hj with | 0, _ => rfl | 1, _ => rfl | 2, _ => rfl | 3, _ => rfl | 4, _ => rfl | 5, _ => rfl | 6, _ => rfl | k + 7, h => exact absurd h (by show ¬ (k + 7 < 7); omega)) rfl ⟨Nat.le_of_ble_eq_true rfl, Nat.le_of_ble_eq_true rfl⟩ d_X7_init_37 ?_
  refine z_nmE hF (fun M44 eM44 hF => ?_)
  refine z_dup (zX_to hb cx) d_X7_init_40 rfl ?_
  have hsc67 : ∀ j, j < 5 → shL_Stand.getD (67 + j) 0 = shL_Pans.getD j 0 := by decide +kernel
  obtain ⟨M45, hc, hF⟩ := zbv_inv hF
  have gM45 := f22_X4_init hc
  refine z_callCN (zX_to hb cx) (by omega) (Or.inl (by omega)) (c_X4_init l (by omega) (fun j hj => by
    have h9 := hs (67 + j) (by omega)
    rw [hsc67 j hj] at h9
    refine (zsh_old (by omega)).trans ?_
    exact (congrArg sh (by omega)).trans h9) hc) cn_Stand_11 rfl wd_180 ⟨rfl, rfl, Nat.le_of_ble_eq_true rfl, Nat.le_of_ble_eq_true rfl⟩ ⟨Nat.le_of_ble_eq_true rfl, Nat.le_of_ble_eq_true rfl⟩ (Nat.le_of_ble_eq_true rfl) d_X7_init_41 ?_
  refine z_aastG (kd := 2) (len := 16) (cg := 52) (cv := 5) (ci := 4) (j := 12) (r := (RX4, TX4, 7)) (zX_to hb cx) rfl (zT_self (by show _ + 1 ≤ _; omega) (by omega)) (fun _ _ _ _ => rfl) (zT_sh ((⟨(hs 67 (by decide)), by omega, by show _ + 5 ≤ _; omega⟩ : zT sh _ _ 5)) (by omega)) rfl (fun _ _ _ _ => ⟨_, rfl⟩) (by omega) (zvp (by decide +kernel)) (by decide +kernel) d_X7_init_44 ?_
  refine z_nmE hF (fun M46 eM46 hF => ?_)
  refine z_iinc (zX_to hb cx) 1 1 [(1, .int ((12 : Int32) + 1)), (0, .ref (zad b0 t))] d_X7_init_45 0 rfl ki_1 (by decide) rfl ?_
  rw [show ((12 : Int32) + 1) = 13 from by decide]
  refine z_goto (zX_to hb cx) 26 d_X7_init_48 (by decide) ?_
  refine z_iload_n (zX_to hb cx) d_X7_init_26 0 rfl ?_
  refine z_bipush (v := 16) (zX_to hb cx) d_X7_init_27 kb_16 ?_
  refine z_icmp_ge (F1 := none) (F2 := some ()) (res := ()) (zX_to hb cx) 51 d_X7_init_29 (by decide) (by rw [if_neg (by decide)]) (fun h => by cases h) (fun _ => ?_)
  refine z_aload_n (zX_to hb cx) d_X7_init_32 1 rfl ?_
  refine z_getR0 (zX_to hb cx) ((zsh_old (by omega)).trans (hs 0 (by decide))) (by omega) fg_Stand_18 (t + 6) (by omega) d_X7_init_33 ?_
  refine z_iload_n (zX_to hb cx) d_X7_init_36 0 rfl ?_
  refine z_newObj (ci := 4) (cd := 45) (zX_to hb cx) (by omega) (Or.inl (by omega)) rfl tyX4 tyX4_ok uw_4 wd_177 wd_178 wd_104 (fs := [.null, .null, .null, .int 0, .int 0, .int 0, .null]) (by intro j hj; match j, hj with | 0, _ => rfl | 1, _ => rfl | 2, _ => rfl | 3, _ => rfl | 4, _ => rfl | 5, _ => rfl | 6, _ => rfl | k + 7, h => exact absurd h (by show ¬ (k + 7 < 7); omega)) rfl ⟨Nat.le_of_ble_eq_true rfl, Nat.le_of_ble_eq_true rfl⟩ d_X7_init_37 ?_
  refine z_nmE hF (fun M47 eM47 hF => ?_)
  refine z_dup (zX_to hb cx) d_X7_init_40 rfl ?_
  have hsc72 : ∀ j, j < 5 → shL_Stand.getD (72 + j) 0 = shL_Pans.getD j 0 := by decide +kernel
  obtain ⟨M48, hc, hF⟩ := zbv_inv hF
  have gM48 := f22_X4_init hc
  refine z_callCN (zX_to hb cx) (by omega) (Or.inl (by omega)) (c_X4_init l (by omega) (fun j hj => by
    have h9 := hs (72 + j) (by omega)
    rw [hsc72 j hj] at h9
    refine (zsh_old (by omega)).trans ?_
    exact (congrArg sh (by omega)).trans h9) hc) cn_Stand_11 rfl wd_180 ⟨rfl, rfl, Nat.le_of_ble_eq_true rfl, Nat.le_of_ble_eq_true rfl⟩ ⟨Nat.le_of_ble_eq_true rfl, Nat.le_of_ble_eq_true rfl⟩ (Nat.le_of_ble_eq_true rfl) d_X7_init_41 ?_
  refine z_aastG (kd := 2) (len := 16) (cg := 52) (cv := 5) (ci := 4) (j := 13) (r := (RX4, TX4, 7)) (zX_to hb cx) rfl (zT_self (by show _ + 1 ≤ _; omega) (by omega)) (fun _ _ _ _ => rfl) (zT_sh ((⟨(hs 72 (by decide)), by omega, by show _ + 5 ≤ _; omega⟩ : zT sh _ _ 5)) (by omega)) rfl (fun _ _ _ _ => ⟨_, rfl⟩) (by omega) (zvp (by decide +kernel)) (by decide +kernel) d_X7_init_44 ?_
  refine z_nmE hF (fun M49 eM49 hF => ?_)
  refine z_iinc (zX_to hb cx) 1 1 [(1, .int ((13 : Int32) + 1)), (0, .ref (zad b0 t))] d_X7_init_45 0 rfl ki_1 (by decide) rfl ?_
  rw [show ((13 : Int32) + 1) = 14 from by decide]
  refine z_goto (zX_to hb cx) 26 d_X7_init_48 (by decide) ?_
  refine z_iload_n (zX_to hb cx) d_X7_init_26 0 rfl ?_
  refine z_bipush (v := 16) (zX_to hb cx) d_X7_init_27 kb_16 ?_
  refine z_icmp_ge (F1 := none) (F2 := some ()) (res := ()) (zX_to hb cx) 51 d_X7_init_29 (by decide) (by rw [if_neg (by decide)]) (fun h => by cases h) (fun _ => ?_)
  refine z_aload_n (zX_to hb cx) d_X7_init_32 1 rfl ?_
  refine z_getR0 (zX_to hb cx) ((zsh_old (by omega)).trans (hs 0 (by decide))) (by omega) fg_Stand_18 (t + 6) (by omega) d_X7_init_33 ?_
  refine z_iload_n (zX_to hb cx) d_X7_init_36 0 rfl ?_
  refine z_newObj (ci := 4) (cd := 45) (zX_to hb cx) (by omega) (Or.inl (by omega)) rfl tyX4 tyX4_ok uw_4 wd_177 wd_178 wd_104 (fs := [.null, .null, .null, .int 0, .int 0, .int 0, .null]) (by intro j hj; match j, hj with | 0, _ => rfl | 1, _ => rfl | 2, _ => rfl | 3, _ => rfl | 4, _ => rfl | 5, _ => rfl | 6, _ => rfl | k + 7, h => exact absurd h (by show ¬ (k + 7 < 7); omega)) rfl ⟨Nat.le_of_ble_eq_true rfl, Nat.le_of_ble_eq_true rfl⟩ d_X7_init_37 ?_
  refine z_nmE hF (fun M50 eM50 hF => ?_)
  refine z_dup (zX_to hb cx) d_X7_init_40 rfl ?_
  have hsc77 : ∀ j, j < 5 → shL_Stand.getD (77 + j) 0 = shL_Pans.getD j 0 := by decide +kernel
  obtain ⟨M51, hc, hF⟩ := zbv_inv hF
  have gM51 := f22_X4_init hc
  refine z_callCN (zX_to hb cx) (by omega) (Or.inl (by omega)) (c_X4_init l (by omega) (fun j hj => by
    have h9 := hs (77 + j) (by omega)
    rw [hsc77 j hj] at h9
    refine (zsh_old (by omega)).trans ?_
    exact (congrArg sh (by omega)).trans h9) hc) cn_Stand_11 rfl wd_180 ⟨rfl, rfl, Nat.le_of_ble_eq_true rfl, Nat.le_of_ble_eq_true rfl⟩ ⟨Nat.le_of_ble_eq_true rfl, Nat.le_of_ble_eq_true rfl⟩ (Nat.le_of_ble_eq_true rfl) d_X7_init_41 ?_
  refine z_aastG (kd := 2) (len := 16) (cg := 52) (cv := 5) (ci := 4) (j := 14) (r := (RX4, TX4, 7)) (zX_to hb cx) rfl (zT_self (by show _ + 1 ≤ _; omega) (by omega)) (fun _ _ _ _ => rfl) (zT_sh ((⟨(hs 77 (by decide)), by omega, by show _ + 5 ≤ _; omega⟩ : zT sh _ _ 5)) (by omega)) rfl (fun _ _ _ _ => ⟨_, rfl⟩) (by omega) (zvp (by decide +kernel)) (by decide +kernel) d_X7_init_44 ?_
  refine z_nmE hF (fun M52 eM52 hF => ?_)
  refine z_iinc (zX_to hb cx) 1 1 [(1, .int ((14 : Int32) + 1)), (0, .ref (zad b0 t))] d_X7_init_45 0 rfl ki_1 (by decide) rfl ?_
  rw [show ((14 : Int32) + 1) = 15 from by decide]
  refine z_goto (zX_to hb cx) 26 d_X7_init_48 (by decide) ?_
  refine z_iload_n (zX_to hb cx) d_X7_init_26 0 rfl ?_
  refine z_bipush (v := 16) (zX_to hb cx) d_X7_init_27 kb_16 ?_
  refine z_icmp_ge (F1 := none) (F2 := some ()) (res := ()) (zX_to hb cx) 51 d_X7_init_29 (by decide) (by rw [if_neg (by decide)]) (fun h => by cases h) (fun _ => ?_)
  refine z_aload_n (zX_to hb cx) d_X7_init_32 1 rfl ?_
  refine z_getR0 (zX_to hb cx) ((zsh_old (by omega)).trans (hs 0 (by decide))) (by omega) fg_Stand_18 (t + 6) (by omega) d_X7_init_33 ?_
  refine z_iload_n (zX_to hb cx) d_X7_init_36 0 rfl ?_
  refine z_newObj (ci := 4) (cd := 45) (zX_to hb cx) (by omega) (Or.inl (by omega)) rfl tyX4 tyX4_ok uw_4 wd_177 wd_178 wd_104 (fs := [.null, .null, .null, .int 0, .int 0, .int 0, .null]) (by intro j hj; match j, hj with | 0, _ => rfl | 1, _ => rfl | 2, _ => rfl | 3, _ => rfl | 4, _ => rfl | 5, _ => rfl | 6, _ => rfl | k + 7, h => exact absurd h (by show ¬ (k + 7 < 7); omega)) rfl ⟨Nat.le_of_ble_eq_true rfl, Nat.le_of_ble_eq_true rfl⟩ d_X7_init_37 ?_
  refine z_nmE hF (fun M53 eM53 hF => ?_)
  refine z_dup (zX_to hb cx) d_X7_init_40 rfl ?_
  have hsc82 : ∀ j, j < 5 → shL_Stand.getD (82 + j) 0 = shL_Pans.getD j 0 := by decide +kernel
  obtain ⟨M54, hc, hF⟩ := zbv_inv hF
  have gM54 := f22_X4_init hc
  refine z_callCN (zX_to hb cx) (by omega) (Or.inl (by omega)) (c_X4_init l (by omega) (fun j hj => by
    have h9 := hs (82 + j) (by omega)
    rw [hsc82 j hj] at h9
    refine (zsh_old (by omega)).trans ?_
    exact (congrArg sh (by omega)).trans h9) hc) cn_Stand_11 rfl wd_180 ⟨rfl, rfl, Nat.le_of_ble_eq_true rfl, Nat.le_of_ble_eq_true rfl⟩ ⟨Nat.le_of_ble_eq_true rfl, Nat.le_of_ble_eq_true rfl⟩ (Nat.le_of_ble_eq_true rfl) d_X7_init_41 ?_
  refine z_aastG (kd := 2) (len := 16) (cg := 52) (cv := 5) (ci := 4) (j := 15) (r := (RX4, TX4, 7)) (zX_to hb cx) rfl (zT_self (by show _ + 1 ≤ _; omega) (by omega)) (fun _ _ _ _ => rfl) (zT_sh ((⟨(hs 82 (by decide)), by omega, by show _ + 5 ≤ _; omega⟩ : zT sh _ _ 5)) (by omega)) rfl (fun _ _ _ _ => ⟨_, rfl⟩) (by omega) (zvp (by decide +kernel)) (by decide +kernel) d_X7_init_44 ?_
  refine z_nmE hF (fun M55 eM55 hF => ?_)
  have f56 : M55.2.2 (t + 6) 0 = (t + 7) := by
    rw [eM55, zR22j (j := 15) (i := 0) (by decide)]
    rw [gM54 (t + 6) (by omega)]
    rw [eM53, zNew22 (n := (t + 82)) (k := 1) (a := (t + 6)) (by omega)]
    rw [eM52, zR22j (j := 14) (i := 0) (by decide)]
    rw [gM51 (t + 6) (by omega)]
    rw [eM50, zNew22 (n := (t + 77)) (k := 1) (a := (t + 6)) (by omega)]
    rw [eM49, zR22j (j := 13) (i := 0) (by decide)]
    rw [gM48 (t + 6) (by omega)]
    rw [eM47, zNew22 (n := (t + 72)) (k := 1) (a := (t + 6)) (by omega)]
    rw [eM46, zR22j (j := 12) (i := 0) (by decide)]
    rw [gM45 (t + 6) (by omega)]
    rw [eM44, zNew22 (n := (t + 67)) (k := 1) (a := (t + 6)) (by omega)]
    rw [eM43, zR22j (j := 11) (i := 0) (by decide)]
    rw [gM42 (t + 6) (by omega)]
    rw [eM41, zNew22 (n := (t + 62)) (k := 1) (a := (t + 6)) (by omega)]
    rw [eM40, zR22j (j := 10) (i := 0) (by decide)]
    rw [gM39 (t + 6) (by omega)]
    rw [eM38, zNew22 (n := (t + 57)) (k := 1) (a := (t + 6)) (by omega)]
    rw [eM37, zR22j (j := 9) (i := 0) (by decide)]
    rw [gM36 (t + 6) (by omega)]
    rw [eM35, zNew22 (n := (t + 52)) (k := 1) (a := (t + 6)) (by omega)]
    rw [eM34, zR22j (j := 8) (i := 0) (by decide)]
    rw [gM33 (t + 6) (by omega)]
    rw [eM32, zNew22 (n := (t + 47)) (k := 1) (a := (t + 6)) (by omega)]
    rw [eM31, zR22j (j := 7) (i := 0) (by decide)]
    rw [gM30 (t + 6) (by omega)]
    rw [eM29, zNew22 (n := (t + 42)) (k := 1) (a := (t + 6)) (by omega)]
    rw [eM28, zR22j (j := 6) (i := 0) (by decide)]
    rw [gM27 (t + 6) (by omega)]
    rw [eM26, zNew22 (n := (t + 37)) (k := 1) (a := (t + 6)) (by omega)]
    rw [eM25, zR22j (j := 5) (i := 0) (by decide)]
    rw [gM24 (t + 6) (by omega)]
    rw [eM23, zNew22 (n := (t + 32)) (k := 1) (a := (t + 6)) (by omega)]
    rw [eM22, zR22j (j := 4) (i := 0) (by decide)]
    rw [gM21 (t + 6) (by omega)]
    rw [eM20, zNew22 (n := (t + 27)) (k := 1) (a := (t + 6)) (by omega)]
    rw [eM19, zR22j (j := 3) (i := 0) (by decide)]
    rw [gM18 (t + 6) (by omega)]
    rw [eM17, zNew22 (n := (t + 22)) (k := 1) (a := (t + 6)) (by omega)]
    rw [eM16, zR22j (j := 2) (i := 0) (by decide)]
    rw [gM15 (t + 6) (by omega)]
    rw [eM14, zNew22 (n := (t + 17)) (k := 1) (a := (t + 6)) (by omega)]
    rw [eM13, zR22j (j := 1) (i := 0) (by decide)]
    rw [gM12 (t + 6) (by omega)]
    rw [eM11, zNew22 (n := (t + 12)) (k := 1) (a := (t + 6)) (by omega)]
    rw [eM10, zR22e]
  have f57 : M55.2.2 (t + 6) 1 = (t + 12) := by
    rw [eM55, zR22j (j := 15) (i := 1) (by decide)]
    rw [gM54 (t + 6) (by omega)]
    rw [eM53, zNew22 (n := (t + 82)) (k := 1) (a := (t + 6)) (by omega)]
    rw [eM52, zR22j (j := 14) (i := 1) (by decide)]
    rw [gM51 (t + 6) (by omega)]
    rw [eM50, zNew22 (n := (t + 77)) (k := 1) (a := (t + 6)) (by omega)]
    rw [eM49, zR22j (j := 13) (i := 1) (by decide)]
    rw [gM48 (t + 6) (by omega)]
    rw [eM47, zNew22 (n := (t + 72)) (k := 1) (a := (t + 6)) (by omega)]
    rw [eM46, zR22j (j := 12) (i := 1) (by decide)]
    rw [gM45 (t + 6) (by omega)]
    rw [eM44, zNew22 (n := (t + 67)) (k := 1) (a := (t + 6)) (by omega)]
    rw [eM43, zR22j (j := 11) (i := 1) (by decide)]
    rw [gM42 (t + 6) (by omega)]
    rw [eM41, zNew22 (n := (t + 62)) (k := 1) (a := (t + 6)) (by omega)]
    rw [eM40, zR22j (j := 10) (i := 1) (by decide)]
    rw [gM39 (t + 6) (by omega)]
    rw [eM38, zNew22 (n := (t + 57)) (k := 1) (a := (t + 6)) (by omega)]
    rw [eM37, zR22j (j := 9) (i := 1) (by decide)]
    rw [gM36 (t + 6) (by omega)]
    rw [eM35, zNew22 (n := (t + 52)) (k := 1) (a := (t + 6)) (by omega)]
    rw [eM34, zR22j (j := 8) (i := 1) (by decide)]
    rw [gM33 (t + 6) (by omega)]
    rw [eM32, zNew22 (n := (t + 47)) (k := 1) (a := (t + 6)) (by omega)]
    rw [eM31, zR22j (j := 7) (i := 1) (by decide)]
    rw [gM30 (t + 6) (by omega)]
    rw [eM29, zNew22 (n := (t + 42)) (k := 1) (a := (t + 6)) (by omega)]
    rw [eM28, zR22j (j := 6) (i := 1) (by decide)]
    rw [gM27 (t + 6) (by omega)]
    rw [eM26, zNew22 (n := (t + 37)) (k := 1) (a := (t + 6)) (by omega)]
    rw [eM25, zR22j (j := 5) (i := 1) (by decide)]
    rw [gM24 (t + 6) (by omega)]
    rw [eM23, zNew22 (n := (t + 32)) (k := 1) (a := (t + 6)) (by omega)]
    rw [eM22, zR22j (j := 4) (i := 1) (by decide)]
    rw [gM21 (t + 6) (by omega)]
    rw [eM20, zNew22 (n := (t + 27)) (k := 1) (a := (t + 6)) (by omega)]
    rw [eM19, zR22j (j := 3) (i := 1) (by decide)]
    rw [gM18 (t + 6) (by omega)]
    rw [eM17, zNew22 (n := (t + 22)) (k := 1) (a := (t + 6)) (by omega)]
    rw [eM16, zR22j (j := 2) (i := 1) (by decide)]
    rw [gM15 (t + 6) (by omega)]
    rw [eM14, zNew22 (n := (t + 17)) (k := 1) (a := (t + 6)) (by omega)]
    rw [eM13, zR22e]
  have f58 : M55.2.2 (t + 6) 2 = (t + 17) := by
    rw [eM55, zR22j (j := 15) (i := 2) (by decide)]
    rw [gM54 (t + 6) (by omega)]
    rw [eM53, zNew22 (n := (t + 82)) (k := 1) (a := (t + 6)) (by omega)]
    rw [eM52, zR22j (j := 14) (i := 2) (by decide)]
    rw [gM51 (t + 6) (by omega)]
    rw [eM50, zNew22 (n := (t + 77)) (k := 1) (a := (t + 6)) (by omega)]
    rw [eM49, zR22j (j := 13) (i := 2) (by decide)]
    rw [gM48 (t + 6) (by omega)]
    rw [eM47, zNew22 (n := (t + 72)) (k := 1) (a := (t + 6)) (by omega)]
    rw [eM46, zR22j (j := 12) (i := 2) (by decide)]
    rw [gM45 (t + 6) (by omega)]
    rw [eM44, zNew22 (n := (t + 67)) (k := 1) (a := (t + 6)) (by omega)]
    rw [eM43, zR22j (j := 11) (i := 2) (by decide)]
    rw [gM42 (t + 6) (by omega)]
    rw [eM41, zNew22 (n := (t + 62)) (k := 1) (a := (t + 6)) (by omega)]
    rw [eM40, zR22j (j := 10) (i := 2) (by decide)]
    rw [gM39 (t + 6) (by omega)]
    rw [eM38, zNew22 (n := (t + 57)) (k := 1) (a := (t + 6)) (by omega)]
    rw [eM37, zR22j (j := 9) (i := 2) (by decide)]
    rw [gM36 (t + 6) (by omega)]
    rw [eM35, zNew22 (n := (t + 52)) (k := 1) (a := (t + 6)) (by omega)]
    rw [eM34, zR22j (j := 8) (i := 2) (by decide)]
    rw [gM33 (t + 6) (by omega)]
    rw [eM32, zNew22 (n := (t + 47)) (k := 1) (a := (t + 6)) (by omega)]
    rw [eM31, zR22j (j := 7) (i := 2) (by decide)]
    rw [gM30 (t + 6) (by omega)]
    rw [eM29, zNew22 (n := (t + 42)) (k := 1) (a := (t + 6)) (by omega)]
    rw [eM28, zR22j (j := 6) (i := 2) (by decide)]
    rw [gM27 (t + 6) (by omega)]
    rw [eM26, zNew22 (n := (t + 37)) (k := 1) (a := (t + 6)) (by omega)]
    rw [eM25, zR22j (j := 5) (i := 2) (by decide)]
    rw [gM24 (t + 6) (by omega)]
    rw [eM23, zNew22 (n := (t + 32)) (k := 1) (a := (t + 6)) (by omega)]
    rw [eM22, zR22j (j := 4) (i := 2) (by decide)]
    rw [gM21 (t + 6) (by omega)]
    rw [eM20, zNew22 (n := (t + 27)) (k := 1) (a := (t + 6)) (by omega)]
    rw [eM19, zR22j (j := 3) (i := 2) (by decide)]
    rw [gM18 (t + 6) (by omega)]
    rw [eM17, zNew22 (n := (t + 22)) (k := 1) (a := (t + 6)) (by omega)]
    rw [eM16, zR22e]
  have f59 : M55.2.2 (t + 6) 3 = (t + 22) := by
    rw [eM55, zR22j (j := 15) (i := 3) (by decide)]
    rw [gM54 (t + 6) (by omega)]
    rw [eM53, zNew22 (n := (t + 82)) (k := 1) (a := (t + 6)) (by omega)]
    rw [eM52, zR22j (j := 14) (i := 3) (by decide)]
    rw [gM51 (t + 6) (by omega)]
    rw [eM50, zNew22 (n := (t + 77)) (k := 1) (a := (t + 6)) (by omega)]
    rw [eM49, zR22j (j := 13) (i := 3) (by decide)]
    rw [gM48 (t + 6) (by omega)]
    rw [eM47, zNew22 (n := (t + 72)) (k := 1) (a := (t + 6)) (by omega)]
    rw [eM46, zR22j (j := 12) (i := 3) (by decide)]
    rw [gM45 (t + 6) (by omega)]
    rw [eM44, zNew22 (n := (t + 67)) (k := 1) (a := (t + 6)) (by omega)]
    rw [eM43, zR22j (j := 11) (i := 3) (by decide)]
    rw [gM42 (t + 6) (by omega)]
    rw [eM41, zNew22 (n := (t + 62)) (k := 1) (a := (t + 6)) (by omega)]
    rw [eM40, zR22j (j := 10) (i := 3) (by decide)]
    rw [gM39 (t + 6) (by omega)]
    rw [eM38, zNew22 (n := (t + 57)) (k := 1) (a := (t + 6)) (by omega)]
    rw [eM37, zR22j (j := 9) (i := 3) (by decide)]
    rw [gM36 (t + 6) (by omega)]
    rw [eM35, zNew22 (n := (t + 52)) (k := 1) (a := (t + 6)) (by omega)]
    rw [eM34, zR22j (j := 8) (i := 3) (by decide)]
    rw [gM33 (t + 6) (by omega)]
    rw [eM32, zNew22 (n := (t + 47)) (k := 1) (a := (t + 6)) (by omega)]
    rw [eM31, zR22j (j := 7) (i := 3) (by decide)]
    rw [gM30 (t + 6) (by omega)]
    rw [eM29, zNew22 (n := (t + 42)) (k := 1) (a := (t + 6)) (by omega)]
    rw [eM28, zR22j (j := 6) (i := 3) (by decide)]
    rw [gM27 (t + 6) (by omega)]
    rw [eM26, zNew22 (n := (t + 37)) (k := 1) (a := (t + 6)) (by omega)]
    rw [eM25, zR22j (j := 5) (i := 3) (by decide)]
    rw [gM24 (t + 6) (by omega)]
    rw [eM23, zNew22 (n := (t + 32)) (k := 1) (a := (t + 6)) (by omega)]
    rw [eM22, zR22j (j := 4) (i := 3) (by decide)]
    rw [gM21 (t + 6) (by omega)]
    rw [eM20, zNew22 (n := (t + 27)) (k := 1) (a := (t + 6)) (by omega)]
    rw [eM19, zR22e]
  have f60 : M55.2.2 (t + 6) 4 = (t + 27) := by
    rw [eM55, zR22j (j := 15) (i := 4) (by decide)]
    rw [gM54 (t + 6) (by omega)]
    rw [eM53, zNew22 (n := (t + 82)) (k := 1) (a := (t + 6)) (by omega)]
    rw [eM52, zR22j (j := 14) (i := 4) (by decide)]
    rw [gM51 (t + 6) (by omega)]
    rw [eM50, zNew22 (n := (t + 77)) (k := 1) (a := (t + 6)) (by omega)]
    rw [eM49, zR22j (j := 13) (i := 4) (by decide)]
    rw [gM48 (t + 6) (by omega)]
    rw [eM47, zNew22 (n := (t + 72)) (k := 1) (a := (t + 6)) (by omega)]
    rw [eM46, zR22j (j := 12) (i := 4) (by decide)]
    rw [gM45 (t + 6) (by omega)]
    rw [eM44, zNew22 (n := (t + 67)) (k := 1) (a := (t + 6)) (by omega)]
    rw [eM43, zR22j (j := 11) (i := 4) (by decide)]
    rw [gM42 (t + 6) (by omega)]
    rw [eM41, zNew22 (n := (t + 62)) (k := 1) (a := (t + 6)) (by omega)]
    rw [eM40, zR22j (j := 10) (i := 4) (by decide)]
    rw [gM39 (t + 6) (by omega)]
    rw [eM38, zNew22 (n := (t + 57)) (k := 1) (a := (t + 6)) (by omega)]
    rw [eM37, zR22j (j := 9) (i := 4) (by decide)]
    rw [gM36 (t + 6) (by omega)]
    rw [eM35, zNew22 (n := (t + 52)) (k := 1) (a := (t + 6)) (by omega)]
    rw [eM34, zR22j (j := 8) (i := 4) (by decide)]
    rw [gM33 (t + 6) (by omega)]
    rw [eM32, zNew22 (n := (t + 47)) (k := 1) (a := (t + 6)) (by omega)]
    rw [eM31, zR22j (j := 7) (i := 4) (by decide)]
    rw [gM30 (t + 6) (by omega)]
    rw [eM29, zNew22 (n := (t + 42)) (k := 1) (a := (t + 6)) (by omega)]
    rw [eM28, zR22j (j := 6) (i := 4) (by decide)]
    rw [gM27 (t + 6) (by omega)]
    rw [eM26, zNew22 (n := (t + 37)) (k := 1) (a := (t + 6)) (by omega)]
    rw [eM25, zR22j (j := 5) (i := 4) (by decide)]
    rw [gM24 (t + 6) (by omega)]
    rw [eM23, zNew22 (n := (t + 32)) (k := 1) (a := (t + 6)) (by omega)]
    rw [eM22, zR22e]
  have f61 : M55.2.2 (t + 6) 5 = (t + 32) := by
    rw [eM55, zR22j (j := 15) (i := 5) (by decide)]
    rw [gM54 (t + 6) (by omega)]
    rw [eM53, zNew22 (n := (t + 82)) (k := 1) (a := (t + 6)) (by omega)]
    rw [eM52, zR22j (j := 14) (i := 5) (by decide)]
    rw [gM51 (t + 6) (by omega)]
    rw [eM50, zNew22 (n := (t + 77)) (k := 1) (a := (t + 6)) (by omega)]
    rw [eM49, zR22j (j := 13) (i := 5) (by decide)]
    rw [gM48 (t + 6) (by omega)]
    rw [eM47, zNew22 (n := (t + 72)) (k := 1) (a := (t + 6)) (by omega)]
    rw [eM46, zR22j (j := 12) (i := 5) (by decide)]
    rw [gM45 (t + 6) (by omega)]
    rw [eM44, zNew22 (n := (t + 67)) (k := 1) (a := (t + 6)) (by omega)]
    rw [eM43, zR22j (j := 11) (i := 5) (by decide)]
    rw [gM42 (t + 6) (by omega)]
    rw [eM41, zNew22 (n := (t + 62)) (k := 1) (a := (t + 6)) (by omega)]
    rw [eM40, zR22j (j := 10) (i := 5) (by decide)]
    rw [gM39 (t + 6) (by omega)]
    rw [eM38, zNew22 (n := (t + 57)) (k := 1) (a := (t + 6)) (by omega)]
    rw [eM37, zR22j (j := 9) (i := 5) (by decide)]
    rw [gM36 (t + 6) (by omega)]
    rw [eM35, zNew22 (n := (t + 52)) (k := 1) (a := (t + 6)) (by omega)]
    rw [eM34, zR22j (j := 8) (i := 5) (by decide)]
    rw [gM33 (t + 6) (by omega)]
    rw [eM32, zNew22 (n := (t + 47)) (k := 1) (a := (t + 6)) (by omega)]
    rw [eM31, zR22j (j := 7) (i := 5) (by decide)]
    rw [gM30 (t + 6) (by omega)]
    rw [eM29, zNew22 (n := (t + 42)) (k := 1) (a := (t + 6)) (by omega)]
    rw [eM28, zR22j (j := 6) (i := 5) (by decide)]
    rw [gM27 (t + 6) (by omega)]
    rw [eM26, zNew22 (n := (t + 37)) (k := 1) (a := (t + 6)) (by omega)]
    rw [eM25, zR22e]
  have f62 : M55.2.2 (t + 6) 6 = (t + 37) := by
    rw [eM55, zR22j (j := 15) (i := 6) (by decide)]
    rw [gM54 (t + 6) (by omega)]
    rw [eM53, zNew22 (n := (t + 82)) (k := 1) (a := (t + 6)) (by omega)]
    rw [eM52, zR22j (j := 14) (i := 6) (by decide)]
    rw [gM51 (t + 6) (by omega)]
    rw [eM50, zNew22 (n := (t + 77)) (k := 1) (a := (t + 6)) (by omega)]
    rw [eM49, zR22j (j := 13) (i := 6) (by decide)]
    rw [gM48 (t + 6) (by omega)]
    rw [eM47, zNew22 (n := (t + 72)) (k := 1) (a := (t + 6)) (by omega)]
    rw [eM46, zR22j (j := 12) (i := 6) (by decide)]
    rw [gM45 (t + 6) (by omega)]
    rw [eM44, zNew22 (n := (t + 67)) (k := 1) (a := (t + 6)) (by omega)]
    rw [eM43, zR22j (j := 11) (i := 6) (by decide)]
    rw [gM42 (t + 6) (by omega)]
    rw [eM41, zNew22 (n := (t + 62)) (k := 1) (a := (t + 6)) (by omega)]
    rw [eM40, zR22j (j := 10) (i := 6) (by decide)]
    rw [gM39 (t + 6) (by omega)]
    rw [eM38, zNew22 (n := (t + 57)) (k := 1) (a := (t + 6)) (by omega)]
    rw [eM37, zR22j (j := 9) (i := 6) (by decide)]
    rw [gM36 (t + 6) (by omega)]
    rw [eM35, zNew22 (n := (t + 52)) (k := 1) (a := (t + 6)) (by omega)]
    rw [eM34, zR22j (j := 8) (i := 6) (by decide)]
    rw [gM33 (t + 6) (by omega)]
    rw [eM32, zNew22 (n := (t + 47)) (k := 1) (a := (t + 6)) (by omega)]
    rw [eM31, zR22j (j := 7) (i := 6) (by decide)]
    rw [gM30 (t + 6) (by omega)]
    rw [eM29, zNew22 (n := (t + 42)) (k := 1) (a := (t + 6)) (by omega)]
    rw [eM28, zR22e]
  have f63 : M55.2.2 (t + 6) 7 = (t + 42) := by
    rw [eM55, zR22j (j := 15) (i := 7) (by decide)]
    rw [gM54 (t + 6) (by omega)]
    rw [eM53, zNew22 (n := (t + 82)) (k := 1) (a := (t + 6)) (by omega)]
    rw [eM52, zR22j (j := 14) (i := 7) (by decide)]
    rw [gM51 (t + 6) (by omega)]
    rw [eM50, zNew22 (n := (t + 77)) (k := 1) (a := (t + 6)) (by omega)]
    rw [eM49, zR22j (j := 13) (i := 7) (by decide)]
    rw [gM48 (t + 6) (by omega)]
    rw [eM47, zNew22 (n := (t + 72)) (k := 1) (a := (t + 6)) (by omega)]
    rw [eM46, zR22j (j := 12) (i := 7) (by decide)]
    rw [gM45 (t + 6) (by omega)]
    rw [eM44, zNew22 (n := (t + 67)) (k := 1) (a := (t + 6)) (by omega)]
    rw [eM43, zR22j (j := 11) (i := 7) (by decide)]
    rw [gM42 (t + 6) (by omega)]
    rw [eM41, zNew22 (n := (t + 62)) (k := 1) (a := (t + 6)) (by omega)]
    rw [eM40, zR22j (j := 10) (i := 7) (by decide)]
    rw [gM39 (t + 6) (by omega)]
    rw [eM38, zNew22 (n := (t + 57)) (k := 1) (a := (t + 6)) (by omega)]
    rw [eM37, zR22j (j := 9) (i := 7) (by decide)]
    rw [gM36 (t + 6) (by omega)]
    rw [eM35, zNew22 (n := (t + 52)) (k := 1) (a := (t + 6)) (by omega)]
    rw [eM34, zR22j (j := 8) (i := 7) (by decide)]
    rw [gM33 (t + 6) (by omega)]
    rw [eM32, zNew22 (n := (t + 47)) (k := 1) (a := (t + 6)) (by omega)]
    rw [eM31, zR22e]
  have f64 : M55.2.2 (t + 6) 8 = (t + 47) := by
    rw [eM55, zR22j (j := 15) (i := 8) (by decide)]
    rw [gM54 (t + 6) (by omega)]
    rw [eM53, zNew22 (n := (t + 82)) (k := 1) (a := (t + 6)) (by omega)]
    rw [eM52, zR22j (j := 14) (i := 8) (by decide)]
    rw [gM51 (t + 6) (by omega)]
    rw [eM50, zNew22 (n := (t + 77)) (k := 1) (a := (t + 6)) (by omega)]
    rw [eM49, zR22j (j := 13) (i := 8) (by decide)]
    rw [gM48 (t + 6) (by omega)]
    rw [eM47, zNew22 (n := (t + 72)) (k := 1) (a := (t + 6)) (by omega)]
    rw [eM46, zR22j (j := 12) (i := 8) (by decide)]
    rw [gM45 (t + 6) (by omega)]
    rw [eM44, zNew22 (n := (t + 67)) (k := 1) (a := (t + 6)) (by omega)]
    rw [eM43, zR22j (j := 11) (i := 8) (by decide)]
    rw [gM42 (t + 6) (by omega)]
    rw [eM41, zNew22 (n := (t + 62)) (k := 1) (a := (t + 6)) (by omega)]
    rw [eM40, zR22j (j := 10) (i := 8) (by decide)]
    rw [gM39 (t + 6) (by omega)]
    rw [eM38, zNew22 (n := (t + 57)) (k := 1) (a := (t + 6)) (by omega)]
    rw [eM37, zR22j (j := 9) (i := 8) (by decide)]
    rw [gM36 (t + 6) (by omega)]
    rw [eM35, zNew22 (n := (t + 52)) (k := 1) (a := (t + 6)) (by omega)]
    rw [eM34, zR22e]
  have f65 : M55.2.2 (t + 6) 9 = (t + 52) := by
    rw [eM55, zR22j (j := 15) (i := 9) (by decide)]
    rw [gM54 (t + 6) (by omega)]
    rw [eM53, zNew22 (n := (t + 82)) (k := 1) (a := (t + 6)) (by omega)]
    rw [eM52, zR22j (j := 14) (i := 9) (by decide)]
    rw [gM51 (t + 6) (by omega)]
    rw [eM50, zNew22 (n := (t + 77)) (k := 1) (a := (t + 6)) (by omega)]
    rw [eM49, zR22j (j := 13) (i := 9) (by decide)]
    rw [gM48 (t + 6) (by omega)]
    rw [eM47, zNew22 (n := (t + 72)) (k := 1) (a := (t + 6)) (by omega)]
    rw [eM46, zR22j (j := 12) (i := 9) (by decide)]
    rw [gM45 (t + 6) (by omega)]
    rw [eM44, zNew22 (n := (t + 67)) (k := 1) (a := (t + 6)) (by omega)]
    rw [eM43, zR22j (j := 11) (i := 9) (by decide)]
    rw [gM42 (t + 6) (by omega)]
    rw [eM41, zNew22 (n := (t + 62)) (k := 1) (a := (t + 6)) (by omega)]
    rw [eM40, zR22j (j := 10) (i := 9) (by decide)]
    rw [gM39 (t + 6) (by omega)]
    rw [eM38, zNew22 (n := (t + 57)) (k := 1) (a := (t + 6)) (by omega)]
    rw [eM37, zR22e]
  have f66 : M55.2.2 (t + 6) 10 = (t + 57) := by
    rw [eM55, zR22j (j := 15) (i := 10) (by decide)]
    rw [gM54 (t + 6) (by omega)]
    rw [eM53, zNew22 (n := (t + 82)) (k := 1) (a := (t + 6)) (by omega)]
    rw [eM52, zR22j (j := 14) (i := 10) (by decide)]
    rw [gM51 (t + 6) (by omega)]
    rw [eM50, zNew22 (n := (t + 77)) (k := 1) (a := (t + 6)) (by omega)]
    rw [eM49, zR22j (j := 13) (i := 10) (by decide)]
    rw [gM48 (t + 6) (by omega)]
    rw [eM47, zNew22 (n := (t + 72)) (k := 1) (a := (t + 6)) (by omega)]
    rw [eM46, zR22j (j := 12) (i := 10) (by decide)]
    rw [gM45 (t + 6) (by omega)]
    rw [eM44, zNew22 (n := (t + 67)) (k := 1) (a := (t + 6)) (by omega)]
    rw [eM43, zR22j (j := 11) (i := 10) (by decide)]
    rw [gM42 (t + 6) (by omega)]
    rw [eM41, zNew22 (n := (t + 62)) (k := 1) (a := (t + 6)) (by omega)]
    rw [eM40, zR22e]
  have f67 : M55.2.2 (t + 6) 11 = (t + 62) := by
    rw [eM55, zR22j (j := 15) (i := 11) (by decide)]
    rw [gM54 (t + 6) (by omega)]
    rw [eM53, zNew22 (n := (t + 82)) (k := 1) (a := (t + 6)) (by omega)]
    rw [eM52, zR22j (j := 14) (i := 11) (by decide)]
    rw [gM51 (t + 6) (by omega)]
    rw [eM50, zNew22 (n := (t + 77)) (k := 1) (a := (t + 6)) (by omega)]
    rw [eM49, zR22j (j := 13) (i := 11) (by decide)]
    rw [gM48 (t + 6) (by omega)]
    rw [eM47, zNew22 (n := (t + 72)) (k := 1) (a := (t + 6)) (by omega)]
    rw [eM46, zR22j (j := 12) (i := 11) (by decide)]
    rw [gM45 (t + 6) (by omega)]
    rw [eM44, zNew22 (n := (t + 67)) (k := 1) (a := (t + 6)) (by omega)]
    rw [eM43, zR22e]
  have f68 : M55.2.2 (t + 6) 12 = (t + 67) := by
    rw [eM55, zR22j (j := 15) (i := 12) (by decide)]
    rw [gM54 (t + 6) (by omega)]
    rw [eM53, zNew22 (n := (t + 82)) (k := 1) (a := (t + 6)) (by omega)]
    rw [eM52, zR22j (j := 14) (i := 12) (by decide)]
    rw [gM51 (t + 6) (by omega)]
    rw [eM50, zNew22 (n := (t + 77)) (k := 1) (a := (t + 6)) (by omega)]
    rw [eM49, zR22j (j := 13) (i := 12) (by decide)]
    rw [gM48 (t + 6) (by omega)]
    rw [eM47, zNew22 (n := (t + 72)) (k := 1) (a := (t + 6)) (by omega)]
    rw [eM46, zR22e]
  have f69 : M55.2.2 (t + 6) 13 = (t + 72) := by
    rw [eM55, zR22j (j := 15) (i := 13) (by decide)]
    rw [gM54 (t + 6) (by omega)]
    rw [eM53, zNew22 (n := (t + 82)) (k := 1) (a := (t + 6)) (by omega)]
    rw [eM52, zR22j (j := 14) (i := 13) (by decide)]
    rw [gM51 (t + 6) (by omega)]
    rw [eM50, zNew22 (n := (t + 77)) (k := 1) (a := (t + 6)) (by omega)]
    rw [eM49, zR22e]
  have f70 : M55.2.2 (t + 6) 14 = (t + 77) := by
    rw [eM55, zR22j (j := 15) (i := 14) (by decide)]
    rw [gM54 (t + 6) (by omega)]
    rw [eM53, zNew22 (n := (t + 82)) (k := 1) (a := (t + 6)) (by omega)]
    rw [eM52, zR22e]
  have f71 : M55.2.2 (t + 6) 15 = (t + 82) := by
    rw [eM55, zR22e]
  refine z_shape (zHP_seal (fun H h => ?_)) ?_
  · rw [show sh (t + 6) = 19 from (hs 6 (by decide))]
    refine Eq.trans h (congrArg some (zcellR ?_))
    refine zall_succ (n := 15) ?_ (by show zro (zad b0) (M55.2.2 (t + 6) 15) = _; rw [f71]; exact zro_eq (Nat.succ_ne_zero _) rfl)
    refine zall_succ (n := 14) ?_ (by show zro (zad b0) (M55.2.2 (t + 6) 14) = _; rw [f70]; exact zro_eq (Nat.succ_ne_zero _) rfl)
    refine zall_succ (n := 13) ?_ (by show zro (zad b0) (M55.2.2 (t + 6) 13) = _; rw [f69]; exact zro_eq (Nat.succ_ne_zero _) rfl)
    refine zall_succ (n := 12) ?_ (by show zro (zad b0) (M55.2.2 (t + 6) 12) = _; rw [f68]; exact zro_eq (Nat.succ_ne_zero _) rfl)
    refine zall_succ (n := 11) ?_ (by show zro (zad b0) (M55.2.2 (t + 6) 11) = _; rw [f67]; exact zro_eq (Nat.succ_ne_zero _) rfl)
    refine zall_succ (n := 10) ?_ (by show zro (zad b0) (M55.2.2 (t + 6) 10) = _; rw [f66]; exact zro_eq (Nat.succ_ne_zero _) rfl)
    refine zall_succ (n := 9) ?_ (by show zro (zad b0) (M55.2.2 (t + 6) 9) = _; rw [f65]; exact zro_eq (Nat.succ_ne_zero _) rfl)
    refine zall_succ (n := 8) ?_ (by show zro (zad b0) (M55.2.2 (t + 6) 8) = _; rw [f64]; exact zro_eq (Nat.succ_ne_zero _) rfl)
    refine zall_succ (n := 7) ?_ (by show zro (zad b0) (M55.2.2 (t + 6) 7) = _; rw [f63]; exact zro_eq (Nat.succ_ne_zero _) rfl)
    refine zall_succ (n := 6) ?_ (by show zro (zad b0) (M55.2.2 (t + 6) 6) = _; rw [f62]; exact zro_eq (Nat.succ_ne_zero _) rfl)
    refine zall_succ (n := 5) ?_ (by show zro (zad b0) (M55.2.2 (t + 6) 5) = _; rw [f61]; exact zro_eq (Nat.succ_ne_zero _) rfl)
    refine zall_succ (n := 4) ?_ (by show zro (zad b0) (M55.2.2 (t + 6) 4) = _; rw [f60]; exact zro_eq (Nat.succ_ne_zero _) rfl)
    refine zall_succ (n := 3) ?_ (by show zro (zad b0) (M55.2.2 (t + 6) 3) = _; rw [f59]; exact zro_eq (Nat.succ_ne_zero _) rfl)
    refine zall_succ (n := 2) ?_ (by show zro (zad b0) (M55.2.2 (t + 6) 2) = _; rw [f58]; exact zro_eq (Nat.succ_ne_zero _) rfl)
    refine zall_succ (n := 1) ?_ (by show zro (zad b0) (M55.2.2 (t + 6) 1) = _; rw [f57]; exact zro_eq (Nat.succ_ne_zero _) rfl)
    refine zall_succ (n := 0) ?_ (by show zro (zad b0) (M55.2.2 (t + 6) 0) = _; rw [f56]; exact zro_eq (Nat.succ_ne_zero _) rfl)
    exact fun j hj => absurd hj (Nat.not_lt_zero j)
  refine z_iinc (zX_to hb cx) 1 1 [(1, .int ((15 : Int32) + 1)), (0, .ref (zad b0 t))] d_X7_init_45 0 rfl ki_1 (by decide) rfl ?_
  rw [show ((15 : Int32) + 1) = 16 from by decide]
  refine z_goto (zX_to hb cx) 26 d_X7_init_48 (by decide) ?_
  refine z_iload_n (zX_to hb cx) d_X7_init_26 0 rfl ?_
  refine z_bipush (v := 16) (zX_to hb cx) d_X7_init_27 kb_16 ?_
  refine z_icmp_ge (F1 := some ()) (F2 := none) (res := ()) (zX_to hb cx) 51 d_X7_init_29 (by decide) (by rw [if_pos (by decide)]) (fun _ => ?_) (fun h => by cases h)
  cases hF
  exact z_vretC (zX_to hb cx) hr d_X7_init_51
theorem f22_X7_init {M M9 : zMem} {t : Nat} (hF : F_X7_init M t = some M9) : ∀ a, a < t → M9.2.2 a = M.2.2 a := by
  intro a ha
  unfold F_X7_init at hF
  obtain ⟨M1, eM1, hF⟩ := zl_inv hF
  obtain ⟨M2, hc, hF⟩ := zbv_inv hF
  have gM2 := f22_X4_init hc
  clear hc
  obtain ⟨M3, eM3, hF⟩ := zl_inv hF
  obtain ⟨M4, eM4, hF⟩ := zl_inv hF
  obtain ⟨M5, eM5, hF⟩ := zl_inv hF
  obtain ⟨M8, eM8, hF⟩ := zl_inv hF
  obtain ⟨M9, hc, hF⟩ := zbv_inv hF
  have gM9 := f22_X4_init hc
  clear hc
  obtain ⟨M10, eM10, hF⟩ := zl_inv hF
  obtain ⟨M11, eM11, hF⟩ := zl_inv hF
  obtain ⟨M12, hc, hF⟩ := zbv_inv hF
  have gM12 := f22_X4_init hc
  clear hc
  obtain ⟨M13, eM13, hF⟩ := zl_inv hF
  obtain ⟨M14, eM14, hF⟩ := zl_inv hF
  obtain ⟨M15, hc, hF⟩ := zbv_inv hF
  have gM15 := f22_X4_init hc
  clear hc
  obtain ⟨M16, eM16, hF⟩ := zl_inv hF
  obtain ⟨M17, eM17, hF⟩ := zl_inv hF
  obtain ⟨M18, hc, hF⟩ := zbv_inv hF
  have gM18 := f22_X4_init hc
  clear hc
  obtain ⟨M19, eM19, hF⟩ := zl_inv hF
  obtain ⟨M20, eM20, hF⟩ := zl_inv hF
  obtain ⟨M21, hc, hF⟩ := zbv_inv hF
  have gM21 := f22_X4_init hc
  clear hc
  obtain ⟨M22, eM22, hF⟩ := zl_inv hF
  obtain ⟨M23, eM23, hF⟩ := zl_inv hF
  obtain ⟨M24, hc, hF⟩ := zbv_inv hF
  have gM24 := f22_X4_init hc
  clear hc
  obtain ⟨M25, eM25, hF⟩ := zl_inv hF
  obtain ⟨M26, eM26, hF⟩ := zl_inv hF
  obtain ⟨M27, hc, hF⟩ := zbv_inv hF
  have gM27 := f22_X4_init hc
  clear hc
  obtain ⟨M28, eM28, hF⟩ := zl_inv hF
  obtain ⟨M29, eM29, hF⟩ := zl_inv hF
  obtain ⟨M30, hc, hF⟩ := zbv_inv hF
  have gM30 := f22_X4_init hc
  clear hc
  obtain ⟨M31, eM31, hF⟩ := zl_inv hF
  obtain ⟨M32, eM32, hF⟩ := zl_inv hF
  obtain ⟨M33, hc, hF⟩ := zbv_inv hF
  have gM33 := f22_X4_init hc
  clear hc
  obtain ⟨M34, eM34, hF⟩ := zl_inv hF
  obtain ⟨M35, eM35, hF⟩ := zl_inv hF
  obtain ⟨M36, hc, hF⟩ := zbv_inv hF
  have gM36 := f22_X4_init hc
  clear hc
  obtain ⟨M37, eM37, hF⟩ := zl_inv hF
  obtain ⟨M38, eM38, hF⟩ := zl_inv hF
  obtain ⟨M39, hc, hF⟩ := zbv_inv hF
  have gM39 := f22_X4_init hc
  clear hc
  obtain ⟨M40, eM40, hF⟩ := zl_inv hF
  obtain ⟨M41, eM41, hF⟩ := zl_inv hF
  obtain ⟨M42, hc, hF⟩ := zbv_inv hF
  have gM42 := f22_X4_init hc
  clear hc
  obtain ⟨M43, eM43, hF⟩ := zl_inv hF
  obtain ⟨M44, eM44, hF⟩ := zl_inv hF
  obtain ⟨M45, hc, hF⟩ := zbv_inv hF
  have gM45 := f22_X4_init hc
  clear hc
  obtain ⟨M46, eM46, hF⟩ := zl_inv hF
  obtain ⟨M47, eM47, hF⟩ := zl_inv hF
  obtain ⟨M48, hc, hF⟩ := zbv_inv hF
  have gM48 := f22_X4_init hc
  clear hc
  obtain ⟨M49, eM49, hF⟩ := zl_inv hF
  obtain ⟨M50, eM50, hF⟩ := zl_inv hF
  obtain ⟨M51, hc, hF⟩ := zbv_inv hF
  have gM51 := f22_X4_init hc
  clear hc
  obtain ⟨M52, eM52, hF⟩ := zl_inv hF
  obtain ⟨M53, eM53, hF⟩ := zl_inv hF
  obtain ⟨M54, hc, hF⟩ := zbv_inv hF
  have gM54 := f22_X4_init hc
  clear hc
  obtain ⟨M55, eM55, hF⟩ := zl_inv hF
  cases hF
  rw [eM55, zR22n (k := (t + 6)) (a := a) (by omega)]
  rw [gM54 a (by omega)]
  rw [eM53, zNew22 (n := (t + 82)) (k := 1) (a := a) (by omega)]
  rw [eM52, zR22n (k := (t + 6)) (a := a) (by omega)]
  rw [gM51 a (by omega)]
  rw [eM50, zNew22 (n := (t + 77)) (k := 1) (a := a) (by omega)]
  rw [eM49, zR22n (k := (t + 6)) (a := a) (by omega)]
  rw [gM48 a (by omega)]
  rw [eM47, zNew22 (n := (t + 72)) (k := 1) (a := a) (by omega)]
  rw [eM46, zR22n (k := (t + 6)) (a := a) (by omega)]
  rw [gM45 a (by omega)]
  rw [eM44, zNew22 (n := (t + 67)) (k := 1) (a := a) (by omega)]
  rw [eM43, zR22n (k := (t + 6)) (a := a) (by omega)]
  rw [gM42 a (by omega)]
  rw [eM41, zNew22 (n := (t + 62)) (k := 1) (a := a) (by omega)]
  rw [eM40, zR22n (k := (t + 6)) (a := a) (by omega)]
  rw [gM39 a (by omega)]
  rw [eM38, zNew22 (n := (t + 57)) (k := 1) (a := a) (by omega)]
  rw [eM37, zR22n (k := (t + 6)) (a := a) (by omega)]
  rw [gM36 a (by omega)]
  rw [eM35, zNew22 (n := (t + 52)) (k := 1) (a := a) (by omega)]
  rw [eM34, zR22n (k := (t + 6)) (a := a) (by omega)]
  rw [gM33 a (by omega)]
  rw [eM32, zNew22 (n := (t + 47)) (k := 1) (a := a) (by omega)]
  rw [eM31, zR22n (k := (t + 6)) (a := a) (by omega)]
  rw [gM30 a (by omega)]
  rw [eM29, zNew22 (n := (t + 42)) (k := 1) (a := a) (by omega)]
  rw [eM28, zR22n (k := (t + 6)) (a := a) (by omega)]
  rw [gM27 a (by omega)]
  rw [eM26, zNew22 (n := (t + 37)) (k := 1) (a := a) (by omega)]
  rw [eM25, zR22n (k := (t + 6)) (a := a) (by omega)]
  rw [gM24 a (by omega)]
  rw [eM23, zNew22 (n := (t + 32)) (k := 1) (a := a) (by omega)]
  rw [eM22, zR22n (k := (t + 6)) (a := a) (by omega)]
  rw [gM21 a (by omega)]
  rw [eM20, zNew22 (n := (t + 27)) (k := 1) (a := a) (by omega)]
  rw [eM19, zR22n (k := (t + 6)) (a := a) (by omega)]
  rw [gM18 a (by omega)]
  rw [eM17, zNew22 (n := (t + 22)) (k := 1) (a := a) (by omega)]
  rw [eM16, zR22n (k := (t + 6)) (a := a) (by omega)]
  rw [gM15 a (by omega)]
  rw [eM14, zNew22 (n := (t + 17)) (k := 1) (a := a) (by omega)]
  rw [eM13, zR22n (k := (t + 6)) (a := a) (by omega)]
  rw [gM12 a (by omega)]
  rw [eM11, zNew22 (n := (t + 12)) (k := 1) (a := a) (by omega)]
  rw [eM10, zR22n (k := (t + 6)) (a := a) (by omega)]
  rw [gM9 a (by omega)]
  rw [eM8, zNew22 (n := (t + 7)) (k := 1) (a := a) (by omega)]
  rw [eM5, zR22n (k := t) (a := a) (by omega)]
  rw [eM4, zNew22 (n := (t + 6)) (k := 1) (a := a) (by omega)]
  rw [eM3, zR22n (k := t) (a := a) (by omega)]
  rw [gM2 a (by omega)]
  rw [eM1, zNew22 (n := (t + 1)) (k := 1) (a := a) (by omega)]
set_option maxRecDepth 100000 in
theorem wd_232 : Cond.methodLink "SunnyPans$Job" 3 objectInit ∈ tbG := tw1 132 rfl rfl
theorem fq_Job_9 : zPutF "SunnyPans$Job" 9 2 43 0 := ⟨zc_2, ⟨RX2, TX2, 9, _, rfl, by decide, uw_2, wd_233, rfl, rfl, tyX2_ok 0 (by decide), fun _ => ⟨by rfl, by rfl⟩⟩, fun _ _ _ _ _ _ v hv => ⟨_, rfl, Nat.le_of_ble_eq_true rfl, by simp [zE, zrv, hv]⟩⟩
theorem fq_Job_15 : zPutF "SunnyPans$Job" 15 2 43 1 := ⟨zc_2, ⟨RX2, TX2, 9, _, rfl, by decide, uw_2, wd_235, rfl, rfl, tyX2_ok 1 (by decide), fun _ => ⟨by rfl, by rfl⟩⟩, fun _ _ _ _ _ _ v hv => ⟨_, rfl, Nat.le_of_ble_eq_true rfl, by simp [zE, zrv, hv]⟩⟩
theorem fq_Job_18 : zPutF "SunnyPans$Job" 18 2 43 2 := ⟨zc_2, ⟨RX2, TX2, 9, _, rfl, by decide, uw_2, wd_237, rfl, rfl, tyX2_ok 2 (by decide), fun _ => ⟨by rfl, by rfl⟩⟩, fun _ _ _ _ _ _ v hv => ⟨_, rfl, Nat.le_of_ble_eq_true rfl, by simp [zE, zrv, hv]⟩⟩
theorem fq_Job_21 : zPutF "SunnyPans$Job" 21 2 43 3 := ⟨zc_2, ⟨RX2, TX2, 9, _, rfl, by decide, uw_2, wd_239, rfl, rfl, tyX2_ok 3 (by decide), fun _ => ⟨by rfl, by rfl⟩⟩, fun _ _ _ _ _ _ v hv => ⟨_, rfl, Nat.le_of_ble_eq_true rfl, by simp [zE, zrv, hv]⟩⟩
theorem fq_Job_24 : zPutF "SunnyPans$Job" 24 2 43 4 := ⟨zc_2, ⟨RX2, TX2, 9, _, rfl, by decide, uw_2, wd_241, rfl, rfl, tyX2_ok 4 (by decide), fun _ => ⟨by rfl, by rfl⟩⟩, fun _ _ _ _ _ _ v hv => ⟨_, rfl, Nat.le_of_ble_eq_true rfl, by simp [zE, zrv, hv]⟩⟩
theorem fq_Job_27 : zPutF "SunnyPans$Job" 27 2 43 5 := ⟨zc_2, ⟨RX2, TX2, 9, _, rfl, by decide, uw_2, wd_242, rfl, rfl, tyX2_ok 5 (by decide), fun _ => ⟨by rfl, by rfl⟩⟩, fun _ _ _ _ _ _ v hv => ⟨_, rfl, Nat.le_of_ble_eq_true rfl, by simp [zE, zrv, hv]⟩⟩
theorem fq_Job_30 : zPutF "SunnyPans$Job" 30 2 43 6 := ⟨zc_2, ⟨RX2, TX2, 9, _, rfl, by decide, uw_2, wd_243, rfl, rfl, tyX2_ok 6 (by decide), fun _ => ⟨by rfl, by rfl⟩⟩, fun _ _ _ _ _ _ v hv => ⟨_, rfl, Nat.le_of_ble_eq_true rfl, by simp [zE, zrv, hv]⟩⟩
theorem d_X2_init_0 : decode cX2_init 0 = .ok (.aload_n 0, 1) := by decide +kernel
theorem d_X2_init_1 : decode cX2_init 1 = .ok (.invokespecial 3, 3) := by decide +kernel
theorem d_X2_init_4 : decode cX2_init 4 = .ok (.aload_n 0, 1) := by decide +kernel
theorem d_X2_init_5 : decode cX2_init 5 = .ok (.sipush 150, 3) := by decide +kernel
theorem d_X2_init_8 : decode cX2_init 8 = .ok (.newarray .int, 2) := by decide +kernel
theorem d_X2_init_10 : decode cX2_init 10 = .ok (.putfield 9, 3) := by decide +kernel
theorem d_X2_init_13 : decode cX2_init 13 = .ok (.aload_n 0, 1) := by decide +kernel
theorem d_X2_init_14 : decode cX2_init 14 = .ok (.sipush 150, 3) := by decide +kernel
theorem d_X2_init_17 : decode cX2_init 17 = .ok (.newarray .int, 2) := by decide +kernel
theorem d_X2_init_19 : decode cX2_init 19 = .ok (.putfield 15, 3) := by decide +kernel
theorem d_X2_init_22 : decode cX2_init 22 = .ok (.aload_n 0, 1) := by decide +kernel
theorem d_X2_init_23 : decode cX2_init 23 = .ok (.sipush 150, 3) := by decide +kernel
theorem d_X2_init_26 : decode cX2_init 26 = .ok (.newarray .int, 2) := by decide +kernel
theorem d_X2_init_28 : decode cX2_init 28 = .ok (.putfield 18, 3) := by decide +kernel
theorem d_X2_init_31 : decode cX2_init 31 = .ok (.aload_n 0, 1) := by decide +kernel
theorem d_X2_init_32 : decode cX2_init 32 = .ok (.sipush 150, 3) := by decide +kernel
theorem d_X2_init_35 : decode cX2_init 35 = .ok (.newarray .int, 2) := by decide +kernel
theorem d_X2_init_37 : decode cX2_init 37 = .ok (.putfield 21, 3) := by decide +kernel
theorem d_X2_init_40 : decode cX2_init 40 = .ok (.aload_n 0, 1) := by decide +kernel
theorem d_X2_init_41 : decode cX2_init 41 = .ok (.sipush 150, 3) := by decide +kernel
theorem d_X2_init_44 : decode cX2_init 44 = .ok (.newarray .int, 2) := by decide +kernel
theorem d_X2_init_46 : decode cX2_init 46 = .ok (.putfield 24, 3) := by decide +kernel
theorem d_X2_init_49 : decode cX2_init 49 = .ok (.aload_n 0, 1) := by decide +kernel
theorem d_X2_init_50 : decode cX2_init 50 = .ok (.sipush 150, 3) := by decide +kernel
theorem d_X2_init_53 : decode cX2_init 53 = .ok (.newarray .int, 2) := by decide +kernel
theorem d_X2_init_55 : decode cX2_init 55 = .ok (.putfield 27, 3) := by decide +kernel
theorem d_X2_init_58 : decode cX2_init 58 = .ok (.aload_n 0, 1) := by decide +kernel
theorem d_X2_init_59 : decode cX2_init 59 = .ok (.bipush 6, 2) := by decide +kernel
theorem d_X2_init_61 : decode cX2_init 61 = .ok (.newarray .int, 2) := by decide +kernel
theorem d_X2_init_63 : decode cX2_init 63 = .ok (.putfield 30, 3) := by decide +kernel
theorem d_X2_init_66 : decode cX2_init 66 = .ok (.return_, 1) := by decide +kernel
noncomputable def F_X2_init (M : zMem) (t : Nat) : Option zMem :=
  zl (zNew M (t + 1) 1) fun M1 =>
  zl (zR M1 t 0 (t + 1)) fun M2 =>
  zl (zNew M2 (t + 2) 1) fun M3 =>
  zl (zR M3 t 1 (t + 2)) fun M4 =>
  zl (zNew M4 (t + 3) 1) fun M5 =>
  zl (zR M5 t 2 (t + 3)) fun M6 =>
  zl (zNew M6 (t + 4) 1) fun M7 =>
  zl (zR M7 t 3 (t + 4)) fun M8 =>
  zl (zNew M8 (t + 5) 1) fun M9 =>
  zl (zR M9 t 4 (t + 5)) fun M10 =>
  zl (zNew M10 (t + 6) 1) fun M11 =>
  zl (zR M11 t 5 (t + 6)) fun M12 =>
  zl (zNew M12 (t + 7) 1) fun M13 =>
  zl (zR M13 t 6 (t + 7)) fun M14 =>
  some M14
def rm_X2_init : Room := { frames := 3, cells := 7, slots := 906, locals := 80 }
set_option maxHeartbeats 16000000 in
set_option maxRecDepth 100000 in
theorem c_X2_init (l : Launch) {G : zG} {b0 t n : Nat} (hn : n = t + 1) {sh : Nat → Nat} (hs : ∀ j, j < 8 → sh (t + j) = shL_Job.getD j 0) {M M9 : zMem} (hF : F_X2_init M t = some M9) : zMC l yX2_init cX2_init 1 rm_X2_init 7 906 G b0 (zsh sh t 43) n M [.ref (zad b0 t)] sh (t + 8) M9 := by
  subst hn
  refine zMC_of (by decide +kernel) rfl (lv := [(0, .ref (zad b0 t))]) (Nat.le_of_ble_eq_true rfl) rfl (fun p e s m args below meth c A cx hr hin hsz hb => ?_)
  unfold F_X2_init at hF
  refine z_aload_n (zX_to hb cx) d_X2_init_0 0 rfl ?_
  refine z_objInit (zX_to hb cx) ⟨wd_232, wd_130, wd_131⟩ d_X2_init_1 ⟨Nat.le_of_ble_eq_true rfl, Nat.le_of_ble_eq_true rfl⟩ ?_
  refine z_aload_n (zX_to hb cx) d_X2_init_4 0 rfl ?_
  refine z_sipush (v := 150) (zX_to hb cx) d_X2_init_5 ks_150 ?_
  refine z_newArrI (len := 150) (zX_to hb cx) (by omega) (Or.inl (by omega)) ((zsh_old (by omega)).trans (hs 1 (by decide))) za_21 wd_170 (by decide) (by decide +kernel) (by decide) ⟨Nat.le_of_ble_eq_true rfl, Nat.le_of_ble_eq_true rfl⟩ d_X2_init_8 ?_
  refine z_nmE hF (fun M1 eM1 hF => ?_)
  refine z_putF (zX_to hb cx) hin (by omega) (zT_self (by show _ + 1 ≤ _; omega) (by omega)) fq_Job_9 d_X2_init_10 ?_
  refine z_nmE hF (fun M2 eM2 hF => ?_)
  refine z_aload_n (zX_to hb cx) d_X2_init_13 0 rfl ?_
  refine z_sipush (v := 150) (zX_to hb cx) d_X2_init_14 ks_150 ?_
  refine z_newArrI (len := 150) (zX_to hb cx) (by omega) (Or.inl (by omega)) ((zsh_old (by omega)).trans (hs 2 (by decide))) za_21 wd_170 (by decide) (by decide +kernel) (by decide) ⟨Nat.le_of_ble_eq_true rfl, Nat.le_of_ble_eq_true rfl⟩ d_X2_init_17 ?_
  refine z_nmE hF (fun M3 eM3 hF => ?_)
  refine z_putF (zX_to hb cx) hin (by omega) (zT_self (by show _ + 1 ≤ _; omega) (by omega)) fq_Job_15 d_X2_init_19 ?_
  refine z_nmE hF (fun M4 eM4 hF => ?_)
  refine z_aload_n (zX_to hb cx) d_X2_init_22 0 rfl ?_
  refine z_sipush (v := 150) (zX_to hb cx) d_X2_init_23 ks_150 ?_
  refine z_newArrI (len := 150) (zX_to hb cx) (by omega) (Or.inl (by omega)) ((zsh_old (by omega)).trans (hs 3 (by decide))) za_21 wd_170 (by decide) (by decide +kernel) (by decide) ⟨Nat.le_of_ble_eq_true rfl, Nat.le_of_ble_eq_true rfl⟩ d_X2_init_26 ?_
  refine z_nmE hF (fun M5 eM5 hF => ?_)
  refine z_putF (zX_to hb cx) hin (by omega) (zT_self (by show _ + 1 ≤ _; omega) (by omega)) fq_Job_18 d_X2_init_28 ?_
  refine z_nmE hF (fun M6 eM6 hF => ?_)
  refine z_aload_n (zX_to hb cx) d_X2_init_31 0 rfl ?_
  refine z_sipush (v := 150) (zX_to hb cx) d_X2_init_32 ks_150 ?_
  refine z_newArrI (len := 150) (zX_to hb cx) (by omega) (Or.inl (by omega)) ((zsh_old (by omega)).trans (hs 4 (by decide))) za_21 wd_170 (by decide) (by decide +kernel) (by decide) ⟨Nat.le_of_ble_eq_true rfl, Nat.le_of_ble_eq_true rfl⟩ d_X2_init_35 ?_
  refine z_nmE hF (fun M7 eM7 hF => ?_)
  refine z_putF (zX_to hb cx) hin (by omega) (zT_self (by show _ + 1 ≤ _; omega) (by omega)) fq_Job_21 d_X2_init_37 ?_
  refine z_nmE hF (fun M8 eM8 hF => ?_)
  refine z_aload_n (zX_to hb cx) d_X2_init_40 0 rfl ?_
  refine z_sipush (v := 150) (zX_to hb cx) d_X2_init_41 ks_150 ?_
  refine z_newArrI (len := 150) (zX_to hb cx) (by omega) (Or.inl (by omega)) ((zsh_old (by omega)).trans (hs 5 (by decide))) za_21 wd_170 (by decide) (by decide +kernel) (by decide) ⟨Nat.le_of_ble_eq_true rfl, Nat.le_of_ble_eq_true rfl⟩ d_X2_init_44 ?_
  refine z_nmE hF (fun M9 eM9 hF => ?_)
  refine z_putF (zX_to hb cx) hin (by omega) (zT_self (by show _ + 1 ≤ _; omega) (by omega)) fq_Job_24 d_X2_init_46 ?_
  refine z_nmE hF (fun M10 eM10 hF => ?_)
  refine z_aload_n (zX_to hb cx) d_X2_init_49 0 rfl ?_
  refine z_sipush (v := 150) (zX_to hb cx) d_X2_init_50 ks_150 ?_
  refine z_newArrI (len := 150) (zX_to hb cx) (by omega) (Or.inl (by omega)) ((zsh_old (by omega)).trans (hs 6 (by decide))) za_21 wd_170 (by decide) (by decide +kernel) (by decide) ⟨Nat.le_of_ble_eq_true rfl, Nat.le_of_ble_eq_true rfl⟩ d_X2_init_53 ?_
  refine z_nmE hF (fun M11 eM11 hF => ?_)
  refine z_putF (zX_to hb cx) hin (by omega) (zT_self (by show _ + 1 ≤ _; omega) (by omega)) fq_Job_27 d_X2_init_55 ?_
  refine z_nmE hF (fun M12 eM12 hF => ?_)
  refine z_aload_n (zX_to hb cx) d_X2_init_58 0 rfl ?_
  refine z_bipush (v := 6) (zX_to hb cx) d_X2_init_59 kb_6 ?_
  refine z_newArrI (len := 6) (zX_to hb cx) (by omega) (Or.inl (by omega)) ((zsh_old (by omega)).trans (hs 7 (by decide))) za_22 wd_170 (by decide) (by decide +kernel) (by decide) ⟨Nat.le_of_ble_eq_true rfl, Nat.le_of_ble_eq_true rfl⟩ d_X2_init_61 ?_
  refine z_nmE hF (fun M13 eM13 hF => ?_)
  refine z_putF (zX_to hb cx) hin (by omega) (zT_self (by show _ + 1 ≤ _; omega) (by omega)) fq_Job_30 d_X2_init_63 ?_
  refine z_nmE hF (fun M14 eM14 hF => ?_)
  have f15 : M14.2.2 t 0 = (t + 1) := by
    rw [eM14, zR22j (j := 6) (i := 0) (by decide)]
    rw [eM13, zNew22 (n := (t + 7)) (k := 1) (a := t) (by omega)]
    rw [eM12, zR22j (j := 5) (i := 0) (by decide)]
    rw [eM11, zNew22 (n := (t + 6)) (k := 1) (a := t) (by omega)]
    rw [eM10, zR22j (j := 4) (i := 0) (by decide)]
    rw [eM9, zNew22 (n := (t + 5)) (k := 1) (a := t) (by omega)]
    rw [eM8, zR22j (j := 3) (i := 0) (by decide)]
    rw [eM7, zNew22 (n := (t + 4)) (k := 1) (a := t) (by omega)]
    rw [eM6, zR22j (j := 2) (i := 0) (by decide)]
    rw [eM5, zNew22 (n := (t + 3)) (k := 1) (a := t) (by omega)]
    rw [eM4, zR22j (j := 1) (i := 0) (by decide)]
    rw [eM3, zNew22 (n := (t + 2)) (k := 1) (a := t) (by omega)]
    rw [eM2, zR22e]
  have f16 : M14.2.2 t 1 = (t + 2) := by
    rw [eM14, zR22j (j := 6) (i := 1) (by decide)]
    rw [eM13, zNew22 (n := (t + 7)) (k := 1) (a := t) (by omega)]
    rw [eM12, zR22j (j := 5) (i := 1) (by decide)]
    rw [eM11, zNew22 (n := (t + 6)) (k := 1) (a := t) (by omega)]
    rw [eM10, zR22j (j := 4) (i := 1) (by decide)]
    rw [eM9, zNew22 (n := (t + 5)) (k := 1) (a := t) (by omega)]
    rw [eM8, zR22j (j := 3) (i := 1) (by decide)]
    rw [eM7, zNew22 (n := (t + 4)) (k := 1) (a := t) (by omega)]
    rw [eM6, zR22j (j := 2) (i := 1) (by decide)]
    rw [eM5, zNew22 (n := (t + 3)) (k := 1) (a := t) (by omega)]
    rw [eM4, zR22e]
  have f17 : M14.2.2 t 2 = (t + 3) := by
    rw [eM14, zR22j (j := 6) (i := 2) (by decide)]
    rw [eM13, zNew22 (n := (t + 7)) (k := 1) (a := t) (by omega)]
    rw [eM12, zR22j (j := 5) (i := 2) (by decide)]
    rw [eM11, zNew22 (n := (t + 6)) (k := 1) (a := t) (by omega)]
    rw [eM10, zR22j (j := 4) (i := 2) (by decide)]
    rw [eM9, zNew22 (n := (t + 5)) (k := 1) (a := t) (by omega)]
    rw [eM8, zR22j (j := 3) (i := 2) (by decide)]
    rw [eM7, zNew22 (n := (t + 4)) (k := 1) (a := t) (by omega)]
    rw [eM6, zR22e]
  have f18 : M14.2.2 t 3 = (t + 4) := by
    rw [eM14, zR22j (j := 6) (i := 3) (by decide)]
    rw [eM13, zNew22 (n := (t + 7)) (k := 1) (a := t) (by omega)]
    rw [eM12, zR22j (j := 5) (i := 3) (by decide)]
    rw [eM11, zNew22 (n := (t + 6)) (k := 1) (a := t) (by omega)]
    rw [eM10, zR22j (j := 4) (i := 3) (by decide)]
    rw [eM9, zNew22 (n := (t + 5)) (k := 1) (a := t) (by omega)]
    rw [eM8, zR22e]
  have f19 : M14.2.2 t 4 = (t + 5) := by
    rw [eM14, zR22j (j := 6) (i := 4) (by decide)]
    rw [eM13, zNew22 (n := (t + 7)) (k := 1) (a := t) (by omega)]
    rw [eM12, zR22j (j := 5) (i := 4) (by decide)]
    rw [eM11, zNew22 (n := (t + 6)) (k := 1) (a := t) (by omega)]
    rw [eM10, zR22e]
  have f20 : M14.2.2 t 5 = (t + 6) := by
    rw [eM14, zR22j (j := 6) (i := 5) (by decide)]
    rw [eM13, zNew22 (n := (t + 7)) (k := 1) (a := t) (by omega)]
    rw [eM12, zR22e]
  have f21 : M14.2.2 t 6 = (t + 7) := by
    rw [eM14, zR22e]
  refine z_shape (zHP_sealE (by rw [show sh t = 3 from (hs 0 (by decide))]; simp [zE, zrv, f15, f16, f17, f18, f19, f20, f21])) ?_
  cases hF
  exact z_vretC (zX_to hb cx) hr d_X2_init_66
theorem f22_X2_init {M M9 : zMem} {t : Nat} (hF : F_X2_init M t = some M9) : ∀ a, a < t → M9.2.2 a = M.2.2 a := by
  intro a ha
  unfold F_X2_init at hF
  obtain ⟨M1, eM1, hF⟩ := zl_inv hF
  obtain ⟨M2, eM2, hF⟩ := zl_inv hF
  obtain ⟨M3, eM3, hF⟩ := zl_inv hF
  obtain ⟨M4, eM4, hF⟩ := zl_inv hF
  obtain ⟨M5, eM5, hF⟩ := zl_inv hF
  obtain ⟨M6, eM6, hF⟩ := zl_inv hF
  obtain ⟨M7, eM7, hF⟩ := zl_inv hF
  obtain ⟨M8, eM8, hF⟩ := zl_inv hF
  obtain ⟨M9, eM9, hF⟩ := zl_inv hF
  obtain ⟨M10, eM10, hF⟩ := zl_inv hF
  obtain ⟨M11, eM11, hF⟩ := zl_inv hF
  obtain ⟨M12, eM12, hF⟩ := zl_inv hF
  obtain ⟨M13, eM13, hF⟩ := zl_inv hF
  obtain ⟨M14, eM14, hF⟩ := zl_inv hF
  cases hF
  rw [eM14, zR22n (k := t) (a := a) (by omega)]
  rw [eM13, zNew22 (n := (t + 7)) (k := 1) (a := a) (by omega)]
  rw [eM12, zR22n (k := t) (a := a) (by omega)]
  rw [eM11, zNew22 (n := (t + 6)) (k := 1) (a := a) (by omega)]
  rw [eM10, zR22n (k := t) (a := a) (by omega)]
  rw [eM9, zNew22 (n := (t + 5)) (k := 1) (a := a) (by omega)]
  rw [eM8, zR22n (k := t) (a := a) (by omega)]
  rw [eM7, zNew22 (n := (t + 4)) (k := 1) (a := a) (by omega)]
  rw [eM6, zR22n (k := t) (a := a) (by omega)]
  rw [eM5, zNew22 (n := (t + 3)) (k := 1) (a := a) (by omega)]
  rw [eM4, zR22n (k := t) (a := a) (by omega)]
  rw [eM3, zNew22 (n := (t + 2)) (k := 1) (a := a) (by omega)]
  rw [eM2, zR22n (k := t) (a := a) (by omega)]
  rw [eM1, zNew22 (n := (t + 1)) (k := 1) (a := a) (by omega)]
set_option maxRecDepth 100000 in
theorem wd_272 : Cond.methodLink "SunnyPans$Shadows" 3 objectInit ∈ tbG := tw1 172 rfl rfl
set_option maxRecDepth 100000 in
theorem wd_273 : Cond.classLink "SunnyPans$Shadows" 9 "[[J" ∈ tbG := tw1 173 rfl rfl
theorem zc_6 : zCls 6 := ⟨RX6, TX6, 3, tyX6, rfl, tyX6_ok, nmX6⟩
theorem fq_Shadows_11 : zPutF "SunnyPans$Shadows" 11 6 47 0 := ⟨zc_6, ⟨RX6, TX6, 3, _, rfl, by decide, uw_6, wd_275, rfl, rfl, tyX6_ok 0 (by decide), fun _ => ⟨by rfl, by rfl⟩⟩, fun _ _ _ _ _ _ v hv => ⟨_, rfl, Nat.le_of_ble_eq_true rfl, by simp [zE, zrv, hv]⟩⟩
theorem fq_Shadows_16 : zPutF "SunnyPans$Shadows" 16 6 47 1 := ⟨zc_6, ⟨RX6, TX6, 3, _, rfl, by decide, uw_6, wd_276, rfl, rfl, tyX6_ok 1 (by decide), fun _ => ⟨by rfl, by rfl⟩⟩, fun _ _ _ _ _ _ v hv => ⟨_, rfl, Nat.le_of_ble_eq_true rfl, by simp [zE, zrv, hv]⟩⟩
theorem fq_Shadows_20 : zPutF "SunnyPans$Shadows" 20 6 47 2 := ⟨zc_6, ⟨RX6, TX6, 3, _, rfl, by decide, uw_6, wd_277, rfl, rfl, tyX6_ok 2 (by decide), fun _ => ⟨by rfl, by rfl⟩⟩, fun _ _ _ _ _ _ v hv => ⟨_, rfl, Nat.le_of_ble_eq_true rfl, by simp [zE, zrv, hv]⟩⟩
theorem d_X6_init_0 : decode cX6_init 0 = .ok (.aload_n 0, 1) := by decide +kernel
theorem d_X6_init_1 : decode cX6_init 1 = .ok (.invokespecial 3, 3) := by decide +kernel
theorem d_X6_init_4 : decode cX6_init 4 = .ok (.aload_n 0, 1) := by decide +kernel
theorem d_X6_init_5 : decode cX6_init 5 = .ok (.bipush 64, 2) := by decide +kernel
theorem d_X6_init_7 : decode cX6_init 7 = .ok (.bipush 10, 2) := by decide +kernel
theorem d_X6_init_9 : decode cX6_init 9 = .ok (.multianewarray 9 2, 4) := by decide +kernel
theorem d_X6_init_13 : decode cX6_init 13 = .ok (.putfield 11, 3) := by decide +kernel
theorem d_X6_init_16 : decode cX6_init 16 = .ok (.aload_n 0, 1) := by decide +kernel
theorem d_X6_init_17 : decode cX6_init 17 = .ok (.bipush 64, 2) := by decide +kernel
theorem d_X6_init_19 : decode cX6_init 19 = .ok (.newarray .long, 2) := by decide +kernel
theorem d_X6_init_21 : decode cX6_init 21 = .ok (.putfield 16, 3) := by decide +kernel
theorem d_X6_init_24 : decode cX6_init 24 = .ok (.aload_n 0, 1) := by decide +kernel
theorem d_X6_init_25 : decode cX6_init 25 = .ok (.bipush 10, 2) := by decide +kernel
theorem d_X6_init_27 : decode cX6_init 27 = .ok (.newarray .long, 2) := by decide +kernel
theorem d_X6_init_29 : decode cX6_init 29 = .ok (.putfield 20, 3) := by decide +kernel
theorem d_X6_init_32 : decode cX6_init 32 = .ok (.return_, 1) := by decide +kernel
noncomputable def F_X6_init (M : zMem) (t : Nat) : Option zMem :=
  zl (zNew M (t + 1) (1 + 64)) fun M1 =>
  zl (zR M1 t 0 (t + 1)) fun M2 =>
  zl (zNew M2 (t + 66) 1) fun M3 =>
  zl (zR M3 t 1 (t + 66)) fun M4 =>
  zl (zNew M4 (t + 67) 1) fun M5 =>
  zl (zR M5 t 2 (t + 67)) fun M6 =>
  some M6
def rm_X6_init : Room := { frames := 3, cells := 67, slots := 778, locals := 80 }
set_option maxHeartbeats 16000000 in
set_option maxRecDepth 100000 in
theorem c_X6_init (l : Launch) {G : zG} {b0 t n : Nat} (hn : n = t + 1) {sh : Nat → Nat} (hs : ∀ j, j < 68 → sh (t + j) = shL_Shadows.getD j 0) {M M9 : zMem} (hF : F_X6_init M t = some M9) : zMC l yX6_init cX6_init 1 rm_X6_init 67 778 G b0 (zsh sh t 47) n M [.ref (zad b0 t)] sh (t + 68) M9 := by
  subst hn
  refine zMC_of (by decide +kernel) rfl (lv := [(0, .ref (zad b0 t))]) (Nat.le_of_ble_eq_true rfl) rfl (fun p e s m args below meth c A cx hr hin hsz hb => ?_)
  unfold F_X6_init at hF
  refine z_aload_n (zX_to hb cx) d_X6_init_0 0 rfl ?_
  refine z_objInit (zX_to hb cx) ⟨wd_272, wd_130, wd_131⟩ d_X6_init_1 ⟨Nat.le_of_ble_eq_true rfl, Nat.le_of_ble_eq_true rfl⟩ ?_
  refine z_aload_n (zX_to hb cx) d_X6_init_4 0 rfl ?_
  refine z_bipush (v := 64) (zX_to hb cx) d_X6_init_5 kb_64 ?_
  refine z_bipush (v := 10) (zX_to hb cx) d_X6_init_7 kb_10 ?_
  have hsm1 : ∀ j, j < 64 → shL_Shadows.getD (2 + j) 0 = 18 := by decide +kernel
  refine z_newMulti (ty := .long) (kd := 5) (ke := 1) (N := 64) (K := 10) (z := (10, .inr (.inl (fun _ => 0)))) (co := 23) (ce := 18) (zX_to hb cx) (by omega) (Or.inl (by omega)) rfl rfl (fun _ h => h) (fun _ h => h) rfl (by decide) wd_212 wd_273 (by decide) (by decide) (by decide +kernel) (by decide +kernel) (by decide) (by decide) (by decide) rfl rfl (fun c => by show ({ cls := c, slots := Array.replicate _ _, vm := .none } : Cell) = _; rw [arrV_new]; rfl) (fun _ _ _ _ => rfl) (fun _ => rfl) ((zsh_old (by omega)).trans (hs 1 (by decide))) (fun j hj => by
    have h9 := hs (2 + j) (by omega)
    rw [hsm1 j hj] at h9
    refine (zsh_old (by omega)).trans ?_
    exact (congrArg sh (by omega)).trans h9) ⟨Nat.le_of_ble_eq_true rfl, Nat.le_of_ble_eq_true rfl⟩ d_X6_init_9 ?_
  refine z_nmE hF (fun M1 eM1 hF => ?_)
  refine z_putF (zX_to hb cx) hin (by omega) (zT_self (by show _ + 1 ≤ _; omega) (by omega)) fq_Shadows_11 d_X6_init_13 ?_
  refine z_nmE hF (fun M2 eM2 hF => ?_)
  refine z_aload_n (zX_to hb cx) d_X6_init_16 0 rfl ?_
  refine z_bipush (v := 64) (zX_to hb cx) d_X6_init_17 kb_64 ?_
  refine z_newArrL (len := 64) (zX_to hb cx) (by omega) (Or.inl (by omega)) ((zsh_old (by omega)).trans (hs 66 (by decide))) za_24 wd_212 (by decide) (by decide +kernel) (by decide) ⟨Nat.le_of_ble_eq_true rfl, Nat.le_of_ble_eq_true rfl⟩ d_X6_init_19 ?_
  refine z_nmE hF (fun M3 eM3 hF => ?_)
  refine z_putF (zX_to hb cx) hin (by omega) (zT_self (by show _ + 1 ≤ _; omega) (by omega)) fq_Shadows_16 d_X6_init_21 ?_
  refine z_nmE hF (fun M4 eM4 hF => ?_)
  refine z_aload_n (zX_to hb cx) d_X6_init_24 0 rfl ?_
  refine z_bipush (v := 10) (zX_to hb cx) d_X6_init_25 kb_10 ?_
  refine z_newArrL (len := 10) (zX_to hb cx) (by omega) (Or.inl (by omega)) ((zsh_old (by omega)).trans (hs 67 (by decide))) za_18 wd_212 (by decide) (by decide +kernel) (by decide) ⟨Nat.le_of_ble_eq_true rfl, Nat.le_of_ble_eq_true rfl⟩ d_X6_init_27 ?_
  refine z_nmE hF (fun M5 eM5 hF => ?_)
  refine z_putF (zX_to hb cx) hin (by omega) (zT_self (by show _ + 1 ≤ _; omega) (by omega)) fq_Shadows_20 d_X6_init_29 ?_
  refine z_nmE hF (fun M6 eM6 hF => ?_)
  have f7 : M6.2.2 t 0 = (t + 1) := by
    rw [eM6, zR22j (j := 2) (i := 0) (by decide)]
    rw [eM5, zNew22 (n := (t + 67)) (k := 1) (a := t) (by omega)]
    rw [eM4, zR22j (j := 1) (i := 0) (by decide)]
    rw [eM3, zNew22 (n := (t + 66)) (k := 1) (a := t) (by omega)]
    rw [eM2, zR22e]
  have f8 : M6.2.2 t 1 = (t + 66) := by
    rw [eM6, zR22j (j := 2) (i := 1) (by decide)]
    rw [eM5, zNew22 (n := (t + 67)) (k := 1) (a := t) (by omega)]
    rw [eM4, zR22e]
  have f9 : M6.2.2 t 2 = (t + 67) := by
    rw [eM6, zR22e]
  refine z_shape (zHP_sealE (by rw [show sh t = 7 from (hs 0 (by decide))]; simp [zE, zrv, f7, f8, f9])) ?_
  cases hF
  exact z_vretC (zX_to hb cx) hr d_X6_init_32
theorem f22_X6_init {M M9 : zMem} {t : Nat} (hF : F_X6_init M t = some M9) : ∀ a, a < t → M9.2.2 a = M.2.2 a := by
  intro a ha
  unfold F_X6_init at hF
  obtain ⟨M1, eM1, hF⟩ := zl_inv hF
  obtain ⟨M2, eM2, hF⟩ := zl_inv hF
  obtain ⟨M3, eM3, hF⟩ := zl_inv hF
  obtain ⟨M4, eM4, hF⟩ := zl_inv hF
  obtain ⟨M5, eM5, hF⟩ := zl_inv hF
  obtain ⟨M6, eM6, hF⟩ := zl_inv hF
  cases hF
  rw [eM6, zR22n (k := t) (a := a) (by omega)]
  rw [eM5, zNew22 (n := (t + 67)) (k := 1) (a := a) (by omega)]
  rw [eM4, zR22n (k := t) (a := a) (by omega)]
  rw [eM3, zNew22 (n := (t + 66)) (k := 1) (a := a) (by omega)]
  rw [eM2, zR22n (k := t) (a := a) (by omega)]
  rw [eM1, zNew22 (n := (t + 1)) (k := (1 + 64)) (a := a) (by omega)]
set_option maxRecDepth 100000 in
theorem wd_290 : Cond.methodLink "SunnyPans$Best" 3 objectInit ∈ tbG := tw1 190 rfl rfl
theorem fq_Best_9 : zPutI "SunnyPans$Best" 9 0 41 0 := ⟨zc_0, ⟨RX0, TX0, 2, rfl, by decide, uw_0, wd_291, fun _ _ _ _ _ _ => ⟨_, rfl, rfl⟩⟩, ⟨RX0, TX0, 2, rfl, rfl, by decide +kernel⟩, fun _ _ _ _ _ _ _ => ⟨_, rfl, Nat.le_of_ble_eq_true rfl, rfl⟩⟩
theorem fq_Best_15 : zPutI "SunnyPans$Best" 15 0 41 1 := ⟨zc_0, ⟨RX0, TX0, 2, rfl, by decide, uw_0, wd_293, fun _ _ _ _ _ _ => ⟨_, rfl, rfl⟩⟩, ⟨RX0, TX0, 2, rfl, rfl, by decide +kernel⟩, fun _ _ _ _ _ _ _ => ⟨_, rfl, Nat.le_of_ble_eq_true rfl, rfl⟩⟩
theorem d_X0_init_0 : decode cX0_init 0 = .ok (.aload_n 0, 1) := by decide +kernel
theorem d_X0_init_1 : decode cX0_init 1 = .ok (.invokespecial 3, 3) := by decide +kernel
theorem d_X0_init_4 : decode cX0_init 4 = .ok (.aload_n 0, 1) := by decide +kernel
theorem d_X0_init_5 : decode cX0_init 5 = .ok (.iconst (-1), 1) := by decide +kernel
theorem d_X0_init_6 : decode cX0_init 6 = .ok (.putfield 9, 3) := by decide +kernel
theorem d_X0_init_9 : decode cX0_init 9 = .ok (.aload_n 0, 1) := by decide +kernel
theorem d_X0_init_10 : decode cX0_init 10 = .ok (.iconst (-1), 1) := by decide +kernel
theorem d_X0_init_11 : decode cX0_init 11 = .ok (.putfield 15, 3) := by decide +kernel
theorem d_X0_init_14 : decode cX0_init 14 = .ok (.return_, 1) := by decide +kernel
noncomputable def F_X0_init (M : zMem) (t : Nat) : Option zMem :=
  zl (zI M t 0 (-1 : Int32)) fun M1 =>
  zl (zI M1 t 1 (-1 : Int32)) fun M2 =>
  some M2
def rm_X0_init : Room := { frames := 3, cells := 0, slots := 0, locals := 80 }
set_option maxHeartbeats 16000000 in
set_option maxRecDepth 100000 in
theorem c_X0_init (l : Launch) {G : zG} {b0 t n : Nat} (hn : n = t + 1) {sh : Nat → Nat} (hs : ∀ j, j < 1 → sh (t + j) = shL_Best.getD j 0) {M M9 : zMem} (hF : F_X0_init M t = some M9) : zMC l yX0_init cX0_init 1 rm_X0_init 0 0 G b0 (zsh sh t 41) n M [.ref (zad b0 t)] sh (t + 1) M9 := by
  subst hn
  refine zMC_of (by decide +kernel) rfl (lv := [(0, .ref (zad b0 t))]) (Nat.le_of_ble_eq_true rfl) rfl (fun p e s m args below meth c A cx hr hin hsz hb => ?_)
  unfold F_X0_init at hF
  refine z_aload_n (zX_to hb cx) d_X0_init_0 0 rfl ?_
  refine z_objInit (zX_to hb cx) ⟨wd_290, wd_130, wd_131⟩ d_X0_init_1 ⟨Nat.le_of_ble_eq_true rfl, Nat.le_of_ble_eq_true rfl⟩ ?_
  refine z_aload_n (zX_to hb cx) d_X0_init_4 0 rfl ?_
  refine z_iconst (v := -1) (zX_to hb cx) d_X0_init_5 ki_m1 ?_
  refine z_putI (zX_to hb cx) (zT_self (by show _ + 1 ≤ _; omega) (by omega)) fq_Best_9 d_X0_init_6 ?_
  refine z_nmE hF (fun M1 eM1 hF => ?_)
  refine z_aload_n (zX_to hb cx) d_X0_init_9 0 rfl ?_
  refine z_iconst (v := -1) (zX_to hb cx) d_X0_init_10 ki_m1 ?_
  refine z_putI (zX_to hb cx) (zT_self (by show _ + 1 ≤ _; omega) (by omega)) fq_Best_15 d_X0_init_11 ?_
  refine z_nmE hF (fun M2 eM2 hF => ?_)
  refine z_shape (zHP_sealE (by rw [show sh t = 1 from (hs 0 (by decide))]; simp [zE, zrv])) ?_
  cases hF
  exact z_vretC (zX_to hb cx) hr d_X0_init_14
theorem f22_X0_init {M M9 : zMem} {t : Nat} (hF : F_X0_init M t = some M9) : ∀ a, a < t → M9.2.2 a = M.2.2 a := by
  intro a ha
  unfold F_X0_init at hF
  obtain ⟨M1, eM1, hF⟩ := zl_inv hF
  obtain ⟨M2, eM2, hF⟩ := zl_inv hF
  cases hF
  rw [eM2, show (zI M1 t 1 (-1 : Int32)).2.2 = M1.2.2 from rfl]
  rw [eM1, show (zI M t 0 (-1 : Int32)).2.2 = M.2.2 from rfl]
set_option maxRecDepth 100000 in
theorem wd_305 : Cond.methodLink "SunnyPans$Plan" 3 objectInit ∈ tbG := tw1 205 rfl rfl
theorem fq_Plan_9 : zPutI "SunnyPans$Plan" 9 5 46 0 := ⟨zc_5, ⟨RX5, TX5, 9, rfl, by decide, uw_5, wd_315, fun _ _ _ _ _ _ => ⟨_, rfl, rfl⟩⟩, ⟨RX5, TX5, 9, rfl, rfl, by decide +kernel⟩, fun _ _ _ _ _ _ _ => ⟨_, rfl, Nat.le_of_ble_eq_true rfl, rfl⟩⟩
theorem fq_Plan_15 : zPutI "SunnyPans$Plan" 15 5 46 1 := ⟨zc_5, ⟨RX5, TX5, 9, rfl, by decide, uw_5, wd_319, fun _ _ _ _ _ _ => ⟨_, rfl, rfl⟩⟩, ⟨RX5, TX5, 9, rfl, rfl, by decide +kernel⟩, fun _ _ _ _ _ _ _ => ⟨_, rfl, Nat.le_of_ble_eq_true rfl, rfl⟩⟩
theorem fq_Plan_22 : zPutL "SunnyPans$Plan" 22 5 46 3 := ⟨zc_5, ⟨RX5, TX5, 9, rfl, by decide, uw_5, wd_327, fun _ _ _ _ _ _ => ⟨_, rfl, rfl⟩⟩, ⟨RX5, TX5, 9, rfl, rfl, by decide +kernel⟩, fun _ _ _ _ _ _ _ => ⟨_, rfl, Nat.le_of_ble_eq_true rfl, rfl⟩⟩
theorem fq_Plan_26 : zPutF "SunnyPans$Plan" 26 5 46 4 := ⟨zc_5, ⟨RX5, TX5, 9, _, rfl, by decide, uw_5, wd_330, rfl, rfl, tyX5_ok 4 (by decide), fun _ => ⟨by rfl, by rfl⟩⟩, fun _ _ _ _ _ _ v hv => ⟨_, rfl, Nat.le_of_ble_eq_true rfl, by simp [zE, zrv, hv]⟩⟩
theorem fq_Plan_30 : zPutF "SunnyPans$Plan" 30 5 46 5 := ⟨zc_5, ⟨RX5, TX5, 9, _, rfl, by decide, uw_5, wd_332, rfl, rfl, tyX5_ok 5 (by decide), fun _ => ⟨by rfl, by rfl⟩⟩, fun _ _ _ _ _ _ v hv => ⟨_, rfl, Nat.le_of_ble_eq_true rfl, by simp [zE, zrv, hv]⟩⟩
theorem fq_Plan_33 : zPutF "SunnyPans$Plan" 33 5 46 6 := ⟨zc_5, ⟨RX5, TX5, 9, _, rfl, by decide, uw_5, wd_334, rfl, rfl, tyX5_ok 6 (by decide), fun _ => ⟨by rfl, by rfl⟩⟩, fun _ _ _ _ _ _ v hv => ⟨_, rfl, Nat.le_of_ble_eq_true rfl, by simp [zE, zrv, hv]⟩⟩
theorem fq_Plan_36 : zPutF "SunnyPans$Plan" 36 5 46 7 := ⟨zc_5, ⟨RX5, TX5, 9, _, rfl, by decide, uw_5, wd_336, rfl, rfl, tyX5_ok 7 (by decide), fun _ => ⟨by rfl, by rfl⟩⟩, fun _ _ _ _ _ _ v hv => ⟨_, rfl, Nat.le_of_ble_eq_true rfl, by simp [zE, zrv, hv]⟩⟩
theorem fq_Plan_39 : zPutF "SunnyPans$Plan" 39 5 46 8 := ⟨zc_5, ⟨RX5, TX5, 9, _, rfl, by decide, uw_5, wd_338, rfl, rfl, tyX5_ok 8 (by decide), fun _ => ⟨by rfl, by rfl⟩⟩, fun _ _ _ _ _ _ v hv => ⟨_, rfl, Nat.le_of_ble_eq_true rfl, by simp [zE, zrv, hv]⟩⟩
theorem d_X5_init_0 : decode cX5_init 0 = .ok (.aload_n 0, 1) := by decide +kernel
theorem d_X5_init_1 : decode cX5_init 1 = .ok (.invokespecial 3, 3) := by decide +kernel
theorem d_X5_init_4 : decode cX5_init 4 = .ok (.aload_n 0, 1) := by decide +kernel
theorem d_X5_init_5 : decode cX5_init 5 = .ok (.iconst 4, 1) := by decide +kernel
theorem d_X5_init_6 : decode cX5_init 6 = .ok (.putfield 9, 3) := by decide +kernel
theorem d_X5_init_9 : decode cX5_init 9 = .ok (.aload_n 0, 1) := by decide +kernel
theorem d_X5_init_10 : decode cX5_init 10 = .ok (.iconst 4, 1) := by decide +kernel
theorem d_X5_init_11 : decode cX5_init 11 = .ok (.putfield 15, 3) := by decide +kernel
theorem d_X5_init_14 : decode cX5_init 14 = .ok (.aload_n 0, 1) := by decide +kernel
theorem d_X5_init_15 : decode cX5_init 15 = .ok (.iconst 4, 1) := by decide +kernel
theorem d_X5_init_16 : decode cX5_init 16 = .ok (.iconst 4, 1) := by decide +kernel
theorem d_X5_init_17 : decode cX5_init 17 = .ok (.invokestatic 18, 3) := by decide +kernel
theorem d_X5_init_20 : decode cX5_init 20 = .ok (.putfield 22, 3) := by decide +kernel
theorem d_X5_init_23 : decode cX5_init 23 = .ok (.aload_n 0, 1) := by decide +kernel
theorem d_X5_init_24 : decode cX5_init 24 = .ok (.bipush 10, 2) := by decide +kernel
theorem d_X5_init_26 : decode cX5_init 26 = .ok (.newarray .int, 2) := by decide +kernel
theorem d_X5_init_28 : decode cX5_init 28 = .ok (.putfield 26, 3) := by decide +kernel
theorem d_X5_init_31 : decode cX5_init 31 = .ok (.aload_n 0, 1) := by decide +kernel
theorem d_X5_init_32 : decode cX5_init 32 = .ok (.bipush 10, 2) := by decide +kernel
theorem d_X5_init_34 : decode cX5_init 34 = .ok (.newarray .int, 2) := by decide +kernel
theorem d_X5_init_36 : decode cX5_init 36 = .ok (.putfield 30, 3) := by decide +kernel
theorem d_X5_init_39 : decode cX5_init 39 = .ok (.aload_n 0, 1) := by decide +kernel
theorem d_X5_init_40 : decode cX5_init 40 = .ok (.bipush 64, 2) := by decide +kernel
theorem d_X5_init_42 : decode cX5_init 42 = .ok (.newarray .int, 2) := by decide +kernel
theorem d_X5_init_44 : decode cX5_init 44 = .ok (.putfield 33, 3) := by decide +kernel
theorem d_X5_init_47 : decode cX5_init 47 = .ok (.aload_n 0, 1) := by decide +kernel
theorem d_X5_init_48 : decode cX5_init 48 = .ok (.bipush 64, 2) := by decide +kernel
theorem d_X5_init_50 : decode cX5_init 50 = .ok (.newarray .int, 2) := by decide +kernel
theorem d_X5_init_52 : decode cX5_init 52 = .ok (.putfield 36, 3) := by decide +kernel
theorem d_X5_init_55 : decode cX5_init 55 = .ok (.aload_n 0, 1) := by decide +kernel
theorem d_X5_init_56 : decode cX5_init 56 = .ok (.bipush 64, 2) := by decide +kernel
theorem d_X5_init_58 : decode cX5_init 58 = .ok (.newarray .int, 2) := by decide +kernel
theorem d_X5_init_60 : decode cX5_init 60 = .ok (.putfield 39, 3) := by decide +kernel
theorem d_X5_init_63 : decode cX5_init 63 = .ok (.return_, 1) := by decide +kernel
noncomputable def F_X5_init (M : zMem) (t : Nat) : Option zMem :=
  zl (zI M t 0 (4 : Int32)) fun M1 =>
  zl (zI M1 t 1 (4 : Int32)) fun M2 =>
  zb (F_X5_square M2 (4 : Int32) (4 : Int32)) fun v4 M3 =>
  zl (zL M3 t 3 v4) fun M5 =>
  zl (zNew M5 (t + 1) 1) fun M6 =>
  zl (zR M6 t 4 (t + 1)) fun M7 =>
  zl (zNew M7 (t + 2) 1) fun M8 =>
  zl (zR M8 t 5 (t + 2)) fun M9 =>
  zl (zNew M9 (t + 3) 1) fun M10 =>
  zl (zR M10 t 6 (t + 3)) fun M11 =>
  zl (zNew M11 (t + 4) 1) fun M12 =>
  zl (zR M12 t 7 (t + 4)) fun M13 =>
  zl (zNew M13 (t + 5) 1) fun M14 =>
  zl (zR M14 t 8 (t + 5)) fun M15 =>
  some M15
def rm_X5_init : Room := { frames := 4, cells := 5, slots := 212, locals := 126 }
set_option maxHeartbeats 16000000 in
set_option maxRecDepth 100000 in
theorem c_X5_init (l : Launch) {G : zG} {b0 t n : Nat} (hn : n = t + 1) {sh : Nat → Nat} (hs : ∀ j, j < 6 → sh (t + j) = shL_Plan.getD j 0) {M M9 : zMem} (hF : F_X5_init M t = some M9) : zMC l yX5_init cX5_init 1 rm_X5_init 5 212 G b0 (zsh sh t 46) n M [.ref (zad b0 t)] sh (t + 6) M9 := by
  subst hn
  refine zMC_of (by decide +kernel) rfl (lv := [(0, .ref (zad b0 t))]) (Nat.le_of_ble_eq_true rfl) rfl (fun p e s m args below meth c A cx hr hin hsz hb => ?_)
  unfold F_X5_init at hF
  refine z_aload_n (zX_to hb cx) d_X5_init_0 0 rfl ?_
  refine z_objInit (zX_to hb cx) ⟨wd_305, wd_130, wd_131⟩ d_X5_init_1 ⟨Nat.le_of_ble_eq_true rfl, Nat.le_of_ble_eq_true rfl⟩ ?_
  refine z_aload_n (zX_to hb cx) d_X5_init_4 0 rfl ?_
  refine z_iconst (v := 4) (zX_to hb cx) d_X5_init_5 ki_4 ?_
  refine z_putI (zX_to hb cx) (zT_self (by show _ + 1 ≤ _; omega) (by omega)) fq_Plan_9 d_X5_init_6 ?_
  refine z_nmE hF (fun M1 eM1 hF => ?_)
  refine z_aload_n (zX_to hb cx) d_X5_init_9 0 rfl ?_
  refine z_iconst (v := 4) (zX_to hb cx) d_X5_init_10 ki_4 ?_
  refine z_putI (zX_to hb cx) (zT_self (by show _ + 1 ≤ _; omega) (by omega)) fq_Plan_15 d_X5_init_11 ?_
  refine z_nmE hF (fun M2 eM2 hF => ?_)
  refine z_aload_n (zX_to hb cx) d_X5_init_14 0 rfl ?_
  refine z_iconst (v := 4) (zX_to hb cx) d_X5_init_15 ki_4 ?_
  refine z_iconst (v := 4) (zX_to hb cx) d_X5_init_16 ki_4 ?_
  obtain ⟨v4, M3, hc, hF⟩ := zb_inv hF
  have gM3 := f22_X5_square hc
  refine z_callS (zX_to hb cx) (As := [.int (4 : Int32), .int (4 : Int32)]) (rest := [.ref (zad b0 t)]) (cS_X5_square l zadI M2 (4 : Int32) (4 : Int32) hc) cs_Plan_18 ⟨rfl, rfl, Nat.le_of_ble_eq_true rfl, Nat.le_of_ble_eq_true rfl⟩ rfl rfl ⟨Nat.le_of_ble_eq_true rfl, Nat.le_of_ble_eq_true rfl⟩ (Nat.le_of_ble_eq_true rfl) d_X5_init_17 ?_
  refine z_putL (zX_to hb cx) (zT_self (by show _ + 1 ≤ _; omega) (by omega)) fq_Plan_22 d_X5_init_20 ?_
  refine z_nmE hF (fun M5 eM5 hF => ?_)
  refine z_aload_n (zX_to hb cx) d_X5_init_23 0 rfl ?_
  refine z_bipush (v := 10) (zX_to hb cx) d_X5_init_24 kb_10 ?_
  refine z_newArrI (len := 10) (zX_to hb cx) (by omega) (Or.inl (by omega)) ((zsh_old (by omega)).trans (hs 1 (by decide))) za_25 wd_170 (by decide) (by decide +kernel) (by decide) ⟨Nat.le_of_ble_eq_true rfl, Nat.le_of_ble_eq_true rfl⟩ d_X5_init_26 ?_
  refine z_nmE hF (fun M6 eM6 hF => ?_)
  refine z_putF (zX_to hb cx) hin (by omega) (zT_self (by show _ + 1 ≤ _; omega) (by omega)) fq_Plan_26 d_X5_init_28 ?_
  refine z_nmE hF (fun M7 eM7 hF => ?_)
  refine z_aload_n (zX_to hb cx) d_X5_init_31 0 rfl ?_
  refine z_bipush (v := 10) (zX_to hb cx) d_X5_init_32 kb_10 ?_
  refine z_newArrI (len := 10) (zX_to hb cx) (by omega) (Or.inl (by omega)) ((zsh_old (by omega)).trans (hs 2 (by decide))) za_25 wd_170 (by decide) (by decide +kernel) (by decide) ⟨Nat.le_of_ble_eq_true rfl, Nat.le_of_ble_eq_true rfl⟩ d_X5_init_34 ?_
  refine z_nmE hF (fun M8 eM8 hF => ?_)
  refine z_putF (zX_to hb cx) hin (by omega) (zT_self (by show _ + 1 ≤ _; omega) (by omega)) fq_Plan_30 d_X5_init_36 ?_
  refine z_nmE hF (fun M9 eM9 hF => ?_)
  refine z_aload_n (zX_to hb cx) d_X5_init_39 0 rfl ?_
  refine z_bipush (v := 64) (zX_to hb cx) d_X5_init_40 kb_64 ?_
  refine z_newArrI (len := 64) (zX_to hb cx) (by omega) (Or.inl (by omega)) ((zsh_old (by omega)).trans (hs 3 (by decide))) za_16 wd_170 (by decide) (by decide +kernel) (by decide) ⟨Nat.le_of_ble_eq_true rfl, Nat.le_of_ble_eq_true rfl⟩ d_X5_init_42 ?_
  refine z_nmE hF (fun M10 eM10 hF => ?_)
  refine z_putF (zX_to hb cx) hin (by omega) (zT_self (by show _ + 1 ≤ _; omega) (by omega)) fq_Plan_33 d_X5_init_44 ?_
  refine z_nmE hF (fun M11 eM11 hF => ?_)
  refine z_aload_n (zX_to hb cx) d_X5_init_47 0 rfl ?_
  refine z_bipush (v := 64) (zX_to hb cx) d_X5_init_48 kb_64 ?_
  refine z_newArrI (len := 64) (zX_to hb cx) (by omega) (Or.inl (by omega)) ((zsh_old (by omega)).trans (hs 4 (by decide))) za_16 wd_170 (by decide) (by decide +kernel) (by decide) ⟨Nat.le_of_ble_eq_true rfl, Nat.le_of_ble_eq_true rfl⟩ d_X5_init_50 ?_
  refine z_nmE hF (fun M12 eM12 hF => ?_)
  refine z_putF (zX_to hb cx) hin (by omega) (zT_self (by show _ + 1 ≤ _; omega) (by omega)) fq_Plan_36 d_X5_init_52 ?_
  refine z_nmE hF (fun M13 eM13 hF => ?_)
  refine z_aload_n (zX_to hb cx) d_X5_init_55 0 rfl ?_
  refine z_bipush (v := 64) (zX_to hb cx) d_X5_init_56 kb_64 ?_
  refine z_newArrI (len := 64) (zX_to hb cx) (by omega) (Or.inl (by omega)) ((zsh_old (by omega)).trans (hs 5 (by decide))) za_16 wd_170 (by decide) (by decide +kernel) (by decide) ⟨Nat.le_of_ble_eq_true rfl, Nat.le_of_ble_eq_true rfl⟩ d_X5_init_58 ?_
  refine z_nmE hF (fun M14 eM14 hF => ?_)
  refine z_putF (zX_to hb cx) hin (by omega) (zT_self (by show _ + 1 ≤ _; omega) (by omega)) fq_Plan_39 d_X5_init_60 ?_
  refine z_nmE hF (fun M15 eM15 hF => ?_)
  have f16 : M15.2.2 t 4 = (t + 1) := by
    rw [eM15, zR22j (j := 8) (i := 4) (by decide)]
    rw [eM14, zNew22 (n := (t + 5)) (k := 1) (a := t) (by omega)]
    rw [eM13, zR22j (j := 7) (i := 4) (by decide)]
    rw [eM12, zNew22 (n := (t + 4)) (k := 1) (a := t) (by omega)]
    rw [eM11, zR22j (j := 6) (i := 4) (by decide)]
    rw [eM10, zNew22 (n := (t + 3)) (k := 1) (a := t) (by omega)]
    rw [eM9, zR22j (j := 5) (i := 4) (by decide)]
    rw [eM8, zNew22 (n := (t + 2)) (k := 1) (a := t) (by omega)]
    rw [eM7, zR22e]
  have f17 : M15.2.2 t 5 = (t + 2) := by
    rw [eM15, zR22j (j := 8) (i := 5) (by decide)]
    rw [eM14, zNew22 (n := (t + 5)) (k := 1) (a := t) (by omega)]
    rw [eM13, zR22j (j := 7) (i := 5) (by decide)]
    rw [eM12, zNew22 (n := (t + 4)) (k := 1) (a := t) (by omega)]
    rw [eM11, zR22j (j := 6) (i := 5) (by decide)]
    rw [eM10, zNew22 (n := (t + 3)) (k := 1) (a := t) (by omega)]
    rw [eM9, zR22e]
  have f18 : M15.2.2 t 6 = (t + 3) := by
    rw [eM15, zR22j (j := 8) (i := 6) (by decide)]
    rw [eM14, zNew22 (n := (t + 5)) (k := 1) (a := t) (by omega)]
    rw [eM13, zR22j (j := 7) (i := 6) (by decide)]
    rw [eM12, zNew22 (n := (t + 4)) (k := 1) (a := t) (by omega)]
    rw [eM11, zR22e]
  have f19 : M15.2.2 t 7 = (t + 4) := by
    rw [eM15, zR22j (j := 8) (i := 7) (by decide)]
    rw [eM14, zNew22 (n := (t + 5)) (k := 1) (a := t) (by omega)]
    rw [eM13, zR22e]
  have f20 : M15.2.2 t 8 = (t + 5) := by
    rw [eM15, zR22e]
  refine z_shape (zHP_sealE (by rw [show sh t = 6 from (hs 0 (by decide))]; simp [zE, zrv, f16, f17, f18, f19, f20])) ?_
  cases hF
  exact z_vretC (zX_to hb cx) hr d_X5_init_63
theorem f22_X5_init {M M9 : zMem} {t : Nat} (hF : F_X5_init M t = some M9) : ∀ a, a < t → M9.2.2 a = M.2.2 a := by
  intro a ha
  unfold F_X5_init at hF
  obtain ⟨M1, eM1, hF⟩ := zl_inv hF
  obtain ⟨M2, eM2, hF⟩ := zl_inv hF
  obtain ⟨v4, M3, hc, hF⟩ := zb_inv hF
  have gM3 := f22_X5_square hc
  clear hc
  obtain ⟨M5, eM5, hF⟩ := zl_inv hF
  obtain ⟨M6, eM6, hF⟩ := zl_inv hF
  obtain ⟨M7, eM7, hF⟩ := zl_inv hF
  obtain ⟨M8, eM8, hF⟩ := zl_inv hF
  obtain ⟨M9, eM9, hF⟩ := zl_inv hF
  obtain ⟨M10, eM10, hF⟩ := zl_inv hF
  obtain ⟨M11, eM11, hF⟩ := zl_inv hF
  obtain ⟨M12, eM12, hF⟩ := zl_inv hF
  obtain ⟨M13, eM13, hF⟩ := zl_inv hF
  obtain ⟨M14, eM14, hF⟩ := zl_inv hF
  obtain ⟨M15, eM15, hF⟩ := zl_inv hF
  cases hF
  rw [eM15, zR22n (k := t) (a := a) (by omega)]
  rw [eM14, zNew22 (n := (t + 5)) (k := 1) (a := a) (by omega)]
  rw [eM13, zR22n (k := t) (a := a) (by omega)]
  rw [eM12, zNew22 (n := (t + 4)) (k := 1) (a := a) (by omega)]
  rw [eM11, zR22n (k := t) (a := a) (by omega)]
  rw [eM10, zNew22 (n := (t + 3)) (k := 1) (a := a) (by omega)]
  rw [eM9, zR22n (k := t) (a := a) (by omega)]
  rw [eM8, zNew22 (n := (t + 2)) (k := 1) (a := a) (by omega)]
  rw [eM7, zR22n (k := t) (a := a) (by omega)]
  rw [eM6, zNew22 (n := (t + 1)) (k := 1) (a := a) (by omega)]
  rw [eM5, show (zL M3 t 3 v4).2.2 = M3.2.2 from rfl]
  rw [gM3 a]
  rw [eM2, show (zI M1 t 1 (4 : Int32)).2.2 = M1.2.2 from rfl]
  rw [eM1, show (zI M t 0 (4 : Int32)).2.2 = M.2.2 from rfl]
set_option maxRecDepth 100000 in
theorem wd_364 : Cond.methodLink "SunnyPans$Law" 5 objectInit ∈ tbG := tw2 24 rfl rfl
theorem fq_Law_11 : zPutF "SunnyPans$Law" 11 3 44 0 := ⟨zc_3, ⟨RX3, TX3, 4, _, rfl, by decide, uw_3, wd_373, rfl, rfl, tyX3_ok 0 (by decide), fun _ => ⟨by rfl, by rfl⟩⟩, fun _ _ _ _ _ _ v hv => ⟨_, rfl, Nat.le_of_ble_eq_true rfl, by simp [zE, zrv, hv]⟩⟩
theorem fq_Law_15 : zPutF "SunnyPans$Law" 15 3 44 1 := ⟨zc_3, ⟨RX3, TX3, 4, _, rfl, by decide, uw_3, wd_374, rfl, rfl, tyX3_ok 1 (by decide), fun _ => ⟨by rfl, by rfl⟩⟩, fun _ _ _ _ _ _ v hv => ⟨_, rfl, Nat.le_of_ble_eq_true rfl, by simp [zE, zrv, hv]⟩⟩
theorem fq_Law_18 : zPutF "SunnyPans$Law" 18 3 44 2 := ⟨zc_3, ⟨RX3, TX3, 4, _, rfl, by decide, uw_3, wd_375, rfl, rfl, tyX3_ok 2 (by decide), fun _ => ⟨by rfl, by rfl⟩⟩, fun _ _ _ _ _ _ v hv => ⟨_, rfl, Nat.le_of_ble_eq_true rfl, by simp [zE, zrv, hv]⟩⟩
set_option maxRecDepth 100000 in
theorem wd_365 : Cond.methodLink "SunnyPans$Law" 21 yX3_reset ∈ tbG := tw2 25 rfl rfl
theorem cv_Law_21 : zCV "SunnyPans$Law" 21 "SunnyPans$Law" yX3_reset cX3_reset 1 none 0 := zCV_of wd_365 wd_366 wd_367 wd_109 wd_368 (by decide +kernel)
theorem d_X3_init_0 : decode cX3_init 0 = .ok (.aload_n 0, 1) := by decide +kernel
theorem d_X3_init_1 : decode cX3_init 1 = .ok (.invokespecial 5, 3) := by decide +kernel
theorem d_X3_init_4 : decode cX3_init 4 = .ok (.aload_n 0, 1) := by decide +kernel
theorem d_X3_init_5 : decode cX3_init 5 = .ok (.sipush 150, 3) := by decide +kernel
theorem d_X3_init_8 : decode cX3_init 8 = .ok (.newarray .int, 2) := by decide +kernel
theorem d_X3_init_10 : decode cX3_init 10 = .ok (.putfield 11, 3) := by decide +kernel
theorem d_X3_init_13 : decode cX3_init 13 = .ok (.aload_n 0, 1) := by decide +kernel
theorem d_X3_init_14 : decode cX3_init 14 = .ok (.sipush 150, 3) := by decide +kernel
theorem d_X3_init_17 : decode cX3_init 17 = .ok (.newarray .int, 2) := by decide +kernel
theorem d_X3_init_19 : decode cX3_init 19 = .ok (.putfield 15, 3) := by decide +kernel
theorem d_X3_init_22 : decode cX3_init 22 = .ok (.aload_n 0, 1) := by decide +kernel
theorem d_X3_init_23 : decode cX3_init 23 = .ok (.bipush 8, 2) := by decide +kernel
theorem d_X3_init_25 : decode cX3_init 25 = .ok (.newarray .int, 2) := by decide +kernel
theorem d_X3_init_27 : decode cX3_init 27 = .ok (.putfield 18, 3) := by decide +kernel
theorem d_X3_init_30 : decode cX3_init 30 = .ok (.aload_n 0, 1) := by decide +kernel
theorem d_X3_init_31 : decode cX3_init 31 = .ok (.invokevirtual 21, 3) := by decide +kernel
theorem d_X3_init_34 : decode cX3_init 34 = .ok (.return_, 1) := by decide +kernel
noncomputable def F_X3_init (M : zMem) (t : Nat) : Option zMem :=
  zl (zNew M (t + 1) 1) fun M1 =>
  zl (zR M1 t 0 (t + 1)) fun M2 =>
  zl (zNew M2 (t + 2) 1) fun M3 =>
  zl (zR M3 t 1 (t + 2)) fun M4 =>
  zl (zNew M4 (t + 3) 1) fun M5 =>
  zl (zR M5 t 2 (t + 3)) fun M6 =>
  zbv (F_X3_reset M6 t) fun M10 =>
  some M10
def rm_X3_init : Room := { frames := 4, cells := 3, slots := 308, locals := 121 }
set_option maxHeartbeats 16000000 in
set_option maxRecDepth 100000 in
theorem c_X3_init (l : Launch) {G : zG} {b0 t n : Nat} (hn : n = t + 1) {sh : Nat → Nat} (hs : ∀ j, j < 4 → sh (t + j) = shL_Law.getD j 0) {M M9 : zMem} (hF : F_X3_init M t = some M9) : zMC l yX3_init cX3_init 1 rm_X3_init 3 308 G b0 (zsh sh t 44) n M [.ref (zad b0 t)] sh (t + 4) M9 := by
  subst hn
  refine zMC_of (by decide +kernel) rfl (lv := [(0, .ref (zad b0 t))]) (Nat.le_of_ble_eq_true rfl) rfl (fun p e s m args below meth c A cx hr hin hsz hb => ?_)
  unfold F_X3_init at hF
  refine z_aload_n (zX_to hb cx) d_X3_init_0 0 rfl ?_
  refine z_objInit (zX_to hb cx) ⟨wd_364, wd_130, wd_131⟩ d_X3_init_1 ⟨Nat.le_of_ble_eq_true rfl, Nat.le_of_ble_eq_true rfl⟩ ?_
  refine z_aload_n (zX_to hb cx) d_X3_init_4 0 rfl ?_
  refine z_sipush (v := 150) (zX_to hb cx) d_X3_init_5 ks_150 ?_
  refine z_newArrI (len := 150) (zX_to hb cx) (by omega) (Or.inl (by omega)) ((zsh_old (by omega)).trans (hs 1 (by decide))) za_21 wd_170 (by decide) (by decide +kernel) (by decide) ⟨Nat.le_of_ble_eq_true rfl, Nat.le_of_ble_eq_true rfl⟩ d_X3_init_8 ?_
  refine z_nmE hF (fun M1 eM1 hF => ?_)
  refine z_putF (zX_to hb cx) hin (by omega) (zT_self (by show _ + 1 ≤ _; omega) (by omega)) fq_Law_11 d_X3_init_10 ?_
  refine z_nmE hF (fun M2 eM2 hF => ?_)
  refine z_aload_n (zX_to hb cx) d_X3_init_13 0 rfl ?_
  refine z_sipush (v := 150) (zX_to hb cx) d_X3_init_14 ks_150 ?_
  refine z_newArrI (len := 150) (zX_to hb cx) (by omega) (Or.inl (by omega)) ((zsh_old (by omega)).trans (hs 2 (by decide))) za_21 wd_170 (by decide) (by decide +kernel) (by decide) ⟨Nat.le_of_ble_eq_true rfl, Nat.le_of_ble_eq_true rfl⟩ d_X3_init_17 ?_
  refine z_nmE hF (fun M3 eM3 hF => ?_)
  refine z_putF (zX_to hb cx) hin (by omega) (zT_self (by show _ + 1 ≤ _; omega) (by omega)) fq_Law_15 d_X3_init_19 ?_
  refine z_nmE hF (fun M4 eM4 hF => ?_)
  refine z_aload_n (zX_to hb cx) d_X3_init_22 0 rfl ?_
  refine z_bipush (v := 8) (zX_to hb cx) d_X3_init_23 kb_8 ?_
  refine z_newArrI (len := 8) (zX_to hb cx) (by omega) (Or.inl (by omega)) ((zsh_old (by omega)).trans (hs 3 (by decide))) za_26 wd_170 (by decide) (by decide +kernel) (by decide) ⟨Nat.le_of_ble_eq_true rfl, Nat.le_of_ble_eq_true rfl⟩ d_X3_init_25 ?_
  refine z_nmE hF (fun M5 eM5 hF => ?_)
  refine z_putF (zX_to hb cx) hin (by omega) (zT_self (by show _ + 1 ≤ _; omega) (by omega)) fq_Law_18 d_X3_init_27 ?_
  refine z_nmE hF (fun M6 eM6 hF => ?_)
  have f7 : M6.2.2 t 0 = (t + 1) := by
    rw [eM6, zR22j (j := 2) (i := 0) (by decide)]
    rw [eM5, zNew22 (n := (t + 3)) (k := 1) (a := t) (by omega)]
    rw [eM4, zR22j (j := 1) (i := 0) (by decide)]
    rw [eM3, zNew22 (n := (t + 2)) (k := 1) (a := t) (by omega)]
    rw [eM2, zR22e]
  have f8 : M6.2.2 t 1 = (t + 2) := by
    rw [eM6, zR22j (j := 2) (i := 1) (by decide)]
    rw [eM5, zNew22 (n := (t + 3)) (k := 1) (a := t) (by omega)]
    rw [eM4, zR22e]
  have f9 : M6.2.2 t 2 = (t + 3) := by
    rw [eM6, zR22e]
  refine z_shape (zHP_sealE (by rw [show sh t = 4 from (hs 0 (by decide))]; simp [zE, zrv, f7, f8, f9])) ?_
  refine z_aload_n (zX_to hb cx) d_X3_init_30 0 rfl ?_
  obtain ⟨M10, hc, hF⟩ := zbv_inv hF
  have gM10 := f22_X3_reset hc
  refine z_callV (zX_to hb cx) (As := []) (rest := []) (cS_X3_reset l zadI M6 t ((⟨(hs 0 (by decide)), by omega, by show _ + 4 ≤ _; omega⟩ : zT sh _ _ 4)) ((⟨(hs 1 (by decide)), by omega, by show _ + 1 ≤ _; omega⟩ : zT sh _ _ 21)) hc) ((⟨(hs 0 (by decide)), by omega, by show _ + 4 ≤ _; omega⟩ : zT sh _ _ 4)) zo_4 cv_Law_21 ⟨rfl, rfl, Nat.le_of_ble_eq_true rfl, Nat.le_of_ble_eq_true rfl⟩ rfl rfl ⟨Nat.le_of_ble_eq_true rfl, Nat.le_of_ble_eq_true rfl⟩ (Nat.le_of_ble_eq_true rfl) d_X3_init_31 ?_
  cases hF
  exact z_vretC (zX_to hb cx) hr d_X3_init_34
theorem f22_X3_init {M M9 : zMem} {t : Nat} (hF : F_X3_init M t = some M9) : ∀ a, a < t → M9.2.2 a = M.2.2 a := by
  intro a ha
  unfold F_X3_init at hF
  obtain ⟨M1, eM1, hF⟩ := zl_inv hF
  obtain ⟨M2, eM2, hF⟩ := zl_inv hF
  obtain ⟨M3, eM3, hF⟩ := zl_inv hF
  obtain ⟨M4, eM4, hF⟩ := zl_inv hF
  obtain ⟨M5, eM5, hF⟩ := zl_inv hF
  obtain ⟨M6, eM6, hF⟩ := zl_inv hF
  obtain ⟨M10, hc, hF⟩ := zbv_inv hF
  have gM10 := f22_X3_reset hc
  clear hc
  cases hF
  rw [gM10 a (by omega)]
  rw [eM6, zR22n (k := t) (a := a) (by omega)]
  rw [eM5, zNew22 (n := (t + 3)) (k := 1) (a := a) (by omega)]
  rw [eM4, zR22n (k := t) (a := a) (by omega)]
  rw [eM3, zNew22 (n := (t + 2)) (k := 1) (a := a) (by omega)]
  rw [eM2, zR22n (k := t) (a := a) (by omega)]
  rw [eM1, zNew22 (n := (t + 1)) (k := 1) (a := a) (by omega)]
set_option maxRecDepth 100000 in
theorem wd_391 : Cond.methodLink "SunnyPans$Book" 3 objectInit ∈ tbG := tw2 51 rfl rfl
theorem fq_Book_9 : zPutF "SunnyPans$Book" 9 1 42 0 := ⟨zc_1, ⟨RX1, TX1, 4, _, rfl, by decide, uw_1, wd_392, rfl, rfl, tyX1_ok 0 (by decide), fun _ => ⟨by rfl, by rfl⟩⟩, fun _ _ _ _ _ _ v hv => ⟨_, rfl, Nat.le_of_ble_eq_true rfl, by simp [zE, zrv, hv]⟩⟩
theorem fq_Book_15 : zPutF "SunnyPans$Book" 15 1 42 1 := ⟨zc_1, ⟨RX1, TX1, 4, _, rfl, by decide, uw_1, wd_394, rfl, rfl, tyX1_ok 1 (by decide), fun _ => ⟨by rfl, by rfl⟩⟩, fun _ _ _ _ _ _ v hv => ⟨_, rfl, Nat.le_of_ble_eq_true rfl, by simp [zE, zrv, hv]⟩⟩
theorem d_X1_init_0 : decode cX1_init 0 = .ok (.aload_n 0, 1) := by decide +kernel
theorem d_X1_init_1 : decode cX1_init 1 = .ok (.invokespecial 3, 3) := by decide +kernel
theorem d_X1_init_4 : decode cX1_init 4 = .ok (.aload_n 0, 1) := by decide +kernel
theorem d_X1_init_5 : decode cX1_init 5 = .ok (.bipush 8, 2) := by decide +kernel
theorem d_X1_init_7 : decode cX1_init 7 = .ok (.newarray .int, 2) := by decide +kernel
theorem d_X1_init_9 : decode cX1_init 9 = .ok (.putfield 9, 3) := by decide +kernel
theorem d_X1_init_12 : decode cX1_init 12 = .ok (.aload_n 0, 1) := by decide +kernel
theorem d_X1_init_13 : decode cX1_init 13 = .ok (.bipush 8, 2) := by decide +kernel
theorem d_X1_init_15 : decode cX1_init 15 = .ok (.newarray .int, 2) := by decide +kernel
theorem d_X1_init_17 : decode cX1_init 17 = .ok (.putfield 15, 3) := by decide +kernel
theorem d_X1_init_20 : decode cX1_init 20 = .ok (.return_, 1) := by decide +kernel
noncomputable def F_X1_init (M : zMem) (t : Nat) : Option zMem :=
  zl (zNew M (t + 1) 1) fun M1 =>
  zl (zR M1 t 0 (t + 1)) fun M2 =>
  zl (zNew M2 (t + 2) 1) fun M3 =>
  zl (zR M3 t 1 (t + 2)) fun M4 =>
  some M4
def rm_X1_init : Room := { frames := 3, cells := 2, slots := 16, locals := 80 }
set_option maxHeartbeats 16000000 in
set_option maxRecDepth 100000 in
theorem c_X1_init (l : Launch) {G : zG} {b0 t n : Nat} (hn : n = t + 1) {sh : Nat → Nat} (hs : ∀ j, j < 3 → sh (t + j) = shL_Book.getD j 0) {M M9 : zMem} (hF : F_X1_init M t = some M9) : zMC l yX1_init cX1_init 1 rm_X1_init 2 16 G b0 (zsh sh t 42) n M [.ref (zad b0 t)] sh (t + 3) M9 := by
  subst hn
  refine zMC_of (by decide +kernel) rfl (lv := [(0, .ref (zad b0 t))]) (Nat.le_of_ble_eq_true rfl) rfl (fun p e s m args below meth c A cx hr hin hsz hb => ?_)
  unfold F_X1_init at hF
  refine z_aload_n (zX_to hb cx) d_X1_init_0 0 rfl ?_
  refine z_objInit (zX_to hb cx) ⟨wd_391, wd_130, wd_131⟩ d_X1_init_1 ⟨Nat.le_of_ble_eq_true rfl, Nat.le_of_ble_eq_true rfl⟩ ?_
  refine z_aload_n (zX_to hb cx) d_X1_init_4 0 rfl ?_
  refine z_bipush (v := 8) (zX_to hb cx) d_X1_init_5 kb_8 ?_
  refine z_newArrI (len := 8) (zX_to hb cx) (by omega) (Or.inl (by omega)) ((zsh_old (by omega)).trans (hs 1 (by decide))) za_26 wd_170 (by decide) (by decide +kernel) (by decide) ⟨Nat.le_of_ble_eq_true rfl, Nat.le_of_ble_eq_true rfl⟩ d_X1_init_7 ?_
  refine z_nmE hF (fun M1 eM1 hF => ?_)
  refine z_putF (zX_to hb cx) hin (by omega) (zT_self (by show _ + 1 ≤ _; omega) (by omega)) fq_Book_9 d_X1_init_9 ?_
  refine z_nmE hF (fun M2 eM2 hF => ?_)
  refine z_aload_n (zX_to hb cx) d_X1_init_12 0 rfl ?_
  refine z_bipush (v := 8) (zX_to hb cx) d_X1_init_13 kb_8 ?_
  refine z_newArrI (len := 8) (zX_to hb cx) (by omega) (Or.inl (by omega)) ((zsh_old (by omega)).trans (hs 2 (by decide))) za_26 wd_170 (by decide) (by decide +kernel) (by decide) ⟨Nat.le_of_ble_eq_true rfl, Nat.le_of_ble_eq_true rfl⟩ d_X1_init_15 ?_
  refine z_nmE hF (fun M3 eM3 hF => ?_)
  refine z_putF (zX_to hb cx) hin (by omega) (zT_self (by show _ + 1 ≤ _; omega) (by omega)) fq_Book_15 d_X1_init_17 ?_
  refine z_nmE hF (fun M4 eM4 hF => ?_)
  have f5 : M4.2.2 t 0 = (t + 1) := by
    rw [eM4, zR22j (j := 1) (i := 0) (by decide)]
    rw [eM3, zNew22 (n := (t + 2)) (k := 1) (a := t) (by omega)]
    rw [eM2, zR22e]
  have f6 : M4.2.2 t 1 = (t + 2) := by
    rw [eM4, zR22e]
  refine z_shape (zHP_sealE (by rw [show sh t = 2 from (hs 0 (by decide))]; simp [zE, zrv, f5, f6])) ?_
  cases hF
  exact z_vretC (zX_to hb cx) hr d_X1_init_20
theorem f22_X1_init {M M9 : zMem} {t : Nat} (hF : F_X1_init M t = some M9) : ∀ a, a < t → M9.2.2 a = M.2.2 a := by
  intro a ha
  unfold F_X1_init at hF
  obtain ⟨M1, eM1, hF⟩ := zl_inv hF
  obtain ⟨M2, eM2, hF⟩ := zl_inv hF
  obtain ⟨M3, eM3, hF⟩ := zl_inv hF
  obtain ⟨M4, eM4, hF⟩ := zl_inv hF
  cases hF
  rw [eM4, zR22n (k := t) (a := a) (by omega)]
  rw [eM3, zNew22 (n := (t + 2)) (k := 1) (a := a) (by omega)]
  rw [eM2, zR22n (k := t) (a := a) (by omega)]
  rw [eM1, zNew22 (n := (t + 1)) (k := 1) (a := a) (by omega)]
set_option maxRecDepth 100000 in
theorem wd_129 : Cond.methodLink "SunnyPans" 1 objectInit ∈ tbG := tw1 29 rfl rfl
set_option maxRecDepth 100000 in
theorem wd_132 : Cond.classLink "SunnyPans" 7 "SunnyPans$Text" ∈ tbG := tw1 32 rfl rfl
set_option maxRecDepth 100000 in
theorem wd_133 : Cond.instantiable "SunnyPans$Text" 8 ∈ tbG := tw1 33 rfl rfl
set_option maxRecDepth 100000 in
theorem wd_136 : Cond.code yX8_init cX8_init 1 none ∈ tbG := tw1 36 rfl rfl
set_option maxRecDepth 100000 in
theorem wd_134 : Cond.methodLinkNest "SunnyPans" 9 yX8_init "SunnyPans" ∈ tbN := twn1 34 rfl rfl
theorem cn_SunnyPans_9 : zCN "SunnyPans" 9 yX8_init cX8_init 1 none 0 := ⟨wd_134, wd_102, wd_136, by decide +kernel⟩
set_option maxRecDepth 100000 in
theorem wd_135 : Cond.instanceMethod yX8_init ∈ tbG := tw1 35 rfl rfl
theorem fq_SunnyPans_10 : zPutF "SunnyPans" 10 9 50 0 := ⟨zc_9, ⟨RX9, TX9, 19, _, rfl, by decide, uw_9, wd_409, rfl, rfl, tyX9_ok 0 (by decide), fun _ => ⟨by rfl, by rfl⟩⟩, fun _ _ _ _ _ _ v hv => ⟨_, rfl, Nat.le_of_ble_eq_true rfl, by simp [zE, zrv, hv]⟩⟩
set_option maxRecDepth 100000 in
theorem wd_171 : Cond.classLink "SunnyPans" 16 "SunnyPans$Stand" ∈ tbG := tw1 71 rfl rfl
set_option maxRecDepth 100000 in
theorem wd_172 : Cond.instantiable "SunnyPans$Stand" 3 ∈ tbG := tw1 72 rfl rfl
set_option maxRecDepth 100000 in
theorem wd_175 : Cond.code yX7_init cX7_init 2 none ∈ tbG := tw1 75 rfl rfl
set_option maxRecDepth 100000 in
theorem wd_173 : Cond.methodLink "SunnyPans" 18 yX7_init ∈ tbG := tw1 73 rfl rfl
set_option maxRecDepth 100000 in
theorem wd_174 : Cond.instanceMethod yX7_init ∈ tbG := tw1 74 rfl rfl
theorem ci_SunnyPans_18 : zCJ "SunnyPans" 18 yX7_init cX7_init 2 := ⟨wd_173, wd_103, wd_175, wd_174, rfl, by decide +kernel⟩
theorem fq_SunnyPans_19 : zPutF "SunnyPans" 19 9 50 1 := ⟨zc_9, ⟨RX9, TX9, 19, _, rfl, by decide, uw_9, wd_410, rfl, rfl, tyX9_ok 1 (by decide), fun _ => ⟨by rfl, by rfl⟩⟩, fun _ _ _ _ _ _ v hv => ⟨_, rfl, Nat.le_of_ble_eq_true rfl, by simp [zE, zrv, hv]⟩⟩
theorem fq_SunnyPans_23 : zPutF "SunnyPans" 23 9 50 2 := ⟨zc_9, ⟨RX9, TX9, 19, _, rfl, by decide, uw_9, wd_411, rfl, rfl, tyX9_ok 2 (by decide), fun _ => ⟨by rfl, by rfl⟩⟩, fun _ _ _ _ _ _ v hv => ⟨_, rfl, Nat.le_of_ble_eq_true rfl, by simp [zE, zrv, hv]⟩⟩
set_option maxRecDepth 100000 in
theorem wd_227 : Cond.classLink "SunnyPans" 27 "SunnyPans$Job" ∈ tbG := tw1 127 rfl rfl
set_option maxRecDepth 100000 in
theorem wd_228 : Cond.instantiable "SunnyPans$Job" 9 ∈ tbG := tw1 128 rfl rfl
set_option maxRecDepth 100000 in
theorem wd_231 : Cond.code yX2_init cX2_init 1 none ∈ tbG := tw1 131 rfl rfl
set_option maxRecDepth 100000 in
theorem wd_229 : Cond.methodLinkNest "SunnyPans" 29 yX2_init "SunnyPans" ∈ tbN := twn1 129 rfl rfl
theorem cn_SunnyPans_29 : zCN "SunnyPans" 29 yX2_init cX2_init 1 none 0 := ⟨wd_229, wd_105, wd_231, by decide +kernel⟩
set_option maxRecDepth 100000 in
theorem wd_230 : Cond.instanceMethod yX2_init ∈ tbG := tw1 130 rfl rfl
theorem fq_SunnyPans_30 : zPutF "SunnyPans" 30 9 50 3 := ⟨zc_9, ⟨RX9, TX9, 19, _, rfl, by decide, uw_9, wd_412, rfl, rfl, tyX9_ok 3 (by decide), fun _ => ⟨by rfl, by rfl⟩⟩, fun _ _ _ _ _ _ v hv => ⟨_, rfl, Nat.le_of_ble_eq_true rfl, by simp [zE, zrv, hv]⟩⟩
set_option maxRecDepth 100000 in
theorem wd_265 : Cond.classLink "SunnyPans" 34 "SunnyPans$Pans" ∈ tbG := tw1 165 rfl rfl
set_option maxRecDepth 100000 in
theorem wd_266 : Cond.methodLinkNest "SunnyPans" 36 yX4_init "SunnyPans" ∈ tbN := twn1 166 rfl rfl
theorem cn_SunnyPans_36 : zCN "SunnyPans" 36 yX4_init cX4_init 1 none 0 := ⟨wd_266, wd_104, wd_181, by decide +kernel⟩
theorem fq_SunnyPans_37 : zPutF "SunnyPans" 37 9 50 4 := ⟨zc_9, ⟨RX9, TX9, 19, _, rfl, by decide, uw_9, wd_413, rfl, rfl, tyX9_ok 4 (by decide), fun _ => ⟨by rfl, by rfl⟩⟩, fun _ _ _ _ _ _ v hv => ⟨_, rfl, Nat.le_of_ble_eq_true rfl, by simp [zE, zrv, hv]⟩⟩
set_option maxRecDepth 100000 in
theorem wd_267 : Cond.classLink "SunnyPans" 41 "SunnyPans$Shadows" ∈ tbG := tw1 167 rfl rfl
set_option maxRecDepth 100000 in
theorem wd_268 : Cond.instantiable "SunnyPans$Shadows" 3 ∈ tbG := tw1 168 rfl rfl
set_option maxRecDepth 100000 in
theorem wd_271 : Cond.code yX6_init cX6_init 1 none ∈ tbG := tw1 171 rfl rfl
set_option maxRecDepth 100000 in
theorem wd_269 : Cond.methodLinkNest "SunnyPans" 43 yX6_init "SunnyPans" ∈ tbN := twn1 169 rfl rfl
theorem cn_SunnyPans_43 : zCN "SunnyPans" 43 yX6_init cX6_init 1 none 0 := ⟨wd_269, wd_106, wd_271, by decide +kernel⟩
set_option maxRecDepth 100000 in
theorem wd_270 : Cond.instanceMethod yX6_init ∈ tbG := tw1 170 rfl rfl
theorem fq_SunnyPans_44 : zPutF "SunnyPans" 44 9 50 5 := ⟨zc_9, ⟨RX9, TX9, 19, _, rfl, by decide, uw_9, wd_414, rfl, rfl, tyX9_ok 5 (by decide), fun _ => ⟨by rfl, by rfl⟩⟩, fun _ _ _ _ _ _ v hv => ⟨_, rfl, Nat.le_of_ble_eq_true rfl, by simp [zE, zrv, hv]⟩⟩
set_option maxRecDepth 100000 in
theorem wd_285 : Cond.classLink "SunnyPans" 48 "SunnyPans$Best" ∈ tbG := tw1 185 rfl rfl
set_option maxRecDepth 100000 in
theorem wd_286 : Cond.instantiable "SunnyPans$Best" 2 ∈ tbG := tw1 186 rfl rfl
set_option maxRecDepth 100000 in
theorem wd_289 : Cond.code yX0_init cX0_init 1 none ∈ tbG := tw1 189 rfl rfl
set_option maxRecDepth 100000 in
theorem wd_287 : Cond.methodLinkNest "SunnyPans" 50 yX0_init "SunnyPans" ∈ tbN := twn1 187 rfl rfl
theorem cn_SunnyPans_50 : zCN "SunnyPans" 50 yX0_init cX0_init 1 none 0 := ⟨wd_287, wd_107, wd_289, by decide +kernel⟩
set_option maxRecDepth 100000 in
theorem wd_288 : Cond.instanceMethod yX0_init ∈ tbG := tw1 188 rfl rfl
theorem fq_SunnyPans_51 : zPutF "SunnyPans" 51 9 50 6 := ⟨zc_9, ⟨RX9, TX9, 19, _, rfl, by decide, uw_9, wd_415, rfl, rfl, tyX9_ok 6 (by decide), fun _ => ⟨by rfl, by rfl⟩⟩, fun _ _ _ _ _ _ v hv => ⟨_, rfl, Nat.le_of_ble_eq_true rfl, by simp [zE, zrv, hv]⟩⟩
theorem fq_SunnyPans_55 : zPutF "SunnyPans" 55 9 50 7 := ⟨zc_9, ⟨RX9, TX9, 19, _, rfl, by decide, uw_9, wd_416, rfl, rfl, tyX9_ok 7 (by decide), fun _ => ⟨by rfl, by rfl⟩⟩, fun _ _ _ _ _ _ v hv => ⟨_, rfl, Nat.le_of_ble_eq_true rfl, by simp [zE, zrv, hv]⟩⟩
set_option maxRecDepth 100000 in
theorem wd_300 : Cond.classLink "SunnyPans" 59 "SunnyPans$Plan" ∈ tbG := tw1 200 rfl rfl
set_option maxRecDepth 100000 in
theorem wd_301 : Cond.instantiable "SunnyPans$Plan" 9 ∈ tbG := tw1 201 rfl rfl
set_option maxRecDepth 100000 in
theorem wd_304 : Cond.code yX5_init cX5_init 1 none ∈ tbG := tw1 204 rfl rfl
set_option maxRecDepth 100000 in
theorem wd_302 : Cond.methodLinkNest "SunnyPans" 61 yX5_init "SunnyPans" ∈ tbN := twn1 202 rfl rfl
theorem cn_SunnyPans_61 : zCN "SunnyPans" 61 yX5_init cX5_init 1 none 0 := ⟨wd_302, wd_108, wd_304, by decide +kernel⟩
set_option maxRecDepth 100000 in
theorem wd_303 : Cond.instanceMethod yX5_init ∈ tbG := tw1 203 rfl rfl
theorem fq_SunnyPans_62 : zPutV "SunnyPans" 62 9 50 8 := ⟨zc_9, ⟨RX9, TX9, 19, "SunnyPans$Plan", rfl, by decide, uw_9, wd_417, rfl, by decide +kernel⟩, fun _ _ _ _ _ _ v hv => ⟨_, rfl, Nat.le_of_ble_eq_true rfl, by simp [zE, zrv, hv]⟩⟩
theorem fq_SunnyPans_66 : zPutV "SunnyPans" 66 9 50 9 := ⟨zc_9, ⟨RX9, TX9, 19, "SunnyPans$Plan", rfl, by decide, uw_9, wd_418, rfl, by decide +kernel⟩, fun _ _ _ _ _ _ v hv => ⟨_, rfl, Nat.le_of_ble_eq_true rfl, by simp [zE, zrv, hv]⟩⟩
set_option maxRecDepth 100000 in
theorem wd_359 : Cond.classLink "SunnyPans" 69 "SunnyPans$Law" ∈ tbG := tw2 19 rfl rfl
set_option maxRecDepth 100000 in
theorem wd_360 : Cond.instantiable "SunnyPans$Law" 4 ∈ tbG := tw2 20 rfl rfl
set_option maxRecDepth 100000 in
theorem wd_363 : Cond.code yX3_init cX3_init 1 none ∈ tbG := tw2 23 rfl rfl
set_option maxRecDepth 100000 in
theorem wd_361 : Cond.methodLink "SunnyPans" 71 yX3_init ∈ tbG := tw2 21 rfl rfl
set_option maxRecDepth 100000 in
theorem wd_362 : Cond.instanceMethod yX3_init ∈ tbG := tw2 22 rfl rfl
theorem ci_SunnyPans_71 : zCJ "SunnyPans" 71 yX3_init cX3_init 1 := ⟨wd_361, wd_109, wd_363, wd_362, rfl, by decide +kernel⟩
theorem fq_SunnyPans_72 : zPutV "SunnyPans" 72 9 50 10 := ⟨zc_9, ⟨RX9, TX9, 19, "SunnyPans$Law", rfl, by decide, uw_9, wd_419, rfl, by decide +kernel⟩, fun _ _ _ _ _ _ v hv => ⟨_, rfl, Nat.le_of_ble_eq_true rfl, by simp [zE, zrv, hv]⟩⟩
theorem fq_SunnyPans_76 : zPutV "SunnyPans" 76 9 50 11 := ⟨zc_9, ⟨RX9, TX9, 19, "SunnyPans$Law", rfl, by decide, uw_9, wd_420, rfl, by decide +kernel⟩, fun _ _ _ _ _ _ v hv => ⟨_, rfl, Nat.le_of_ble_eq_true rfl, by simp [zE, zrv, hv]⟩⟩
set_option maxRecDepth 100000 in
theorem wd_386 : Cond.classLink "SunnyPans" 79 "SunnyPans$Book" ∈ tbG := tw2 46 rfl rfl
set_option maxRecDepth 100000 in
theorem wd_387 : Cond.instantiable "SunnyPans$Book" 4 ∈ tbG := tw2 47 rfl rfl
set_option maxRecDepth 100000 in
theorem wd_390 : Cond.code yX1_init cX1_init 1 none ∈ tbG := tw2 50 rfl rfl
set_option maxRecDepth 100000 in
theorem wd_388 : Cond.methodLinkNest "SunnyPans" 81 yX1_init "SunnyPans" ∈ tbN := twn2 48 rfl rfl
theorem cn_SunnyPans_81 : zCN "SunnyPans" 81 yX1_init cX1_init 1 none 0 := ⟨wd_388, wd_110, wd_390, by decide +kernel⟩
set_option maxRecDepth 100000 in
theorem wd_389 : Cond.instanceMethod yX1_init ∈ tbG := tw2 49 rfl rfl
theorem fq_SunnyPans_82 : zPutV "SunnyPans" 82 9 50 12 := ⟨zc_9, ⟨RX9, TX9, 19, "SunnyPans$Book", rfl, by decide, uw_9, wd_421, rfl, by decide +kernel⟩, fun _ _ _ _ _ _ v hv => ⟨_, rfl, Nat.le_of_ble_eq_true rfl, by simp [zE, zrv, hv]⟩⟩
theorem fq_SunnyPans_86 : zPutV "SunnyPans" 86 9 50 13 := ⟨zc_9, ⟨RX9, TX9, 19, "SunnyPans$Book", rfl, by decide, uw_9, wd_422, rfl, by decide +kernel⟩, fun _ _ _ _ _ _ v hv => ⟨_, rfl, Nat.le_of_ble_eq_true rfl, by simp [zE, zrv, hv]⟩⟩
theorem d_X9_init_0 : decode cX9_init 0 = .ok (.aload_n 0, 1) := by decide +kernel
theorem d_X9_init_1 : decode cX9_init 1 = .ok (.invokespecial 1, 3) := by decide +kernel
theorem d_X9_init_4 : decode cX9_init 4 = .ok (.aload_n 0, 1) := by decide +kernel
theorem d_X9_init_5 : decode cX9_init 5 = .ok (.new 7, 3) := by decide +kernel
theorem d_X9_init_8 : decode cX9_init 8 = .ok (.dup, 1) := by decide +kernel
theorem d_X9_init_9 : decode cX9_init 9 = .ok (.invokespecial 9, 3) := by decide +kernel
theorem d_X9_init_12 : decode cX9_init 12 = .ok (.putfield 10, 3) := by decide +kernel
theorem d_X9_init_15 : decode cX9_init 15 = .ok (.aload_n 0, 1) := by decide +kernel
theorem d_X9_init_16 : decode cX9_init 16 = .ok (.new 16, 3) := by decide +kernel
theorem d_X9_init_19 : decode cX9_init 19 = .ok (.dup, 1) := by decide +kernel
theorem d_X9_init_20 : decode cX9_init 20 = .ok (.invokespecial 18, 3) := by decide +kernel
theorem d_X9_init_23 : decode cX9_init 23 = .ok (.putfield 19, 3) := by decide +kernel
theorem d_X9_init_26 : decode cX9_init 26 = .ok (.aload_n 0, 1) := by decide +kernel
theorem d_X9_init_27 : decode cX9_init 27 = .ok (.iconst 3, 1) := by decide +kernel
theorem d_X9_init_28 : decode cX9_init 28 = .ok (.anewarray 16, 3) := by decide +kernel
theorem d_X9_init_31 : decode cX9_init 31 = .ok (.putfield 23, 3) := by decide +kernel
theorem d_X9_init_34 : decode cX9_init 34 = .ok (.aload_n 0, 1) := by decide +kernel
theorem d_X9_init_35 : decode cX9_init 35 = .ok (.new 27, 3) := by decide +kernel
theorem d_X9_init_38 : decode cX9_init 38 = .ok (.dup, 1) := by decide +kernel
theorem d_X9_init_39 : decode cX9_init 39 = .ok (.invokespecial 29, 3) := by decide +kernel
theorem d_X9_init_42 : decode cX9_init 42 = .ok (.putfield 30, 3) := by decide +kernel
theorem d_X9_init_45 : decode cX9_init 45 = .ok (.aload_n 0, 1) := by decide +kernel
theorem d_X9_init_46 : decode cX9_init 46 = .ok (.new 34, 3) := by decide +kernel
theorem d_X9_init_49 : decode cX9_init 49 = .ok (.dup, 1) := by decide +kernel
theorem d_X9_init_50 : decode cX9_init 50 = .ok (.invokespecial 36, 3) := by decide +kernel
theorem d_X9_init_53 : decode cX9_init 53 = .ok (.putfield 37, 3) := by decide +kernel
theorem d_X9_init_56 : decode cX9_init 56 = .ok (.aload_n 0, 1) := by decide +kernel
theorem d_X9_init_57 : decode cX9_init 57 = .ok (.new 41, 3) := by decide +kernel
theorem d_X9_init_60 : decode cX9_init 60 = .ok (.dup, 1) := by decide +kernel
theorem d_X9_init_61 : decode cX9_init 61 = .ok (.invokespecial 43, 3) := by decide +kernel
theorem d_X9_init_64 : decode cX9_init 64 = .ok (.putfield 44, 3) := by decide +kernel
theorem d_X9_init_67 : decode cX9_init 67 = .ok (.aload_n 0, 1) := by decide +kernel
theorem d_X9_init_68 : decode cX9_init 68 = .ok (.new 48, 3) := by decide +kernel
theorem d_X9_init_71 : decode cX9_init 71 = .ok (.dup, 1) := by decide +kernel
theorem d_X9_init_72 : decode cX9_init 72 = .ok (.invokespecial 50, 3) := by decide +kernel
theorem d_X9_init_75 : decode cX9_init 75 = .ok (.putfield 51, 3) := by decide +kernel
theorem d_X9_init_78 : decode cX9_init 78 = .ok (.aload_n 0, 1) := by decide +kernel
theorem d_X9_init_79 : decode cX9_init 79 = .ok (.bipush 64, 2) := by decide +kernel
theorem d_X9_init_81 : decode cX9_init 81 = .ok (.newarray .int, 2) := by decide +kernel
theorem d_X9_init_83 : decode cX9_init 83 = .ok (.putfield 55, 3) := by decide +kernel
theorem d_X9_init_86 : decode cX9_init 86 = .ok (.aload_n 0, 1) := by decide +kernel
theorem d_X9_init_87 : decode cX9_init 87 = .ok (.new 59, 3) := by decide +kernel
theorem d_X9_init_90 : decode cX9_init 90 = .ok (.dup, 1) := by decide +kernel
theorem d_X9_init_91 : decode cX9_init 91 = .ok (.invokespecial 61, 3) := by decide +kernel
theorem d_X9_init_94 : decode cX9_init 94 = .ok (.putfield 62, 3) := by decide +kernel
theorem d_X9_init_97 : decode cX9_init 97 = .ok (.aload_n 0, 1) := by decide +kernel
theorem d_X9_init_98 : decode cX9_init 98 = .ok (.new 59, 3) := by decide +kernel
theorem d_X9_init_101 : decode cX9_init 101 = .ok (.dup, 1) := by decide +kernel
theorem d_X9_init_102 : decode cX9_init 102 = .ok (.invokespecial 61, 3) := by decide +kernel
theorem d_X9_init_105 : decode cX9_init 105 = .ok (.putfield 66, 3) := by decide +kernel
theorem d_X9_init_108 : decode cX9_init 108 = .ok (.aload_n 0, 1) := by decide +kernel
theorem d_X9_init_109 : decode cX9_init 109 = .ok (.new 69, 3) := by decide +kernel
theorem d_X9_init_112 : decode cX9_init 112 = .ok (.dup, 1) := by decide +kernel
theorem d_X9_init_113 : decode cX9_init 113 = .ok (.invokespecial 71, 3) := by decide +kernel
theorem d_X9_init_116 : decode cX9_init 116 = .ok (.putfield 72, 3) := by decide +kernel
theorem d_X9_init_119 : decode cX9_init 119 = .ok (.aload_n 0, 1) := by decide +kernel
theorem d_X9_init_120 : decode cX9_init 120 = .ok (.new 69, 3) := by decide +kernel
theorem d_X9_init_123 : decode cX9_init 123 = .ok (.dup, 1) := by decide +kernel
theorem d_X9_init_124 : decode cX9_init 124 = .ok (.invokespecial 71, 3) := by decide +kernel
theorem d_X9_init_127 : decode cX9_init 127 = .ok (.putfield 76, 3) := by decide +kernel
theorem d_X9_init_130 : decode cX9_init 130 = .ok (.aload_n 0, 1) := by decide +kernel
theorem d_X9_init_131 : decode cX9_init 131 = .ok (.new 79, 3) := by decide +kernel
theorem d_X9_init_134 : decode cX9_init 134 = .ok (.dup, 1) := by decide +kernel
theorem d_X9_init_135 : decode cX9_init 135 = .ok (.invokespecial 81, 3) := by decide +kernel
theorem d_X9_init_138 : decode cX9_init 138 = .ok (.putfield 82, 3) := by decide +kernel
theorem d_X9_init_141 : decode cX9_init 141 = .ok (.aload_n 0, 1) := by decide +kernel
theorem d_X9_init_142 : decode cX9_init 142 = .ok (.new 79, 3) := by decide +kernel
theorem d_X9_init_145 : decode cX9_init 145 = .ok (.dup, 1) := by decide +kernel
theorem d_X9_init_146 : decode cX9_init 146 = .ok (.invokespecial 81, 3) := by decide +kernel
theorem d_X9_init_149 : decode cX9_init 149 = .ok (.putfield 86, 3) := by decide +kernel
theorem d_X9_init_152 : decode cX9_init 152 = .ok (.iconst 0, 1) := by decide +kernel
theorem d_X9_init_153 : decode cX9_init 153 = .ok (.istore_n 1, 1) := by decide +kernel
theorem d_X9_init_154 : decode cX9_init 154 = .ok (.iload_n 1, 1) := by decide +kernel
theorem d_X9_init_155 : decode cX9_init 155 = .ok (.iconst 3, 1) := by decide +kernel
theorem d_X9_init_156 : decode cX9_init 156 = .ok (.if_icmp .ge 22, 3) := by decide +kernel
theorem d_X9_init_159 : decode cX9_init 159 = .ok (.aload_n 0, 1) := by decide +kernel
theorem d_X9_init_160 : decode cX9_init 160 = .ok (.getfield 23, 3) := by decide +kernel
theorem d_X9_init_163 : decode cX9_init 163 = .ok (.iload_n 1, 1) := by decide +kernel
theorem d_X9_init_164 : decode cX9_init 164 = .ok (.new 16, 3) := by decide +kernel
theorem d_X9_init_167 : decode cX9_init 167 = .ok (.dup, 1) := by decide +kernel
theorem d_X9_init_168 : decode cX9_init 168 = .ok (.invokespecial 18, 3) := by decide +kernel
theorem d_X9_init_171 : decode cX9_init 171 = .ok (.aastore, 1) := by decide +kernel
theorem d_X9_init_172 : decode cX9_init 172 = .ok (.iinc 1 1, 3) := by decide +kernel
theorem d_X9_init_175 : decode cX9_init 175 = .ok (.goto (-21), 3) := by decide +kernel
theorem d_X9_init_178 : decode cX9_init 178 = .ok (.return_, 1) := by decide +kernel
noncomputable def F_X9_init (M : zMem) : Option zMem :=
  zl (zNew M 1 1) fun M1 =>
  zbv (F_X8_init M1 1) fun M2 =>
  zl (zR M2 0 0 1) fun M3 =>
  zl (zNew M3 3 1) fun M4 =>
  zbv (F_X7_init M4 3) fun M5 =>
  zl (zR M5 0 1 3) fun M6 =>
  zl (zNew M6 90 1) fun M7 =>
  zl (zR M7 0 2 90) fun M8 =>
  zl (zNew M8 91 1) fun M9 =>
  zbv (F_X2_init M9 91) fun M10 =>
  zl (zR M10 0 3 91) fun M11 =>
  zl (zNew M11 99 1) fun M12 =>
  zbv (F_X4_init M12 99) fun M13 =>
  zl (zR M13 0 4 99) fun M14 =>
  zl (zNew M14 104 1) fun M15 =>
  zbv (F_X6_init M15 104) fun M16 =>
  zl (zR M16 0 5 104) fun M17 =>
  zl (zNew M17 172 1) fun M18 =>
  zbv (F_X0_init M18 172) fun M19 =>
  zl (zR M19 0 6 172) fun M20 =>
  zl (zNew M20 173 1) fun M21 =>
  zl (zR M21 0 7 173) fun M22 =>
  zl (zNew M22 174 1) fun M23 =>
  zbv (F_X5_init M23 174) fun M24 =>
  zl (zR M24 0 8 174) fun M25 =>
  zl (zNew M25 180 1) fun M26 =>
  zbv (F_X5_init M26 180) fun M27 =>
  zl (zR M27 0 9 180) fun M28 =>
  zl (zNew M28 186 1) fun M29 =>
  zbv (F_X3_init M29 186) fun M30 =>
  zl (zR M30 0 10 186) fun M31 =>
  zl (zNew M31 190 1) fun M32 =>
  zbv (F_X3_init M32 190) fun M33 =>
  zl (zR M33 0 11 190) fun M34 =>
  zl (zNew M34 194 1) fun M35 =>
  zbv (F_X1_init M35 194) fun M36 =>
  zl (zR M36 0 12 194) fun M37 =>
  zl (zNew M37 197 1) fun M38 =>
  zbv (F_X1_init M38 197) fun M39 =>
  zl (zR M39 0 13 197) fun M40 =>
  zl (zNew M40 200 1) fun M55 =>
  zbv (F_X7_init M55 200) fun M56 =>
  zl (zR M56 90 0 200) fun M57 =>
  zl (zNew M57 287 1) fun M58 =>
  zbv (F_X7_init M58 287) fun M59 =>
  zl (zR M59 90 1 287) fun M60 =>
  zl (zNew M60 374 1) fun M61 =>
  zbv (F_X7_init M61 374) fun M62 =>
  zl (zR M62 90 2 374) fun M63 =>
  some M63
def rm_X9_init : Room := { frames := 5, cells := 460, slots := 17976, locals := 146 }
set_option maxHeartbeats 16000000 in
set_option maxRecDepth 100000 in
theorem c_X9_init (l : Launch) {G : zG} {b0 n : Nat} (hn : n = 0 + 1) {M M9 : zMem} (hF : F_X9_init M = some M9) : zMC l yX9_init cX9_init 2 rm_X9_init 460 17976 G b0 (zsh shX 0 50) n M [.ref (zad b0 0)] shX (0 + 461) M9 := by
  have hs : ∀ j, j < 461 → shX j = shL_SunnyPans.getD j 0 := fun _ _ => rfl
  subst hn
  refine zMC_of (by decide +kernel) rfl (lv := [(0, .ref (zad b0 0))]) (Nat.le_of_ble_eq_true rfl) rfl (fun p e s m args below meth c A cx hr hin hsz hb => ?_)
  unfold F_X9_init at hF
  refine z_aload_n (zX_to hb cx) d_X9_init_0 0 rfl ?_
  refine z_objInit (zX_to hb cx) ⟨wd_129, wd_130, wd_131⟩ d_X9_init_1 ⟨Nat.le_of_ble_eq_true rfl, Nat.le_of_ble_eq_true rfl⟩ ?_
  refine z_aload_n (zX_to hb cx) d_X9_init_4 0 rfl ?_
  refine z_newObj (ci := 8) (cd := 49) (zX_to hb cx) (by omega) (Or.inl (by omega)) rfl tyX8 tyX8_ok uw_8 wd_132 wd_133 wd_102 (fs := [.null, .int 0, .int 0, .int 0, .int 0, .int 0, .int 0, .int 0]) (by intro j hj; match j, hj with | 0, _ => rfl | 1, _ => rfl | 2, _ => rfl | 3, _ => rfl | 4, _ => rfl | 5, _ => rfl | 6, _ => rfl | 7, _ => rfl | k + 8, h => exact absurd h (by show ¬ (k + 8 < 8); omega)) rfl ⟨Nat.le_of_ble_eq_true rfl, Nat.le_of_ble_eq_true rfl⟩ d_X9_init_5 ?_
  refine z_nmE hF (fun M1 eM1 hF => ?_)
  refine z_dup (zX_to hb cx) d_X9_init_8 rfl ?_
  have hsc1 : ∀ j, j < 2 → shL_SunnyPans.getD (1 + j) 0 = shL_Text.getD j 0 := by decide +kernel
  obtain ⟨M2, hc, hF⟩ := zbv_inv hF
  have gM2 := f22_X8_init hc
  refine z_callCN (zX_to hb cx) (by omega) (Or.inl (by omega)) (c_X8_init l (by omega) (fun j hj => by
    have h9 := hs (1 + j) (by omega)
    rw [hsc1 j hj] at h9
    refine (zsh_old (by omega)).trans ?_
    exact (congrArg shX (by omega)).trans h9) hc) cn_SunnyPans_9 rfl wd_135 ⟨rfl, rfl, Nat.le_of_ble_eq_true rfl, Nat.le_of_ble_eq_true rfl⟩ ⟨Nat.le_of_ble_eq_true rfl, Nat.le_of_ble_eq_true rfl⟩ (Nat.le_of_ble_eq_true rfl) d_X9_init_9 ?_
  refine z_putF (zX_to hb cx) hin (by omega) (zT_self (by show _ + 1 ≤ _; omega) (by omega)) fq_SunnyPans_10 d_X9_init_12 ?_
  refine z_nmE hF (fun M3 eM3 hF => ?_)
  refine z_aload_n (zX_to hb cx) d_X9_init_15 0 rfl ?_
  refine z_newObj (ci := 7) (cd := 48) (zX_to hb cx) (by omega) (Or.inl (by omega)) rfl tyX7 tyX7_ok uw_7 wd_171 wd_172 wd_103 (fs := [.null, .int 0, .null]) (by intro j hj; match j, hj with | 0, _ => rfl | 1, _ => rfl | 2, _ => rfl | k + 3, h => exact absurd h (by show ¬ (k + 3 < 3); omega)) rfl ⟨Nat.le_of_ble_eq_true rfl, Nat.le_of_ble_eq_true rfl⟩ d_X9_init_16 ?_
  refine z_nmE hF (fun M4 eM4 hF => ?_)
  refine z_dup (zX_to hb cx) d_X9_init_19 rfl ?_
  have hsc3 : ∀ j, j < 87 → shL_SunnyPans.getD (3 + j) 0 = shL_Stand.getD j 0 := by decide +kernel
  obtain ⟨M5, hc, hF⟩ := zbv_inv hF
  have gM5 := f22_X7_init hc
  refine z_callCI (zX_to hb cx) (by omega) (Or.inl (by omega)) (c_X7_init l (by omega) (fun j hj => by
    have h9 := hs (3 + j) (by omega)
    rw [hsc3 j hj] at h9
    refine (zsh_old (by omega)).trans ?_
    exact (congrArg shX (by omega)).trans h9) hc) ci_SunnyPans_18 ⟨rfl, rfl, Nat.le_of_ble_eq_true rfl, Nat.le_of_ble_eq_true rfl⟩ ⟨Nat.le_of_ble_eq_true rfl, Nat.le_of_ble_eq_true rfl⟩ (Nat.le_of_ble_eq_true rfl) d_X9_init_20 ?_
  refine z_putF (zX_to hb cx) hin (by omega) (zT_self (by show _ + 1 ≤ _; omega) (by omega)) fq_SunnyPans_19 d_X9_init_23 ?_
  refine z_nmE hF (fun M6 eM6 hF => ?_)
  refine z_aload_n (zX_to hb cx) d_X9_init_26 0 rfl ?_
  refine z_iconst (v := 3) (zX_to hb cx) d_X9_init_27 ki_3 ?_
  refine z_newArrR (kd := 3) (len := 3) (cg := 53) (zX_to hb cx) (by omega) (Or.inl (by omega)) rfl (by decide) wd_171 (by decide) (by decide +kernel) (by decide) (fun _ _ _ _ => rfl) ⟨Nat.le_of_ble_eq_true rfl, Nat.le_of_ble_eq_true rfl⟩ d_X9_init_28 ?_
  refine z_nmE hF (fun M7 eM7 hF => ?_)
  refine z_putF (zX_to hb cx) hin (by omega) (zT_sh (zT_self (by show _ + 1 ≤ _; omega) (by omega)) (by omega)) fq_SunnyPans_23 d_X9_init_31 ?_
  refine z_nmE hF (fun M8 eM8 hF => ?_)
  refine z_aload_n (zX_to hb cx) d_X9_init_34 0 rfl ?_
  refine z_newObj (ci := 2) (cd := 43) (zX_to hb cx) (by omega) (Or.inl (by omega)) rfl tyX2 tyX2_ok uw_2 wd_227 wd_228 wd_105 (fs := [.null, .null, .null, .null, .null, .null, .null, .int 0, .int 0]) (by intro j hj; match j, hj with | 0, _ => rfl | 1, _ => rfl | 2, _ => rfl | 3, _ => rfl | 4, _ => rfl | 5, _ => rfl | 6, _ => rfl | 7, _ => rfl | 8, _ => rfl | k + 9, h => exact absurd h (by show ¬ (k + 9 < 9); omega)) rfl ⟨Nat.le_of_ble_eq_true rfl, Nat.le_of_ble_eq_true rfl⟩ d_X9_init_35 ?_
  refine z_nmE hF (fun M9 eM9 hF => ?_)
  refine z_dup (zX_to hb cx) d_X9_init_38 rfl ?_
  have hsc91 : ∀ j, j < 8 → shL_SunnyPans.getD (91 + j) 0 = shL_Job.getD j 0 := by decide +kernel
  obtain ⟨M10, hc, hF⟩ := zbv_inv hF
  have gM10 := f22_X2_init hc
  refine z_callCN (zX_to hb cx) (by omega) (Or.inl (by omega)) (c_X2_init l (by omega) (fun j hj => by
    have h9 := hs (91 + j) (by omega)
    rw [hsc91 j hj] at h9
    refine (zsh_old (by omega)).trans ?_
    refine (zsh_old (by omega)).trans ?_
    exact (congrArg shX (by omega)).trans h9) hc) cn_SunnyPans_29 rfl wd_230 ⟨rfl, rfl, Nat.le_of_ble_eq_true rfl, Nat.le_of_ble_eq_true rfl⟩ ⟨Nat.le_of_ble_eq_true rfl, Nat.le_of_ble_eq_true rfl⟩ (Nat.le_of_ble_eq_true rfl) d_X9_init_39 ?_
  refine z_putF (zX_to hb cx) hin (by omega) (zT_sh (zT_self (by show _ + 1 ≤ _; omega) (by omega)) (by omega)) fq_SunnyPans_30 d_X9_init_42 ?_
  refine z_nmE hF (fun M11 eM11 hF => ?_)
  refine z_aload_n (zX_to hb cx) d_X9_init_45 0 rfl ?_
  refine z_newObj (ci := 4) (cd := 45) (zX_to hb cx) (by omega) (Or.inl (by omega)) rfl tyX4 tyX4_ok uw_4 wd_265 wd_178 wd_104 (fs := [.null, .null, .null, .int 0, .int 0, .int 0, .null]) (by intro j hj; match j, hj with | 0, _ => rfl | 1, _ => rfl | 2, _ => rfl | 3, _ => rfl | 4, _ => rfl | 5, _ => rfl | 6, _ => rfl | k + 7, h => exact absurd h (by show ¬ (k + 7 < 7); omega)) rfl ⟨Nat.le_of_ble_eq_true rfl, Nat.le_of_ble_eq_true rfl⟩ d_X9_init_46 ?_
  refine z_nmE hF (fun M12 eM12 hF => ?_)
  refine z_dup (zX_to hb cx) d_X9_init_49 rfl ?_
  have hsc99 : ∀ j, j < 5 → shL_SunnyPans.getD (99 + j) 0 = shL_Pans.getD j 0 := by decide +kernel
  obtain ⟨M13, hc, hF⟩ := zbv_inv hF
  have gM13 := f22_X4_init hc
  refine z_callCN (zX_to hb cx) (by omega) (Or.inl (by omega)) (c_X4_init l (by omega) (fun j hj => by
    have h9 := hs (99 + j) (by omega)
    rw [hsc99 j hj] at h9
    refine (zsh_old (by omega)).trans ?_
    refine (zsh_old (by omega)).trans ?_
    exact (congrArg shX (by omega)).trans h9) hc) cn_SunnyPans_36 rfl wd_180 ⟨rfl, rfl, Nat.le_of_ble_eq_true rfl, Nat.le_of_ble_eq_true rfl⟩ ⟨Nat.le_of_ble_eq_true rfl, Nat.le_of_ble_eq_true rfl⟩ (Nat.le_of_ble_eq_true rfl) d_X9_init_50 ?_
  refine z_putF (zX_to hb cx) hin (by omega) (zT_sh (zT_self (by show _ + 1 ≤ _; omega) (by omega)) (by omega)) fq_SunnyPans_37 d_X9_init_53 ?_
  refine z_nmE hF (fun M14 eM14 hF => ?_)
  refine z_aload_n (zX_to hb cx) d_X9_init_56 0 rfl ?_
  refine z_newObj (ci := 6) (cd := 47) (zX_to hb cx) (by omega) (Or.inl (by omega)) rfl tyX6 tyX6_ok uw_6 wd_267 wd_268 wd_106 (fs := [.null, .null, .null]) (by intro j hj; match j, hj with | 0, _ => rfl | 1, _ => rfl | 2, _ => rfl | k + 3, h => exact absurd h (by show ¬ (k + 3 < 3); omega)) rfl ⟨Nat.le_of_ble_eq_true rfl, Nat.le_of_ble_eq_true rfl⟩ d_X9_init_57 ?_
  refine z_nmE hF (fun M15 eM15 hF => ?_)
  refine z_dup (zX_to hb cx) d_X9_init_60 rfl ?_
  have hsc104 : ∀ j, j < 68 → shL_SunnyPans.getD (104 + j) 0 = shL_Shadows.getD j 0 := by decide +kernel
  obtain ⟨M16, hc, hF⟩ := zbv_inv hF
  have gM16 := f22_X6_init hc
  refine z_callCN (zX_to hb cx) (by omega) (Or.inl (by omega)) (c_X6_init l (by omega) (fun j hj => by
    have h9 := hs (104 + j) (by omega)
    rw [hsc104 j hj] at h9
    refine (zsh_old (by omega)).trans ?_
    refine (zsh_old (by omega)).trans ?_
    exact (congrArg shX (by omega)).trans h9) hc) cn_SunnyPans_43 rfl wd_270 ⟨rfl, rfl, Nat.le_of_ble_eq_true rfl, Nat.le_of_ble_eq_true rfl⟩ ⟨Nat.le_of_ble_eq_true rfl, Nat.le_of_ble_eq_true rfl⟩ (Nat.le_of_ble_eq_true rfl) d_X9_init_61 ?_
  refine z_putF (zX_to hb cx) hin (by omega) (zT_sh (zT_self (by show _ + 1 ≤ _; omega) (by omega)) (by omega)) fq_SunnyPans_44 d_X9_init_64 ?_
  refine z_nmE hF (fun M17 eM17 hF => ?_)
  refine z_aload_n (zX_to hb cx) d_X9_init_67 0 rfl ?_
  refine z_newObj (ci := 0) (cd := 41) (zX_to hb cx) (by omega) (Or.inl (by omega)) rfl tyX0 tyX0_ok uw_0 wd_285 wd_286 wd_107 (fs := [.int 0, .int 0]) (by intro j hj; match j, hj with | 0, _ => rfl | 1, _ => rfl | k + 2, h => exact absurd h (by show ¬ (k + 2 < 2); omega)) rfl ⟨Nat.le_of_ble_eq_true rfl, Nat.le_of_ble_eq_true rfl⟩ d_X9_init_68 ?_
  refine z_nmE hF (fun M18 eM18 hF => ?_)
  refine z_dup (zX_to hb cx) d_X9_init_71 rfl ?_
  have hsc172 : ∀ j, j < 1 → shL_SunnyPans.getD (172 + j) 0 = shL_Best.getD j 0 := by decide +kernel
  obtain ⟨M19, hc, hF⟩ := zbv_inv hF
  have gM19 := f22_X0_init hc
  refine z_callCN (zX_to hb cx) (by omega) (Or.inl (by omega)) (c_X0_init l (by omega) (fun j hj => by
    have h9 := hs (172 + j) (by omega)
    rw [hsc172 j hj] at h9
    refine (zsh_old (by omega)).trans ?_
    refine (zsh_old (by omega)).trans ?_
    exact (congrArg shX (by omega)).trans h9) hc) cn_SunnyPans_50 rfl wd_288 ⟨rfl, rfl, Nat.le_of_ble_eq_true rfl, Nat.le_of_ble_eq_true rfl⟩ ⟨Nat.le_of_ble_eq_true rfl, Nat.le_of_ble_eq_true rfl⟩ (Nat.le_of_ble_eq_true rfl) d_X9_init_72 ?_
  refine z_putF (zX_to hb cx) hin (by omega) (zT_sh (zT_self (by show _ + 1 ≤ _; omega) (by omega)) (by omega)) fq_SunnyPans_51 d_X9_init_75 ?_
  refine z_nmE hF (fun M20 eM20 hF => ?_)
  refine z_aload_n (zX_to hb cx) d_X9_init_78 0 rfl ?_
  refine z_bipush (v := 64) (zX_to hb cx) d_X9_init_79 kb_64 ?_
  refine z_newArrI (len := 64) (zX_to hb cx) (by omega) (Or.inl (by omega)) ((zsh_old (by omega)).trans ((zsh_old (by omega)).trans (hs 173 (by decide)))) za_16 wd_170 (by decide) (by decide +kernel) (by decide) ⟨Nat.le_of_ble_eq_true rfl, Nat.le_of_ble_eq_true rfl⟩ d_X9_init_81 ?_
  refine z_nmE hF (fun M21 eM21 hF => ?_)
  refine z_putF (zX_to hb cx) hin (by omega) (zT_sh (zT_self (by show _ + 1 ≤ _; omega) (by omega)) (by omega)) fq_SunnyPans_55 d_X9_init_83 ?_
  refine z_nmE hF (fun M22 eM22 hF => ?_)
  refine z_aload_n (zX_to hb cx) d_X9_init_86 0 rfl ?_
  refine z_newObj (ci := 5) (cd := 46) (zX_to hb cx) (by omega) (Or.inl (by omega)) rfl tyX5 tyX5_ok uw_5 wd_300 wd_301 wd_108 (fs := [.int 0, .int 0, .int 0, .long 0, .null, .null, .null, .null, .null]) (by intro j hj; match j, hj with | 0, _ => rfl | 1, _ => rfl | 2, _ => rfl | 3, _ => rfl | 4, _ => rfl | 5, _ => rfl | 6, _ => rfl | 7, _ => rfl | 8, _ => rfl | k + 9, h => exact absurd h (by show ¬ (k + 9 < 9); omega)) rfl ⟨Nat.le_of_ble_eq_true rfl, Nat.le_of_ble_eq_true rfl⟩ d_X9_init_87 ?_
  refine z_nmE hF (fun M23 eM23 hF => ?_)
  refine z_dup (zX_to hb cx) d_X9_init_90 rfl ?_
  have hsc174 : ∀ j, j < 6 → shL_SunnyPans.getD (174 + j) 0 = shL_Plan.getD j 0 := by decide +kernel
  obtain ⟨M24, hc, hF⟩ := zbv_inv hF
  have gM24 := f22_X5_init hc
  refine z_callCN (zX_to hb cx) (by omega) (Or.inl (by omega)) (c_X5_init l (by omega) (fun j hj => by
    have h9 := hs (174 + j) (by omega)
    rw [hsc174 j hj] at h9
    refine (zsh_old (by omega)).trans ?_
    refine (zsh_old (by omega)).trans ?_
    exact (congrArg shX (by omega)).trans h9) hc) cn_SunnyPans_61 rfl wd_303 ⟨rfl, rfl, Nat.le_of_ble_eq_true rfl, Nat.le_of_ble_eq_true rfl⟩ ⟨Nat.le_of_ble_eq_true rfl, Nat.le_of_ble_eq_true rfl⟩ (Nat.le_of_ble_eq_true rfl) d_X9_init_91 ?_
  refine z_putV (zX_to hb cx) (by omega) (zT_sh (zT_self (by show _ + 1 ≤ _; omega) (by omega)) (by omega)) fq_SunnyPans_62 d_X9_init_94 ?_
  refine z_nmE hF (fun M25 eM25 hF => ?_)
  refine z_aload_n (zX_to hb cx) d_X9_init_97 0 rfl ?_
  refine z_newObj (ci := 5) (cd := 46) (zX_to hb cx) (by omega) (Or.inl (by omega)) rfl tyX5 tyX5_ok uw_5 wd_300 wd_301 wd_108 (fs := [.int 0, .int 0, .int 0, .long 0, .null, .null, .null, .null, .null]) (by intro j hj; match j, hj with | 0, _ => rfl | 1, _ => rfl | 2, _ => rfl | 3, _ => rfl | 4, _ => rfl | 5, _ => rfl | 6, _ => rfl | 7, _ => rfl | 8, _ => rfl | k + 9, h => exact absurd h (by show ¬ (k + 9 < 9); omega)) rfl ⟨Nat.le_of_ble_eq_true rfl, Nat.le_of_ble_eq_true rfl⟩ d_X9_init_98 ?_
  refine z_nmE hF (fun M26 eM26 hF => ?_)
  refine z_dup (zX_to hb cx) d_X9_init_101 rfl ?_
  have hsc180 : ∀ j, j < 6 → shL_SunnyPans.getD (180 + j) 0 = shL_Plan.getD j 0 := by decide +kernel
  obtain ⟨M27, hc, hF⟩ := zbv_inv hF
  have gM27 := f22_X5_init hc
  refine z_callCN (zX_to hb cx) (by omega) (Or.inl (by omega)) (c_X5_init l (by omega) (fun j hj => by
    have h9 := hs (180 + j) (by omega)
    rw [hsc180 j hj] at h9
    refine (zsh_old (by omega)).trans ?_
    refine (zsh_old (by omega)).trans ?_
    exact (congrArg shX (by omega)).trans h9) hc) cn_SunnyPans_61 rfl wd_303 ⟨rfl, rfl, Nat.le_of_ble_eq_true rfl, Nat.le_of_ble_eq_true rfl⟩ ⟨Nat.le_of_ble_eq_true rfl, Nat.le_of_ble_eq_true rfl⟩ (Nat.le_of_ble_eq_true rfl) d_X9_init_102 ?_
  refine z_putV (zX_to hb cx) (by omega) (zT_sh (zT_self (by show _ + 1 ≤ _; omega) (by omega)) (by omega)) fq_SunnyPans_66 d_X9_init_105 ?_
  refine z_nmE hF (fun M28 eM28 hF => ?_)
  refine z_aload_n (zX_to hb cx) d_X9_init_108 0 rfl ?_
  refine z_newObj (ci := 3) (cd := 44) (zX_to hb cx) (by omega) (Or.inl (by omega)) rfl tyX3 tyX3_ok uw_3 wd_359 wd_360 wd_109 (fs := [.null, .null, .null, .int 0]) (by intro j hj; match j, hj with | 0, _ => rfl | 1, _ => rfl | 2, _ => rfl | 3, _ => rfl | k + 4, h => exact absurd h (by show ¬ (k + 4 < 4); omega)) rfl ⟨Nat.le_of_ble_eq_true rfl, Nat.le_of_ble_eq_true rfl⟩ d_X9_init_109 ?_
  refine z_nmE hF (fun M29 eM29 hF => ?_)
  refine z_dup (zX_to hb cx) d_X9_init_112 rfl ?_
  have hsc186 : ∀ j, j < 4 → shL_SunnyPans.getD (186 + j) 0 = shL_Law.getD j 0 := by decide +kernel
  obtain ⟨M30, hc, hF⟩ := zbv_inv hF
  have gM30 := f22_X3_init hc
  refine z_callCI (zX_to hb cx) (by omega) (Or.inl (by omega)) (c_X3_init l (by omega) (fun j hj => by
    have h9 := hs (186 + j) (by omega)
    rw [hsc186 j hj] at h9
    refine (zsh_old (by omega)).trans ?_
    refine (zsh_old (by omega)).trans ?_
    exact (congrArg shX (by omega)).trans h9) hc) ci_SunnyPans_71 ⟨rfl, rfl, Nat.le_of_ble_eq_true rfl, Nat.le_of_ble_eq_true rfl⟩ ⟨Nat.le_of_ble_eq_true rfl, Nat.le_of_ble_eq_true rfl⟩ (Nat.le_of_ble_eq_true rfl) d_X9_init_113 ?_
  refine z_putV (zX_to hb cx) (by omega) (zT_sh (zT_self (by show _ + 1 ≤ _; omega) (by omega)) (by omega)) fq_SunnyPans_72 d_X9_init_116 ?_
  refine z_nmE hF (fun M31 eM31 hF => ?_)
  refine z_aload_n (zX_to hb cx) d_X9_init_119 0 rfl ?_
  refine z_newObj (ci := 3) (cd := 44) (zX_to hb cx) (by omega) (Or.inl (by omega)) rfl tyX3 tyX3_ok uw_3 wd_359 wd_360 wd_109 (fs := [.null, .null, .null, .int 0]) (by intro j hj; match j, hj with | 0, _ => rfl | 1, _ => rfl | 2, _ => rfl | 3, _ => rfl | k + 4, h => exact absurd h (by show ¬ (k + 4 < 4); omega)) rfl ⟨Nat.le_of_ble_eq_true rfl, Nat.le_of_ble_eq_true rfl⟩ d_X9_init_120 ?_
  refine z_nmE hF (fun M32 eM32 hF => ?_)
  refine z_dup (zX_to hb cx) d_X9_init_123 rfl ?_
  have hsc190 : ∀ j, j < 4 → shL_SunnyPans.getD (190 + j) 0 = shL_Law.getD j 0 := by decide +kernel
  obtain ⟨M33, hc, hF⟩ := zbv_inv hF
  have gM33 := f22_X3_init hc
  refine z_callCI (zX_to hb cx) (by omega) (Or.inl (by omega)) (c_X3_init l (by omega) (fun j hj => by
    have h9 := hs (190 + j) (by omega)
    rw [hsc190 j hj] at h9
    refine (zsh_old (by omega)).trans ?_
    refine (zsh_old (by omega)).trans ?_
    exact (congrArg shX (by omega)).trans h9) hc) ci_SunnyPans_71 ⟨rfl, rfl, Nat.le_of_ble_eq_true rfl, Nat.le_of_ble_eq_true rfl⟩ ⟨Nat.le_of_ble_eq_true rfl, Nat.le_of_ble_eq_true rfl⟩ (Nat.le_of_ble_eq_true rfl) d_X9_init_124 ?_
  refine z_putV (zX_to hb cx) (by omega) (zT_sh (zT_self (by show _ + 1 ≤ _; omega) (by omega)) (by omega)) fq_SunnyPans_76 d_X9_init_127 ?_
  refine z_nmE hF (fun M34 eM34 hF => ?_)
  refine z_aload_n (zX_to hb cx) d_X9_init_130 0 rfl ?_
  refine z_newObj (ci := 1) (cd := 42) (zX_to hb cx) (by omega) (Or.inl (by omega)) rfl tyX1 tyX1_ok uw_1 wd_386 wd_387 wd_110 (fs := [.null, .null, .int 0, .long 0]) (by intro j hj; match j, hj with | 0, _ => rfl | 1, _ => rfl | 2, _ => rfl | 3, _ => rfl | k + 4, h => exact absurd h (by show ¬ (k + 4 < 4); omega)) rfl ⟨Nat.le_of_ble_eq_true rfl, Nat.le_of_ble_eq_true rfl⟩ d_X9_init_131 ?_
  refine z_nmE hF (fun M35 eM35 hF => ?_)
  refine z_dup (zX_to hb cx) d_X9_init_134 rfl ?_
  have hsc194 : ∀ j, j < 3 → shL_SunnyPans.getD (194 + j) 0 = shL_Book.getD j 0 := by decide +kernel
  obtain ⟨M36, hc, hF⟩ := zbv_inv hF
  have gM36 := f22_X1_init hc
  refine z_callCN (zX_to hb cx) (by omega) (Or.inl (by omega)) (c_X1_init l (by omega) (fun j hj => by
    have h9 := hs (194 + j) (by omega)
    rw [hsc194 j hj] at h9
    refine (zsh_old (by omega)).trans ?_
    refine (zsh_old (by omega)).trans ?_
    exact (congrArg shX (by omega)).trans h9) hc) cn_SunnyPans_81 rfl wd_389 ⟨rfl, rfl, Nat.le_of_ble_eq_true rfl, Nat.le_of_ble_eq_true rfl⟩ ⟨Nat.le_of_ble_eq_true rfl, Nat.le_of_ble_eq_true rfl⟩ (Nat.le_of_ble_eq_true rfl) d_X9_init_135 ?_
  refine z_putV (zX_to hb cx) (by omega) (zT_sh (zT_self (by show _ + 1 ≤ _; omega) (by omega)) (by omega)) fq_SunnyPans_82 d_X9_init_138 ?_
  refine z_nmE hF (fun M37 eM37 hF => ?_)
  refine z_aload_n (zX_to hb cx) d_X9_init_141 0 rfl ?_
  refine z_newObj (ci := 1) (cd := 42) (zX_to hb cx) (by omega) (Or.inl (by omega)) rfl tyX1 tyX1_ok uw_1 wd_386 wd_387 wd_110 (fs := [.null, .null, .int 0, .long 0]) (by intro j hj; match j, hj with | 0, _ => rfl | 1, _ => rfl | 2, _ => rfl | 3, _ => rfl | k + 4, h => exact absurd h (by show ¬ (k + 4 < 4); omega)) rfl ⟨Nat.le_of_ble_eq_true rfl, Nat.le_of_ble_eq_true rfl⟩ d_X9_init_142 ?_
  refine z_nmE hF (fun M38 eM38 hF => ?_)
  refine z_dup (zX_to hb cx) d_X9_init_145 rfl ?_
  have hsc197 : ∀ j, j < 3 → shL_SunnyPans.getD (197 + j) 0 = shL_Book.getD j 0 := by decide +kernel
  obtain ⟨M39, hc, hF⟩ := zbv_inv hF
  have gM39 := f22_X1_init hc
  refine z_callCN (zX_to hb cx) (by omega) (Or.inl (by omega)) (c_X1_init l (by omega) (fun j hj => by
    have h9 := hs (197 + j) (by omega)
    rw [hsc197 j hj] at h9
    refine (zsh_old (by omega)).trans ?_
    refine (zsh_old (by omega)).trans ?_
    exact (congrArg shX (by omega)).trans h9) hc) cn_SunnyPans_81 rfl wd_389 ⟨rfl, rfl, Nat.le_of_ble_eq_true rfl, Nat.le_of_ble_eq_true rfl⟩ ⟨Nat.le_of_ble_eq_true rfl, Nat.le_of_ble_eq_true rfl⟩ (Nat.le_of_ble_eq_true rfl) d_X9_init_146 ?_
  refine z_putV (zX_to hb cx) (by omega) (zT_sh (zT_self (by show _ + 1 ≤ _; omega) (by omega)) (by omega)) fq_SunnyPans_86 d_X9_init_149 ?_
  refine z_nmE hF (fun M40 eM40 hF => ?_)
  refine z_shapeE (zsh_comm (by omega)) ?_
  have f41 : M40.2.2 0 0 = 1 := by
    rw [eM40, zR22j (j := 13) (i := 0) (by decide)]
    rw [gM39 0 (by omega)]
    rw [eM38, zNew22 (n := 197) (k := 1) (a := 0) (by omega)]
    rw [eM37, zR22j (j := 12) (i := 0) (by decide)]
    rw [gM36 0 (by omega)]
    rw [eM35, zNew22 (n := 194) (k := 1) (a := 0) (by omega)]
    rw [eM34, zR22j (j := 11) (i := 0) (by decide)]
    rw [gM33 0 (by omega)]
    rw [eM32, zNew22 (n := 190) (k := 1) (a := 0) (by omega)]
    rw [eM31, zR22j (j := 10) (i := 0) (by decide)]
    rw [gM30 0 (by omega)]
    rw [eM29, zNew22 (n := 186) (k := 1) (a := 0) (by omega)]
    rw [eM28, zR22j (j := 9) (i := 0) (by decide)]
    rw [gM27 0 (by omega)]
    rw [eM26, zNew22 (n := 180) (k := 1) (a := 0) (by omega)]
    rw [eM25, zR22j (j := 8) (i := 0) (by decide)]
    rw [gM24 0 (by omega)]
    rw [eM23, zNew22 (n := 174) (k := 1) (a := 0) (by omega)]
    rw [eM22, zR22j (j := 7) (i := 0) (by decide)]
    rw [eM21, zNew22 (n := 173) (k := 1) (a := 0) (by omega)]
    rw [eM20, zR22j (j := 6) (i := 0) (by decide)]
    rw [gM19 0 (by omega)]
    rw [eM18, zNew22 (n := 172) (k := 1) (a := 0) (by omega)]
    rw [eM17, zR22j (j := 5) (i := 0) (by decide)]
    rw [gM16 0 (by omega)]
    rw [eM15, zNew22 (n := 104) (k := 1) (a := 0) (by omega)]
    rw [eM14, zR22j (j := 4) (i := 0) (by decide)]
    rw [gM13 0 (by omega)]
    rw [eM12, zNew22 (n := 99) (k := 1) (a := 0) (by omega)]
    rw [eM11, zR22j (j := 3) (i := 0) (by decide)]
    rw [gM10 0 (by omega)]
    rw [eM9, zNew22 (n := 91) (k := 1) (a := 0) (by omega)]
    rw [eM8, zR22j (j := 2) (i := 0) (by decide)]
    rw [eM7, zNew22 (n := 90) (k := 1) (a := 0) (by omega)]
    rw [eM6, zR22j (j := 1) (i := 0) (by decide)]
    rw [gM5 0 (by omega)]
    rw [eM4, zNew22 (n := 3) (k := 1) (a := 0) (by omega)]
    rw [eM3, zR22e]
  have f42 : M40.2.2 0 1 = 3 := by
    rw [eM40, zR22j (j := 13) (i := 1) (by decide)]
    rw [gM39 0 (by omega)]
    rw [eM38, zNew22 (n := 197) (k := 1) (a := 0) (by omega)]
    rw [eM37, zR22j (j := 12) (i := 1) (by decide)]
    rw [gM36 0 (by omega)]
    rw [eM35, zNew22 (n := 194) (k := 1) (a := 0) (by omega)]
    rw [eM34, zR22j (j := 11) (i := 1) (by decide)]
    rw [gM33 0 (by omega)]
    rw [eM32, zNew22 (n := 190) (k := 1) (a := 0) (by omega)]
    rw [eM31, zR22j (j := 10) (i := 1) (by decide)]
    rw [gM30 0 (by omega)]
    rw [eM29, zNew22 (n := 186) (k := 1) (a := 0) (by omega)]
    rw [eM28, zR22j (j := 9) (i := 1) (by decide)]
    rw [gM27 0 (by omega)]
    rw [eM26, zNew22 (n := 180) (k := 1) (a := 0) (by omega)]
    rw [eM25, zR22j (j := 8) (i := 1) (by decide)]
    rw [gM24 0 (by omega)]
    rw [eM23, zNew22 (n := 174) (k := 1) (a := 0) (by omega)]
    rw [eM22, zR22j (j := 7) (i := 1) (by decide)]
    rw [eM21, zNew22 (n := 173) (k := 1) (a := 0) (by omega)]
    rw [eM20, zR22j (j := 6) (i := 1) (by decide)]
    rw [gM19 0 (by omega)]
    rw [eM18, zNew22 (n := 172) (k := 1) (a := 0) (by omega)]
    rw [eM17, zR22j (j := 5) (i := 1) (by decide)]
    rw [gM16 0 (by omega)]
    rw [eM15, zNew22 (n := 104) (k := 1) (a := 0) (by omega)]
    rw [eM14, zR22j (j := 4) (i := 1) (by decide)]
    rw [gM13 0 (by omega)]
    rw [eM12, zNew22 (n := 99) (k := 1) (a := 0) (by omega)]
    rw [eM11, zR22j (j := 3) (i := 1) (by decide)]
    rw [gM10 0 (by omega)]
    rw [eM9, zNew22 (n := 91) (k := 1) (a := 0) (by omega)]
    rw [eM8, zR22j (j := 2) (i := 1) (by decide)]
    rw [eM7, zNew22 (n := 90) (k := 1) (a := 0) (by omega)]
    rw [eM6, zR22e]
  have f43 : M40.2.2 0 2 = 90 := by
    rw [eM40, zR22j (j := 13) (i := 2) (by decide)]
    rw [gM39 0 (by omega)]
    rw [eM38, zNew22 (n := 197) (k := 1) (a := 0) (by omega)]
    rw [eM37, zR22j (j := 12) (i := 2) (by decide)]
    rw [gM36 0 (by omega)]
    rw [eM35, zNew22 (n := 194) (k := 1) (a := 0) (by omega)]
    rw [eM34, zR22j (j := 11) (i := 2) (by decide)]
    rw [gM33 0 (by omega)]
    rw [eM32, zNew22 (n := 190) (k := 1) (a := 0) (by omega)]
    rw [eM31, zR22j (j := 10) (i := 2) (by decide)]
    rw [gM30 0 (by omega)]
    rw [eM29, zNew22 (n := 186) (k := 1) (a := 0) (by omega)]
    rw [eM28, zR22j (j := 9) (i := 2) (by decide)]
    rw [gM27 0 (by omega)]
    rw [eM26, zNew22 (n := 180) (k := 1) (a := 0) (by omega)]
    rw [eM25, zR22j (j := 8) (i := 2) (by decide)]
    rw [gM24 0 (by omega)]
    rw [eM23, zNew22 (n := 174) (k := 1) (a := 0) (by omega)]
    rw [eM22, zR22j (j := 7) (i := 2) (by decide)]
    rw [eM21, zNew22 (n := 173) (k := 1) (a := 0) (by omega)]
    rw [eM20, zR22j (j := 6) (i := 2) (by decide)]
    rw [gM19 0 (by omega)]
    rw [eM18, zNew22 (n := 172) (k := 1) (a := 0) (by omega)]
    rw [eM17, zR22j (j := 5) (i := 2) (by decide)]
    rw [gM16 0 (by omega)]
    rw [eM15, zNew22 (n := 104) (k := 1) (a := 0) (by omega)]
    rw [eM14, zR22j (j := 4) (i := 2) (by decide)]
    rw [gM13 0 (by omega)]
    rw [eM12, zNew22 (n := 99) (k := 1) (a := 0) (by omega)]
    rw [eM11, zR22j (j := 3) (i := 2) (by decide)]
    rw [gM10 0 (by omega)]
    rw [eM9, zNew22 (n := 91) (k := 1) (a := 0) (by omega)]
    rw [eM8, zR22e]
  have f44 : M40.2.2 0 3 = 91 := by
    rw [eM40, zR22j (j := 13) (i := 3) (by decide)]
    rw [gM39 0 (by omega)]
    rw [eM38, zNew22 (n := 197) (k := 1) (a := 0) (by omega)]
    rw [eM37, zR22j (j := 12) (i := 3) (by decide)]
    rw [gM36 0 (by omega)]
    rw [eM35, zNew22 (n := 194) (k := 1) (a := 0) (by omega)]
    rw [eM34, zR22j (j := 11) (i := 3) (by decide)]
    rw [gM33 0 (by omega)]
    rw [eM32, zNew22 (n := 190) (k := 1) (a := 0) (by omega)]
    rw [eM31, zR22j (j := 10) (i := 3) (by decide)]
    rw [gM30 0 (by omega)]
    rw [eM29, zNew22 (n := 186) (k := 1) (a := 0) (by omega)]
    rw [eM28, zR22j (j := 9) (i := 3) (by decide)]
    rw [gM27 0 (by omega)]
    rw [eM26, zNew22 (n := 180) (k := 1) (a := 0) (by omega)]
    rw [eM25, zR22j (j := 8) (i := 3) (by decide)]
    rw [gM24 0 (by omega)]
    rw [eM23, zNew22 (n := 174) (k := 1) (a := 0) (by omega)]
    rw [eM22, zR22j (j := 7) (i := 3) (by decide)]
    rw [eM21, zNew22 (n := 173) (k := 1) (a := 0) (by omega)]
    rw [eM20, zR22j (j := 6) (i := 3) (by decide)]
    rw [gM19 0 (by omega)]
    rw [eM18, zNew22 (n := 172) (k := 1) (a := 0) (by omega)]
    rw [eM17, zR22j (j := 5) (i := 3) (by decide)]
    rw [gM16 0 (by omega)]
    rw [eM15, zNew22 (n := 104) (k := 1) (a := 0) (by omega)]
    rw [eM14, zR22j (j := 4) (i := 3) (by decide)]
    rw [gM13 0 (by omega)]
    rw [eM12, zNew22 (n := 99) (k := 1) (a := 0) (by omega)]
    rw [eM11, zR22e]
  have f45 : M40.2.2 0 4 = 99 := by
    rw [eM40, zR22j (j := 13) (i := 4) (by decide)]
    rw [gM39 0 (by omega)]
    rw [eM38, zNew22 (n := 197) (k := 1) (a := 0) (by omega)]
    rw [eM37, zR22j (j := 12) (i := 4) (by decide)]
    rw [gM36 0 (by omega)]
    rw [eM35, zNew22 (n := 194) (k := 1) (a := 0) (by omega)]
    rw [eM34, zR22j (j := 11) (i := 4) (by decide)]
    rw [gM33 0 (by omega)]
    rw [eM32, zNew22 (n := 190) (k := 1) (a := 0) (by omega)]
    rw [eM31, zR22j (j := 10) (i := 4) (by decide)]
    rw [gM30 0 (by omega)]
    rw [eM29, zNew22 (n := 186) (k := 1) (a := 0) (by omega)]
    rw [eM28, zR22j (j := 9) (i := 4) (by decide)]
    rw [gM27 0 (by omega)]
    rw [eM26, zNew22 (n := 180) (k := 1) (a := 0) (by omega)]
    rw [eM25, zR22j (j := 8) (i := 4) (by decide)]
    rw [gM24 0 (by omega)]
    rw [eM23, zNew22 (n := 174) (k := 1) (a := 0) (by omega)]
    rw [eM22, zR22j (j := 7) (i := 4) (by decide)]
    rw [eM21, zNew22 (n := 173) (k := 1) (a := 0) (by omega)]
    rw [eM20, zR22j (j := 6) (i := 4) (by decide)]
    rw [gM19 0 (by omega)]
    rw [eM18, zNew22 (n := 172) (k := 1) (a := 0) (by omega)]
    rw [eM17, zR22j (j := 5) (i := 4) (by decide)]
    rw [gM16 0 (by omega)]
    rw [eM15, zNew22 (n := 104) (k := 1) (a := 0) (by omega)]
    rw [eM14, zR22e]
  have f46 : M40.2.2 0 5 = 104 := by
    rw [eM40, zR22j (j := 13) (i := 5) (by decide)]
    rw [gM39 0 (by omega)]
    rw [eM38, zNew22 (n := 197) (k := 1) (a := 0) (by omega)]
    rw [eM37, zR22j (j := 12) (i := 5) (by decide)]
    rw [gM36 0 (by omega)]
    rw [eM35, zNew22 (n := 194) (k := 1) (a := 0) (by omega)]
    rw [eM34, zR22j (j := 11) (i := 5) (by decide)]
    rw [gM33 0 (by omega)]
    rw [eM32, zNew22 (n := 190) (k := 1) (a := 0) (by omega)]
    rw [eM31, zR22j (j := 10) (i := 5) (by decide)]
    rw [gM30 0 (by omega)]
    rw [eM29, zNew22 (n := 186) (k := 1) (a := 0) (by omega)]
    rw [eM28, zR22j (j := 9) (i := 5) (by decide)]
    rw [gM27 0 (by omega)]
    rw [eM26, zNew22 (n := 180) (k := 1) (a := 0) (by omega)]
    rw [eM25, zR22j (j := 8) (i := 5) (by decide)]
    rw [gM24 0 (by omega)]
    rw [eM23, zNew22 (n := 174) (k := 1) (a := 0) (by omega)]
    rw [eM22, zR22j (j := 7) (i := 5) (by decide)]
    rw [eM21, zNew22 (n := 173) (k := 1) (a := 0) (by omega)]
    rw [eM20, zR22j (j := 6) (i := 5) (by decide)]
    rw [gM19 0 (by omega)]
    rw [eM18, zNew22 (n := 172) (k := 1) (a := 0) (by omega)]
    rw [eM17, zR22e]
  have f47 : M40.2.2 0 6 = 172 := by
    rw [eM40, zR22j (j := 13) (i := 6) (by decide)]
    rw [gM39 0 (by omega)]
    rw [eM38, zNew22 (n := 197) (k := 1) (a := 0) (by omega)]
    rw [eM37, zR22j (j := 12) (i := 6) (by decide)]
    rw [gM36 0 (by omega)]
    rw [eM35, zNew22 (n := 194) (k := 1) (a := 0) (by omega)]
    rw [eM34, zR22j (j := 11) (i := 6) (by decide)]
    rw [gM33 0 (by omega)]
    rw [eM32, zNew22 (n := 190) (k := 1) (a := 0) (by omega)]
    rw [eM31, zR22j (j := 10) (i := 6) (by decide)]
    rw [gM30 0 (by omega)]
    rw [eM29, zNew22 (n := 186) (k := 1) (a := 0) (by omega)]
    rw [eM28, zR22j (j := 9) (i := 6) (by decide)]
    rw [gM27 0 (by omega)]
    rw [eM26, zNew22 (n := 180) (k := 1) (a := 0) (by omega)]
    rw [eM25, zR22j (j := 8) (i := 6) (by decide)]
    rw [gM24 0 (by omega)]
    rw [eM23, zNew22 (n := 174) (k := 1) (a := 0) (by omega)]
    rw [eM22, zR22j (j := 7) (i := 6) (by decide)]
    rw [eM21, zNew22 (n := 173) (k := 1) (a := 0) (by omega)]
    rw [eM20, zR22e]
  have f48 : M40.2.2 0 7 = 173 := by
    rw [eM40, zR22j (j := 13) (i := 7) (by decide)]
    rw [gM39 0 (by omega)]
    rw [eM38, zNew22 (n := 197) (k := 1) (a := 0) (by omega)]
    rw [eM37, zR22j (j := 12) (i := 7) (by decide)]
    rw [gM36 0 (by omega)]
    rw [eM35, zNew22 (n := 194) (k := 1) (a := 0) (by omega)]
    rw [eM34, zR22j (j := 11) (i := 7) (by decide)]
    rw [gM33 0 (by omega)]
    rw [eM32, zNew22 (n := 190) (k := 1) (a := 0) (by omega)]
    rw [eM31, zR22j (j := 10) (i := 7) (by decide)]
    rw [gM30 0 (by omega)]
    rw [eM29, zNew22 (n := 186) (k := 1) (a := 0) (by omega)]
    rw [eM28, zR22j (j := 9) (i := 7) (by decide)]
    rw [gM27 0 (by omega)]
    rw [eM26, zNew22 (n := 180) (k := 1) (a := 0) (by omega)]
    rw [eM25, zR22j (j := 8) (i := 7) (by decide)]
    rw [gM24 0 (by omega)]
    rw [eM23, zNew22 (n := 174) (k := 1) (a := 0) (by omega)]
    rw [eM22, zR22e]
  have f49 : M40.2.2 0 8 = 174 := by
    rw [eM40, zR22j (j := 13) (i := 8) (by decide)]
    rw [gM39 0 (by omega)]
    rw [eM38, zNew22 (n := 197) (k := 1) (a := 0) (by omega)]
    rw [eM37, zR22j (j := 12) (i := 8) (by decide)]
    rw [gM36 0 (by omega)]
    rw [eM35, zNew22 (n := 194) (k := 1) (a := 0) (by omega)]
    rw [eM34, zR22j (j := 11) (i := 8) (by decide)]
    rw [gM33 0 (by omega)]
    rw [eM32, zNew22 (n := 190) (k := 1) (a := 0) (by omega)]
    rw [eM31, zR22j (j := 10) (i := 8) (by decide)]
    rw [gM30 0 (by omega)]
    rw [eM29, zNew22 (n := 186) (k := 1) (a := 0) (by omega)]
    rw [eM28, zR22j (j := 9) (i := 8) (by decide)]
    rw [gM27 0 (by omega)]
    rw [eM26, zNew22 (n := 180) (k := 1) (a := 0) (by omega)]
    rw [eM25, zR22e]
  have f50 : M40.2.2 0 9 = 180 := by
    rw [eM40, zR22j (j := 13) (i := 9) (by decide)]
    rw [gM39 0 (by omega)]
    rw [eM38, zNew22 (n := 197) (k := 1) (a := 0) (by omega)]
    rw [eM37, zR22j (j := 12) (i := 9) (by decide)]
    rw [gM36 0 (by omega)]
    rw [eM35, zNew22 (n := 194) (k := 1) (a := 0) (by omega)]
    rw [eM34, zR22j (j := 11) (i := 9) (by decide)]
    rw [gM33 0 (by omega)]
    rw [eM32, zNew22 (n := 190) (k := 1) (a := 0) (by omega)]
    rw [eM31, zR22j (j := 10) (i := 9) (by decide)]
    rw [gM30 0 (by omega)]
    rw [eM29, zNew22 (n := 186) (k := 1) (a := 0) (by omega)]
    rw [eM28, zR22e]
  have f51 : M40.2.2 0 10 = 186 := by
    rw [eM40, zR22j (j := 13) (i := 10) (by decide)]
    rw [gM39 0 (by omega)]
    rw [eM38, zNew22 (n := 197) (k := 1) (a := 0) (by omega)]
    rw [eM37, zR22j (j := 12) (i := 10) (by decide)]
    rw [gM36 0 (by omega)]
    rw [eM35, zNew22 (n := 194) (k := 1) (a := 0) (by omega)]
    rw [eM34, zR22j (j := 11) (i := 10) (by decide)]
    rw [gM33 0 (by omega)]
    rw [eM32, zNew22 (n := 190) (k := 1) (a := 0) (by omega)]
    rw [eM31, zR22e]
  have f52 : M40.2.2 0 11 = 190 := by
    rw [eM40, zR22j (j := 13) (i := 11) (by decide)]
    rw [gM39 0 (by omega)]
    rw [eM38, zNew22 (n := 197) (k := 1) (a := 0) (by omega)]
    rw [eM37, zR22j (j := 12) (i := 11) (by decide)]
    rw [gM36 0 (by omega)]
    rw [eM35, zNew22 (n := 194) (k := 1) (a := 0) (by omega)]
    rw [eM34, zR22e]
  have f53 : M40.2.2 0 12 = 194 := by
    rw [eM40, zR22j (j := 13) (i := 12) (by decide)]
    rw [gM39 0 (by omega)]
    rw [eM38, zNew22 (n := 197) (k := 1) (a := 0) (by omega)]
    rw [eM37, zR22e]
  have f54 : M40.2.2 0 13 = 197 := by
    rw [eM40, zR22e]
  refine z_shape (zHP_sealE (by rw [show (zsh shX 90 53) 0 = 10 from (zsh_old (by omega)).trans ((hs 0 (by decide)))]; simp [zE, zrv, f41, f42, f43, f44, f45, f46, f47, f48, f49, f50, f51, f52, f53, f54])) ?_
  refine z_iconst (v := 0) (zX_to hb cx) d_X9_init_152 ki_0 ?_
  refine z_istore_n (zX_to hb cx) 1 [(1, .int (0 : Int32)), (0, .ref (zad b0 0))] d_X9_init_153 rfl (by decide) rfl ?_
  refine z_iload_n (zX_to hb cx) d_X9_init_154 0 rfl ?_
  refine z_iconst (v := 3) (zX_to hb cx) d_X9_init_155 ki_3 ?_
  refine z_icmp_ge (F1 := none) (F2 := some ()) (res := ()) (zX_to hb cx) 178 d_X9_init_156 (by decide) (by rw [if_neg (by decide)]) (fun h => by cases h) (fun _ => ?_)
  refine z_aload_n (zX_to hb cx) d_X9_init_159 1 rfl ?_
  refine z_getR0 (zX_to hb cx) ((zsh_old (by omega)).trans (hs 0 (by decide))) (by omega) fg_SunnyPans_23 90 (by omega) d_X9_init_160 ?_
  refine z_iload_n (zX_to hb cx) d_X9_init_163 0 rfl ?_
  refine z_newObj (ci := 7) (cd := 48) (zX_to hb cx) (by omega) (Or.inl (by omega)) rfl tyX7 tyX7_ok uw_7 wd_171 wd_172 wd_103 (fs := [.null, .int 0, .null]) (by intro j hj; match j, hj with | 0, _ => rfl | 1, _ => rfl | 2, _ => rfl | k + 3, h => exact absurd h (by show ¬ (k + 3 < 3); omega)) rfl ⟨Nat.le_of_ble_eq_true rfl, Nat.le_of_ble_eq_true rfl⟩ d_X9_init_164 ?_
  refine z_nmE hF (fun M55 eM55 hF => ?_)
  refine z_dup (zX_to hb cx) d_X9_init_167 rfl ?_
  have hsc200 : ∀ j, j < 87 → shL_SunnyPans.getD (200 + j) 0 = shL_Stand.getD j 0 := by decide +kernel
  obtain ⟨M56, hc, hF⟩ := zbv_inv hF
  have gM56 := f22_X7_init hc
  refine z_callCI (zX_to hb cx) (by omega) (Or.inl (by omega)) (c_X7_init l (by omega) (fun j hj => by
    have h9 := hs (200 + j) (by omega)
    rw [hsc200 j hj] at h9
    refine (zsh_old (by omega)).trans ?_
    exact (congrArg shX (by omega)).trans h9) hc) ci_SunnyPans_18 ⟨rfl, rfl, Nat.le_of_ble_eq_true rfl, Nat.le_of_ble_eq_true rfl⟩ ⟨Nat.le_of_ble_eq_true rfl, Nat.le_of_ble_eq_true rfl⟩ (Nat.le_of_ble_eq_true rfl) d_X9_init_168 ?_
  refine z_aastG (kd := 3) (len := 3) (cg := 53) (cv := 8) (ci := 7) (j := 0) (r := (RX7, TX7, 3)) (zX_to hb cx) rfl (zT_self (by show _ + 1 ≤ _; omega) (by omega)) (fun _ _ _ _ => rfl) (zT_sh ((⟨(hs 200 (by decide)), by omega, by show _ + 87 ≤ _; omega⟩ : zT shX _ _ 8)) (by omega)) rfl (fun _ _ _ _ => ⟨_, rfl⟩) (by omega) (zvp (by decide +kernel)) (by decide +kernel) d_X9_init_171 ?_
  refine z_nmE hF (fun M57 eM57 hF => ?_)
  refine z_iinc (zX_to hb cx) 1 1 [(1, .int ((0 : Int32) + 1)), (0, .ref (zad b0 0))] d_X9_init_172 0 rfl ki_1 (by decide) rfl ?_
  rw [show ((0 : Int32) + 1) = 1 from by decide]
  refine z_goto (zX_to hb cx) 154 d_X9_init_175 (by decide) ?_
  refine z_iload_n (zX_to hb cx) d_X9_init_154 0 rfl ?_
  refine z_iconst (v := 3) (zX_to hb cx) d_X9_init_155 ki_3 ?_
  refine z_icmp_ge (F1 := none) (F2 := some ()) (res := ()) (zX_to hb cx) 178 d_X9_init_156 (by decide) (by rw [if_neg (by decide)]) (fun h => by cases h) (fun _ => ?_)
  refine z_aload_n (zX_to hb cx) d_X9_init_159 1 rfl ?_
  refine z_getR0 (zX_to hb cx) ((zsh_old (by omega)).trans (hs 0 (by decide))) (by omega) fg_SunnyPans_23 90 (by omega) d_X9_init_160 ?_
  refine z_iload_n (zX_to hb cx) d_X9_init_163 0 rfl ?_
  refine z_newObj (ci := 7) (cd := 48) (zX_to hb cx) (by omega) (Or.inl (by omega)) rfl tyX7 tyX7_ok uw_7 wd_171 wd_172 wd_103 (fs := [.null, .int 0, .null]) (by intro j hj; match j, hj with | 0, _ => rfl | 1, _ => rfl | 2, _ => rfl | k + 3, h => exact absurd h (by show ¬ (k + 3 < 3); omega)) rfl ⟨Nat.le_of_ble_eq_true rfl, Nat.le_of_ble_eq_true rfl⟩ d_X9_init_164 ?_
  refine z_nmE hF (fun M58 eM58 hF => ?_)
  refine z_dup (zX_to hb cx) d_X9_init_167 rfl ?_
  have hsc287 : ∀ j, j < 87 → shL_SunnyPans.getD (287 + j) 0 = shL_Stand.getD j 0 := by decide +kernel
  obtain ⟨M59, hc, hF⟩ := zbv_inv hF
  have gM59 := f22_X7_init hc
  refine z_callCI (zX_to hb cx) (by omega) (Or.inl (by omega)) (c_X7_init l (by omega) (fun j hj => by
    have h9 := hs (287 + j) (by omega)
    rw [hsc287 j hj] at h9
    refine (zsh_old (by omega)).trans ?_
    exact (congrArg shX (by omega)).trans h9) hc) ci_SunnyPans_18 ⟨rfl, rfl, Nat.le_of_ble_eq_true rfl, Nat.le_of_ble_eq_true rfl⟩ ⟨Nat.le_of_ble_eq_true rfl, Nat.le_of_ble_eq_true rfl⟩ (Nat.le_of_ble_eq_true rfl) d_X9_init_168 ?_
  refine z_aastG (kd := 3) (len := 3) (cg := 53) (cv := 8) (ci := 7) (j := 1) (r := (RX7, TX7, 3)) (zX_to hb cx) rfl (zT_self (by show _ + 1 ≤ _; omega) (by omega)) (fun _ _ _ _ => rfl) (zT_sh ((⟨(hs 287 (by decide)), by omega, by show _ + 87 ≤ _; omega⟩ : zT shX _ _ 8)) (by omega)) rfl (fun _ _ _ _ => ⟨_, rfl⟩) (by omega) (zvp (by decide +kernel)) (by decide +kernel) d_X9_init_171 ?_
  refine z_nmE hF (fun M60 eM60 hF => ?_)
  refine z_iinc (zX_to hb cx) 1 1 [(1, .int ((1 : Int32) + 1)), (0, .ref (zad b0 0))] d_X9_init_172 0 rfl ki_1 (by decide) rfl ?_
  rw [show ((1 : Int32) + 1) = 2 from by decide]
  refine z_goto (zX_to hb cx) 154 d_X9_init_175 (by decide) ?_
  refine z_iload_n (zX_to hb cx) d_X9_init_154 0 rfl ?_
  refine z_iconst (v := 3) (zX_to hb cx) d_X9_init_155 ki_3 ?_
  refine z_icmp_ge (F1 := none) (F2 := some ()) (res := ()) (zX_to hb cx) 178 d_X9_init_156 (by decide) (by rw [if_neg (by decide)]) (fun h => by cases h) (fun _ => ?_)
  refine z_aload_n (zX_to hb cx) d_X9_init_159 1 rfl ?_
  refine z_getR0 (zX_to hb cx) ((zsh_old (by omega)).trans (hs 0 (by decide))) (by omega) fg_SunnyPans_23 90 (by omega) d_X9_init_160 ?_
  refine z_iload_n (zX_to hb cx) d_X9_init_163 0 rfl ?_
  refine z_newObj (ci := 7) (cd := 48) (zX_to hb cx) (by omega) (Or.inl (by omega)) rfl tyX7 tyX7_ok uw_7 wd_171 wd_172 wd_103 (fs := [.null, .int 0, .null]) (by intro j hj; match j, hj with | 0, _ => rfl | 1, _ => rfl | 2, _ => rfl | k + 3, h => exact absurd h (by show ¬ (k + 3 < 3); omega)) rfl ⟨Nat.le_of_ble_eq_true rfl, Nat.le_of_ble_eq_true rfl⟩ d_X9_init_164 ?_
  refine z_nmE hF (fun M61 eM61 hF => ?_)
  refine z_dup (zX_to hb cx) d_X9_init_167 rfl ?_
  have hsc374 : ∀ j, j < 87 → shL_SunnyPans.getD (374 + j) 0 = shL_Stand.getD j 0 := by decide +kernel
  obtain ⟨M62, hc, hF⟩ := zbv_inv hF
  have gM62 := f22_X7_init hc
  refine z_callCI (zX_to hb cx) (by omega) (Or.inl (by omega)) (c_X7_init l (by omega) (fun j hj => by
    have h9 := hs (374 + j) (by omega)
    rw [hsc374 j hj] at h9
    refine (zsh_old (by omega)).trans ?_
    exact (congrArg shX (by omega)).trans h9) hc) ci_SunnyPans_18 ⟨rfl, rfl, Nat.le_of_ble_eq_true rfl, Nat.le_of_ble_eq_true rfl⟩ ⟨Nat.le_of_ble_eq_true rfl, Nat.le_of_ble_eq_true rfl⟩ (Nat.le_of_ble_eq_true rfl) d_X9_init_168 ?_
  refine z_aastG (kd := 3) (len := 3) (cg := 53) (cv := 8) (ci := 7) (j := 2) (r := (RX7, TX7, 3)) (zX_to hb cx) rfl (zT_self (by show _ + 1 ≤ _; omega) (by omega)) (fun _ _ _ _ => rfl) (zT_sh ((⟨(hs 374 (by decide)), by omega, by show _ + 87 ≤ _; omega⟩ : zT shX _ _ 8)) (by omega)) rfl (fun _ _ _ _ => ⟨_, rfl⟩) (by omega) (zvp (by decide +kernel)) (by decide +kernel) d_X9_init_171 ?_
  refine z_nmE hF (fun M63 eM63 hF => ?_)
  have f64 : M63.2.2 90 0 = 200 := by
    rw [eM63, zR22j (j := 2) (i := 0) (by decide)]
    rw [gM62 90 (by omega)]
    rw [eM61, zNew22 (n := 374) (k := 1) (a := 90) (by omega)]
    rw [eM60, zR22j (j := 1) (i := 0) (by decide)]
    rw [gM59 90 (by omega)]
    rw [eM58, zNew22 (n := 287) (k := 1) (a := 90) (by omega)]
    rw [eM57, zR22e]
  have f65 : M63.2.2 90 1 = 287 := by
    rw [eM63, zR22j (j := 2) (i := 1) (by decide)]
    rw [gM62 90 (by omega)]
    rw [eM61, zNew22 (n := 374) (k := 1) (a := 90) (by omega)]
    rw [eM60, zR22e]
  have f66 : M63.2.2 90 2 = 374 := by
    rw [eM63, zR22e]
  refine z_shape (zHP_seal (fun H h => ?_)) ?_
  · rw [show shX 90 = 20 from (hs 90 (by decide))]
    refine Eq.trans h (congrArg some (zcellR ?_))
    refine zall_succ (n := 2) ?_ (by show zro (zad b0) (M63.2.2 90 2) = _; rw [f66]; exact zro_eq (Nat.succ_ne_zero _) rfl)
    refine zall_succ (n := 1) ?_ (by show zro (zad b0) (M63.2.2 90 1) = _; rw [f65]; exact zro_eq (Nat.succ_ne_zero _) rfl)
    refine zall_succ (n := 0) ?_ (by show zro (zad b0) (M63.2.2 90 0) = _; rw [f64]; exact zro_eq (Nat.succ_ne_zero _) rfl)
    exact fun j hj => absurd hj (Nat.not_lt_zero j)
  refine z_iinc (zX_to hb cx) 1 1 [(1, .int ((2 : Int32) + 1)), (0, .ref (zad b0 0))] d_X9_init_172 0 rfl ki_1 (by decide) rfl ?_
  rw [show ((2 : Int32) + 1) = 3 from by decide]
  refine z_goto (zX_to hb cx) 154 d_X9_init_175 (by decide) ?_
  refine z_iload_n (zX_to hb cx) d_X9_init_154 0 rfl ?_
  refine z_iconst (v := 3) (zX_to hb cx) d_X9_init_155 ki_3 ?_
  refine z_icmp_ge (F1 := some ()) (F2 := none) (res := ()) (zX_to hb cx) 178 d_X9_init_156 (by decide) (by rw [if_pos (by decide)]) (fun _ => ?_) (fun h => by cases h)
  cases hF
  exact z_vretC (zX_to hb cx) hr d_X9_init_178
set_option maxRecDepth 100000 in
theorem wd_1381 : Cond.methodLink "SunnyPansModel" 1 objectInit ∈ tbG := tw6 81 rfl rfl
theorem fq_SunnyPansModel_9 : zPutI "SunnyPansModel" 9 10 51 3 := ⟨zc_10, ⟨RX10, TX10, 40, rfl, by decide, uw_10, wd_1398, fun _ _ _ _ _ _ => ⟨_, rfl, rfl⟩⟩, ⟨RX10, TX10, 40, rfl, rfl, by decide +kernel⟩, fun _ _ _ _ _ _ _ => ⟨_, rfl, Nat.le_of_ble_eq_true rfl, rfl⟩⟩
theorem fq_SunnyPansModel_13 : zPutF "SunnyPansModel" 13 10 51 9 := ⟨zc_10, ⟨RX10, TX10, 40, _, rfl, by decide, uw_10, wd_1404, rfl, rfl, tyX10_ok 9 (by decide), fun _ => ⟨by rfl, by rfl⟩⟩, fun _ _ _ _ _ _ v hv => ⟨_, rfl, Nat.le_of_ble_eq_true rfl, by simp [zE, zrv, hv]⟩⟩
theorem fq_SunnyPansModel_17 : zPutF "SunnyPansModel" 17 10 51 10 := ⟨zc_10, ⟨RX10, TX10, 40, _, rfl, by decide, uw_10, wd_1405, rfl, rfl, tyX10_ok 10 (by decide), fun _ => ⟨by rfl, by rfl⟩⟩, fun _ _ _ _ _ _ v hv => ⟨_, rfl, Nat.le_of_ble_eq_true rfl, by simp [zE, zrv, hv]⟩⟩
theorem fq_SunnyPansModel_20 : zPutF "SunnyPansModel" 20 10 51 11 := ⟨zc_10, ⟨RX10, TX10, 40, _, rfl, by decide, uw_10, wd_1406, rfl, rfl, tyX10_ok 11 (by decide), fun _ => ⟨by rfl, by rfl⟩⟩, fun _ _ _ _ _ _ v hv => ⟨_, rfl, Nat.le_of_ble_eq_true rfl, by simp [zE, zrv, hv]⟩⟩
theorem fq_SunnyPansModel_23 : zPutF "SunnyPansModel" 23 10 51 12 := ⟨zc_10, ⟨RX10, TX10, 40, _, rfl, by decide, uw_10, wd_1407, rfl, rfl, tyX10_ok 12 (by decide), fun _ => ⟨by rfl, by rfl⟩⟩, fun _ _ _ _ _ _ v hv => ⟨_, rfl, Nat.le_of_ble_eq_true rfl, by simp [zE, zrv, hv]⟩⟩
theorem fq_SunnyPansModel_26 : zPutF "SunnyPansModel" 26 10 51 13 := ⟨zc_10, ⟨RX10, TX10, 40, _, rfl, by decide, uw_10, wd_1408, rfl, rfl, tyX10_ok 13 (by decide), fun _ => ⟨by rfl, by rfl⟩⟩, fun _ _ _ _ _ _ v hv => ⟨_, rfl, Nat.le_of_ble_eq_true rfl, by simp [zE, zrv, hv]⟩⟩
set_option maxRecDepth 100000 in
theorem wd_1382 : Cond.classLink "SunnyPansModel" 29 "[[I" ∈ tbG := tw6 82 rfl rfl
theorem fq_SunnyPansModel_31 : zPutF "SunnyPansModel" 31 10 51 14 := ⟨zc_10, ⟨RX10, TX10, 40, _, rfl, by decide, uw_10, wd_1409, rfl, rfl, tyX10_ok 14 (by decide), fun _ => ⟨by rfl, by rfl⟩⟩, fun _ _ _ _ _ _ v hv => ⟨_, rfl, Nat.le_of_ble_eq_true rfl, by simp [zE, zrv, hv]⟩⟩
theorem fq_SunnyPansModel_34 : zPutF "SunnyPansModel" 34 10 51 15 := ⟨zc_10, ⟨RX10, TX10, 40, _, rfl, by decide, uw_10, wd_1410, rfl, rfl, tyX10_ok 15 (by decide), fun _ => ⟨by rfl, by rfl⟩⟩, fun _ _ _ _ _ _ v hv => ⟨_, rfl, Nat.le_of_ble_eq_true rfl, by simp [zE, zrv, hv]⟩⟩
theorem ks_160 : (Int16.ofInt (160)).toInt32 = (160 : Int32) := by decide +kernel
theorem fq_SunnyPansModel_37 : zPutF "SunnyPansModel" 37 10 51 18 := ⟨zc_10, ⟨RX10, TX10, 40, _, rfl, by decide, uw_10, wd_1413, rfl, rfl, tyX10_ok 18 (by decide), fun _ => ⟨by rfl, by rfl⟩⟩, fun _ _ _ _ _ _ v hv => ⟨_, rfl, Nat.le_of_ble_eq_true rfl, by simp [zE, zrv, hv]⟩⟩
theorem fq_SunnyPansModel_40 : zPutF "SunnyPansModel" 40 10 51 19 := ⟨zc_10, ⟨RX10, TX10, 40, _, rfl, by decide, uw_10, wd_1414, rfl, rfl, tyX10_ok 19 (by decide), fun _ => ⟨by rfl, by rfl⟩⟩, fun _ _ _ _ _ _ v hv => ⟨_, rfl, Nat.le_of_ble_eq_true rfl, by simp [zE, zrv, hv]⟩⟩
theorem fq_SunnyPansModel_43 : zPutF "SunnyPansModel" 43 10 51 20 := ⟨zc_10, ⟨RX10, TX10, 40, _, rfl, by decide, uw_10, wd_1415, rfl, rfl, tyX10_ok 20 (by decide), fun _ => ⟨by rfl, by rfl⟩⟩, fun _ _ _ _ _ _ v hv => ⟨_, rfl, Nat.le_of_ble_eq_true rfl, by simp [zE, zrv, hv]⟩⟩
theorem fq_SunnyPansModel_46 : zPutF "SunnyPansModel" 46 10 51 21 := ⟨zc_10, ⟨RX10, TX10, 40, _, rfl, by decide, uw_10, wd_1416, rfl, rfl, tyX10_ok 21 (by decide), fun _ => ⟨by rfl, by rfl⟩⟩, fun _ _ _ _ _ _ v hv => ⟨_, rfl, Nat.le_of_ble_eq_true rfl, by simp [zE, zrv, hv]⟩⟩
theorem fq_SunnyPansModel_49 : zPutF "SunnyPansModel" 49 10 51 22 := ⟨zc_10, ⟨RX10, TX10, 40, _, rfl, by decide, uw_10, wd_1417, rfl, rfl, tyX10_ok 22 (by decide), fun _ => ⟨by rfl, by rfl⟩⟩, fun _ _ _ _ _ _ v hv => ⟨_, rfl, Nat.le_of_ble_eq_true rfl, by simp [zE, zrv, hv]⟩⟩
theorem fq_SunnyPansModel_52 : zPutF "SunnyPansModel" 52 10 51 23 := ⟨zc_10, ⟨RX10, TX10, 40, _, rfl, by decide, uw_10, wd_1418, rfl, rfl, tyX10_ok 23 (by decide), fun _ => ⟨by rfl, by rfl⟩⟩, fun _ _ _ _ _ _ v hv => ⟨_, rfl, Nat.le_of_ble_eq_true rfl, by simp [zE, zrv, hv]⟩⟩
theorem kb_80 : (Int8.ofInt (80)).toInt32 = (80 : Int32) := by decide +kernel
theorem fq_SunnyPansModel_55 : zPutF "SunnyPansModel" 55 10 51 24 := ⟨zc_10, ⟨RX10, TX10, 40, _, rfl, by decide, uw_10, wd_1419, rfl, rfl, tyX10_ok 24 (by decide), fun _ => ⟨by rfl, by rfl⟩⟩, fun _ _ _ _ _ _ v hv => ⟨_, rfl, Nat.le_of_ble_eq_true rfl, by simp [zE, zrv, hv]⟩⟩
theorem fq_SunnyPansModel_58 : zPutF "SunnyPansModel" 58 10 51 26 := ⟨zc_10, ⟨RX10, TX10, 40, _, rfl, by decide, uw_10, wd_1421, rfl, rfl, tyX10_ok 26 (by decide), fun _ => ⟨by rfl, by rfl⟩⟩, fun _ _ _ _ _ _ v hv => ⟨_, rfl, Nat.le_of_ble_eq_true rfl, by simp [zE, zrv, hv]⟩⟩
theorem fq_SunnyPansModel_61 : zPutF "SunnyPansModel" 61 10 51 27 := ⟨zc_10, ⟨RX10, TX10, 40, _, rfl, by decide, uw_10, wd_1422, rfl, rfl, tyX10_ok 27 (by decide), fun _ => ⟨by rfl, by rfl⟩⟩, fun _ _ _ _ _ _ v hv => ⟨_, rfl, Nat.le_of_ble_eq_true rfl, by simp [zE, zrv, hv]⟩⟩
theorem fq_SunnyPansModel_64 : zPutF "SunnyPansModel" 64 10 51 28 := ⟨zc_10, ⟨RX10, TX10, 40, _, rfl, by decide, uw_10, wd_1423, rfl, rfl, tyX10_ok 28 (by decide), fun _ => ⟨by rfl, by rfl⟩⟩, fun _ _ _ _ _ _ v hv => ⟨_, rfl, Nat.le_of_ble_eq_true rfl, by simp [zE, zrv, hv]⟩⟩
theorem ks_3316 : (Int16.ofInt (3316)).toInt32 = (3316 : Int32) := by decide +kernel
theorem fq_SunnyPansModel_67 : zPutF "SunnyPansModel" 67 10 51 29 := ⟨zc_10, ⟨RX10, TX10, 40, _, rfl, by decide, uw_10, wd_1424, rfl, rfl, tyX10_ok 29 (by decide), fun _ => ⟨by rfl, by rfl⟩⟩, fun _ _ _ _ _ _ v hv => ⟨_, rfl, Nat.le_of_ble_eq_true rfl, by simp [zE, zrv, hv]⟩⟩
theorem fq_SunnyPansModel_70 : zPutF "SunnyPansModel" 70 10 51 37 := ⟨zc_10, ⟨RX10, TX10, 40, _, rfl, by decide, uw_10, wd_1432, rfl, rfl, tyX10_ok 37 (by decide), fun _ => ⟨by rfl, by rfl⟩⟩, fun _ _ _ _ _ _ v hv => ⟨_, rfl, Nat.le_of_ble_eq_true rfl, by simp [zE, zrv, hv]⟩⟩
theorem fq_SunnyPansModel_73 : zPutF "SunnyPansModel" 73 10 51 38 := ⟨zc_10, ⟨RX10, TX10, 40, _, rfl, by decide, uw_10, wd_1433, rfl, rfl, tyX10_ok 38 (by decide), fun _ => ⟨by rfl, by rfl⟩⟩, fun _ _ _ _ _ _ v hv => ⟨_, rfl, Nat.le_of_ble_eq_true rfl, by simp [zE, zrv, hv]⟩⟩
theorem d_X10_init_0 : decode cX10_init 0 = .ok (.aload_n 0, 1) := by decide +kernel
theorem d_X10_init_1 : decode cX10_init 1 = .ok (.invokespecial 1, 3) := by decide +kernel
theorem d_X10_init_4 : decode cX10_init 4 = .ok (.aload_n 0, 1) := by decide +kernel
theorem d_X10_init_5 : decode cX10_init 5 = .ok (.iconst (-1), 1) := by decide +kernel
theorem d_X10_init_6 : decode cX10_init 6 = .ok (.putfield 9, 3) := by decide +kernel
theorem d_X10_init_9 : decode cX10_init 9 = .ok (.aload_n 0, 1) := by decide +kernel
theorem d_X10_init_10 : decode cX10_init 10 = .ok (.sipush 600, 3) := by decide +kernel
theorem d_X10_init_13 : decode cX10_init 13 = .ok (.newarray .int, 2) := by decide +kernel
theorem d_X10_init_15 : decode cX10_init 15 = .ok (.putfield 13, 3) := by decide +kernel
theorem d_X10_init_18 : decode cX10_init 18 = .ok (.aload_n 0, 1) := by decide +kernel
theorem d_X10_init_19 : decode cX10_init 19 = .ok (.iconst 2, 1) := by decide +kernel
theorem d_X10_init_20 : decode cX10_init 20 = .ok (.newarray .int, 2) := by decide +kernel
theorem d_X10_init_22 : decode cX10_init 22 = .ok (.putfield 17, 3) := by decide +kernel
theorem d_X10_init_25 : decode cX10_init 25 = .ok (.aload_n 0, 1) := by decide +kernel
theorem d_X10_init_26 : decode cX10_init 26 = .ok (.iconst 3, 1) := by decide +kernel
theorem d_X10_init_27 : decode cX10_init 27 = .ok (.newarray .int, 2) := by decide +kernel
theorem d_X10_init_29 : decode cX10_init 29 = .ok (.putfield 20, 3) := by decide +kernel
theorem d_X10_init_32 : decode cX10_init 32 = .ok (.aload_n 0, 1) := by decide +kernel
theorem d_X10_init_33 : decode cX10_init 33 = .ok (.iconst 3, 1) := by decide +kernel
theorem d_X10_init_34 : decode cX10_init 34 = .ok (.newarray .int, 2) := by decide +kernel
theorem d_X10_init_36 : decode cX10_init 36 = .ok (.putfield 23, 3) := by decide +kernel
theorem d_X10_init_39 : decode cX10_init 39 = .ok (.aload_n 0, 1) := by decide +kernel
theorem d_X10_init_40 : decode cX10_init 40 = .ok (.sipush 192, 3) := by decide +kernel
theorem d_X10_init_43 : decode cX10_init 43 = .ok (.newarray .int, 2) := by decide +kernel
theorem d_X10_init_45 : decode cX10_init 45 = .ok (.putfield 26, 3) := by decide +kernel
theorem d_X10_init_48 : decode cX10_init 48 = .ok (.aload_n 0, 1) := by decide +kernel
theorem d_X10_init_49 : decode cX10_init 49 = .ok (.bipush 10, 2) := by decide +kernel
theorem d_X10_init_51 : decode cX10_init 51 = .ok (.iconst 2, 1) := by decide +kernel
theorem d_X10_init_52 : decode cX10_init 52 = .ok (.multianewarray 29 2, 4) := by decide +kernel
theorem d_X10_init_56 : decode cX10_init 56 = .ok (.putfield 31, 3) := by decide +kernel
theorem d_X10_init_59 : decode cX10_init 59 = .ok (.aload_n 0, 1) := by decide +kernel
theorem d_X10_init_60 : decode cX10_init 60 = .ok (.bipush 10, 2) := by decide +kernel
theorem d_X10_init_62 : decode cX10_init 62 = .ok (.iconst 2, 1) := by decide +kernel
theorem d_X10_init_63 : decode cX10_init 63 = .ok (.multianewarray 29 2, 4) := by decide +kernel
theorem d_X10_init_67 : decode cX10_init 67 = .ok (.putfield 34, 3) := by decide +kernel
theorem d_X10_init_70 : decode cX10_init 70 = .ok (.aload_n 0, 1) := by decide +kernel
theorem d_X10_init_71 : decode cX10_init 71 = .ok (.sipush 160, 3) := by decide +kernel
theorem d_X10_init_74 : decode cX10_init 74 = .ok (.iconst 2, 1) := by decide +kernel
theorem d_X10_init_75 : decode cX10_init 75 = .ok (.multianewarray 29 2, 4) := by decide +kernel
theorem d_X10_init_79 : decode cX10_init 79 = .ok (.putfield 37, 3) := by decide +kernel
theorem d_X10_init_82 : decode cX10_init 82 = .ok (.aload_n 0, 1) := by decide +kernel
theorem d_X10_init_83 : decode cX10_init 83 = .ok (.sipush 160, 3) := by decide +kernel
theorem d_X10_init_86 : decode cX10_init 86 = .ok (.iconst 2, 1) := by decide +kernel
theorem d_X10_init_87 : decode cX10_init 87 = .ok (.multianewarray 29 2, 4) := by decide +kernel
theorem d_X10_init_91 : decode cX10_init 91 = .ok (.putfield 40, 3) := by decide +kernel
theorem d_X10_init_94 : decode cX10_init 94 = .ok (.aload_n 0, 1) := by decide +kernel
theorem d_X10_init_95 : decode cX10_init 95 = .ok (.bipush 8, 2) := by decide +kernel
theorem d_X10_init_97 : decode cX10_init 97 = .ok (.iconst 2, 1) := by decide +kernel
theorem d_X10_init_98 : decode cX10_init 98 = .ok (.multianewarray 29 2, 4) := by decide +kernel
theorem d_X10_init_102 : decode cX10_init 102 = .ok (.putfield 43, 3) := by decide +kernel
theorem d_X10_init_105 : decode cX10_init 105 = .ok (.aload_n 0, 1) := by decide +kernel
theorem d_X10_init_106 : decode cX10_init 106 = .ok (.bipush 8, 2) := by decide +kernel
theorem d_X10_init_108 : decode cX10_init 108 = .ok (.iconst 2, 1) := by decide +kernel
theorem d_X10_init_109 : decode cX10_init 109 = .ok (.multianewarray 29 2, 4) := by decide +kernel
theorem d_X10_init_113 : decode cX10_init 113 = .ok (.putfield 46, 3) := by decide +kernel
theorem d_X10_init_116 : decode cX10_init 116 = .ok (.aload_n 0, 1) := by decide +kernel
theorem d_X10_init_117 : decode cX10_init 117 = .ok (.sipush 160, 3) := by decide +kernel
theorem d_X10_init_120 : decode cX10_init 120 = .ok (.newarray .int, 2) := by decide +kernel
theorem d_X10_init_122 : decode cX10_init 122 = .ok (.putfield 49, 3) := by decide +kernel
theorem d_X10_init_125 : decode cX10_init 125 = .ok (.aload_n 0, 1) := by decide +kernel
theorem d_X10_init_126 : decode cX10_init 126 = .ok (.bipush 8, 2) := by decide +kernel
theorem d_X10_init_128 : decode cX10_init 128 = .ok (.newarray .int, 2) := by decide +kernel
theorem d_X10_init_130 : decode cX10_init 130 = .ok (.putfield 52, 3) := by decide +kernel
theorem d_X10_init_133 : decode cX10_init 133 = .ok (.aload_n 0, 1) := by decide +kernel
theorem d_X10_init_134 : decode cX10_init 134 = .ok (.bipush 80, 2) := by decide +kernel
theorem d_X10_init_136 : decode cX10_init 136 = .ok (.iconst 4, 1) := by decide +kernel
theorem d_X10_init_137 : decode cX10_init 137 = .ok (.multianewarray 29 2, 4) := by decide +kernel
theorem d_X10_init_141 : decode cX10_init 141 = .ok (.putfield 55, 3) := by decide +kernel
theorem d_X10_init_144 : decode cX10_init 144 = .ok (.aload_n 0, 1) := by decide +kernel
theorem d_X10_init_145 : decode cX10_init 145 = .ok (.sipush 195, 3) := by decide +kernel
theorem d_X10_init_148 : decode cX10_init 148 = .ok (.newarray .int, 2) := by decide +kernel
theorem d_X10_init_150 : decode cX10_init 150 = .ok (.putfield 58, 3) := by decide +kernel
theorem d_X10_init_153 : decode cX10_init 153 = .ok (.aload_n 0, 1) := by decide +kernel
theorem d_X10_init_154 : decode cX10_init 154 = .ok (.sipush 195, 3) := by decide +kernel
theorem d_X10_init_157 : decode cX10_init 157 = .ok (.newarray .int, 2) := by decide +kernel
theorem d_X10_init_159 : decode cX10_init 159 = .ok (.putfield 61, 3) := by decide +kernel
theorem d_X10_init_162 : decode cX10_init 162 = .ok (.aload_n 0, 1) := by decide +kernel
theorem d_X10_init_163 : decode cX10_init 163 = .ok (.bipush 16, 2) := by decide +kernel
theorem d_X10_init_165 : decode cX10_init 165 = .ok (.sipush 195, 3) := by decide +kernel
theorem d_X10_init_168 : decode cX10_init 168 = .ok (.multianewarray 29 2, 4) := by decide +kernel
theorem d_X10_init_172 : decode cX10_init 172 = .ok (.putfield 64, 3) := by decide +kernel
theorem d_X10_init_175 : decode cX10_init 175 = .ok (.aload_n 0, 1) := by decide +kernel
theorem d_X10_init_176 : decode cX10_init 176 = .ok (.iconst 3, 1) := by decide +kernel
theorem d_X10_init_177 : decode cX10_init 177 = .ok (.sipush 3316, 3) := by decide +kernel
theorem d_X10_init_180 : decode cX10_init 180 = .ok (.multianewarray 29 2, 4) := by decide +kernel
theorem d_X10_init_184 : decode cX10_init 184 = .ok (.putfield 67, 3) := by decide +kernel
theorem d_X10_init_187 : decode cX10_init 187 = .ok (.aload_n 0, 1) := by decide +kernel
theorem d_X10_init_188 : decode cX10_init 188 = .ok (.bipush 64, 2) := by decide +kernel
theorem d_X10_init_190 : decode cX10_init 190 = .ok (.newarray .int, 2) := by decide +kernel
theorem d_X10_init_192 : decode cX10_init 192 = .ok (.putfield 70, 3) := by decide +kernel
theorem d_X10_init_195 : decode cX10_init 195 = .ok (.aload_n 0, 1) := by decide +kernel
theorem d_X10_init_196 : decode cX10_init 196 = .ok (.bipush 64, 2) := by decide +kernel
theorem d_X10_init_198 : decode cX10_init 198 = .ok (.bipush 64, 2) := by decide +kernel
theorem d_X10_init_200 : decode cX10_init 200 = .ok (.multianewarray 29 2, 4) := by decide +kernel
theorem d_X10_init_204 : decode cX10_init 204 = .ok (.putfield 73, 3) := by decide +kernel
theorem d_X10_init_207 : decode cX10_init 207 = .ok (.aload_n 0, 1) := by decide +kernel
theorem d_X10_init_208 : decode cX10_init 208 = .ok (.invokevirtual 76, 3) := by decide +kernel
theorem d_X10_init_211 : decode cX10_init 211 = .ok (.aload_n 0, 1) := by decide +kernel
theorem d_X10_init_212 : decode cX10_init 212 = .ok (.invokevirtual 79, 3) := by decide +kernel
theorem d_X10_init_215 : decode cX10_init 215 = .ok (.return_, 1) := by decide +kernel
noncomputable def F_X10_init (M : zMem) : Option zMem :=
  zl (zI M 0 3 (-1 : Int32)) fun M1 =>
  zl (zNew M1 1 1) fun M2 =>
  zl (zR M2 0 9 1) fun M3 =>
  zl (zNew M3 2 1) fun M4 =>
  zl (zR M4 0 10 2) fun M5 =>
  zl (zNew M5 3 1) fun M6 =>
  zl (zR M6 0 11 3) fun M7 =>
  zl (zNew M7 4 1) fun M8 =>
  zl (zR M8 0 12 4) fun M9 =>
  zl (zNew M9 5 1) fun M10 =>
  zl (zR M10 0 13 5) fun M11 =>
  zl (zNew M11 6 (1 + 10)) fun M12 =>
  zl (zR M12 0 14 6) fun M13 =>
  zl (zNew M13 17 (1 + 10)) fun M14 =>
  zl (zR M14 0 15 17) fun M15 =>
  zl (zNew M15 28 (1 + 160)) fun M16 =>
  zl (zR M16 0 18 28) fun M17 =>
  zl (zNew M17 189 (1 + 160)) fun M18 =>
  zl (zR M18 0 19 189) fun M19 =>
  zl (zNew M19 350 (1 + 8)) fun M20 =>
  zl (zR M20 0 20 350) fun M21 =>
  zl (zNew M21 359 (1 + 8)) fun M22 =>
  zl (zR M22 0 21 359) fun M23 =>
  zl (zNew M23 368 1) fun M24 =>
  zl (zR M24 0 22 368) fun M25 =>
  zl (zNew M25 369 1) fun M26 =>
  zl (zR M26 0 23 369) fun M27 =>
  zl (zNew M27 370 (1 + 80)) fun M28 =>
  zl (zR M28 0 24 370) fun M29 =>
  zl (zNew M29 451 1) fun M30 =>
  zl (zR M30 0 26 451) fun M31 =>
  zl (zNew M31 452 1) fun M32 =>
  zl (zR M32 0 27 452) fun M33 =>
  zl (zNew M33 453 (1 + 16)) fun M34 =>
  zl (zR M34 0 28 453) fun M35 =>
  zl (zNew M35 470 (1 + 3)) fun M36 =>
  zl (zR M36 0 29 470) fun M37 =>
  zl (zNew M37 474 1) fun M38 =>
  zl (zR M38 0 37 474) fun M39 =>
  zl (zNew M39 475 (1 + 64)) fun M40 =>
  zl (zR M40 0 38 475) fun M41 =>
  zbv (F_X10_tellsNothing M41) fun M62 =>
  zbv (F_X10_beginsAnew M62) fun M63 =>
  some M63
def rm_X10_init : Room := { frames := 4, cells := 539, slots := 20137, locals := 125 }
set_option maxHeartbeats 16000000 in
set_option maxRecDepth 100000 in
theorem c_X10_init (l : Launch) {G : zG} {b0 n : Nat} (hn : n = 0 + 1) {M M9 : zMem} (hF : F_X10_init M = some M9) : zMC l yX10_init cX10_init 1 rm_X10_init 539 20137 G b0 (zsh shM 0 51) n M [.ref (zad b0 0)] shM (0 + 540) M9 := by
  have hs : ∀ j, j < 540 → shM j = shL_SunnyPansModel.getD j 0 := fun _ _ => rfl
  subst hn
  refine zMC_of (by decide +kernel) rfl (lv := [(0, .ref (zad b0 0))]) (Nat.le_of_ble_eq_true rfl) rfl (fun p e s m args below meth c A cx hr hin hsz hb => ?_)
  unfold F_X10_init at hF
  refine z_aload_n (zX_to hb cx) d_X10_init_0 0 rfl ?_
  refine z_objInit (zX_to hb cx) ⟨wd_1381, wd_130, wd_131⟩ d_X10_init_1 ⟨Nat.le_of_ble_eq_true rfl, Nat.le_of_ble_eq_true rfl⟩ ?_
  refine z_aload_n (zX_to hb cx) d_X10_init_4 0 rfl ?_
  refine z_iconst (v := -1) (zX_to hb cx) d_X10_init_5 ki_m1 ?_
  refine z_putI (zX_to hb cx) (zT_self (by show _ + 1 ≤ _; omega) (by omega)) fq_SunnyPansModel_9 d_X10_init_6 ?_
  refine z_nmE hF (fun M1 eM1 hF => ?_)
  refine z_aload_n (zX_to hb cx) d_X10_init_9 0 rfl ?_
  refine z_sipush (v := 600) (zX_to hb cx) d_X10_init_10 ks_600 ?_
  refine z_newArrI (len := 600) (zX_to hb cx) (by omega) (Or.inl (by omega)) ((zsh_old (by omega)).trans (hs 1 (by decide))) za_17 wd_170 (by decide) (by decide +kernel) (by decide) ⟨Nat.le_of_ble_eq_true rfl, Nat.le_of_ble_eq_true rfl⟩ d_X10_init_13 ?_
  refine z_nmE hF (fun M2 eM2 hF => ?_)
  refine z_putF (zX_to hb cx) hin (by omega) (zT_self (by show _ + 1 ≤ _; omega) (by omega)) fq_SunnyPansModel_13 d_X10_init_15 ?_
  refine z_nmE hF (fun M3 eM3 hF => ?_)
  refine z_aload_n (zX_to hb cx) d_X10_init_18 0 rfl ?_
  refine z_iconst (v := 2) (zX_to hb cx) d_X10_init_19 ki_2 ?_
  refine z_newArrI (len := 2) (zX_to hb cx) (by omega) (Or.inl (by omega)) ((zsh_old (by omega)).trans (hs 2 (by decide))) za_27 wd_170 (by decide) (by decide +kernel) (by decide) ⟨Nat.le_of_ble_eq_true rfl, Nat.le_of_ble_eq_true rfl⟩ d_X10_init_20 ?_
  refine z_nmE hF (fun M4 eM4 hF => ?_)
  refine z_putF (zX_to hb cx) hin (by omega) (zT_self (by show _ + 1 ≤ _; omega) (by omega)) fq_SunnyPansModel_17 d_X10_init_22 ?_
  refine z_nmE hF (fun M5 eM5 hF => ?_)
  refine z_aload_n (zX_to hb cx) d_X10_init_25 0 rfl ?_
  refine z_iconst (v := 3) (zX_to hb cx) d_X10_init_26 ki_3 ?_
  refine z_newArrI (len := 3) (zX_to hb cx) (by omega) (Or.inl (by omega)) ((zsh_old (by omega)).trans (hs 3 (by decide))) za_28 wd_170 (by decide) (by decide +kernel) (by decide) ⟨Nat.le_of_ble_eq_true rfl, Nat.le_of_ble_eq_true rfl⟩ d_X10_init_27 ?_
  refine z_nmE hF (fun M6 eM6 hF => ?_)
  refine z_putF (zX_to hb cx) hin (by omega) (zT_self (by show _ + 1 ≤ _; omega) (by omega)) fq_SunnyPansModel_20 d_X10_init_29 ?_
  refine z_nmE hF (fun M7 eM7 hF => ?_)
  refine z_aload_n (zX_to hb cx) d_X10_init_32 0 rfl ?_
  refine z_iconst (v := 3) (zX_to hb cx) d_X10_init_33 ki_3 ?_
  refine z_newArrI (len := 3) (zX_to hb cx) (by omega) (Or.inl (by omega)) ((zsh_old (by omega)).trans (hs 4 (by decide))) za_28 wd_170 (by decide) (by decide +kernel) (by decide) ⟨Nat.le_of_ble_eq_true rfl, Nat.le_of_ble_eq_true rfl⟩ d_X10_init_34 ?_
  refine z_nmE hF (fun M8 eM8 hF => ?_)
  refine z_putF (zX_to hb cx) hin (by omega) (zT_self (by show _ + 1 ≤ _; omega) (by omega)) fq_SunnyPansModel_23 d_X10_init_36 ?_
  refine z_nmE hF (fun M9 eM9 hF => ?_)
  refine z_aload_n (zX_to hb cx) d_X10_init_39 0 rfl ?_
  refine z_sipush (v := 192) (zX_to hb cx) d_X10_init_40 ks_192 ?_
  refine z_newArrI (len := 192) (zX_to hb cx) (by omega) (Or.inl (by omega)) ((zsh_old (by omega)).trans (hs 5 (by decide))) za_29 wd_170 (by decide) (by decide +kernel) (by decide) ⟨Nat.le_of_ble_eq_true rfl, Nat.le_of_ble_eq_true rfl⟩ d_X10_init_43 ?_
  refine z_nmE hF (fun M10 eM10 hF => ?_)
  refine z_putF (zX_to hb cx) hin (by omega) (zT_self (by show _ + 1 ≤ _; omega) (by omega)) fq_SunnyPansModel_26 d_X10_init_45 ?_
  refine z_nmE hF (fun M11 eM11 hF => ?_)
  refine z_aload_n (zX_to hb cx) d_X10_init_48 0 rfl ?_
  refine z_bipush (v := 10) (zX_to hb cx) d_X10_init_49 kb_10 ?_
  refine z_iconst (v := 2) (zX_to hb cx) d_X10_init_51 ki_2 ?_
  have hsm6 : ∀ j, j < 10 → shL_SunnyPansModel.getD (7 + j) 0 = 27 := by decide +kernel
  refine z_newMulti (ty := .int) (kd := 4) (ke := 0) (N := 10) (K := 2) (z := (2, .inl (fun _ => 0))) (co := 30) (ce := 27) (zX_to hb cx) (by omega) (Or.inl (by omega)) rfl rfl (fun _ h => h) (fun _ h => h) rfl (by decide) wd_170 wd_1382 (by decide) (by decide) (by decide +kernel) (by decide +kernel) (by decide) (by decide) (by decide) rfl rfl (fun c => by show ({ cls := c, slots := Array.replicate _ _, vm := .none } : Cell) = _; rw [arrV_new]; rfl) (fun _ _ _ _ => rfl) (fun _ => rfl) ((zsh_old (by omega)).trans (hs 6 (by decide))) (fun j hj => by
    have h9 := hs (7 + j) (by omega)
    rw [hsm6 j hj] at h9
    refine (zsh_old (by omega)).trans ?_
    exact (congrArg shM (by omega)).trans h9) ⟨Nat.le_of_ble_eq_true rfl, Nat.le_of_ble_eq_true rfl⟩ d_X10_init_52 ?_
  refine z_nmE hF (fun M12 eM12 hF => ?_)
  refine z_putF (zX_to hb cx) hin (by omega) (zT_self (by show _ + 1 ≤ _; omega) (by omega)) fq_SunnyPansModel_31 d_X10_init_56 ?_
  refine z_nmE hF (fun M13 eM13 hF => ?_)
  refine z_aload_n (zX_to hb cx) d_X10_init_59 0 rfl ?_
  refine z_bipush (v := 10) (zX_to hb cx) d_X10_init_60 kb_10 ?_
  refine z_iconst (v := 2) (zX_to hb cx) d_X10_init_62 ki_2 ?_
  have hsm17 : ∀ j, j < 10 → shL_SunnyPansModel.getD (18 + j) 0 = 27 := by decide +kernel
  refine z_newMulti (ty := .int) (kd := 4) (ke := 0) (N := 10) (K := 2) (z := (2, .inl (fun _ => 0))) (co := 30) (ce := 27) (zX_to hb cx) (by omega) (Or.inl (by omega)) rfl rfl (fun _ h => h) (fun _ h => h) rfl (by decide) wd_170 wd_1382 (by decide) (by decide) (by decide +kernel) (by decide +kernel) (by decide) (by decide) (by decide) rfl rfl (fun c => by show ({ cls := c, slots := Array.replicate _ _, vm := .none } : Cell) = _; rw [arrV_new]; rfl) (fun _ _ _ _ => rfl) (fun _ => rfl) ((zsh_old (by omega)).trans (hs 17 (by decide))) (fun j hj => by
    have h9 := hs (18 + j) (by omega)
    rw [hsm17 j hj] at h9
    refine (zsh_old (by omega)).trans ?_
    exact (congrArg shM (by omega)).trans h9) ⟨Nat.le_of_ble_eq_true rfl, Nat.le_of_ble_eq_true rfl⟩ d_X10_init_63 ?_
  refine z_nmE hF (fun M14 eM14 hF => ?_)
  refine z_putF (zX_to hb cx) hin (by omega) (zT_self (by show _ + 1 ≤ _; omega) (by omega)) fq_SunnyPansModel_34 d_X10_init_67 ?_
  refine z_nmE hF (fun M15 eM15 hF => ?_)
  refine z_aload_n (zX_to hb cx) d_X10_init_70 0 rfl ?_
  refine z_sipush (v := 160) (zX_to hb cx) d_X10_init_71 ks_160 ?_
  refine z_iconst (v := 2) (zX_to hb cx) d_X10_init_74 ki_2 ?_
  have hsm28 : ∀ j, j < 160 → shL_SunnyPansModel.getD (29 + j) 0 = 27 := by decide +kernel
  refine z_newMulti (ty := .int) (kd := 4) (ke := 0) (N := 160) (K := 2) (z := (2, .inl (fun _ => 0))) (co := 31) (ce := 27) (zX_to hb cx) (by omega) (Or.inl (by omega)) rfl rfl (fun _ h => h) (fun _ h => h) rfl (by decide) wd_170 wd_1382 (by decide) (by decide) (by decide +kernel) (by decide +kernel) (by decide) (by decide) (by decide) rfl rfl (fun c => by show ({ cls := c, slots := Array.replicate _ _, vm := .none } : Cell) = _; rw [arrV_new]; rfl) (fun _ _ _ _ => rfl) (fun _ => rfl) ((zsh_old (by omega)).trans (hs 28 (by decide))) (fun j hj => by
    have h9 := hs (29 + j) (by omega)
    rw [hsm28 j hj] at h9
    refine (zsh_old (by omega)).trans ?_
    exact (congrArg shM (by omega)).trans h9) ⟨Nat.le_of_ble_eq_true rfl, Nat.le_of_ble_eq_true rfl⟩ d_X10_init_75 ?_
  refine z_nmE hF (fun M16 eM16 hF => ?_)
  refine z_putF (zX_to hb cx) hin (by omega) (zT_self (by show _ + 1 ≤ _; omega) (by omega)) fq_SunnyPansModel_37 d_X10_init_79 ?_
  refine z_nmE hF (fun M17 eM17 hF => ?_)
  refine z_aload_n (zX_to hb cx) d_X10_init_82 0 rfl ?_
  refine z_sipush (v := 160) (zX_to hb cx) d_X10_init_83 ks_160 ?_
  refine z_iconst (v := 2) (zX_to hb cx) d_X10_init_86 ki_2 ?_
  have hsm189 : ∀ j, j < 160 → shL_SunnyPansModel.getD (190 + j) 0 = 27 := by decide +kernel
  refine z_newMulti (ty := .int) (kd := 4) (ke := 0) (N := 160) (K := 2) (z := (2, .inl (fun _ => 0))) (co := 31) (ce := 27) (zX_to hb cx) (by omega) (Or.inl (by omega)) rfl rfl (fun _ h => h) (fun _ h => h) rfl (by decide) wd_170 wd_1382 (by decide) (by decide) (by decide +kernel) (by decide +kernel) (by decide) (by decide) (by decide) rfl rfl (fun c => by show ({ cls := c, slots := Array.replicate _ _, vm := .none } : Cell) = _; rw [arrV_new]; rfl) (fun _ _ _ _ => rfl) (fun _ => rfl) ((zsh_old (by omega)).trans (hs 189 (by decide))) (fun j hj => by
    have h9 := hs (190 + j) (by omega)
    rw [hsm189 j hj] at h9
    refine (zsh_old (by omega)).trans ?_
    exact (congrArg shM (by omega)).trans h9) ⟨Nat.le_of_ble_eq_true rfl, Nat.le_of_ble_eq_true rfl⟩ d_X10_init_87 ?_
  refine z_nmE hF (fun M18 eM18 hF => ?_)
  refine z_putF (zX_to hb cx) hin (by omega) (zT_self (by show _ + 1 ≤ _; omega) (by omega)) fq_SunnyPansModel_40 d_X10_init_91 ?_
  refine z_nmE hF (fun M19 eM19 hF => ?_)
  refine z_aload_n (zX_to hb cx) d_X10_init_94 0 rfl ?_
  refine z_bipush (v := 8) (zX_to hb cx) d_X10_init_95 kb_8 ?_
  refine z_iconst (v := 2) (zX_to hb cx) d_X10_init_97 ki_2 ?_
  have hsm350 : ∀ j, j < 8 → shL_SunnyPansModel.getD (351 + j) 0 = 27 := by decide +kernel
  refine z_newMulti (ty := .int) (kd := 4) (ke := 0) (N := 8) (K := 2) (z := (2, .inl (fun _ => 0))) (co := 32) (ce := 27) (zX_to hb cx) (by omega) (Or.inl (by omega)) rfl rfl (fun _ h => h) (fun _ h => h) rfl (by decide) wd_170 wd_1382 (by decide) (by decide) (by decide +kernel) (by decide +kernel) (by decide) (by decide) (by decide) rfl rfl (fun c => by show ({ cls := c, slots := Array.replicate _ _, vm := .none } : Cell) = _; rw [arrV_new]; rfl) (fun _ _ _ _ => rfl) (fun _ => rfl) ((zsh_old (by omega)).trans (hs 350 (by decide))) (fun j hj => by
    have h9 := hs (351 + j) (by omega)
    rw [hsm350 j hj] at h9
    refine (zsh_old (by omega)).trans ?_
    exact (congrArg shM (by omega)).trans h9) ⟨Nat.le_of_ble_eq_true rfl, Nat.le_of_ble_eq_true rfl⟩ d_X10_init_98 ?_
  refine z_nmE hF (fun M20 eM20 hF => ?_)
  refine z_putF (zX_to hb cx) hin (by omega) (zT_self (by show _ + 1 ≤ _; omega) (by omega)) fq_SunnyPansModel_43 d_X10_init_102 ?_
  refine z_nmE hF (fun M21 eM21 hF => ?_)
  refine z_aload_n (zX_to hb cx) d_X10_init_105 0 rfl ?_
  refine z_bipush (v := 8) (zX_to hb cx) d_X10_init_106 kb_8 ?_
  refine z_iconst (v := 2) (zX_to hb cx) d_X10_init_108 ki_2 ?_
  have hsm359 : ∀ j, j < 8 → shL_SunnyPansModel.getD (360 + j) 0 = 27 := by decide +kernel
  refine z_newMulti (ty := .int) (kd := 4) (ke := 0) (N := 8) (K := 2) (z := (2, .inl (fun _ => 0))) (co := 32) (ce := 27) (zX_to hb cx) (by omega) (Or.inl (by omega)) rfl rfl (fun _ h => h) (fun _ h => h) rfl (by decide) wd_170 wd_1382 (by decide) (by decide) (by decide +kernel) (by decide +kernel) (by decide) (by decide) (by decide) rfl rfl (fun c => by show ({ cls := c, slots := Array.replicate _ _, vm := .none } : Cell) = _; rw [arrV_new]; rfl) (fun _ _ _ _ => rfl) (fun _ => rfl) ((zsh_old (by omega)).trans (hs 359 (by decide))) (fun j hj => by
    have h9 := hs (360 + j) (by omega)
    rw [hsm359 j hj] at h9
    refine (zsh_old (by omega)).trans ?_
    exact (congrArg shM (by omega)).trans h9) ⟨Nat.le_of_ble_eq_true rfl, Nat.le_of_ble_eq_true rfl⟩ d_X10_init_109 ?_
  refine z_nmE hF (fun M22 eM22 hF => ?_)
  refine z_putF (zX_to hb cx) hin (by omega) (zT_self (by show _ + 1 ≤ _; omega) (by omega)) fq_SunnyPansModel_46 d_X10_init_113 ?_
  refine z_nmE hF (fun M23 eM23 hF => ?_)
  refine z_aload_n (zX_to hb cx) d_X10_init_116 0 rfl ?_
  refine z_sipush (v := 160) (zX_to hb cx) d_X10_init_117 ks_160 ?_
  refine z_newArrI (len := 160) (zX_to hb cx) (by omega) (Or.inl (by omega)) ((zsh_old (by omega)).trans (hs 368 (by decide))) za_33 wd_170 (by decide) (by decide +kernel) (by decide) ⟨Nat.le_of_ble_eq_true rfl, Nat.le_of_ble_eq_true rfl⟩ d_X10_init_120 ?_
  refine z_nmE hF (fun M24 eM24 hF => ?_)
  refine z_putF (zX_to hb cx) hin (by omega) (zT_self (by show _ + 1 ≤ _; omega) (by omega)) fq_SunnyPansModel_49 d_X10_init_122 ?_
  refine z_nmE hF (fun M25 eM25 hF => ?_)
  refine z_aload_n (zX_to hb cx) d_X10_init_125 0 rfl ?_
  refine z_bipush (v := 8) (zX_to hb cx) d_X10_init_126 kb_8 ?_
  refine z_newArrI (len := 8) (zX_to hb cx) (by omega) (Or.inl (by omega)) ((zsh_old (by omega)).trans (hs 369 (by decide))) za_26 wd_170 (by decide) (by decide +kernel) (by decide) ⟨Nat.le_of_ble_eq_true rfl, Nat.le_of_ble_eq_true rfl⟩ d_X10_init_128 ?_
  refine z_nmE hF (fun M26 eM26 hF => ?_)
  refine z_putF (zX_to hb cx) hin (by omega) (zT_self (by show _ + 1 ≤ _; omega) (by omega)) fq_SunnyPansModel_52 d_X10_init_130 ?_
  refine z_nmE hF (fun M27 eM27 hF => ?_)
  refine z_aload_n (zX_to hb cx) d_X10_init_133 0 rfl ?_
  refine z_bipush (v := 80) (zX_to hb cx) d_X10_init_134 kb_80 ?_
  refine z_iconst (v := 4) (zX_to hb cx) d_X10_init_136 ki_4 ?_
  have hsm370 : ∀ j, j < 80 → shL_SunnyPansModel.getD (371 + j) 0 = 35 := by decide +kernel
  refine z_newMulti (ty := .int) (kd := 4) (ke := 0) (N := 80) (K := 4) (z := (4, .inl (fun _ => 0))) (co := 34) (ce := 35) (zX_to hb cx) (by omega) (Or.inl (by omega)) rfl rfl (fun _ h => h) (fun _ h => h) rfl (by decide) wd_170 wd_1382 (by decide) (by decide) (by decide +kernel) (by decide +kernel) (by decide) (by decide) (by decide) rfl rfl (fun c => by show ({ cls := c, slots := Array.replicate _ _, vm := .none } : Cell) = _; rw [arrV_new]; rfl) (fun _ _ _ _ => rfl) (fun _ => rfl) ((zsh_old (by omega)).trans (hs 370 (by decide))) (fun j hj => by
    have h9 := hs (371 + j) (by omega)
    rw [hsm370 j hj] at h9
    refine (zsh_old (by omega)).trans ?_
    exact (congrArg shM (by omega)).trans h9) ⟨Nat.le_of_ble_eq_true rfl, Nat.le_of_ble_eq_true rfl⟩ d_X10_init_137 ?_
  refine z_nmE hF (fun M28 eM28 hF => ?_)
  refine z_putF (zX_to hb cx) hin (by omega) (zT_self (by show _ + 1 ≤ _; omega) (by omega)) fq_SunnyPansModel_55 d_X10_init_141 ?_
  refine z_nmE hF (fun M29 eM29 hF => ?_)
  refine z_aload_n (zX_to hb cx) d_X10_init_144 0 rfl ?_
  refine z_sipush (v := 195) (zX_to hb cx) d_X10_init_145 ks_195 ?_
  refine z_newArrI (len := 195) (zX_to hb cx) (by omega) (Or.inl (by omega)) ((zsh_old (by omega)).trans (hs 451 (by decide))) za_36 wd_170 (by decide) (by decide +kernel) (by decide) ⟨Nat.le_of_ble_eq_true rfl, Nat.le_of_ble_eq_true rfl⟩ d_X10_init_148 ?_
  refine z_nmE hF (fun M30 eM30 hF => ?_)
  refine z_putF (zX_to hb cx) hin (by omega) (zT_self (by show _ + 1 ≤ _; omega) (by omega)) fq_SunnyPansModel_58 d_X10_init_150 ?_
  refine z_nmE hF (fun M31 eM31 hF => ?_)
  refine z_aload_n (zX_to hb cx) d_X10_init_153 0 rfl ?_
  refine z_sipush (v := 195) (zX_to hb cx) d_X10_init_154 ks_195 ?_
  refine z_newArrI (len := 195) (zX_to hb cx) (by omega) (Or.inl (by omega)) ((zsh_old (by omega)).trans (hs 452 (by decide))) za_36 wd_170 (by decide) (by decide +kernel) (by decide) ⟨Nat.le_of_ble_eq_true rfl, Nat.le_of_ble_eq_true rfl⟩ d_X10_init_157 ?_
  refine z_nmE hF (fun M32 eM32 hF => ?_)
  refine z_putF (zX_to hb cx) hin (by omega) (zT_self (by show _ + 1 ≤ _; omega) (by omega)) fq_SunnyPansModel_61 d_X10_init_159 ?_
  refine z_nmE hF (fun M33 eM33 hF => ?_)
  refine z_aload_n (zX_to hb cx) d_X10_init_162 0 rfl ?_
  refine z_bipush (v := 16) (zX_to hb cx) d_X10_init_163 kb_16 ?_
  refine z_sipush (v := 195) (zX_to hb cx) d_X10_init_165 ks_195 ?_
  have hsm453 : ∀ j, j < 16 → shL_SunnyPansModel.getD (454 + j) 0 = 36 := by decide +kernel
  refine z_newMulti (ty := .int) (kd := 4) (ke := 0) (N := 16) (K := 195) (z := (195, .inl (fun _ => 0))) (co := 37) (ce := 36) (zX_to hb cx) (by omega) (Or.inl (by omega)) rfl rfl (fun _ h => h) (fun _ h => h) rfl (by decide) wd_170 wd_1382 (by decide) (by decide) (by decide +kernel) (by decide +kernel) (by decide) (by decide) (by decide) rfl rfl (fun c => by show ({ cls := c, slots := Array.replicate _ _, vm := .none } : Cell) = _; rw [arrV_new]; rfl) (fun _ _ _ _ => rfl) (fun _ => rfl) ((zsh_old (by omega)).trans (hs 453 (by decide))) (fun j hj => by
    have h9 := hs (454 + j) (by omega)
    rw [hsm453 j hj] at h9
    refine (zsh_old (by omega)).trans ?_
    exact (congrArg shM (by omega)).trans h9) ⟨Nat.le_of_ble_eq_true rfl, Nat.le_of_ble_eq_true rfl⟩ d_X10_init_168 ?_
  refine z_nmE hF (fun M34 eM34 hF => ?_)
  refine z_putF (zX_to hb cx) hin (by omega) (zT_self (by show _ + 1 ≤ _; omega) (by omega)) fq_SunnyPansModel_64 d_X10_init_172 ?_
  refine z_nmE hF (fun M35 eM35 hF => ?_)
  refine z_aload_n (zX_to hb cx) d_X10_init_175 0 rfl ?_
  refine z_iconst (v := 3) (zX_to hb cx) d_X10_init_176 ki_3 ?_
  refine z_sipush (v := 3316) (zX_to hb cx) d_X10_init_177 ks_3316 ?_
  have hsm470 : ∀ j, j < 3 → shL_SunnyPansModel.getD (471 + j) 0 = 39 := by decide +kernel
  refine z_newMulti (ty := .int) (kd := 4) (ke := 0) (N := 3) (K := 3316) (z := (3316, .inl (fun _ => 0))) (co := 38) (ce := 39) (zX_to hb cx) (by omega) (Or.inl (by omega)) rfl rfl (fun _ h => h) (fun _ h => h) rfl (by decide) wd_170 wd_1382 (by decide) (by decide) (by decide +kernel) (by decide +kernel) (by decide) (by decide) (by decide) rfl rfl (fun c => by show ({ cls := c, slots := Array.replicate _ _, vm := .none } : Cell) = _; rw [arrV_new]; rfl) (fun _ _ _ _ => rfl) (fun _ => rfl) ((zsh_old (by omega)).trans (hs 470 (by decide))) (fun j hj => by
    have h9 := hs (471 + j) (by omega)
    rw [hsm470 j hj] at h9
    refine (zsh_old (by omega)).trans ?_
    exact (congrArg shM (by omega)).trans h9) ⟨Nat.le_of_ble_eq_true rfl, Nat.le_of_ble_eq_true rfl⟩ d_X10_init_180 ?_
  refine z_nmE hF (fun M36 eM36 hF => ?_)
  refine z_putF (zX_to hb cx) hin (by omega) (zT_self (by show _ + 1 ≤ _; omega) (by omega)) fq_SunnyPansModel_67 d_X10_init_184 ?_
  refine z_nmE hF (fun M37 eM37 hF => ?_)
  refine z_aload_n (zX_to hb cx) d_X10_init_187 0 rfl ?_
  refine z_bipush (v := 64) (zX_to hb cx) d_X10_init_188 kb_64 ?_
  refine z_newArrI (len := 64) (zX_to hb cx) (by omega) (Or.inl (by omega)) ((zsh_old (by omega)).trans (hs 474 (by decide))) za_16 wd_170 (by decide) (by decide +kernel) (by decide) ⟨Nat.le_of_ble_eq_true rfl, Nat.le_of_ble_eq_true rfl⟩ d_X10_init_190 ?_
  refine z_nmE hF (fun M38 eM38 hF => ?_)
  refine z_putF (zX_to hb cx) hin (by omega) (zT_self (by show _ + 1 ≤ _; omega) (by omega)) fq_SunnyPansModel_70 d_X10_init_192 ?_
  refine z_nmE hF (fun M39 eM39 hF => ?_)
  refine z_aload_n (zX_to hb cx) d_X10_init_195 0 rfl ?_
  refine z_bipush (v := 64) (zX_to hb cx) d_X10_init_196 kb_64 ?_
  refine z_bipush (v := 64) (zX_to hb cx) d_X10_init_198 kb_64 ?_
  have hsm475 : ∀ j, j < 64 → shL_SunnyPansModel.getD (476 + j) 0 = 16 := by decide +kernel
  refine z_newMulti (ty := .int) (kd := 4) (ke := 0) (N := 64) (K := 64) (z := (64, .inl (fun _ => 0))) (co := 40) (ce := 16) (zX_to hb cx) (by omega) (Or.inl (by omega)) rfl rfl (fun _ h => h) (fun _ h => h) rfl (by decide) wd_170 wd_1382 (by decide) (by decide) (by decide +kernel) (by decide +kernel) (by decide) (by decide) (by decide) rfl rfl (fun c => by show ({ cls := c, slots := Array.replicate _ _, vm := .none } : Cell) = _; rw [arrV_new]; rfl) (fun _ _ _ _ => rfl) (fun _ => rfl) ((zsh_old (by omega)).trans (hs 475 (by decide))) (fun j hj => by
    have h9 := hs (476 + j) (by omega)
    rw [hsm475 j hj] at h9
    refine (zsh_old (by omega)).trans ?_
    exact (congrArg shM (by omega)).trans h9) ⟨Nat.le_of_ble_eq_true rfl, Nat.le_of_ble_eq_true rfl⟩ d_X10_init_200 ?_
  refine z_nmE hF (fun M40 eM40 hF => ?_)
  refine z_putF (zX_to hb cx) hin (by omega) (zT_self (by show _ + 1 ≤ _; omega) (by omega)) fq_SunnyPansModel_73 d_X10_init_204 ?_
  refine z_nmE hF (fun M41 eM41 hF => ?_)
  have f42 : M41.2.2 0 9 = 1 := by
    rw [eM41, zR22j (j := 38) (i := 9) (by decide)]
    rw [eM40, zNew22 (n := 475) (k := (1 + 64)) (a := 0) (by omega)]
    rw [eM39, zR22j (j := 37) (i := 9) (by decide)]
    rw [eM38, zNew22 (n := 474) (k := 1) (a := 0) (by omega)]
    rw [eM37, zR22j (j := 29) (i := 9) (by decide)]
    rw [eM36, zNew22 (n := 470) (k := (1 + 3)) (a := 0) (by omega)]
    rw [eM35, zR22j (j := 28) (i := 9) (by decide)]
    rw [eM34, zNew22 (n := 453) (k := (1 + 16)) (a := 0) (by omega)]
    rw [eM33, zR22j (j := 27) (i := 9) (by decide)]
    rw [eM32, zNew22 (n := 452) (k := 1) (a := 0) (by omega)]
    rw [eM31, zR22j (j := 26) (i := 9) (by decide)]
    rw [eM30, zNew22 (n := 451) (k := 1) (a := 0) (by omega)]
    rw [eM29, zR22j (j := 24) (i := 9) (by decide)]
    rw [eM28, zNew22 (n := 370) (k := (1 + 80)) (a := 0) (by omega)]
    rw [eM27, zR22j (j := 23) (i := 9) (by decide)]
    rw [eM26, zNew22 (n := 369) (k := 1) (a := 0) (by omega)]
    rw [eM25, zR22j (j := 22) (i := 9) (by decide)]
    rw [eM24, zNew22 (n := 368) (k := 1) (a := 0) (by omega)]
    rw [eM23, zR22j (j := 21) (i := 9) (by decide)]
    rw [eM22, zNew22 (n := 359) (k := (1 + 8)) (a := 0) (by omega)]
    rw [eM21, zR22j (j := 20) (i := 9) (by decide)]
    rw [eM20, zNew22 (n := 350) (k := (1 + 8)) (a := 0) (by omega)]
    rw [eM19, zR22j (j := 19) (i := 9) (by decide)]
    rw [eM18, zNew22 (n := 189) (k := (1 + 160)) (a := 0) (by omega)]
    rw [eM17, zR22j (j := 18) (i := 9) (by decide)]
    rw [eM16, zNew22 (n := 28) (k := (1 + 160)) (a := 0) (by omega)]
    rw [eM15, zR22j (j := 15) (i := 9) (by decide)]
    rw [eM14, zNew22 (n := 17) (k := (1 + 10)) (a := 0) (by omega)]
    rw [eM13, zR22j (j := 14) (i := 9) (by decide)]
    rw [eM12, zNew22 (n := 6) (k := (1 + 10)) (a := 0) (by omega)]
    rw [eM11, zR22j (j := 13) (i := 9) (by decide)]
    rw [eM10, zNew22 (n := 5) (k := 1) (a := 0) (by omega)]
    rw [eM9, zR22j (j := 12) (i := 9) (by decide)]
    rw [eM8, zNew22 (n := 4) (k := 1) (a := 0) (by omega)]
    rw [eM7, zR22j (j := 11) (i := 9) (by decide)]
    rw [eM6, zNew22 (n := 3) (k := 1) (a := 0) (by omega)]
    rw [eM5, zR22j (j := 10) (i := 9) (by decide)]
    rw [eM4, zNew22 (n := 2) (k := 1) (a := 0) (by omega)]
    rw [eM3, zR22e]
  have f43 : M41.2.2 0 10 = 2 := by
    rw [eM41, zR22j (j := 38) (i := 10) (by decide)]
    rw [eM40, zNew22 (n := 475) (k := (1 + 64)) (a := 0) (by omega)]
    rw [eM39, zR22j (j := 37) (i := 10) (by decide)]
    rw [eM38, zNew22 (n := 474) (k := 1) (a := 0) (by omega)]
    rw [eM37, zR22j (j := 29) (i := 10) (by decide)]
    rw [eM36, zNew22 (n := 470) (k := (1 + 3)) (a := 0) (by omega)]
    rw [eM35, zR22j (j := 28) (i := 10) (by decide)]
    rw [eM34, zNew22 (n := 453) (k := (1 + 16)) (a := 0) (by omega)]
    rw [eM33, zR22j (j := 27) (i := 10) (by decide)]
    rw [eM32, zNew22 (n := 452) (k := 1) (a := 0) (by omega)]
    rw [eM31, zR22j (j := 26) (i := 10) (by decide)]
    rw [eM30, zNew22 (n := 451) (k := 1) (a := 0) (by omega)]
    rw [eM29, zR22j (j := 24) (i := 10) (by decide)]
    rw [eM28, zNew22 (n := 370) (k := (1 + 80)) (a := 0) (by omega)]
    rw [eM27, zR22j (j := 23) (i := 10) (by decide)]
    rw [eM26, zNew22 (n := 369) (k := 1) (a := 0) (by omega)]
    rw [eM25, zR22j (j := 22) (i := 10) (by decide)]
    rw [eM24, zNew22 (n := 368) (k := 1) (a := 0) (by omega)]
    rw [eM23, zR22j (j := 21) (i := 10) (by decide)]
    rw [eM22, zNew22 (n := 359) (k := (1 + 8)) (a := 0) (by omega)]
    rw [eM21, zR22j (j := 20) (i := 10) (by decide)]
    rw [eM20, zNew22 (n := 350) (k := (1 + 8)) (a := 0) (by omega)]
    rw [eM19, zR22j (j := 19) (i := 10) (by decide)]
    rw [eM18, zNew22 (n := 189) (k := (1 + 160)) (a := 0) (by omega)]
    rw [eM17, zR22j (j := 18) (i := 10) (by decide)]
    rw [eM16, zNew22 (n := 28) (k := (1 + 160)) (a := 0) (by omega)]
    rw [eM15, zR22j (j := 15) (i := 10) (by decide)]
    rw [eM14, zNew22 (n := 17) (k := (1 + 10)) (a := 0) (by omega)]
    rw [eM13, zR22j (j := 14) (i := 10) (by decide)]
    rw [eM12, zNew22 (n := 6) (k := (1 + 10)) (a := 0) (by omega)]
    rw [eM11, zR22j (j := 13) (i := 10) (by decide)]
    rw [eM10, zNew22 (n := 5) (k := 1) (a := 0) (by omega)]
    rw [eM9, zR22j (j := 12) (i := 10) (by decide)]
    rw [eM8, zNew22 (n := 4) (k := 1) (a := 0) (by omega)]
    rw [eM7, zR22j (j := 11) (i := 10) (by decide)]
    rw [eM6, zNew22 (n := 3) (k := 1) (a := 0) (by omega)]
    rw [eM5, zR22e]
  have f44 : M41.2.2 0 11 = 3 := by
    rw [eM41, zR22j (j := 38) (i := 11) (by decide)]
    rw [eM40, zNew22 (n := 475) (k := (1 + 64)) (a := 0) (by omega)]
    rw [eM39, zR22j (j := 37) (i := 11) (by decide)]
    rw [eM38, zNew22 (n := 474) (k := 1) (a := 0) (by omega)]
    rw [eM37, zR22j (j := 29) (i := 11) (by decide)]
    rw [eM36, zNew22 (n := 470) (k := (1 + 3)) (a := 0) (by omega)]
    rw [eM35, zR22j (j := 28) (i := 11) (by decide)]
    rw [eM34, zNew22 (n := 453) (k := (1 + 16)) (a := 0) (by omega)]
    rw [eM33, zR22j (j := 27) (i := 11) (by decide)]
    rw [eM32, zNew22 (n := 452) (k := 1) (a := 0) (by omega)]
    rw [eM31, zR22j (j := 26) (i := 11) (by decide)]
    rw [eM30, zNew22 (n := 451) (k := 1) (a := 0) (by omega)]
    rw [eM29, zR22j (j := 24) (i := 11) (by decide)]
    rw [eM28, zNew22 (n := 370) (k := (1 + 80)) (a := 0) (by omega)]
    rw [eM27, zR22j (j := 23) (i := 11) (by decide)]
    rw [eM26, zNew22 (n := 369) (k := 1) (a := 0) (by omega)]
    rw [eM25, zR22j (j := 22) (i := 11) (by decide)]
    rw [eM24, zNew22 (n := 368) (k := 1) (a := 0) (by omega)]
    rw [eM23, zR22j (j := 21) (i := 11) (by decide)]
    rw [eM22, zNew22 (n := 359) (k := (1 + 8)) (a := 0) (by omega)]
    rw [eM21, zR22j (j := 20) (i := 11) (by decide)]
    rw [eM20, zNew22 (n := 350) (k := (1 + 8)) (a := 0) (by omega)]
    rw [eM19, zR22j (j := 19) (i := 11) (by decide)]
    rw [eM18, zNew22 (n := 189) (k := (1 + 160)) (a := 0) (by omega)]
    rw [eM17, zR22j (j := 18) (i := 11) (by decide)]
    rw [eM16, zNew22 (n := 28) (k := (1 + 160)) (a := 0) (by omega)]
    rw [eM15, zR22j (j := 15) (i := 11) (by decide)]
    rw [eM14, zNew22 (n := 17) (k := (1 + 10)) (a := 0) (by omega)]
    rw [eM13, zR22j (j := 14) (i := 11) (by decide)]
    rw [eM12, zNew22 (n := 6) (k := (1 + 10)) (a := 0) (by omega)]
    rw [eM11, zR22j (j := 13) (i := 11) (by decide)]
    rw [eM10, zNew22 (n := 5) (k := 1) (a := 0) (by omega)]
    rw [eM9, zR22j (j := 12) (i := 11) (by decide)]
    rw [eM8, zNew22 (n := 4) (k := 1) (a := 0) (by omega)]
    rw [eM7, zR22e]
  have f45 : M41.2.2 0 12 = 4 := by
    rw [eM41, zR22j (j := 38) (i := 12) (by decide)]
    rw [eM40, zNew22 (n := 475) (k := (1 + 64)) (a := 0) (by omega)]
    rw [eM39, zR22j (j := 37) (i := 12) (by decide)]
    rw [eM38, zNew22 (n := 474) (k := 1) (a := 0) (by omega)]
    rw [eM37, zR22j (j := 29) (i := 12) (by decide)]
    rw [eM36, zNew22 (n := 470) (k := (1 + 3)) (a := 0) (by omega)]
    rw [eM35, zR22j (j := 28) (i := 12) (by decide)]
    rw [eM34, zNew22 (n := 453) (k := (1 + 16)) (a := 0) (by omega)]
    rw [eM33, zR22j (j := 27) (i := 12) (by decide)]
    rw [eM32, zNew22 (n := 452) (k := 1) (a := 0) (by omega)]
    rw [eM31, zR22j (j := 26) (i := 12) (by decide)]
    rw [eM30, zNew22 (n := 451) (k := 1) (a := 0) (by omega)]
    rw [eM29, zR22j (j := 24) (i := 12) (by decide)]
    rw [eM28, zNew22 (n := 370) (k := (1 + 80)) (a := 0) (by omega)]
    rw [eM27, zR22j (j := 23) (i := 12) (by decide)]
    rw [eM26, zNew22 (n := 369) (k := 1) (a := 0) (by omega)]
    rw [eM25, zR22j (j := 22) (i := 12) (by decide)]
    rw [eM24, zNew22 (n := 368) (k := 1) (a := 0) (by omega)]
    rw [eM23, zR22j (j := 21) (i := 12) (by decide)]
    rw [eM22, zNew22 (n := 359) (k := (1 + 8)) (a := 0) (by omega)]
    rw [eM21, zR22j (j := 20) (i := 12) (by decide)]
    rw [eM20, zNew22 (n := 350) (k := (1 + 8)) (a := 0) (by omega)]
    rw [eM19, zR22j (j := 19) (i := 12) (by decide)]
    rw [eM18, zNew22 (n := 189) (k := (1 + 160)) (a := 0) (by omega)]
    rw [eM17, zR22j (j := 18) (i := 12) (by decide)]
    rw [eM16, zNew22 (n := 28) (k := (1 + 160)) (a := 0) (by omega)]
    rw [eM15, zR22j (j := 15) (i := 12) (by decide)]
    rw [eM14, zNew22 (n := 17) (k := (1 + 10)) (a := 0) (by omega)]
    rw [eM13, zR22j (j := 14) (i := 12) (by decide)]
    rw [eM12, zNew22 (n := 6) (k := (1 + 10)) (a := 0) (by omega)]
    rw [eM11, zR22j (j := 13) (i := 12) (by decide)]
    rw [eM10, zNew22 (n := 5) (k := 1) (a := 0) (by omega)]
    rw [eM9, zR22e]
  have f46 : M41.2.2 0 13 = 5 := by
    rw [eM41, zR22j (j := 38) (i := 13) (by decide)]
    rw [eM40, zNew22 (n := 475) (k := (1 + 64)) (a := 0) (by omega)]
    rw [eM39, zR22j (j := 37) (i := 13) (by decide)]
    rw [eM38, zNew22 (n := 474) (k := 1) (a := 0) (by omega)]
    rw [eM37, zR22j (j := 29) (i := 13) (by decide)]
    rw [eM36, zNew22 (n := 470) (k := (1 + 3)) (a := 0) (by omega)]
    rw [eM35, zR22j (j := 28) (i := 13) (by decide)]
    rw [eM34, zNew22 (n := 453) (k := (1 + 16)) (a := 0) (by omega)]
    rw [eM33, zR22j (j := 27) (i := 13) (by decide)]
    rw [eM32, zNew22 (n := 452) (k := 1) (a := 0) (by omega)]
    rw [eM31, zR22j (j := 26) (i := 13) (by decide)]
    rw [eM30, zNew22 (n := 451) (k := 1) (a := 0) (by omega)]
    rw [eM29, zR22j (j := 24) (i := 13) (by decide)]
    rw [eM28, zNew22 (n := 370) (k := (1 + 80)) (a := 0) (by omega)]
    rw [eM27, zR22j (j := 23) (i := 13) (by decide)]
    rw [eM26, zNew22 (n := 369) (k := 1) (a := 0) (by omega)]
    rw [eM25, zR22j (j := 22) (i := 13) (by decide)]
    rw [eM24, zNew22 (n := 368) (k := 1) (a := 0) (by omega)]
    rw [eM23, zR22j (j := 21) (i := 13) (by decide)]
    rw [eM22, zNew22 (n := 359) (k := (1 + 8)) (a := 0) (by omega)]
    rw [eM21, zR22j (j := 20) (i := 13) (by decide)]
    rw [eM20, zNew22 (n := 350) (k := (1 + 8)) (a := 0) (by omega)]
    rw [eM19, zR22j (j := 19) (i := 13) (by decide)]
    rw [eM18, zNew22 (n := 189) (k := (1 + 160)) (a := 0) (by omega)]
    rw [eM17, zR22j (j := 18) (i := 13) (by decide)]
    rw [eM16, zNew22 (n := 28) (k := (1 + 160)) (a := 0) (by omega)]
    rw [eM15, zR22j (j := 15) (i := 13) (by decide)]
    rw [eM14, zNew22 (n := 17) (k := (1 + 10)) (a := 0) (by omega)]
    rw [eM13, zR22j (j := 14) (i := 13) (by decide)]
    rw [eM12, zNew22 (n := 6) (k := (1 + 10)) (a := 0) (by omega)]
    rw [eM11, zR22e]
  have f47 : M41.2.2 0 14 = 6 := by
    rw [eM41, zR22j (j := 38) (i := 14) (by decide)]
    rw [eM40, zNew22 (n := 475) (k := (1 + 64)) (a := 0) (by omega)]
    rw [eM39, zR22j (j := 37) (i := 14) (by decide)]
    rw [eM38, zNew22 (n := 474) (k := 1) (a := 0) (by omega)]
    rw [eM37, zR22j (j := 29) (i := 14) (by decide)]
    rw [eM36, zNew22 (n := 470) (k := (1 + 3)) (a := 0) (by omega)]
    rw [eM35, zR22j (j := 28) (i := 14) (by decide)]
    rw [eM34, zNew22 (n := 453) (k := (1 + 16)) (a := 0) (by omega)]
    rw [eM33, zR22j (j := 27) (i := 14) (by decide)]
    rw [eM32, zNew22 (n := 452) (k := 1) (a := 0) (by omega)]
    rw [eM31, zR22j (j := 26) (i := 14) (by decide)]
    rw [eM30, zNew22 (n := 451) (k := 1) (a := 0) (by omega)]
    rw [eM29, zR22j (j := 24) (i := 14) (by decide)]
    rw [eM28, zNew22 (n := 370) (k := (1 + 80)) (a := 0) (by omega)]
    rw [eM27, zR22j (j := 23) (i := 14) (by decide)]
    rw [eM26, zNew22 (n := 369) (k := 1) (a := 0) (by omega)]
    rw [eM25, zR22j (j := 22) (i := 14) (by decide)]
    rw [eM24, zNew22 (n := 368) (k := 1) (a := 0) (by omega)]
    rw [eM23, zR22j (j := 21) (i := 14) (by decide)]
    rw [eM22, zNew22 (n := 359) (k := (1 + 8)) (a := 0) (by omega)]
    rw [eM21, zR22j (j := 20) (i := 14) (by decide)]
    rw [eM20, zNew22 (n := 350) (k := (1 + 8)) (a := 0) (by omega)]
    rw [eM19, zR22j (j := 19) (i := 14) (by decide)]
    rw [eM18, zNew22 (n := 189) (k := (1 + 160)) (a := 0) (by omega)]
    rw [eM17, zR22j (j := 18) (i := 14) (by decide)]
    rw [eM16, zNew22 (n := 28) (k := (1 + 160)) (a := 0) (by omega)]
    rw [eM15, zR22j (j := 15) (i := 14) (by decide)]
    rw [eM14, zNew22 (n := 17) (k := (1 + 10)) (a := 0) (by omega)]
    rw [eM13, zR22e]
  have f48 : M41.2.2 0 15 = 17 := by
    rw [eM41, zR22j (j := 38) (i := 15) (by decide)]
    rw [eM40, zNew22 (n := 475) (k := (1 + 64)) (a := 0) (by omega)]
    rw [eM39, zR22j (j := 37) (i := 15) (by decide)]
    rw [eM38, zNew22 (n := 474) (k := 1) (a := 0) (by omega)]
    rw [eM37, zR22j (j := 29) (i := 15) (by decide)]
    rw [eM36, zNew22 (n := 470) (k := (1 + 3)) (a := 0) (by omega)]
    rw [eM35, zR22j (j := 28) (i := 15) (by decide)]
    rw [eM34, zNew22 (n := 453) (k := (1 + 16)) (a := 0) (by omega)]
    rw [eM33, zR22j (j := 27) (i := 15) (by decide)]
    rw [eM32, zNew22 (n := 452) (k := 1) (a := 0) (by omega)]
    rw [eM31, zR22j (j := 26) (i := 15) (by decide)]
    rw [eM30, zNew22 (n := 451) (k := 1) (a := 0) (by omega)]
    rw [eM29, zR22j (j := 24) (i := 15) (by decide)]
    rw [eM28, zNew22 (n := 370) (k := (1 + 80)) (a := 0) (by omega)]
    rw [eM27, zR22j (j := 23) (i := 15) (by decide)]
    rw [eM26, zNew22 (n := 369) (k := 1) (a := 0) (by omega)]
    rw [eM25, zR22j (j := 22) (i := 15) (by decide)]
    rw [eM24, zNew22 (n := 368) (k := 1) (a := 0) (by omega)]
    rw [eM23, zR22j (j := 21) (i := 15) (by decide)]
    rw [eM22, zNew22 (n := 359) (k := (1 + 8)) (a := 0) (by omega)]
    rw [eM21, zR22j (j := 20) (i := 15) (by decide)]
    rw [eM20, zNew22 (n := 350) (k := (1 + 8)) (a := 0) (by omega)]
    rw [eM19, zR22j (j := 19) (i := 15) (by decide)]
    rw [eM18, zNew22 (n := 189) (k := (1 + 160)) (a := 0) (by omega)]
    rw [eM17, zR22j (j := 18) (i := 15) (by decide)]
    rw [eM16, zNew22 (n := 28) (k := (1 + 160)) (a := 0) (by omega)]
    rw [eM15, zR22e]
  have f49 : M41.2.2 0 18 = 28 := by
    rw [eM41, zR22j (j := 38) (i := 18) (by decide)]
    rw [eM40, zNew22 (n := 475) (k := (1 + 64)) (a := 0) (by omega)]
    rw [eM39, zR22j (j := 37) (i := 18) (by decide)]
    rw [eM38, zNew22 (n := 474) (k := 1) (a := 0) (by omega)]
    rw [eM37, zR22j (j := 29) (i := 18) (by decide)]
    rw [eM36, zNew22 (n := 470) (k := (1 + 3)) (a := 0) (by omega)]
    rw [eM35, zR22j (j := 28) (i := 18) (by decide)]
    rw [eM34, zNew22 (n := 453) (k := (1 + 16)) (a := 0) (by omega)]
    rw [eM33, zR22j (j := 27) (i := 18) (by decide)]
    rw [eM32, zNew22 (n := 452) (k := 1) (a := 0) (by omega)]
    rw [eM31, zR22j (j := 26) (i := 18) (by decide)]
    rw [eM30, zNew22 (n := 451) (k := 1) (a := 0) (by omega)]
    rw [eM29, zR22j (j := 24) (i := 18) (by decide)]
    rw [eM28, zNew22 (n := 370) (k := (1 + 80)) (a := 0) (by omega)]
    rw [eM27, zR22j (j := 23) (i := 18) (by decide)]
    rw [eM26, zNew22 (n := 369) (k := 1) (a := 0) (by omega)]
    rw [eM25, zR22j (j := 22) (i := 18) (by decide)]
    rw [eM24, zNew22 (n := 368) (k := 1) (a := 0) (by omega)]
    rw [eM23, zR22j (j := 21) (i := 18) (by decide)]
    rw [eM22, zNew22 (n := 359) (k := (1 + 8)) (a := 0) (by omega)]
    rw [eM21, zR22j (j := 20) (i := 18) (by decide)]
    rw [eM20, zNew22 (n := 350) (k := (1 + 8)) (a := 0) (by omega)]
    rw [eM19, zR22j (j := 19) (i := 18) (by decide)]
    rw [eM18, zNew22 (n := 189) (k := (1 + 160)) (a := 0) (by omega)]
    rw [eM17, zR22e]
  have f50 : M41.2.2 0 19 = 189 := by
    rw [eM41, zR22j (j := 38) (i := 19) (by decide)]
    rw [eM40, zNew22 (n := 475) (k := (1 + 64)) (a := 0) (by omega)]
    rw [eM39, zR22j (j := 37) (i := 19) (by decide)]
    rw [eM38, zNew22 (n := 474) (k := 1) (a := 0) (by omega)]
    rw [eM37, zR22j (j := 29) (i := 19) (by decide)]
    rw [eM36, zNew22 (n := 470) (k := (1 + 3)) (a := 0) (by omega)]
    rw [eM35, zR22j (j := 28) (i := 19) (by decide)]
    rw [eM34, zNew22 (n := 453) (k := (1 + 16)) (a := 0) (by omega)]
    rw [eM33, zR22j (j := 27) (i := 19) (by decide)]
    rw [eM32, zNew22 (n := 452) (k := 1) (a := 0) (by omega)]
    rw [eM31, zR22j (j := 26) (i := 19) (by decide)]
    rw [eM30, zNew22 (n := 451) (k := 1) (a := 0) (by omega)]
    rw [eM29, zR22j (j := 24) (i := 19) (by decide)]
    rw [eM28, zNew22 (n := 370) (k := (1 + 80)) (a := 0) (by omega)]
    rw [eM27, zR22j (j := 23) (i := 19) (by decide)]
    rw [eM26, zNew22 (n := 369) (k := 1) (a := 0) (by omega)]
    rw [eM25, zR22j (j := 22) (i := 19) (by decide)]
    rw [eM24, zNew22 (n := 368) (k := 1) (a := 0) (by omega)]
    rw [eM23, zR22j (j := 21) (i := 19) (by decide)]
    rw [eM22, zNew22 (n := 359) (k := (1 + 8)) (a := 0) (by omega)]
    rw [eM21, zR22j (j := 20) (i := 19) (by decide)]
    rw [eM20, zNew22 (n := 350) (k := (1 + 8)) (a := 0) (by omega)]
    rw [eM19, zR22e]
  have f51 : M41.2.2 0 20 = 350 := by
    rw [eM41, zR22j (j := 38) (i := 20) (by decide)]
    rw [eM40, zNew22 (n := 475) (k := (1 + 64)) (a := 0) (by omega)]
    rw [eM39, zR22j (j := 37) (i := 20) (by decide)]
    rw [eM38, zNew22 (n := 474) (k := 1) (a := 0) (by omega)]
    rw [eM37, zR22j (j := 29) (i := 20) (by decide)]
    rw [eM36, zNew22 (n := 470) (k := (1 + 3)) (a := 0) (by omega)]
    rw [eM35, zR22j (j := 28) (i := 20) (by decide)]
    rw [eM34, zNew22 (n := 453) (k := (1 + 16)) (a := 0) (by omega)]
    rw [eM33, zR22j (j := 27) (i := 20) (by decide)]
    rw [eM32, zNew22 (n := 452) (k := 1) (a := 0) (by omega)]
    rw [eM31, zR22j (j := 26) (i := 20) (by decide)]
    rw [eM30, zNew22 (n := 451) (k := 1) (a := 0) (by omega)]
    rw [eM29, zR22j (j := 24) (i := 20) (by decide)]
    rw [eM28, zNew22 (n := 370) (k := (1 + 80)) (a := 0) (by omega)]
    rw [eM27, zR22j (j := 23) (i := 20) (by decide)]
    rw [eM26, zNew22 (n := 369) (k := 1) (a := 0) (by omega)]
    rw [eM25, zR22j (j := 22) (i := 20) (by decide)]
    rw [eM24, zNew22 (n := 368) (k := 1) (a := 0) (by omega)]
    rw [eM23, zR22j (j := 21) (i := 20) (by decide)]
    rw [eM22, zNew22 (n := 359) (k := (1 + 8)) (a := 0) (by omega)]
    rw [eM21, zR22e]
  have f52 : M41.2.2 0 21 = 359 := by
    rw [eM41, zR22j (j := 38) (i := 21) (by decide)]
    rw [eM40, zNew22 (n := 475) (k := (1 + 64)) (a := 0) (by omega)]
    rw [eM39, zR22j (j := 37) (i := 21) (by decide)]
    rw [eM38, zNew22 (n := 474) (k := 1) (a := 0) (by omega)]
    rw [eM37, zR22j (j := 29) (i := 21) (by decide)]
    rw [eM36, zNew22 (n := 470) (k := (1 + 3)) (a := 0) (by omega)]
    rw [eM35, zR22j (j := 28) (i := 21) (by decide)]
    rw [eM34, zNew22 (n := 453) (k := (1 + 16)) (a := 0) (by omega)]
    rw [eM33, zR22j (j := 27) (i := 21) (by decide)]
    rw [eM32, zNew22 (n := 452) (k := 1) (a := 0) (by omega)]
    rw [eM31, zR22j (j := 26) (i := 21) (by decide)]
    rw [eM30, zNew22 (n := 451) (k := 1) (a := 0) (by omega)]
    rw [eM29, zR22j (j := 24) (i := 21) (by decide)]
    rw [eM28, zNew22 (n := 370) (k := (1 + 80)) (a := 0) (by omega)]
    rw [eM27, zR22j (j := 23) (i := 21) (by decide)]
    rw [eM26, zNew22 (n := 369) (k := 1) (a := 0) (by omega)]
    rw [eM25, zR22j (j := 22) (i := 21) (by decide)]
    rw [eM24, zNew22 (n := 368) (k := 1) (a := 0) (by omega)]
    rw [eM23, zR22e]
  have f53 : M41.2.2 0 22 = 368 := by
    rw [eM41, zR22j (j := 38) (i := 22) (by decide)]
    rw [eM40, zNew22 (n := 475) (k := (1 + 64)) (a := 0) (by omega)]
    rw [eM39, zR22j (j := 37) (i := 22) (by decide)]
    rw [eM38, zNew22 (n := 474) (k := 1) (a := 0) (by omega)]
    rw [eM37, zR22j (j := 29) (i := 22) (by decide)]
    rw [eM36, zNew22 (n := 470) (k := (1 + 3)) (a := 0) (by omega)]
    rw [eM35, zR22j (j := 28) (i := 22) (by decide)]
    rw [eM34, zNew22 (n := 453) (k := (1 + 16)) (a := 0) (by omega)]
    rw [eM33, zR22j (j := 27) (i := 22) (by decide)]
    rw [eM32, zNew22 (n := 452) (k := 1) (a := 0) (by omega)]
    rw [eM31, zR22j (j := 26) (i := 22) (by decide)]
    rw [eM30, zNew22 (n := 451) (k := 1) (a := 0) (by omega)]
    rw [eM29, zR22j (j := 24) (i := 22) (by decide)]
    rw [eM28, zNew22 (n := 370) (k := (1 + 80)) (a := 0) (by omega)]
    rw [eM27, zR22j (j := 23) (i := 22) (by decide)]
    rw [eM26, zNew22 (n := 369) (k := 1) (a := 0) (by omega)]
    rw [eM25, zR22e]
  have f54 : M41.2.2 0 23 = 369 := by
    rw [eM41, zR22j (j := 38) (i := 23) (by decide)]
    rw [eM40, zNew22 (n := 475) (k := (1 + 64)) (a := 0) (by omega)]
    rw [eM39, zR22j (j := 37) (i := 23) (by decide)]
    rw [eM38, zNew22 (n := 474) (k := 1) (a := 0) (by omega)]
    rw [eM37, zR22j (j := 29) (i := 23) (by decide)]
    rw [eM36, zNew22 (n := 470) (k := (1 + 3)) (a := 0) (by omega)]
    rw [eM35, zR22j (j := 28) (i := 23) (by decide)]
    rw [eM34, zNew22 (n := 453) (k := (1 + 16)) (a := 0) (by omega)]
    rw [eM33, zR22j (j := 27) (i := 23) (by decide)]
    rw [eM32, zNew22 (n := 452) (k := 1) (a := 0) (by omega)]
    rw [eM31, zR22j (j := 26) (i := 23) (by decide)]
    rw [eM30, zNew22 (n := 451) (k := 1) (a := 0) (by omega)]
    rw [eM29, zR22j (j := 24) (i := 23) (by decide)]
    rw [eM28, zNew22 (n := 370) (k := (1 + 80)) (a := 0) (by omega)]
    rw [eM27, zR22e]
  have f55 : M41.2.2 0 24 = 370 := by
    rw [eM41, zR22j (j := 38) (i := 24) (by decide)]
    rw [eM40, zNew22 (n := 475) (k := (1 + 64)) (a := 0) (by omega)]
    rw [eM39, zR22j (j := 37) (i := 24) (by decide)]
    rw [eM38, zNew22 (n := 474) (k := 1) (a := 0) (by omega)]
    rw [eM37, zR22j (j := 29) (i := 24) (by decide)]
    rw [eM36, zNew22 (n := 470) (k := (1 + 3)) (a := 0) (by omega)]
    rw [eM35, zR22j (j := 28) (i := 24) (by decide)]
    rw [eM34, zNew22 (n := 453) (k := (1 + 16)) (a := 0) (by omega)]
    rw [eM33, zR22j (j := 27) (i := 24) (by decide)]
    rw [eM32, zNew22 (n := 452) (k := 1) (a := 0) (by omega)]
    rw [eM31, zR22j (j := 26) (i := 24) (by decide)]
    rw [eM30, zNew22 (n := 451) (k := 1) (a := 0) (by omega)]
    rw [eM29, zR22e]
  have f56 : M41.2.2 0 26 = 451 := by
    rw [eM41, zR22j (j := 38) (i := 26) (by decide)]
    rw [eM40, zNew22 (n := 475) (k := (1 + 64)) (a := 0) (by omega)]
    rw [eM39, zR22j (j := 37) (i := 26) (by decide)]
    rw [eM38, zNew22 (n := 474) (k := 1) (a := 0) (by omega)]
    rw [eM37, zR22j (j := 29) (i := 26) (by decide)]
    rw [eM36, zNew22 (n := 470) (k := (1 + 3)) (a := 0) (by omega)]
    rw [eM35, zR22j (j := 28) (i := 26) (by decide)]
    rw [eM34, zNew22 (n := 453) (k := (1 + 16)) (a := 0) (by omega)]
    rw [eM33, zR22j (j := 27) (i := 26) (by decide)]
    rw [eM32, zNew22 (n := 452) (k := 1) (a := 0) (by omega)]
    rw [eM31, zR22e]
  have f57 : M41.2.2 0 27 = 452 := by
    rw [eM41, zR22j (j := 38) (i := 27) (by decide)]
    rw [eM40, zNew22 (n := 475) (k := (1 + 64)) (a := 0) (by omega)]
    rw [eM39, zR22j (j := 37) (i := 27) (by decide)]
    rw [eM38, zNew22 (n := 474) (k := 1) (a := 0) (by omega)]
    rw [eM37, zR22j (j := 29) (i := 27) (by decide)]
    rw [eM36, zNew22 (n := 470) (k := (1 + 3)) (a := 0) (by omega)]
    rw [eM35, zR22j (j := 28) (i := 27) (by decide)]
    rw [eM34, zNew22 (n := 453) (k := (1 + 16)) (a := 0) (by omega)]
    rw [eM33, zR22e]
  have f58 : M41.2.2 0 28 = 453 := by
    rw [eM41, zR22j (j := 38) (i := 28) (by decide)]
    rw [eM40, zNew22 (n := 475) (k := (1 + 64)) (a := 0) (by omega)]
    rw [eM39, zR22j (j := 37) (i := 28) (by decide)]
    rw [eM38, zNew22 (n := 474) (k := 1) (a := 0) (by omega)]
    rw [eM37, zR22j (j := 29) (i := 28) (by decide)]
    rw [eM36, zNew22 (n := 470) (k := (1 + 3)) (a := 0) (by omega)]
    rw [eM35, zR22e]
  have f59 : M41.2.2 0 29 = 470 := by
    rw [eM41, zR22j (j := 38) (i := 29) (by decide)]
    rw [eM40, zNew22 (n := 475) (k := (1 + 64)) (a := 0) (by omega)]
    rw [eM39, zR22j (j := 37) (i := 29) (by decide)]
    rw [eM38, zNew22 (n := 474) (k := 1) (a := 0) (by omega)]
    rw [eM37, zR22e]
  have f60 : M41.2.2 0 37 = 474 := by
    rw [eM41, zR22j (j := 38) (i := 37) (by decide)]
    rw [eM40, zNew22 (n := 475) (k := (1 + 64)) (a := 0) (by omega)]
    rw [eM39, zR22e]
  have f61 : M41.2.2 0 38 = 475 := by
    rw [eM41, zR22e]
  refine z_shape (zHP_sealE (by rw [show shM 0 = 11 from (hs 0 (by decide))]; simp [zE, zrv, f42, f43, f44, f45, f46, f47, f48, f49, f50, f51, f52, f53, f54, f55, f56, f57, f58, f59, f60, f61])) ?_
  refine z_aload_n (zX_to hb cx) d_X10_init_207 0 rfl ?_
  obtain ⟨M62, hc, hF⟩ := zbv_inv hF
  refine z_callV (zX_to hb cx) (As := []) (rest := []) (c_X10_tellsNothing l zadI M41  ((⟨(hs 0 (by decide)), by omega, by show _ + 540 ≤ _; omega⟩ : zT shM _ _ 11))  hc) ((⟨(hs 0 (by decide)), by omega, by show _ + 540 ≤ _; omega⟩ : zT shM _ _ 11)) zo_11 cv_SunnyPansModel_76 ⟨rfl, rfl, Nat.le_of_ble_eq_true rfl, Nat.le_of_ble_eq_true rfl⟩ rfl rfl ⟨Nat.le_of_ble_eq_true rfl, Nat.le_of_ble_eq_true rfl⟩ (Nat.le_of_ble_eq_true rfl) d_X10_init_208 ?_
  refine z_aload_n (zX_to hb cx) d_X10_init_211 0 rfl ?_
  obtain ⟨M63, hc, hF⟩ := zbv_inv hF
  refine z_callV (zX_to hb cx) (As := []) (rest := []) (c_X10_beginsAnew l zadI M62  ((⟨(hs 0 (by decide)), by omega, by show _ + 540 ≤ _; omega⟩ : zT shM _ _ 11))  hc) ((⟨(hs 0 (by decide)), by omega, by show _ + 540 ≤ _; omega⟩ : zT shM _ _ 11)) zo_11 cv_SunnyPansModel_79 ⟨rfl, rfl, Nat.le_of_ble_eq_true rfl, Nat.le_of_ble_eq_true rfl⟩ rfl rfl ⟨Nat.le_of_ble_eq_true rfl, Nat.le_of_ble_eq_true rfl⟩ (Nat.le_of_ble_eq_true rfl) d_X10_init_212 ?_
  cases hF
  exact z_vretC (zX_to hb cx) hr d_X10_init_215
