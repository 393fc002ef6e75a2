/-! SunnyPans$Law.readSum, its calls of its own kind as parameters -/
set_option maxRecDepth 100000 in
theorem wd_801 : Cond.methodLink "SunnyPans$Law" 52 yX8_sign ∈ tbG := tw3 221 rfl rfl
theorem cv_Law_52 : zCV "SunnyPans$Law" 52 "SunnyPans$Text" yX8_sign cX8_sign 2 none 1 := zCV_of wd_801 wd_724 wd_725 wd_102 wd_726 (by decide +kernel)
set_option maxRecDepth 100000 in
theorem wd_788 : Cond.code yX3_readProduct cX3_readProduct 5 none ∈ tbG := tw3 208 rfl rfl
set_option maxRecDepth 100000 in
theorem wd_785 : Cond.methodLink "SunnyPans$Law" 45 yX3_readProduct ∈ tbG := tw3 205 rfl rfl
set_option maxRecDepth 100000 in
theorem wd_787 : Cond.instanceMethod yX3_readProduct ∈ tbG := tw3 207 rfl rfl
theorem wd_11 : Cond.selects "SunnyPans$Law" yX3_readProduct yX3_readProduct ∈ tbG := tw 11 (by decide +kernel) rfl
theorem cv_Law_45 : zCV "SunnyPans$Law" 45 "SunnyPans$Law" yX3_readProduct cX3_readProduct 5 none 2 := zCV_of wd_785 wd_787 wd_11 wd_109 wd_788 (by decide +kernel)
theorem kb_45 : (Int8.ofInt (45)).toInt32 = (45 : Int32) := by decide +kernel
theorem kb_43 : (Int8.ofInt (43)).toInt32 = (43 : Int32) := by decide +kernel
set_option maxRecDepth 100000 in
theorem wd_795 : Cond.methodLink "SunnyPans$Law" 48 yX8_sees ∈ tbG := tw3 215 rfl rfl
theorem cv_Law_48 : zCV "SunnyPans$Law" 48 "SunnyPans$Text" yX8_sees cX8_sees 2 (some .boolean) 1 := zCV_of wd_795 wd_728 wd_729 wd_102 wd_730 (by decide +kernel)
theorem ks_1009 : (Int16.ofInt (1009)).toInt32 = (1009 : Int32) := by decide +kernel
theorem d_X3_readSum_0 : decode cX3_readSum 0 = .ok (.aload_n 0, 1) := by decide +kernel
theorem d_X3_readSum_1 : decode cX3_readSum 1 = .ok (.aload_n 1, 1) := by decide +kernel
theorem d_X3_readSum_2 : decode cX3_readSum 2 = .ok (.iload_n 2, 1) := by decide +kernel
theorem d_X3_readSum_3 : decode cX3_readSum 3 = .ok (.invokevirtual 45, 3) := by decide +kernel
theorem d_X3_readSum_6 : decode cX3_readSum 6 = .ok (.iconst 0, 1) := by decide +kernel
theorem d_X3_readSum_7 : decode cX3_readSum 7 = .ok (.istore_n 3, 1) := by decide +kernel
theorem d_X3_readSum_8 : decode cX3_readSum 8 = .ok (.iload_n 3, 1) := by decide +kernel
theorem d_X3_readSum_9 : decode cX3_readSum 9 = .ok (.sipush 150, 3) := by decide +kernel
theorem d_X3_readSum_12 : decode cX3_readSum 12 = .ok (.if_icmp .ge 80, 3) := by decide +kernel
theorem d_X3_readSum_15 : decode cX3_readSum 15 = .ok (.aload_n 1, 1) := by decide +kernel
theorem d_X3_readSum_16 : decode cX3_readSum 16 = .ok (.bipush 43, 2) := by decide +kernel
theorem d_X3_readSum_18 : decode cX3_readSum 18 = .ok (.invokevirtual 48, 3) := by decide +kernel
theorem d_X3_readSum_21 : decode cX3_readSum 21 = .ok (.ifCond .eq 9, 3) := by decide +kernel
theorem d_X3_readSum_24 : decode cX3_readSum 24 = .ok (.sipush 1008, 3) := by decide +kernel
theorem d_X3_readSum_27 : decode cX3_readSum 27 = .ok (.goto 19, 3) := by decide +kernel
theorem d_X3_readSum_30 : decode cX3_readSum 30 = .ok (.aload_n 1, 1) := by decide +kernel
theorem d_X3_readSum_31 : decode cX3_readSum 31 = .ok (.bipush 45, 2) := by decide +kernel
theorem d_X3_readSum_33 : decode cX3_readSum 33 = .ok (.invokevirtual 48, 3) := by decide +kernel
theorem d_X3_readSum_36 : decode cX3_readSum 36 = .ok (.ifCond .eq 9, 3) := by decide +kernel
theorem d_X3_readSum_39 : decode cX3_readSum 39 = .ok (.sipush 1009, 3) := by decide +kernel
theorem d_X3_readSum_42 : decode cX3_readSum 42 = .ok (.goto 4, 3) := by decide +kernel
theorem d_X3_readSum_45 : decode cX3_readSum 45 = .ok (.iconst (-1), 1) := by decide +kernel
theorem d_X3_readSum_46 : decode cX3_readSum 46 = .ok (.istore 4, 2) := by decide +kernel
theorem d_X3_readSum_48 : decode cX3_readSum 48 = .ok (.iload 4, 2) := by decide +kernel
theorem d_X3_readSum_50 : decode cX3_readSum 50 = .ok (.iconst (-1), 1) := by decide +kernel
theorem d_X3_readSum_51 : decode cX3_readSum 51 = .ok (.if_icmp .ne 4, 3) := by decide +kernel
theorem d_X3_readSum_54 : decode cX3_readSum 54 = .ok (.return_, 1) := by decide +kernel
theorem d_X3_readSum_55 : decode cX3_readSum 55 = .ok (.aload_n 1, 1) := by decide +kernel
theorem d_X3_readSum_56 : decode cX3_readSum 56 = .ok (.iload 4, 2) := by decide +kernel
theorem d_X3_readSum_58 : decode cX3_readSum 58 = .ok (.sipush 1008, 3) := by decide +kernel
theorem d_X3_readSum_61 : decode cX3_readSum 61 = .ok (.if_icmp .ne 8, 3) := by decide +kernel
theorem d_X3_readSum_64 : decode cX3_readSum 64 = .ok (.bipush 43, 2) := by decide +kernel
theorem d_X3_readSum_66 : decode cX3_readSum 66 = .ok (.goto 5, 3) := by decide +kernel
theorem d_X3_readSum_69 : decode cX3_readSum 69 = .ok (.bipush 45, 2) := by decide +kernel
theorem d_X3_readSum_71 : decode cX3_readSum 71 = .ok (.invokevirtual 52, 3) := by decide +kernel
theorem d_X3_readSum_74 : decode cX3_readSum 74 = .ok (.aload_n 0, 1) := by decide +kernel
theorem d_X3_readSum_75 : decode cX3_readSum 75 = .ok (.aload_n 1, 1) := by decide +kernel
theorem d_X3_readSum_76 : decode cX3_readSum 76 = .ok (.iload_n 2, 1) := by decide +kernel
theorem d_X3_readSum_77 : decode cX3_readSum 77 = .ok (.invokevirtual 45, 3) := by decide +kernel
theorem d_X3_readSum_80 : decode cX3_readSum 80 = .ok (.aload_n 0, 1) := by decide +kernel
theorem d_X3_readSum_81 : decode cX3_readSum 81 = .ok (.iload 4, 2) := by decide +kernel
theorem d_X3_readSum_83 : decode cX3_readSum 83 = .ok (.invokevirtual 28, 3) := by decide +kernel
theorem d_X3_readSum_86 : decode cX3_readSum 86 = .ok (.iinc 3 1, 3) := by decide +kernel
theorem d_X3_readSum_89 : decode cX3_readSum 89 = .ok (.goto (-81), 3) := by decide +kernel
theorem d_X3_readSum_92 : decode cX3_readSum 92 = .ok (.return_, 1) := by decide +kernel
noncomputable def F_X3_readSum_71 (r_X3_readProduct : zMem → Nat → Nat → Int32 → Option (zMem)) (t : Nat) (p0 : Nat) (p1 : Int32) (self8 : Int32 → Int32 → zMem → Option (zMem)) (b71_L2 : Int32) (b71_L3 : Int32) (b71_L4 : Int32) (b71_S1 : Int32) (M : zMem) : Option (zMem) :=
  zbv (F_X8_sign M p0 b71_S1) fun M1 =>
  zbv (r_X3_readProduct M1 t p0 b71_L2) fun M2 =>
  zbv (F_X3_emit M2 t b71_L4) fun M3 =>
  self8 b71_L2 (b71_L3 + 1) M3
noncomputable def F_X3_readSum_46 (r_X3_readProduct : zMem → Nat → Nat → Int32 → Option (zMem)) (t : Nat) (p0 : Nat) (p1 : Int32) (self8 : Int32 → Int32 → zMem → Option (zMem)) (b46_L2 : Int32) (b46_L3 : Int32) (b46_S0 : Int32) (M : zMem) : Option (zMem) :=
  if b46_S0 = (-1 : Int32) then
    some M
  else
    if b46_S0 = (1008 : Int32) then
      F_X3_readSum_71 r_X3_readProduct t p0 p1 self8 b46_L2 b46_L3 b46_S0 (43 : Int32) M
    else
      F_X3_readSum_71 r_X3_readProduct t p0 p1 self8 b46_L2 b46_L3 b46_S0 (45 : Int32) M
noncomputable def F_X3_readSum_8 (r_X3_readProduct : zMem → Nat → Nat → Int32 → Option (zMem)) (t : Nat) (p0 : Nat) (p1 : Int32) (self8 : Int32 → Int32 → zMem → Option (zMem)) (b8_L2 : Int32) (b8_L3 : Int32) (M : zMem) : Option (zMem) :=
  if (150 : Int32) ≤ b8_L3 then
    some M
  else
    zb (F_X8_sees M p0 (43 : Int32)) fun v5 M4 =>
    if v5 = 0 then
      zb (F_X8_sees M4 p0 (45 : Int32)) fun v7 M6 =>
      if v7 = 0 then
        F_X3_readSum_46 r_X3_readProduct t p0 p1 self8 b8_L2 b8_L3 (-1 : Int32) M6
      else
        F_X3_readSum_46 r_X3_readProduct t p0 p1 self8 b8_L2 b8_L3 (1009 : Int32) M6
    else
      F_X3_readSum_46 r_X3_readProduct t p0 p1 self8 b8_L2 b8_L3 (1008 : Int32) M4
noncomputable def F_X3_readSum_r (M : zMem) (r_X3_readProduct : zMem → Nat → Nat → Int32 → Option (zMem)) (t : Nat) (p0 : Nat) (p1 : Int32) : Option (zMem) :=
  zbv (r_X3_readProduct M t p0 p1) fun M8 =>
  itF (fun _ _ _ => none) (F_X3_readSum_8 r_X3_readProduct t p0 p1) zFuel p1 (0 : Int32) M8
set_option maxHeartbeats 4000000 in
set_option maxRecDepth 100000 in
theorem co_X3_readSum (l : Launch) {G : zG} {ad : Nat → Nat} {n : Nat} (hA : zInj ad n) (M : zMem) (r_X3_readProduct : zMem → Nat → Nat → Int32 → Option (zMem)) (t : Nat) (p0 : Nat) (p1 : Int32) {rr : Room} (hrr : rr.cells = 0 ∧ rr.slots = 0) (hr_X3_readProduct : ∀ (M : zMem) (t : Nat) (p0 : Nat) (p1 : Int32) (M9 : zMem), zT shX n t 4 → zT shX n p0 9 → r_X3_readProduct M t p0 p1 = some M9 → zM l yX3_readProduct cX3_readProduct 5 none rr G shX ad n M [.ref (ad t), .ref (ad p0), .int p1] none M9) (hT_t : zT shX n t 4) (hT_p0 : zT shX n p0 9) {M9 : zMem} (hF : F_X3_readSum_r M r_X3_readProduct t p0 p1 = some M9) : zM l yX3_readSum cX3_readSum 5 none (zRmS rr) G shX ad n M [.ref (ad t), .ref (ad p0), .int p1] none M9 := by
  refine zM_of hA (by decide +kernel) (lv := [(0, .ref (ad t)), (1, .ref (ad p0)), (2, .int p1)]) (Nat.le_of_ble_eq_true rfl) rfl (fun p e s m args below meth c A cx hr => ?_)
  have hb71 : ∀ (self8 : Int32 → Int32 → zMem → Option (zMem)) (hs8 : ∀ (b8_L2 : Int32) (b8_L3 : Int32) (M : zMem), self8 b8_L2 b8_L3 M = some M9 → zJ p l e (zRmS rr) s m args below meth c G shX ad n A 5 (MQ below (zQ G shX ad n M9 none A) args s 0 0 A) 0 0 M 8 [(0, .ref (ad t)), (1, .ref (ad p0)), (2, .int b8_L2), (3, .int b8_L3)] []), ∀ (b71_L2 : Int32) (b71_L3 : Int32) (b71_L4 : Int32) (b71_S1 : Int32) (M : zMem), F_X3_readSum_71 r_X3_readProduct t p0 p1 self8 b71_L2 b71_L3 b71_L4 b71_S1 M = some M9 → zJ p l e (zRmS rr) s m args below meth c G shX ad n A 5 (MQ below (zQ G shX ad n M9 none A) args s 0 0 A) 0 0 M 71 [(0, .ref (ad t)), (1, .ref (ad p0)), (2, .int b71_L2), (3, .int b71_L3), (4, .int b71_L4)] [.int b71_S1, .ref (ad p0)] := by
    intro self8 hs8 b71_L2 b71_L3 b71_L4 b71_S1 M hF
    unfold F_X3_readSum_71 at hF
    obtain ⟨M1, hc, hF⟩ := zbv_inv hF
    refine z_callV cx (As := [.int b71_S1]) (rest := []) (c_X8_sign l cx.2.2.2.1.1 M p0 b71_S1 hT_p0 hc) hT_p0 zo_9 cv_Law_52 (zRmS_c rfl rfl (Nat.le_of_ble_eq_true rfl) (Nat.le_of_ble_eq_true rfl)) rfl rfl ⟨Nat.zero_le _, Nat.zero_le _⟩ (Nat.le_of_ble_eq_true rfl) d_X3_readSum_71 ?_
    refine z_aload_n cx d_X3_readSum_74 0 rfl ?_
    refine z_aload_n cx d_X3_readSum_75 1 rfl ?_
    refine z_iload_n cx d_X3_readSum_76 2 rfl ?_
    obtain ⟨M2, hc, hF⟩ := zbv_inv hF
    refine z_callV cx (As := [.ref (ad p0), .int b71_L2]) (rest := []) (hr_X3_readProduct M1 t p0 b71_L2 _ hT_t hT_p0 hc) hT_t zo_4 cv_Law_45 (zRmS_r hrr (by decide)) rfl rfl ⟨Nat.zero_le _, Nat.zero_le _⟩ (Nat.le_of_ble_eq_true rfl) d_X3_readSum_77 ?_
    refine z_aload_n cx d_X3_readSum_80 0 rfl ?_
    refine z_iload cx d_X3_readSum_81 4 rfl ?_
    obtain ⟨M3, hc, hF⟩ := zbv_inv hF
    refine z_callV cx (As := [.int b71_L4]) (rest := []) (c_X3_emit l cx.2.2.2.1.1 M2 t b71_L4 hT_t hc) hT_t zo_4 cv_Law_28 (zRmS_c rfl rfl (Nat.le_of_ble_eq_true rfl) (Nat.le_of_ble_eq_true rfl)) rfl rfl ⟨Nat.zero_le _, Nat.zero_le _⟩ (Nat.le_of_ble_eq_true rfl) d_X3_readSum_83 ?_
    refine z_iinc cx 3 1 [(3, .int (b71_L3 + 1)), (0, .ref (ad t)), (1, .ref (ad p0)), (2, .int b71_L2), (4, .int b71_L4)] d_X3_readSum_86 3 rfl ki_1 (by decide) rfl ?_
    refine z_goto cx 8 d_X3_readSum_89 (by decide) ?_
    exact z_lv [1, 2, 3, 0] _ rfl (hs8 b71_L2 (b71_L3 + 1) M3 hF)
  have hb46 : ∀ (self8 : Int32 → Int32 → zMem → Option (zMem)) (hs8 : ∀ (b8_L2 : Int32) (b8_L3 : Int32) (M : zMem), self8 b8_L2 b8_L3 M = some M9 → zJ p l e (zRmS rr) s m args below meth c G shX ad n A 5 (MQ below (zQ G shX ad n M9 none A) args s 0 0 A) 0 0 M 8 [(0, .ref (ad t)), (1, .ref (ad p0)), (2, .int b8_L2), (3, .int b8_L3)] []), ∀ (b46_L2 : Int32) (b46_L3 : Int32) (b46_S0 : Int32) (M : zMem), F_X3_readSum_46 r_X3_readProduct t p0 p1 self8 b46_L2 b46_L3 b46_S0 M = some M9 → zJ p l e (zRmS rr) s m args below meth c G shX ad n A 5 (MQ below (zQ G shX ad n M9 none A) args s 0 0 A) 0 0 M 46 [(0, .ref (ad t)), (1, .ref (ad p0)), (2, .int b46_L2), (3, .int b46_L3)] [.int b46_S0] := by
    intro self8 hs8 b46_L2 b46_L3 b46_S0 M hF
    unfold F_X3_readSum_46 at hF
    refine z_istore cx 4 [(4, .int b46_S0), (0, .ref (ad t)), (1, .ref (ad p0)), (2, .int b46_L2), (3, .int b46_L3)] d_X3_readSum_46 (by decide) rfl ?_
    refine z_iload cx d_X3_readSum_48 0 rfl ?_
    refine z_iconst (v := -1) cx d_X3_readSum_50 ki_m1 ?_
    refine z_icmp_ne cx 55 d_X3_readSum_51 (by decide) hF (fun hF => ?_) (fun hF => ?_)
    · refine z_aload_n cx d_X3_readSum_55 2 rfl ?_
      refine z_iload cx d_X3_readSum_56 0 rfl ?_
      refine z_sipush (v := 1008) cx d_X3_readSum_58 ks_1008 ?_
      refine z_icmp_ne cx 69 d_X3_readSum_61 (by decide) hF (fun hF => ?_) (fun hF => ?_)
      · refine z_bipush (v := 45) cx d_X3_readSum_69 kb_45 ?_
        exact z_lv [1, 2, 3, 4, 0] _ rfl (hb71 self8 hs8 b46_L2 b46_L3 b46_S0 (45 : Int32) M hF)
      refine z_bipush (v := 43) cx d_X3_readSum_64 kb_43 ?_
      refine z_goto cx 71 d_X3_readSum_66 (by decide) ?_
      exact z_lv [1, 2, 3, 4, 0] _ rfl (hb71 self8 hs8 b46_L2 b46_L3 b46_S0 (43 : Int32) M hF)
    exact z_vret cx hr hF d_X3_readSum_54
  have hL8 : ∀ (fuel : Nat), ∀ (b8_L2 : Int32) (b8_L3 : Int32) (M : zMem), itF (fun _ _ _ => none) (F_X3_readSum_8 r_X3_readProduct t p0 p1) fuel b8_L2 b8_L3 M = some M9 → zJ p l e (zRmS rr) s m args below meth c G shX ad n A 5 (MQ below (zQ G shX ad n M9 none A) args s 0 0 A) 0 0 M 8 [(0, .ref (ad t)), (1, .ref (ad p0)), (2, .int b8_L2), (3, .int b8_L3)] [] := by
    intro fuel
    induction fuel with
    | zero => intro b8_L2 b8_L3 M hF; cases hF
    | succ fuel hs8 =>
      intro b8_L2 b8_L3 M hF
      have hF : F_X3_readSum_8 r_X3_readProduct t p0 p1 (itF (fun _ _ _ => none) (F_X3_readSum_8 r_X3_readProduct t p0 p1) fuel) b8_L2 b8_L3 M = some M9 := hF
      generalize itF (fun _ _ _ => none) (F_X3_readSum_8 r_X3_readProduct t p0 p1) fuel = self8 at hs8 hF
      unfold F_X3_readSum_8 at hF
      refine z_iload_n cx d_X3_readSum_8 3 rfl ?_
      refine z_sipush (v := 150) cx d_X3_readSum_9 ks_150 ?_
      refine z_icmp_ge cx 92 d_X3_readSum_12 (by decide) hF (fun hF => ?_) (fun hF => ?_)
      · exact z_vret cx hr hF d_X3_readSum_92
      refine z_aload_n cx d_X3_readSum_15 1 rfl ?_
      refine z_bipush (v := 43) cx d_X3_readSum_16 kb_43 ?_
      obtain ⟨v5, M4, hc, hF⟩ := zb_inv hF
      refine z_callV cx (As := [.int (43 : Int32)]) (rest := []) (c_X8_sees l cx.2.2.2.1.1 M p0 (43 : Int32) hT_p0 hc) hT_p0 zo_9 cv_Law_48 (zRmS_c rfl rfl (Nat.le_of_ble_eq_true rfl) (Nat.le_of_ble_eq_true rfl)) rfl rfl ⟨Nat.zero_le _, Nat.zero_le _⟩ (Nat.le_of_ble_eq_true rfl) d_X3_readSum_18 ?_
      refine z_if_eq cx 30 d_X3_readSum_21 (by decide) hF (fun hF => ?_) (fun hF => ?_)
      · refine z_aload_n cx d_X3_readSum_30 1 rfl ?_
        refine z_bipush (v := 45) cx d_X3_readSum_31 kb_45 ?_
        obtain ⟨v7, M6, hc, hF⟩ := zb_inv hF
        refine z_callV cx (As := [.int (45 : Int32)]) (rest := []) (c_X8_sees l cx.2.2.2.1.1 M4 p0 (45 : Int32) hT_p0 hc) hT_p0 zo_9 cv_Law_48 (zRmS_c rfl rfl (Nat.le_of_ble_eq_true rfl) (Nat.le_of_ble_eq_true rfl)) rfl rfl ⟨Nat.zero_le _, Nat.zero_le _⟩ (Nat.le_of_ble_eq_true rfl) d_X3_readSum_33 ?_
        refine z_if_eq cx 45 d_X3_readSum_36 (by decide) hF (fun hF => ?_) (fun hF => ?_)
        · refine z_iconst (v := -1) cx d_X3_readSum_45 ki_m1 ?_
          exact hb46 self8 hs8 b8_L2 b8_L3 (-1 : Int32) M6 hF
        refine z_sipush (v := 1009) cx d_X3_readSum_39 ks_1009 ?_
        refine z_goto cx 46 d_X3_readSum_42 (by decide) ?_
        exact hb46 self8 hs8 b8_L2 b8_L3 (1009 : Int32) M6 hF
      refine z_sipush (v := 1008) cx d_X3_readSum_24 ks_1008 ?_
      refine z_goto cx 46 d_X3_readSum_27 (by decide) ?_
      exact hb46 self8 hs8 b8_L2 b8_L3 (1008 : Int32) M4 hF
  unfold F_X3_readSum_r at hF
  refine z_aload_n cx d_X3_readSum_0 0 rfl ?_
  refine z_aload_n cx d_X3_readSum_1 1 rfl ?_
  refine z_iload_n cx d_X3_readSum_2 2 rfl ?_
  obtain ⟨M8, hc, hF⟩ := zbv_inv hF
  refine z_callV cx (As := [.ref (ad p0), .int p1]) (rest := []) (hr_X3_readProduct M t p0 p1 _ hT_t hT_p0 hc) hT_t zo_4 cv_Law_45 (zRmS_r hrr (by decide)) rfl rfl ⟨Nat.zero_le _, Nat.zero_le _⟩ (Nat.le_of_ble_eq_true rfl) d_X3_readSum_3 ?_
  refine z_iconst (v := 0) cx d_X3_readSum_6 ki_0 ?_
  refine z_istore_n cx 3 [(3, .int (0 : Int32)), (0, .ref (ad t)), (1, .ref (ad p0)), (2, .int p1)] d_X3_readSum_7 rfl (by decide) rfl ?_
  exact z_lv [1, 2, 3, 0] _ rfl (hL8 zFuel p1 (0 : Int32) M8 hF)
/-! SunnyPans$Law.readProduct, its calls of its own kind as parameters -/
set_option maxRecDepth 100000 in
theorem wd_792 : Cond.code yX3_readUnit cX3_readUnit 3 none ∈ tbG := tw3 212 rfl rfl
set_option maxRecDepth 100000 in
theorem wd_789 : Cond.methodLink "SunnyPans$Law" 55 yX3_readUnit ∈ tbG := tw3 209 rfl rfl
set_option maxRecDepth 100000 in
theorem wd_791 : Cond.instanceMethod yX3_readUnit ∈ tbG := tw3 211 rfl rfl
theorem wd_12 : Cond.selects "SunnyPans$Law" yX3_readUnit yX3_readUnit ∈ tbG := tw 12 (by decide +kernel) rfl
theorem cv_Law_55 : zCV "SunnyPans$Law" 55 "SunnyPans$Law" yX3_readUnit cX3_readUnit 3 none 2 := zCV_of wd_789 wd_791 wd_12 wd_109 wd_792 (by decide +kernel)
theorem ks_1010 : (Int16.ofInt (1010)).toInt32 = (1010 : Int32) := by decide +kernel
theorem kb_37 : (Int8.ofInt (37)).toInt32 = (37 : Int32) := by decide +kernel
theorem kb_47 : (Int8.ofInt (47)).toInt32 = (47 : Int32) := by decide +kernel
theorem kb_42 : (Int8.ofInt (42)).toInt32 = (42 : Int32) := by decide +kernel
theorem ks_1012 : (Int16.ofInt (1012)).toInt32 = (1012 : Int32) := by decide +kernel
theorem d_X3_readProduct_0 : decode cX3_readProduct 0 = .ok (.aload_n 0, 1) := by decide +kernel
theorem d_X3_readProduct_1 : decode cX3_readProduct 1 = .ok (.aload_n 1, 1) := by decide +kernel
theorem d_X3_readProduct_2 : decode cX3_readProduct 2 = .ok (.iload_n 2, 1) := by decide +kernel
theorem d_X3_readProduct_3 : decode cX3_readProduct 3 = .ok (.invokevirtual 55, 3) := by decide +kernel
theorem d_X3_readProduct_6 : decode cX3_readProduct 6 = .ok (.iconst 0, 1) := by decide +kernel
theorem d_X3_readProduct_7 : decode cX3_readProduct 7 = .ok (.istore_n 3, 1) := by decide +kernel
theorem d_X3_readProduct_8 : decode cX3_readProduct 8 = .ok (.iload_n 3, 1) := by decide +kernel
theorem d_X3_readProduct_9 : decode cX3_readProduct 9 = .ok (.sipush 150, 3) := by decide +kernel
theorem d_X3_readProduct_12 : decode cX3_readProduct 12 = .ok (.if_icmp .ge 108, 3) := by decide +kernel
theorem d_X3_readProduct_15 : decode cX3_readProduct 15 = .ok (.aload_n 1, 1) := by decide +kernel
theorem d_X3_readProduct_16 : decode cX3_readProduct 16 = .ok (.bipush 42, 2) := by decide +kernel
theorem d_X3_readProduct_18 : decode cX3_readProduct 18 = .ok (.invokevirtual 48, 3) := by decide +kernel
theorem d_X3_readProduct_21 : decode cX3_readProduct 21 = .ok (.ifCond .eq 9, 3) := by decide +kernel
theorem d_X3_readProduct_24 : decode cX3_readProduct 24 = .ok (.sipush 1010, 3) := by decide +kernel
theorem d_X3_readProduct_27 : decode cX3_readProduct 27 = .ok (.goto 34, 3) := by decide +kernel
theorem d_X3_readProduct_30 : decode cX3_readProduct 30 = .ok (.aload_n 1, 1) := by decide +kernel
theorem d_X3_readProduct_31 : decode cX3_readProduct 31 = .ok (.bipush 47, 2) := by decide +kernel
theorem d_X3_readProduct_33 : decode cX3_readProduct 33 = .ok (.invokevirtual 48, 3) := by decide +kernel
theorem d_X3_readProduct_36 : decode cX3_readProduct 36 = .ok (.ifCond .eq 9, 3) := by decide +kernel
theorem d_X3_readProduct_39 : decode cX3_readProduct 39 = .ok (.sipush 1011, 3) := by decide +kernel
theorem d_X3_readProduct_42 : decode cX3_readProduct 42 = .ok (.goto 19, 3) := by decide +kernel
theorem d_X3_readProduct_45 : decode cX3_readProduct 45 = .ok (.aload_n 1, 1) := by decide +kernel
theorem d_X3_readProduct_46 : decode cX3_readProduct 46 = .ok (.bipush 37, 2) := by decide +kernel
theorem d_X3_readProduct_48 : decode cX3_readProduct 48 = .ok (.invokevirtual 48, 3) := by decide +kernel
theorem d_X3_readProduct_51 : decode cX3_readProduct 51 = .ok (.ifCond .eq 9, 3) := by decide +kernel
theorem d_X3_readProduct_54 : decode cX3_readProduct 54 = .ok (.sipush 1012, 3) := by decide +kernel
theorem d_X3_readProduct_57 : decode cX3_readProduct 57 = .ok (.goto 4, 3) := by decide +kernel
theorem d_X3_readProduct_60 : decode cX3_readProduct 60 = .ok (.iconst (-1), 1) := by decide +kernel
theorem d_X3_readProduct_61 : decode cX3_readProduct 61 = .ok (.istore 4, 2) := by decide +kernel
theorem d_X3_readProduct_63 : decode cX3_readProduct 63 = .ok (.iload 4, 2) := by decide +kernel
theorem d_X3_readProduct_65 : decode cX3_readProduct 65 = .ok (.iconst (-1), 1) := by decide +kernel
theorem d_X3_readProduct_66 : decode cX3_readProduct 66 = .ok (.if_icmp .ne 4, 3) := by decide +kernel
theorem d_X3_readProduct_69 : decode cX3_readProduct 69 = .ok (.return_, 1) := by decide +kernel
theorem d_X3_readProduct_70 : decode cX3_readProduct 70 = .ok (.aload_n 1, 1) := by decide +kernel
theorem d_X3_readProduct_71 : decode cX3_readProduct 71 = .ok (.iload 4, 2) := by decide +kernel
theorem d_X3_readProduct_73 : decode cX3_readProduct 73 = .ok (.sipush 1010, 3) := by decide +kernel
theorem d_X3_readProduct_76 : decode cX3_readProduct 76 = .ok (.if_icmp .ne 8, 3) := by decide +kernel
theorem d_X3_readProduct_79 : decode cX3_readProduct 79 = .ok (.bipush 42, 2) := by decide +kernel
theorem d_X3_readProduct_81 : decode cX3_readProduct 81 = .ok (.goto 18, 3) := by decide +kernel
theorem d_X3_readProduct_84 : decode cX3_readProduct 84 = .ok (.iload 4, 2) := by decide +kernel
theorem d_X3_readProduct_86 : decode cX3_readProduct 86 = .ok (.sipush 1011, 3) := by decide +kernel
theorem d_X3_readProduct_89 : decode cX3_readProduct 89 = .ok (.if_icmp .ne 8, 3) := by decide +kernel
theorem d_X3_readProduct_92 : decode cX3_readProduct 92 = .ok (.bipush 47, 2) := by decide +kernel
theorem d_X3_readProduct_94 : decode cX3_readProduct 94 = .ok (.goto 5, 3) := by decide +kernel
theorem d_X3_readProduct_97 : decode cX3_readProduct 97 = .ok (.bipush 37, 2) := by decide +kernel
theorem d_X3_readProduct_99 : decode cX3_readProduct 99 = .ok (.invokevirtual 52, 3) := by decide +kernel
theorem d_X3_readProduct_102 : decode cX3_readProduct 102 = .ok (.aload_n 0, 1) := by decide +kernel
theorem d_X3_readProduct_103 : decode cX3_readProduct 103 = .ok (.aload_n 1, 1) := by decide +kernel
theorem d_X3_readProduct_104 : decode cX3_readProduct 104 = .ok (.iload_n 2, 1) := by decide +kernel
theorem d_X3_readProduct_105 : decode cX3_readProduct 105 = .ok (.invokevirtual 55, 3) := by decide +kernel
theorem d_X3_readProduct_108 : decode cX3_readProduct 108 = .ok (.aload_n 0, 1) := by decide +kernel
theorem d_X3_readProduct_109 : decode cX3_readProduct 109 = .ok (.iload 4, 2) := by decide +kernel
theorem d_X3_readProduct_111 : decode cX3_readProduct 111 = .ok (.invokevirtual 28, 3) := by decide +kernel
theorem d_X3_readProduct_114 : decode cX3_readProduct 114 = .ok (.iinc 3 1, 3) := by decide +kernel
theorem d_X3_readProduct_117 : decode cX3_readProduct 117 = .ok (.goto (-109), 3) := by decide +kernel
theorem d_X3_readProduct_120 : decode cX3_readProduct 120 = .ok (.return_, 1) := by decide +kernel
noncomputable def F_X3_readProduct_99 (r_X3_readUnit : zMem → Nat → Nat → Int32 → Option (zMem)) (t : Nat) (p0 : Nat) (p1 : Int32) (self8 : Int32 → Int32 → zMem → Option (zMem)) (b99_L2 : Int32) (b99_L3 : Int32) (b99_L4 : Int32) (b99_S1 : Int32) (M : zMem) : Option (zMem) :=
  zbv (F_X8_sign M p0 b99_S1) fun M1 =>
  zbv (r_X3_readUnit M1 t p0 b99_L2) fun M2 =>
  zbv (F_X3_emit M2 t b99_L4) fun M3 =>
  self8 b99_L2 (b99_L3 + 1) M3
noncomputable def F_X3_readProduct_61 (r_X3_readUnit : zMem → Nat → Nat → Int32 → Option (zMem)) (t : Nat) (p0 : Nat) (p1 : Int32) (self8 : Int32 → Int32 → zMem → Option (zMem)) (b61_L2 : Int32) (b61_L3 : Int32) (b61_S0 : Int32) (M : zMem) : Option (zMem) :=
  if b61_S0 = (-1 : Int32) then
    some M
  else
    if b61_S0 = (1010 : Int32) then
      F_X3_readProduct_99 r_X3_readUnit t p0 p1 self8 b61_L2 b61_L3 b61_S0 (42 : Int32) M
    else
      if b61_S0 = (1011 : Int32) then
        F_X3_readProduct_99 r_X3_readUnit t p0 p1 self8 b61_L2 b61_L3 b61_S0 (47 : Int32) M
      else
        F_X3_readProduct_99 r_X3_readUnit t p0 p1 self8 b61_L2 b61_L3 b61_S0 (37 : Int32) M
noncomputable def F_X3_readProduct_8 (r_X3_readUnit : zMem → Nat → Nat → Int32 → Option (zMem)) (t : Nat) (p0 : Nat) (p1 : Int32) (self8 : Int32 → Int32 → zMem → Option (zMem)) (b8_L2 : Int32) (b8_L3 : Int32) (M : zMem) : Option (zMem) :=
  if (150 : Int32) ≤ b8_L3 then
    some M
  else
    zb (F_X8_sees M p0 (42 : Int32)) fun v5 M4 =>
    if v5 = 0 then
      zb (F_X8_sees M4 p0 (47 : Int32)) fun v7 M6 =>
      if v7 = 0 then
        zb (F_X8_sees M6 p0 (37 : Int32)) fun v9 M8 =>
        if v9 = 0 then
          F_X3_readProduct_61 r_X3_readUnit t p0 p1 self8 b8_L2 b8_L3 (-1 : Int32) M8
        else
          F_X3_readProduct_61 r_X3_readUnit t p0 p1 self8 b8_L2 b8_L3 (1012 : Int32) M8
      else
        F_X3_readProduct_61 r_X3_readUnit t p0 p1 self8 b8_L2 b8_L3 (1011 : Int32) M6
    else
      F_X3_readProduct_61 r_X3_readUnit t p0 p1 self8 b8_L2 b8_L3 (1010 : Int32) M4
noncomputable def F_X3_readProduct_r (M : zMem) (r_X3_readUnit : zMem → Nat → Nat → Int32 → Option (zMem)) (t : Nat) (p0 : Nat) (p1 : Int32) : Option (zMem) :=
  zbv (r_X3_readUnit M t p0 p1) fun M10 =>
  itF (fun _ _ _ => none) (F_X3_readProduct_8 r_X3_readUnit t p0 p1) zFuel p1 (0 : Int32) M10
set_option maxHeartbeats 4000000 in
set_option maxRecDepth 100000 in
theorem co_X3_readProduct (l : Launch) {G : zG} {ad : Nat → Nat} {n : Nat} (hA : zInj ad n) (M : zMem) (r_X3_readUnit : zMem → Nat → Nat → Int32 → Option (zMem)) (t : Nat) (p0 : Nat) (p1 : Int32) {rr : Room} (hrr : rr.cells = 0 ∧ rr.slots = 0) (hr_X3_readUnit : ∀ (M : zMem) (t : Nat) (p0 : Nat) (p1 : Int32) (M9 : zMem), zT shX n t 4 → zT shX n p0 9 → r_X3_readUnit M t p0 p1 = some M9 → zM l yX3_readUnit cX3_readUnit 3 none rr G shX ad n M [.ref (ad t), .ref (ad p0), .int p1] none M9) (hT_t : zT shX n t 4) (hT_p0 : zT shX n p0 9) {M9 : zMem} (hF : F_X3_readProduct_r M r_X3_readUnit t p0 p1 = some M9) : zM l yX3_readProduct cX3_readProduct 5 none (zRmS rr) G shX ad n M [.ref (ad t), .ref (ad p0), .int p1] none M9 := by
  refine zM_of hA (by decide +kernel) (lv := [(0, .ref (ad t)), (1, .ref (ad p0)), (2, .int p1)]) (Nat.le_of_ble_eq_true rfl) rfl (fun p e s m args below meth c A cx hr => ?_)
  have hb99 : ∀ (self8 : Int32 → Int32 → zMem → Option (zMem)) (hs8 : ∀ (b8_L2 : Int32) (b8_L3 : Int32) (M : zMem), self8 b8_L2 b8_L3 M = some M9 → zJ p l e (zRmS rr) s m args below meth c G shX ad n A 5 (MQ below (zQ G shX ad n M9 none A) args s 0 0 A) 0 0 M 8 [(0, .ref (ad t)), (1, .ref (ad p0)), (2, .int b8_L2), (3, .int b8_L3)] []), ∀ (b99_L2 : Int32) (b99_L3 : Int32) (b99_L4 : Int32) (b99_S1 : Int32) (M : zMem), F_X3_readProduct_99 r_X3_readUnit t p0 p1 self8 b99_L2 b99_L3 b99_L4 b99_S1 M = some M9 → zJ p l e (zRmS rr) s m args below meth c G shX ad n A 5 (MQ below (zQ G shX ad n M9 none A) args s 0 0 A) 0 0 M 99 [(0, .ref (ad t)), (1, .ref (ad p0)), (2, .int b99_L2), (3, .int b99_L3), (4, .int b99_L4)] [.int b99_S1, .ref (ad p0)] := by
    intro self8 hs8 b99_L2 b99_L3 b99_L4 b99_S1 M hF
    unfold F_X3_readProduct_99 at hF
    obtain ⟨M1, hc, hF⟩ := zbv_inv hF
    refine z_callV cx (As := [.int b99_S1]) (rest := []) (c_X8_sign l cx.2.2.2.1.1 M p0 b99_S1 hT_p0 hc) hT_p0 zo_9 cv_Law_52 (zRmS_c rfl rfl (Nat.le_of_ble_eq_true rfl) (Nat.le_of_ble_eq_true rfl)) rfl rfl ⟨Nat.zero_le _, Nat.zero_le _⟩ (Nat.le_of_ble_eq_true rfl) d_X3_readProduct_99 ?_
    refine z_aload_n cx d_X3_readProduct_102 0 rfl ?_
    refine z_aload_n cx d_X3_readProduct_103 1 rfl ?_
    refine z_iload_n cx d_X3_readProduct_104 2 rfl ?_
    obtain ⟨M2, hc, hF⟩ := zbv_inv hF
    refine z_callV cx (As := [.ref (ad p0), .int b99_L2]) (rest := []) (hr_X3_readUnit M1 t p0 b99_L2 _ hT_t hT_p0 hc) hT_t zo_4 cv_Law_55 (zRmS_r hrr (by decide)) rfl rfl ⟨Nat.zero_le _, Nat.zero_le _⟩ (Nat.le_of_ble_eq_true rfl) d_X3_readProduct_105 ?_
    refine z_aload_n cx d_X3_readProduct_108 0 rfl ?_
    refine z_iload cx d_X3_readProduct_109 4 rfl ?_
    obtain ⟨M3, hc, hF⟩ := zbv_inv hF
    refine z_callV cx (As := [.int b99_L4]) (rest := []) (c_X3_emit l cx.2.2.2.1.1 M2 t b99_L4 hT_t hc) hT_t zo_4 cv_Law_28 (zRmS_c rfl rfl (Nat.le_of_ble_eq_true rfl) (Nat.le_of_ble_eq_true rfl)) rfl rfl ⟨Nat.zero_le _, Nat.zero_le _⟩ (Nat.le_of_ble_eq_true rfl) d_X3_readProduct_111 ?_
    refine z_iinc cx 3 1 [(3, .int (b99_L3 + 1)), (0, .ref (ad t)), (1, .ref (ad p0)), (2, .int b99_L2), (4, .int b99_L4)] d_X3_readProduct_114 3 rfl ki_1 (by decide) rfl ?_
    refine z_goto cx 8 d_X3_readProduct_117 (by decide) ?_
    exact z_lv [1, 2, 3, 0] _ rfl (hs8 b99_L2 (b99_L3 + 1) M3 hF)
  have hb61 : ∀ (self8 : Int32 → Int32 → zMem → Option (zMem)) (hs8 : ∀ (b8_L2 : Int32) (b8_L3 : Int32) (M : zMem), self8 b8_L2 b8_L3 M = some M9 → zJ p l e (zRmS rr) s m args below meth c G shX ad n A 5 (MQ below (zQ G shX ad n M9 none A) args s 0 0 A) 0 0 M 8 [(0, .ref (ad t)), (1, .ref (ad p0)), (2, .int b8_L2), (3, .int b8_L3)] []), ∀ (b61_L2 : Int32) (b61_L3 : Int32) (b61_S0 : Int32) (M : zMem), F_X3_readProduct_61 r_X3_readUnit t p0 p1 self8 b61_L2 b61_L3 b61_S0 M = some M9 → zJ p l e (zRmS rr) s m args below meth c G shX ad n A 5 (MQ below (zQ G shX ad n M9 none A) args s 0 0 A) 0 0 M 61 [(0, .ref (ad t)), (1, .ref (ad p0)), (2, .int b61_L2), (3, .int b61_L3)] [.int b61_S0] := by
    intro self8 hs8 b61_L2 b61_L3 b61_S0 M hF
    unfold F_X3_readProduct_61 at hF
    refine z_istore cx 4 [(4, .int b61_S0), (0, .ref (ad t)), (1, .ref (ad p0)), (2, .int b61_L2), (3, .int b61_L3)] d_X3_readProduct_61 (by decide) rfl ?_
    refine z_iload cx d_X3_readProduct_63 0 rfl ?_
    refine z_iconst (v := -1) cx d_X3_readProduct_65 ki_m1 ?_
    refine z_icmp_ne cx 70 d_X3_readProduct_66 (by decide) hF (fun hF => ?_) (fun hF => ?_)
    · refine z_aload_n cx d_X3_readProduct_70 2 rfl ?_
      refine z_iload cx d_X3_readProduct_71 0 rfl ?_
      refine z_sipush (v := 1010) cx d_X3_readProduct_73 ks_1010 ?_
      refine z_icmp_ne cx 84 d_X3_readProduct_76 (by decide) hF (fun hF => ?_) (fun hF => ?_)
      · refine z_iload cx d_X3_readProduct_84 0 rfl ?_
        refine z_sipush (v := 1011) cx d_X3_readProduct_86 ks_1011 ?_
        refine z_icmp_ne cx 97 d_X3_readProduct_89 (by decide) hF (fun hF => ?_) (fun hF => ?_)
        · refine z_bipush (v := 37) cx d_X3_readProduct_97 kb_37 ?_
          exact z_lv [1, 2, 3, 4, 0] _ rfl (hb99 self8 hs8 b61_L2 b61_L3 b61_S0 (37 : Int32) M hF)
        refine z_bipush (v := 47) cx d_X3_readProduct_92 kb_47 ?_
        refine z_goto cx 99 d_X3_readProduct_94 (by decide) ?_
        exact z_lv [1, 2, 3, 4, 0] _ rfl (hb99 self8 hs8 b61_L2 b61_L3 b61_S0 (47 : Int32) M hF)
      refine z_bipush (v := 42) cx d_X3_readProduct_79 kb_42 ?_
      refine z_goto cx 99 d_X3_readProduct_81 (by decide) ?_
      exact z_lv [1, 2, 3, 4, 0] _ rfl (hb99 self8 hs8 b61_L2 b61_L3 b61_S0 (42 : Int32) M hF)
    exact z_vret cx hr hF d_X3_readProduct_69
  have hL8 : ∀ (fuel : Nat), ∀ (b8_L2 : Int32) (b8_L3 : Int32) (M : zMem), itF (fun _ _ _ => none) (F_X3_readProduct_8 r_X3_readUnit t p0 p1) fuel b8_L2 b8_L3 M = some M9 → zJ p l e (zRmS rr) s m args below meth c G shX ad n A 5 (MQ below (zQ G shX ad n M9 none A) args s 0 0 A) 0 0 M 8 [(0, .ref (ad t)), (1, .ref (ad p0)), (2, .int b8_L2), (3, .int b8_L3)] [] := by
    intro fuel
    induction fuel with
    | zero => intro b8_L2 b8_L3 M hF; cases hF
    | succ fuel hs8 =>
      intro b8_L2 b8_L3 M hF
      have hF : F_X3_readProduct_8 r_X3_readUnit t p0 p1 (itF (fun _ _ _ => none) (F_X3_readProduct_8 r_X3_readUnit t p0 p1) fuel) b8_L2 b8_L3 M = some M9 := hF
      generalize itF (fun _ _ _ => none) (F_X3_readProduct_8 r_X3_readUnit t p0 p1) fuel = self8 at hs8 hF
      unfold F_X3_readProduct_8 at hF
      refine z_iload_n cx d_X3_readProduct_8 3 rfl ?_
      refine z_sipush (v := 150) cx d_X3_readProduct_9 ks_150 ?_
      refine z_icmp_ge cx 120 d_X3_readProduct_12 (by decide) hF (fun hF => ?_) (fun hF => ?_)
      · exact z_vret cx hr hF d_X3_readProduct_120
      refine z_aload_n cx d_X3_readProduct_15 1 rfl ?_
      refine z_bipush (v := 42) cx d_X3_readProduct_16 kb_42 ?_
      obtain ⟨v5, M4, hc, hF⟩ := zb_inv hF
      refine z_callV cx (As := [.int (42 : Int32)]) (rest := []) (c_X8_sees l cx.2.2.2.1.1 M p0 (42 : Int32) hT_p0 hc) hT_p0 zo_9 cv_Law_48 (zRmS_c rfl rfl (Nat.le_of_ble_eq_true rfl) (Nat.le_of_ble_eq_true rfl)) rfl rfl ⟨Nat.zero_le _, Nat.zero_le _⟩ (Nat.le_of_ble_eq_true rfl) d_X3_readProduct_18 ?_
      refine z_if_eq cx 30 d_X3_readProduct_21 (by decide) hF (fun hF => ?_) (fun hF => ?_)
      · refine z_aload_n cx d_X3_readProduct_30 1 rfl ?_
        refine z_bipush (v := 47) cx d_X3_readProduct_31 kb_47 ?_
        obtain ⟨v7, M6, hc, hF⟩ := zb_inv hF
        refine z_callV cx (As := [.int (47 : Int32)]) (rest := []) (c_X8_sees l cx.2.2.2.1.1 M4 p0 (47 : Int32) hT_p0 hc) hT_p0 zo_9 cv_Law_48 (zRmS_c rfl rfl (Nat.le_of_ble_eq_true rfl) (Nat.le_of_ble_eq_true rfl)) rfl rfl ⟨Nat.zero_le _, Nat.zero_le _⟩ (Nat.le_of_ble_eq_true rfl) d_X3_readProduct_33 ?_
        refine z_if_eq cx 45 d_X3_readProduct_36 (by decide) hF (fun hF => ?_) (fun hF => ?_)
        · refine z_aload_n cx d_X3_readProduct_45 1 rfl ?_
          refine z_bipush (v := 37) cx d_X3_readProduct_46 kb_37 ?_
          obtain ⟨v9, M8, hc, hF⟩ := zb_inv hF
          refine z_callV cx (As := [.int (37 : Int32)]) (rest := []) (c_X8_sees l cx.2.2.2.1.1 M6 p0 (37 : Int32) hT_p0 hc) hT_p0 zo_9 cv_Law_48 (zRmS_c rfl rfl (Nat.le_of_ble_eq_true rfl) (Nat.le_of_ble_eq_true rfl)) rfl rfl ⟨Nat.zero_le _, Nat.zero_le _⟩ (Nat.le_of_ble_eq_true rfl) d_X3_readProduct_48 ?_
          refine z_if_eq cx 60 d_X3_readProduct_51 (by decide) hF (fun hF => ?_) (fun hF => ?_)
          · refine z_iconst (v := -1) cx d_X3_readProduct_60 ki_m1 ?_
            exact hb61 self8 hs8 b8_L2 b8_L3 (-1 : Int32) M8 hF
          refine z_sipush (v := 1012) cx d_X3_readProduct_54 ks_1012 ?_
          refine z_goto cx 61 d_X3_readProduct_57 (by decide) ?_
          exact hb61 self8 hs8 b8_L2 b8_L3 (1012 : Int32) M8 hF
        refine z_sipush (v := 1011) cx d_X3_readProduct_39 ks_1011 ?_
        refine z_goto cx 61 d_X3_readProduct_42 (by decide) ?_
        exact hb61 self8 hs8 b8_L2 b8_L3 (1011 : Int32) M6 hF
      refine z_sipush (v := 1010) cx d_X3_readProduct_24 ks_1010 ?_
      refine z_goto cx 61 d_X3_readProduct_27 (by decide) ?_
      exact hb61 self8 hs8 b8_L2 b8_L3 (1010 : Int32) M4 hF
  unfold F_X3_readProduct_r at hF
  refine z_aload_n cx d_X3_readProduct_0 0 rfl ?_
  refine z_aload_n cx d_X3_readProduct_1 1 rfl ?_
  refine z_iload_n cx d_X3_readProduct_2 2 rfl ?_
  obtain ⟨M10, hc, hF⟩ := zbv_inv hF
  refine z_callV cx (As := [.ref (ad p0), .int p1]) (rest := []) (hr_X3_readUnit M t p0 p1 _ hT_t hT_p0 hc) hT_t zo_4 cv_Law_55 (zRmS_r hrr (by decide)) rfl rfl ⟨Nat.zero_le _, Nat.zero_le _⟩ (Nat.le_of_ble_eq_true rfl) d_X3_readProduct_3 ?_
  refine z_iconst (v := 0) cx d_X3_readProduct_6 ki_0 ?_
  refine z_istore_n cx 3 [(3, .int (0 : Int32)), (0, .ref (ad t)), (1, .ref (ad p0)), (2, .int p1)] d_X3_readProduct_7 rfl (by decide) rfl ?_
  exact z_lv [1, 2, 3, 0] _ rfl (hL8 zFuel p1 (0 : Int32) M10 hF)
/-! SunnyPans$Law.readUnit, its calls of its own kind as parameters -/
set_option maxRecDepth 100000 in
theorem wd_793 : Cond.methodLink "SunnyPans$Law" 58 yX8_seesDigit ∈ tbG := tw3 213 rfl rfl
theorem cv_Law_58 : zCV "SunnyPans$Law" 58 "SunnyPans$Text" yX8_seesDigit cX8_seesDigit 1 (some .boolean) 0 := zCV_of wd_793 wd_699 wd_700 wd_102 wd_701 (by decide +kernel)
theorem kb_40 : (Int8.ofInt (40)).toInt32 = (40 : Int32) := by decide +kernel
set_option maxRecDepth 100000 in
theorem wd_805 : Cond.code yX3_readWord cX3_readWord 4 none ∈ tbG := tw3 225 rfl rfl
set_option maxRecDepth 100000 in
theorem wd_802 : Cond.methodLink "SunnyPans$Law" 73 yX3_readWord ∈ tbG := tw3 222 rfl rfl
set_option maxRecDepth 100000 in
theorem wd_804 : Cond.instanceMethod yX3_readWord ∈ tbG := tw3 224 rfl rfl
theorem wd_13 : Cond.selects "SunnyPans$Law" yX3_readWord yX3_readWord ∈ tbG := tw 13 (by decide +kernel) rfl
theorem cv_Law_73 : zCV "SunnyPans$Law" 73 "SunnyPans$Law" yX3_readWord cX3_readWord 4 none 2 := zCV_of wd_802 wd_804 wd_13 wd_109 wd_805 (by decide +kernel)
set_option maxRecDepth 100000 in
theorem wd_784 : Cond.code yX3_readSum cX3_readSum 5 none ∈ tbG := tw3 204 rfl rfl
set_option maxRecDepth 100000 in
theorem wd_781 : Cond.methodLink "SunnyPans$Law" 32 yX3_readSum ∈ tbG := tw3 201 rfl rfl
set_option maxRecDepth 100000 in
theorem wd_783 : Cond.instanceMethod yX3_readSum ∈ tbG := tw3 203 rfl rfl
theorem wd_10 : Cond.selects "SunnyPans$Law" yX3_readSum yX3_readSum ∈ tbG := tw 10 (by decide +kernel) rfl
theorem cv_Law_32 : zCV "SunnyPans$Law" 32 "SunnyPans$Law" yX3_readSum cX3_readSum 5 none 2 := zCV_of wd_781 wd_783 wd_10 wd_109 wd_784 (by decide +kernel)
theorem kb_41 : (Int8.ofInt (41)).toInt32 = (41 : Int32) := by decide +kernel
set_option maxRecDepth 100000 in
theorem wd_799 : Cond.code yX8_here cX8_here 1 (some .int) ∈ tbG := tw3 219 rfl rfl
set_option maxRecDepth 100000 in
theorem wd_796 : Cond.methodLink "SunnyPans$Law" 65 yX8_here ∈ tbG := tw3 216 rfl rfl
set_option maxRecDepth 100000 in
theorem wd_797 : Cond.instanceMethod yX8_here ∈ tbG := tw3 217 rfl rfl
set_option maxRecDepth 100000 in
theorem wd_798 : Cond.selects "SunnyPans$Text" yX8_here yX8_here ∈ tbG := tw3 218 rfl rfl
theorem cv_Law_65 : zCV "SunnyPans$Law" 65 "SunnyPans$Text" yX8_here cX8_here 1 (some .int) 0 := zCV_of wd_796 wd_797 wd_798 wd_102 wd_799 (by decide +kernel)
set_option maxRecDepth 100000 in
theorem wd_800 : Cond.methodLink "SunnyPans$Law" 69 yX8_fail ∈ tbG := tw3 220 rfl rfl
theorem cv_Law_69 : zCV "SunnyPans$Law" 69 "SunnyPans$Text" yX8_fail cX8_fail 3 none 2 := zCV_of wd_800 wd_691 wd_692 wd_102 wd_693 (by decide +kernel)
set_option maxRecDepth 100000 in
theorem wd_794 : Cond.methodLink "SunnyPans$Law" 61 yX8_number ∈ tbG := tw3 214 rfl rfl
theorem cv_Law_61 : zCV "SunnyPans$Law" 61 "SunnyPans$Text" yX8_number cX8_number 4 (some .int) 2 := zCV_of wd_794 wd_695 wd_696 wd_102 wd_697 (by decide +kernel)
theorem d_X3_readUnit_0 : decode cX3_readUnit 0 = .ok (.aload_n 1, 1) := by decide +kernel
theorem d_X3_readUnit_1 : decode cX3_readUnit 1 = .ok (.invokevirtual 58, 3) := by decide +kernel
theorem d_X3_readUnit_4 : decode cX3_readUnit 4 = .ok (.ifCond .eq 18, 3) := by decide +kernel
theorem d_X3_readUnit_7 : decode cX3_readUnit 7 = .ok (.aload_n 0, 1) := by decide +kernel
theorem d_X3_readUnit_8 : decode cX3_readUnit 8 = .ok (.aload_n 1, 1) := by decide +kernel
theorem d_X3_readUnit_9 : decode cX3_readUnit 9 = .ok (.iconst 0, 1) := by decide +kernel
theorem d_X3_readUnit_10 : decode cX3_readUnit 10 = .ok (.sipush 999, 3) := by decide +kernel
theorem d_X3_readUnit_13 : decode cX3_readUnit 13 = .ok (.invokevirtual 61, 3) := by decide +kernel
theorem d_X3_readUnit_16 : decode cX3_readUnit 16 = .ok (.invokevirtual 28, 3) := by decide +kernel
theorem d_X3_readUnit_19 : decode cX3_readUnit 19 = .ok (.goto 57, 3) := by decide +kernel
theorem d_X3_readUnit_22 : decode cX3_readUnit 22 = .ok (.aload_n 1, 1) := by decide +kernel
theorem d_X3_readUnit_23 : decode cX3_readUnit 23 = .ok (.bipush 40, 2) := by decide +kernel
theorem d_X3_readUnit_25 : decode cX3_readUnit 25 = .ok (.invokevirtual 48, 3) := by decide +kernel
theorem d_X3_readUnit_28 : decode cX3_readUnit 28 = .ok (.ifCond .eq 42, 3) := by decide +kernel
theorem d_X3_readUnit_31 : decode cX3_readUnit 31 = .ok (.iload_n 2, 1) := by decide +kernel
theorem d_X3_readUnit_32 : decode cX3_readUnit 32 = .ok (.bipush 6, 2) := by decide +kernel
theorem d_X3_readUnit_34 : decode cX3_readUnit 34 = .ok (.if_icmp .lt 13, 3) := by decide +kernel
theorem d_X3_readUnit_37 : decode cX3_readUnit 37 = .ok (.aload_n 1, 1) := by decide +kernel
theorem d_X3_readUnit_38 : decode cX3_readUnit 38 = .ok (.iconst 3, 1) := by decide +kernel
theorem d_X3_readUnit_39 : decode cX3_readUnit 39 = .ok (.aload_n 1, 1) := by decide +kernel
theorem d_X3_readUnit_40 : decode cX3_readUnit 40 = .ok (.invokevirtual 65, 3) := by decide +kernel
theorem d_X3_readUnit_43 : decode cX3_readUnit 43 = .ok (.invokevirtual 69, 3) := by decide +kernel
theorem d_X3_readUnit_46 : decode cX3_readUnit 46 = .ok (.return_, 1) := by decide +kernel
theorem d_X3_readUnit_47 : decode cX3_readUnit 47 = .ok (.aload_n 1, 1) := by decide +kernel
theorem d_X3_readUnit_48 : decode cX3_readUnit 48 = .ok (.bipush 40, 2) := by decide +kernel
theorem d_X3_readUnit_50 : decode cX3_readUnit 50 = .ok (.invokevirtual 52, 3) := by decide +kernel
theorem d_X3_readUnit_53 : decode cX3_readUnit 53 = .ok (.aload_n 0, 1) := by decide +kernel
theorem d_X3_readUnit_54 : decode cX3_readUnit 54 = .ok (.aload_n 1, 1) := by decide +kernel
theorem d_X3_readUnit_55 : decode cX3_readUnit 55 = .ok (.iload_n 2, 1) := by decide +kernel
theorem d_X3_readUnit_56 : decode cX3_readUnit 56 = .ok (.iconst 1, 1) := by decide +kernel
theorem d_X3_readUnit_57 : decode cX3_readUnit 57 = .ok (.iadd, 1) := by decide +kernel
theorem d_X3_readUnit_58 : decode cX3_readUnit 58 = .ok (.invokevirtual 32, 3) := by decide +kernel
theorem d_X3_readUnit_61 : decode cX3_readUnit 61 = .ok (.aload_n 1, 1) := by decide +kernel
theorem d_X3_readUnit_62 : decode cX3_readUnit 62 = .ok (.bipush 41, 2) := by decide +kernel
theorem d_X3_readUnit_64 : decode cX3_readUnit 64 = .ok (.invokevirtual 52, 3) := by decide +kernel
theorem d_X3_readUnit_67 : decode cX3_readUnit 67 = .ok (.goto 9, 3) := by decide +kernel
theorem d_X3_readUnit_70 : decode cX3_readUnit 70 = .ok (.aload_n 0, 1) := by decide +kernel
theorem d_X3_readUnit_71 : decode cX3_readUnit 71 = .ok (.aload_n 1, 1) := by decide +kernel
theorem d_X3_readUnit_72 : decode cX3_readUnit 72 = .ok (.iload_n 2, 1) := by decide +kernel
theorem d_X3_readUnit_73 : decode cX3_readUnit 73 = .ok (.invokevirtual 73, 3) := by decide +kernel
theorem d_X3_readUnit_76 : decode cX3_readUnit 76 = .ok (.return_, 1) := by decide +kernel
noncomputable def F_X3_readUnit_r (M : zMem) (r_X3_readSum : zMem → Nat → Nat → Int32 → Option (zMem)) (r_X3_readWord : zMem → Nat → Nat → Int32 → Option (zMem)) (t : Nat) (p0 : Nat) (p1 : Int32) : Option (zMem) :=
  zb (F_X8_seesDigit M p0) fun v2 M1 =>
  if v2 = 0 then
    zb (F_X8_sees M1 p0 (40 : Int32)) fun v4 M3 =>
    if v4 = 0 then
      zbv (r_X3_readWord M3 t p0 p1) fun M5 =>
      some M5
    else
      if p1 < (6 : Int32) then
        zbv (F_X8_sign M3 p0 (40 : Int32)) fun M6 =>
        zbv (r_X3_readSum M6 t p0 (p1 + (1 : Int32))) fun M7 =>
        zbv (F_X8_sign M7 p0 (41 : Int32)) fun M8 =>
        some M8
      else
        zb (F_X8_here M3 p0) fun v10 M9 =>
        zbv (F_X8_fail M9 p0 (3 : Int32) v10) fun M11 =>
        some M11
  else
    zb (F_X8_number M1 p0 (0 : Int32) (999 : Int32)) fun v13 M12 =>
    zbv (F_X3_emit M12 t v13) fun M14 =>
    some M14
set_option maxHeartbeats 4000000 in
set_option maxRecDepth 100000 in
theorem co_X3_readUnit (l : Launch) {G : zG} {ad : Nat → Nat} {n : Nat} (hA : zInj ad n) (M : zMem) (r_X3_readSum : zMem → Nat → Nat → Int32 → Option (zMem)) (r_X3_readWord : zMem → Nat → Nat → Int32 → Option (zMem)) (t : Nat) (p0 : Nat) (p1 : Int32) {rr : Room} (hrr : rr.cells = 0 ∧ rr.slots = 0) (hr_X3_readSum : ∀ (M : zMem) (t : Nat) (p0 : Nat) (p1 : Int32) (M9 : zMem), zT shX n t 4 → zT shX n p0 9 → r_X3_readSum M t p0 p1 = some M9 → zM l yX3_readSum cX3_readSum 5 none rr G shX ad n M [.ref (ad t), .ref (ad p0), .int p1] none M9) (hr_X3_readWord : ∀ (M : zMem) (t : Nat) (p0 : Nat) (p1 : Int32) (M9 : zMem), zT shX n t 4 → zT shX n p0 9 → r_X3_readWord M t p0 p1 = some M9 → zM l yX3_readWord cX3_readWord 4 none rr G shX ad n M [.ref (ad t), .ref (ad p0), .int p1] none M9) (hT_t : zT shX n t 4) (hT_p0 : zT shX n p0 9) {M9 : zMem} (hF : F_X3_readUnit_r M r_X3_readSum r_X3_readWord t p0 p1 = some M9) : zM l yX3_readUnit cX3_readUnit 3 none (zRmS rr) G shX ad n M [.ref (ad t), .ref (ad p0), .int p1] none M9 := by
  refine zM_of hA (by decide +kernel) (lv := [(0, .ref (ad t)), (1, .ref (ad p0)), (2, .int p1)]) (Nat.le_of_ble_eq_true rfl) rfl (fun p e s m args below meth c A cx hr => ?_)
  unfold F_X3_readUnit_r at hF
  refine z_aload_n cx d_X3_readUnit_0 1 rfl ?_
  obtain ⟨v2, M1, hc, hF⟩ := zb_inv hF
  refine z_callV cx (As := []) (rest := []) (c_X8_seesDigit l cx.2.2.2.1.1 M p0 hT_p0 hc) hT_p0 zo_9 cv_Law_58 (zRmS_c rfl rfl (Nat.le_of_ble_eq_true rfl) (Nat.le_of_ble_eq_true rfl)) rfl rfl ⟨Nat.zero_le _, Nat.zero_le _⟩ (Nat.le_of_ble_eq_true rfl) d_X3_readUnit_1 ?_
  refine z_if_eq cx 22 d_X3_readUnit_4 (by decide) hF (fun hF => ?_) (fun hF => ?_)
  · refine z_aload_n cx d_X3_readUnit_22 1 rfl ?_
    refine z_bipush (v := 40) cx d_X3_readUnit_23 kb_40 ?_
    obtain ⟨v4, M3, hc, hF⟩ := zb_inv hF
    refine z_callV cx (As := [.int (40 : Int32)]) (rest := []) (c_X8_sees l cx.2.2.2.1.1 M1 p0 (40 : Int32) hT_p0 hc) hT_p0 zo_9 cv_Law_48 (zRmS_c rfl rfl (Nat.le_of_ble_eq_true rfl) (Nat.le_of_ble_eq_true rfl)) rfl rfl ⟨Nat.zero_le _, Nat.zero_le _⟩ (Nat.le_of_ble_eq_true rfl) d_X3_readUnit_25 ?_
    refine z_if_eq cx 70 d_X3_readUnit_28 (by decide) hF (fun hF => ?_) (fun hF => ?_)
    · refine z_aload_n cx d_X3_readUnit_70 0 rfl ?_
      refine z_aload_n cx d_X3_readUnit_71 1 rfl ?_
      refine z_iload_n cx d_X3_readUnit_72 2 rfl ?_
      obtain ⟨M5, hc, hF⟩ := zbv_inv hF
      refine z_callV cx (As := [.ref (ad p0), .int p1]) (rest := []) (hr_X3_readWord M3 t p0 p1 _ hT_t hT_p0 hc) hT_t zo_4 cv_Law_73 (zRmS_r hrr (by decide)) rfl rfl ⟨Nat.zero_le _, Nat.zero_le _⟩ (Nat.le_of_ble_eq_true rfl) d_X3_readUnit_73 ?_
      exact z_vret cx hr hF d_X3_readUnit_76
    refine z_iload_n cx d_X3_readUnit_31 2 rfl ?_
    refine z_bipush (v := 6) cx d_X3_readUnit_32 kb_6 ?_
    refine z_icmp_lt cx 47 d_X3_readUnit_34 (by decide) hF (fun hF => ?_) (fun hF => ?_)
    · refine z_aload_n cx d_X3_readUnit_47 1 rfl ?_
      refine z_bipush (v := 40) cx d_X3_readUnit_48 kb_40 ?_
      obtain ⟨M6, hc, hF⟩ := zbv_inv hF
      refine z_callV cx (As := [.int (40 : Int32)]) (rest := []) (c_X8_sign l cx.2.2.2.1.1 M3 p0 (40 : Int32) hT_p0 hc) hT_p0 zo_9 cv_Law_52 (zRmS_c rfl rfl (Nat.le_of_ble_eq_true rfl) (Nat.le_of_ble_eq_true rfl)) rfl rfl ⟨Nat.zero_le _, Nat.zero_le _⟩ (Nat.le_of_ble_eq_true rfl) d_X3_readUnit_50 ?_
      refine z_aload_n cx d_X3_readUnit_53 0 rfl ?_
      refine z_aload_n cx d_X3_readUnit_54 1 rfl ?_
      refine z_iload_n cx d_X3_readUnit_55 2 rfl ?_
      refine z_iconst (v := 1) cx d_X3_readUnit_56 ki_1 ?_
      refine z_iadd cx d_X3_readUnit_57 ?_
      obtain ⟨M7, hc, hF⟩ := zbv_inv hF
      refine z_callV cx (As := [.ref (ad p0), .int (p1 + (1 : Int32))]) (rest := []) (hr_X3_readSum M6 t p0 (p1 + (1 : Int32)) _ hT_t hT_p0 hc) hT_t zo_4 cv_Law_32 (zRmS_r hrr (by decide)) rfl rfl ⟨Nat.zero_le _, Nat.zero_le _⟩ (Nat.le_of_ble_eq_true rfl) d_X3_readUnit_58 ?_
      refine z_aload_n cx d_X3_readUnit_61 1 rfl ?_
      refine z_bipush (v := 41) cx d_X3_readUnit_62 kb_41 ?_
      obtain ⟨M8, hc, hF⟩ := zbv_inv hF
      refine z_callV cx (As := [.int (41 : Int32)]) (rest := []) (c_X8_sign l cx.2.2.2.1.1 M7 p0 (41 : Int32) hT_p0 hc) hT_p0 zo_9 cv_Law_52 (zRmS_c rfl rfl (Nat.le_of_ble_eq_true rfl) (Nat.le_of_ble_eq_true rfl)) rfl rfl ⟨Nat.zero_le _, Nat.zero_le _⟩ (Nat.le_of_ble_eq_true rfl) d_X3_readUnit_64 ?_
      refine z_goto cx 76 d_X3_readUnit_67 (by decide) ?_
      exact z_vret cx hr hF d_X3_readUnit_76
    refine z_aload_n cx d_X3_readUnit_37 1 rfl ?_
    refine z_iconst (v := 3) cx d_X3_readUnit_38 ki_3 ?_
    refine z_aload_n cx d_X3_readUnit_39 1 rfl ?_
    obtain ⟨v10, M9, hc, hF⟩ := zb_inv hF
    refine z_callV cx (As := []) (rest := [.int (3 : Int32), .ref (ad p0)]) (c_X8_here l cx.2.2.2.1.1 M3 p0 hT_p0 hc) hT_p0 zo_9 cv_Law_65 (zRmS_c rfl rfl (Nat.le_of_ble_eq_true rfl) (Nat.le_of_ble_eq_true rfl)) rfl rfl ⟨Nat.zero_le _, Nat.zero_le _⟩ (Nat.le_of_ble_eq_true rfl) d_X3_readUnit_40 ?_
    obtain ⟨M11, hc, hF⟩ := zbv_inv hF
    refine z_callV cx (As := [.int (3 : Int32), .int v10]) (rest := []) (c_X8_fail l cx.2.2.2.1.1 M9 p0 (3 : Int32) v10 hT_p0 hc) hT_p0 zo_9 cv_Law_69 (zRmS_c rfl rfl (Nat.le_of_ble_eq_true rfl) (Nat.le_of_ble_eq_true rfl)) rfl rfl ⟨Nat.zero_le _, Nat.zero_le _⟩ (Nat.le_of_ble_eq_true rfl) d_X3_readUnit_43 ?_
    exact z_vret cx hr hF d_X3_readUnit_46
  refine z_aload_n cx d_X3_readUnit_7 0 rfl ?_
  refine z_aload_n cx d_X3_readUnit_8 1 rfl ?_
  refine z_iconst (v := 0) cx d_X3_readUnit_9 ki_0 ?_
  refine z_sipush (v := 999) cx d_X3_readUnit_10 ks_999 ?_
  obtain ⟨v13, M12, hc, hF⟩ := zb_inv hF
  refine z_callV cx (As := [.int (0 : Int32), .int (999 : Int32)]) (rest := [.ref (ad t)]) (c_X8_number l cx.2.2.2.1.1 M1 p0 (0 : Int32) (999 : Int32) hT_p0 hc) hT_p0 zo_9 cv_Law_61 (zRmS_c rfl rfl (Nat.le_of_ble_eq_true rfl) (Nat.le_of_ble_eq_true rfl)) rfl rfl ⟨Nat.zero_le _, Nat.zero_le _⟩ (Nat.le_of_ble_eq_true rfl) d_X3_readUnit_13 ?_
  obtain ⟨M14, hc, hF⟩ := zbv_inv hF
  refine z_callV cx (As := [.int v13]) (rest := []) (c_X3_emit l cx.2.2.2.1.1 M12 t v13 hT_t hc) hT_t zo_4 cv_Law_28 (zRmS_c rfl rfl (Nat.le_of_ble_eq_true rfl) (Nat.le_of_ble_eq_true rfl)) rfl rfl ⟨Nat.zero_le _, Nat.zero_le _⟩ (Nat.le_of_ble_eq_true rfl) d_X3_readUnit_16 ?_
  refine z_goto cx 76 d_X3_readUnit_19 (by decide) ?_
  exact z_vret cx hr hF d_X3_readUnit_76
/-! SunnyPans$Law.readWord, its calls of its own kind as parameters -/
set_option maxRecDepth 100000 in
theorem wd_806 : Cond.methodLink "SunnyPans$Law" 76 yX8_word ∈ tbG := tw3 226 rfl rfl
theorem cv_Law_76 : zCV "SunnyPans$Law" 76 "SunnyPans$Text" yX8_word cX8_word 1 none 0 := zCV_of wd_806 wd_624 wd_625 wd_102 wd_626 (by decide +kernel)
set_option maxRecDepth 100000 in
theorem wd_816 : Cond.code yX3_nameOf cX3_nameOf 1 (some .int) ∈ tbG := tw3 236 rfl rfl
set_option maxRecDepth 100000 in
theorem wd_814 : Cond.methodLink "SunnyPans$Law" 90 yX3_nameOf ∈ tbG := tw3 234 rfl rfl
set_option maxRecDepth 100000 in
theorem wd_815 : Cond.static yX3_nameOf ∈ tbG := tw3 235 rfl rfl
theorem cs_Law_90 : zCS "SunnyPans$Law" 90 yX3_nameOf cX3_nameOf 1 (some .int) 1 := zCS_of wd_814 wd_815 wd_109 wd_816 (by decide +kernel)
theorem ks_1000 : (Int16.ofInt (1000)).toInt32 = (1000 : Int32) := by decide +kernel
set_option maxRecDepth 100000 in
theorem wd_147 : Cond.fieldLink "SunnyPans$Law" 94 "SunnyPans$Text" "wordFrom" "I" ∈ tbG := tw1 47 rfl rfl
theorem fg_Law_94 : zGetI "SunnyPans$Law" 94 8 9 4 := ⟨RX8, TX8, 8, rfl, by decide, uw_8, wd_147, fun _ _ _ _ _ _ => ⟨_, rfl, rfl⟩⟩
set_option maxRecDepth 100000 in
theorem wd_812 : Cond.code yX3_readTwo cX3_readTwo 3 none ∈ tbG := tw3 232 rfl rfl
set_option maxRecDepth 100000 in
theorem wd_809 : Cond.methodLink "SunnyPans$Law" 85 yX3_readTwo ∈ tbG := tw3 229 rfl rfl
set_option maxRecDepth 100000 in
theorem wd_811 : Cond.instanceMethod yX3_readTwo ∈ tbG := tw3 231 rfl rfl
theorem wd_14 : Cond.selects "SunnyPans$Law" yX3_readTwo yX3_readTwo ∈ tbG := tw 14 (by decide +kernel) rfl
theorem cv_Law_85 : zCV "SunnyPans$Law" 85 "SunnyPans$Law" yX3_readTwo cX3_readTwo 3 none 2 := zCV_of wd_809 wd_811 wd_14 wd_109 wd_812 (by decide +kernel)
theorem ks_1014 : (Int16.ofInt (1014)).toInt32 = (1014 : Int32) := by decide +kernel
theorem ks_1013 : (Int16.ofInt (1013)).toInt32 = (1013 : Int32) := by decide +kernel
theorem d_X3_readWord_0 : decode cX3_readWord 0 = .ok (.aload_n 1, 1) := by decide +kernel
theorem d_X3_readWord_1 : decode cX3_readWord 1 = .ok (.invokevirtual 76, 3) := by decide +kernel
theorem d_X3_readWord_4 : decode cX3_readWord 4 = .ok (.aload_n 1, 1) := by decide +kernel
theorem d_X3_readWord_5 : decode cX3_readWord 5 = .ok (.ldc 79, 2) := by decide +kernel
theorem d_X3_readWord_7 : decode cX3_readWord 7 = .ok (.invokevirtual 81, 3) := by decide +kernel
theorem d_X3_readWord_10 : decode cX3_readWord 10 = .ok (.ifCond .eq 19, 3) := by decide +kernel
theorem d_X3_readWord_13 : decode cX3_readWord 13 = .ok (.aload_n 0, 1) := by decide +kernel
theorem d_X3_readWord_14 : decode cX3_readWord 14 = .ok (.aload_n 1, 1) := by decide +kernel
theorem d_X3_readWord_15 : decode cX3_readWord 15 = .ok (.iload_n 2, 1) := by decide +kernel
theorem d_X3_readWord_16 : decode cX3_readWord 16 = .ok (.invokevirtual 85, 3) := by decide +kernel
theorem d_X3_readWord_19 : decode cX3_readWord 19 = .ok (.aload_n 0, 1) := by decide +kernel
theorem d_X3_readWord_20 : decode cX3_readWord 20 = .ok (.sipush 1013, 3) := by decide +kernel
theorem d_X3_readWord_23 : decode cX3_readWord 23 = .ok (.invokevirtual 28, 3) := by decide +kernel
theorem d_X3_readWord_26 : decode cX3_readWord 26 = .ok (.goto 57, 3) := by decide +kernel
theorem d_X3_readWord_29 : decode cX3_readWord 29 = .ok (.aload_n 1, 1) := by decide +kernel
theorem d_X3_readWord_30 : decode cX3_readWord 30 = .ok (.ldc 88, 2) := by decide +kernel
theorem d_X3_readWord_32 : decode cX3_readWord 32 = .ok (.invokevirtual 81, 3) := by decide +kernel
theorem d_X3_readWord_35 : decode cX3_readWord 35 = .ok (.ifCond .eq 19, 3) := by decide +kernel
theorem d_X3_readWord_38 : decode cX3_readWord 38 = .ok (.aload_n 0, 1) := by decide +kernel
theorem d_X3_readWord_39 : decode cX3_readWord 39 = .ok (.aload_n 1, 1) := by decide +kernel
theorem d_X3_readWord_40 : decode cX3_readWord 40 = .ok (.iload_n 2, 1) := by decide +kernel
theorem d_X3_readWord_41 : decode cX3_readWord 41 = .ok (.invokevirtual 85, 3) := by decide +kernel
theorem d_X3_readWord_44 : decode cX3_readWord 44 = .ok (.aload_n 0, 1) := by decide +kernel
theorem d_X3_readWord_45 : decode cX3_readWord 45 = .ok (.sipush 1014, 3) := by decide +kernel
theorem d_X3_readWord_48 : decode cX3_readWord 48 = .ok (.invokevirtual 28, 3) := by decide +kernel
theorem d_X3_readWord_51 : decode cX3_readWord 51 = .ok (.goto 32, 3) := by decide +kernel
theorem d_X3_readWord_54 : decode cX3_readWord 54 = .ok (.aload_n 1, 1) := by decide +kernel
theorem d_X3_readWord_55 : decode cX3_readWord 55 = .ok (.invokestatic 90, 3) := by decide +kernel
theorem d_X3_readWord_58 : decode cX3_readWord 58 = .ok (.istore_n 3, 1) := by decide +kernel
theorem d_X3_readWord_59 : decode cX3_readWord 59 = .ok (.iload_n 3, 1) := by decide +kernel
theorem d_X3_readWord_60 : decode cX3_readWord 60 = .ok (.iconst (-1), 1) := by decide +kernel
theorem d_X3_readWord_61 : decode cX3_readWord 61 = .ok (.if_icmp .ne 13, 3) := by decide +kernel
theorem d_X3_readWord_64 : decode cX3_readWord 64 = .ok (.aload_n 1, 1) := by decide +kernel
theorem d_X3_readWord_65 : decode cX3_readWord 65 = .ok (.iconst 1, 1) := by decide +kernel
theorem d_X3_readWord_66 : decode cX3_readWord 66 = .ok (.aload_n 1, 1) := by decide +kernel
theorem d_X3_readWord_67 : decode cX3_readWord 67 = .ok (.getfield 94, 3) := by decide +kernel
theorem d_X3_readWord_70 : decode cX3_readWord 70 = .ok (.invokevirtual 69, 3) := by decide +kernel
theorem d_X3_readWord_73 : decode cX3_readWord 73 = .ok (.return_, 1) := by decide +kernel
theorem d_X3_readWord_74 : decode cX3_readWord 74 = .ok (.aload_n 0, 1) := by decide +kernel
theorem d_X3_readWord_75 : decode cX3_readWord 75 = .ok (.sipush 1000, 3) := by decide +kernel
theorem d_X3_readWord_78 : decode cX3_readWord 78 = .ok (.iload_n 3, 1) := by decide +kernel
theorem d_X3_readWord_79 : decode cX3_readWord 79 = .ok (.iadd, 1) := by decide +kernel
theorem d_X3_readWord_80 : decode cX3_readWord 80 = .ok (.invokevirtual 28, 3) := by decide +kernel
theorem d_X3_readWord_83 : decode cX3_readWord 83 = .ok (.return_, 1) := by decide +kernel
noncomputable def F_X3_readWord_r (M : zMem) (r_X3_readTwo : zMem → Nat → Nat → Int32 → Option (zMem)) (t : Nat) (p0 : Nat) (p1 : Int32) : Option (zMem) :=
  zbv (F_X8_word M p0) fun M1 =>
  zb (F_X8_wordIs M1 p0 5) fun v3 M2 =>
  if v3 = 0 then
    zb (F_X8_wordIs M2 p0 6) fun v5 M4 =>
    if v5 = 0 then
      zb (F_X3_nameOf M4 p0) fun v7 M6 =>
      if v7 = (-1 : Int32) then
        zbv (F_X8_fail M6 p0 (1 : Int32) (M6.1 p0 4)) fun M9 =>
        some M9
      else
        zbv (F_X3_emit M6 t ((1000 : Int32) + v7)) fun M8 =>
        some M8
    else
      zbv (r_X3_readTwo M4 t p0 p1) fun M10 =>
      zbv (F_X3_emit M10 t (1014 : Int32)) fun M11 =>
      some M11
  else
    zbv (r_X3_readTwo M2 t p0 p1) fun M12 =>
    zbv (F_X3_emit M12 t (1013 : Int32)) fun M13 =>
    some M13
set_option maxHeartbeats 4000000 in
set_option maxRecDepth 100000 in
theorem co_X3_readWord (l : Launch) {G : zG} {ad : Nat → Nat} {n : Nat} (hA : zInj ad n) (M : zMem) (r_X3_readTwo : zMem → Nat → Nat → Int32 → Option (zMem)) (t : Nat) (p0 : Nat) (p1 : Int32) {rr : Room} (hrr : rr.cells = 0 ∧ rr.slots = 0) (hr_X3_readTwo : ∀ (M : zMem) (t : Nat) (p0 : Nat) (p1 : Int32) (M9 : zMem), zT shX n t 4 → zT shX n p0 9 → r_X3_readTwo M t p0 p1 = some M9 → zM l yX3_readTwo cX3_readTwo 3 none rr G shX ad n M [.ref (ad t), .ref (ad p0), .int p1] none M9) (hT_t : zT shX n t 4) (hT_p0 : zT shX n p0 9) {M9 : zMem} (hF : F_X3_readWord_r M r_X3_readTwo t p0 p1 = some M9) : zM l yX3_readWord cX3_readWord 4 none (zRmS rr) G shX ad n M [.ref (ad t), .ref (ad p0), .int p1] none M9 := by
  refine zM_of hA (by decide +kernel) (lv := [(0, .ref (ad t)), (1, .ref (ad p0)), (2, .int p1)]) (Nat.le_of_ble_eq_true rfl) rfl (fun p e s m args below meth c A cx hr => ?_)
  unfold F_X3_readWord_r at hF
  refine z_aload_n cx d_X3_readWord_0 1 rfl ?_
  obtain ⟨M1, hc, hF⟩ := zbv_inv hF
  refine z_callV cx (As := []) (rest := []) (c_X8_word l cx.2.2.2.1.1 M p0 hT_p0 hc) hT_p0 zo_9 cv_Law_76 (zRmS_c rfl rfl (Nat.le_of_ble_eq_true rfl) (Nat.le_of_ble_eq_true rfl)) rfl rfl ⟨Nat.zero_le _, Nat.zero_le _⟩ (Nat.le_of_ble_eq_true rfl) d_X3_readWord_1 ?_
  refine z_aload_n cx d_X3_readWord_4 1 rfl ?_
  refine z_ldcS cx 5 (by decide) d_X3_readWord_5 ?_
  obtain ⟨v3, M2, hc, hF⟩ := zb_inv hF
  refine z_callV cx (As := [.ref (zSK G 5)]) (rest := []) (c_X8_wordIs l cx.2.2.2.1.1 M1 p0 5 hT_p0 (by decide) hc) hT_p0 zo_9 cv_Law_81 (zRmS_c rfl rfl (Nat.le_of_ble_eq_true rfl) (Nat.le_of_ble_eq_true rfl)) rfl rfl ⟨Nat.zero_le _, Nat.zero_le _⟩ (Nat.le_of_ble_eq_true rfl) d_X3_readWord_7 ?_
  refine z_if_eq cx 29 d_X3_readWord_10 (by decide) hF (fun hF => ?_) (fun hF => ?_)
  · refine z_aload_n cx d_X3_readWord_29 1 rfl ?_
    refine z_ldcS cx 6 (by decide) d_X3_readWord_30 ?_
    obtain ⟨v5, M4, hc, hF⟩ := zb_inv hF
    refine z_callV cx (As := [.ref (zSK G 6)]) (rest := []) (c_X8_wordIs l cx.2.2.2.1.1 M2 p0 6 hT_p0 (by decide) hc) hT_p0 zo_9 cv_Law_81 (zRmS_c rfl rfl (Nat.le_of_ble_eq_true rfl) (Nat.le_of_ble_eq_true rfl)) rfl rfl ⟨Nat.zero_le _, Nat.zero_le _⟩ (Nat.le_of_ble_eq_true rfl) d_X3_readWord_32 ?_
    refine z_if_eq cx 54 d_X3_readWord_35 (by decide) hF (fun hF => ?_) (fun hF => ?_)
    · refine z_aload_n cx d_X3_readWord_54 1 rfl ?_
      obtain ⟨v7, M6, hc, hF⟩ := zb_inv hF
      refine z_callS cx (As := [.ref (ad p0)]) (rest := []) (c_X3_nameOf l cx.2.2.2.1.1 M4 p0 hT_p0 hc) cs_Law_90 (zRmS_c rfl rfl (Nat.le_of_ble_eq_true rfl) (Nat.le_of_ble_eq_true rfl)) rfl rfl ⟨Nat.zero_le _, Nat.zero_le _⟩ (Nat.le_of_ble_eq_true rfl) d_X3_readWord_55 ?_
      refine z_istore_n cx 3 [(3, .int v7), (0, .ref (ad t)), (1, .ref (ad p0)), (2, .int p1)] d_X3_readWord_58 rfl (by decide) rfl ?_
      refine z_iload_n cx d_X3_readWord_59 0 rfl ?_
      refine z_iconst (v := -1) cx d_X3_readWord_60 ki_m1 ?_
      refine z_icmp_ne cx 74 d_X3_readWord_61 (by decide) hF (fun hF => ?_) (fun hF => ?_)
      · refine z_aload_n cx d_X3_readWord_74 1 rfl ?_
        refine z_sipush (v := 1000) cx d_X3_readWord_75 ks_1000 ?_
        refine z_iload_n cx d_X3_readWord_78 0 rfl ?_
        refine z_iadd cx d_X3_readWord_79 ?_
        obtain ⟨M8, hc, hF⟩ := zbv_inv hF
        refine z_callV cx (As := [.int ((1000 : Int32) + v7)]) (rest := []) (c_X3_emit l cx.2.2.2.1.1 M6 t ((1000 : Int32) + v7) hT_t hc) hT_t zo_4 cv_Law_28 (zRmS_c rfl rfl (Nat.le_of_ble_eq_true rfl) (Nat.le_of_ble_eq_true rfl)) rfl rfl ⟨Nat.zero_le _, Nat.zero_le _⟩ (Nat.le_of_ble_eq_true rfl) d_X3_readWord_80 ?_
        exact z_vret cx hr hF d_X3_readWord_83
      refine z_aload_n cx d_X3_readWord_64 2 rfl ?_
      refine z_iconst (v := 1) cx d_X3_readWord_65 ki_1 ?_
      refine z_aload_n cx d_X3_readWord_66 2 rfl ?_
      refine z_getI cx hT_p0 fg_Law_94 d_X3_readWord_67 ?_
      obtain ⟨M9, hc, hF⟩ := zbv_inv hF
      refine z_callV cx (As := [.int (1 : Int32), .int (M6.1 p0 4)]) (rest := []) (c_X8_fail l cx.2.2.2.1.1 M6 p0 (1 : Int32) (M6.1 p0 4) hT_p0 hc) hT_p0 zo_9 cv_Law_69 (zRmS_c rfl rfl (Nat.le_of_ble_eq_true rfl) (Nat.le_of_ble_eq_true rfl)) rfl rfl ⟨Nat.zero_le _, Nat.zero_le _⟩ (Nat.le_of_ble_eq_true rfl) d_X3_readWord_70 ?_
      exact z_vret cx hr hF d_X3_readWord_73
    refine z_aload_n cx d_X3_readWord_38 0 rfl ?_
    refine z_aload_n cx d_X3_readWord_39 1 rfl ?_
    refine z_iload_n cx d_X3_readWord_40 2 rfl ?_
    obtain ⟨M10, hc, hF⟩ := zbv_inv hF
    refine z_callV cx (As := [.ref (ad p0), .int p1]) (rest := []) (hr_X3_readTwo M4 t p0 p1 _ hT_t hT_p0 hc) hT_t zo_4 cv_Law_85 (zRmS_r hrr (by decide)) rfl rfl ⟨Nat.zero_le _, Nat.zero_le _⟩ (Nat.le_of_ble_eq_true rfl) d_X3_readWord_41 ?_
    refine z_aload_n cx d_X3_readWord_44 0 rfl ?_
    refine z_sipush (v := 1014) cx d_X3_readWord_45 ks_1014 ?_
    obtain ⟨M11, hc, hF⟩ := zbv_inv hF
    refine z_callV cx (As := [.int (1014 : Int32)]) (rest := []) (c_X3_emit l cx.2.2.2.1.1 M10 t (1014 : Int32) hT_t hc) hT_t zo_4 cv_Law_28 (zRmS_c rfl rfl (Nat.le_of_ble_eq_true rfl) (Nat.le_of_ble_eq_true rfl)) rfl rfl ⟨Nat.zero_le _, Nat.zero_le _⟩ (Nat.le_of_ble_eq_true rfl) d_X3_readWord_48 ?_
    refine z_goto cx 83 d_X3_readWord_51 (by decide) ?_
    exact z_vret cx hr hF d_X3_readWord_83
  refine z_aload_n cx d_X3_readWord_13 0 rfl ?_
  refine z_aload_n cx d_X3_readWord_14 1 rfl ?_
  refine z_iload_n cx d_X3_readWord_15 2 rfl ?_
  obtain ⟨M12, hc, hF⟩ := zbv_inv hF
  refine z_callV cx (As := [.ref (ad p0), .int p1]) (rest := []) (hr_X3_readTwo M2 t p0 p1 _ hT_t hT_p0 hc) hT_t zo_4 cv_Law_85 (zRmS_r hrr (by decide)) rfl rfl ⟨Nat.zero_le _, Nat.zero_le _⟩ (Nat.le_of_ble_eq_true rfl) d_X3_readWord_16 ?_
  refine z_aload_n cx d_X3_readWord_19 0 rfl ?_
  refine z_sipush (v := 1013) cx d_X3_readWord_20 ks_1013 ?_
  obtain ⟨M13, hc, hF⟩ := zbv_inv hF
  refine z_callV cx (As := [.int (1013 : Int32)]) (rest := []) (c_X3_emit l cx.2.2.2.1.1 M12 t (1013 : Int32) hT_t hc) hT_t zo_4 cv_Law_28 (zRmS_c rfl rfl (Nat.le_of_ble_eq_true rfl) (Nat.le_of_ble_eq_true rfl)) rfl rfl ⟨Nat.zero_le _, Nat.zero_le _⟩ (Nat.le_of_ble_eq_true rfl) d_X3_readWord_23 ?_
  refine z_goto cx 83 d_X3_readWord_26 (by decide) ?_
  exact z_vret cx hr hF d_X3_readWord_83
/-! SunnyPans$Law.readTwo, its calls of its own kind as parameters -/
theorem kb_44 : (Int8.ofInt (44)).toInt32 = (44 : Int32) := by decide +kernel
theorem d_X3_readTwo_0 : decode cX3_readTwo 0 = .ok (.iload_n 2, 1) := by decide +kernel
theorem d_X3_readTwo_1 : decode cX3_readTwo 1 = .ok (.bipush 6, 2) := by decide +kernel
theorem d_X3_readTwo_3 : decode cX3_readTwo 3 = .ok (.if_icmp .lt 13, 3) := by decide +kernel
theorem d_X3_readTwo_6 : decode cX3_readTwo 6 = .ok (.aload_n 1, 1) := by decide +kernel
theorem d_X3_readTwo_7 : decode cX3_readTwo 7 = .ok (.iconst 3, 1) := by decide +kernel
theorem d_X3_readTwo_8 : decode cX3_readTwo 8 = .ok (.aload_n 1, 1) := by decide +kernel
theorem d_X3_readTwo_9 : decode cX3_readTwo 9 = .ok (.getfield 94, 3) := by decide +kernel
theorem d_X3_readTwo_12 : decode cX3_readTwo 12 = .ok (.invokevirtual 69, 3) := by decide +kernel
theorem d_X3_readTwo_15 : decode cX3_readTwo 15 = .ok (.return_, 1) := by decide +kernel
theorem d_X3_readTwo_16 : decode cX3_readTwo 16 = .ok (.aload_n 1, 1) := by decide +kernel
theorem d_X3_readTwo_17 : decode cX3_readTwo 17 = .ok (.bipush 91, 2) := by decide +kernel
theorem d_X3_readTwo_19 : decode cX3_readTwo 19 = .ok (.invokevirtual 52, 3) := by decide +kernel
theorem d_X3_readTwo_22 : decode cX3_readTwo 22 = .ok (.aload_n 0, 1) := by decide +kernel
theorem d_X3_readTwo_23 : decode cX3_readTwo 23 = .ok (.aload_n 1, 1) := by decide +kernel
theorem d_X3_readTwo_24 : decode cX3_readTwo 24 = .ok (.iload_n 2, 1) := by decide +kernel
theorem d_X3_readTwo_25 : decode cX3_readTwo 25 = .ok (.iconst 1, 1) := by decide +kernel
theorem d_X3_readTwo_26 : decode cX3_readTwo 26 = .ok (.iadd, 1) := by decide +kernel
theorem d_X3_readTwo_27 : decode cX3_readTwo 27 = .ok (.invokevirtual 32, 3) := by decide +kernel
theorem d_X3_readTwo_30 : decode cX3_readTwo 30 = .ok (.aload_n 1, 1) := by decide +kernel
theorem d_X3_readTwo_31 : decode cX3_readTwo 31 = .ok (.bipush 44, 2) := by decide +kernel
theorem d_X3_readTwo_33 : decode cX3_readTwo 33 = .ok (.invokevirtual 52, 3) := by decide +kernel
theorem d_X3_readTwo_36 : decode cX3_readTwo 36 = .ok (.aload_n 0, 1) := by decide +kernel
theorem d_X3_readTwo_37 : decode cX3_readTwo 37 = .ok (.aload_n 1, 1) := by decide +kernel
theorem d_X3_readTwo_38 : decode cX3_readTwo 38 = .ok (.iload_n 2, 1) := by decide +kernel
theorem d_X3_readTwo_39 : decode cX3_readTwo 39 = .ok (.iconst 1, 1) := by decide +kernel
theorem d_X3_readTwo_40 : decode cX3_readTwo 40 = .ok (.iadd, 1) := by decide +kernel
theorem d_X3_readTwo_41 : decode cX3_readTwo 41 = .ok (.invokevirtual 32, 3) := by decide +kernel
theorem d_X3_readTwo_44 : decode cX3_readTwo 44 = .ok (.aload_n 1, 1) := by decide +kernel
theorem d_X3_readTwo_45 : decode cX3_readTwo 45 = .ok (.bipush 93, 2) := by decide +kernel
theorem d_X3_readTwo_47 : decode cX3_readTwo 47 = .ok (.invokevirtual 52, 3) := by decide +kernel
theorem d_X3_readTwo_50 : decode cX3_readTwo 50 = .ok (.return_, 1) := by decide +kernel
noncomputable def F_X3_readTwo_r (M : zMem) (r_X3_readSum : zMem → Nat → Nat → Int32 → Option (zMem)) (t : Nat) (p0 : Nat) (p1 : Int32) : Option (zMem) :=
  if p1 < (6 : Int32) then
    zbv (F_X8_sign M p0 (91 : Int32)) fun M1 =>
    zbv (r_X3_readSum M1 t p0 (p1 + (1 : Int32))) fun M2 =>
    zbv (F_X8_sign M2 p0 (44 : Int32)) fun M3 =>
    zbv (r_X3_readSum M3 t p0 (p1 + (1 : Int32))) fun M4 =>
    zbv (F_X8_sign M4 p0 (93 : Int32)) fun M5 =>
    some M5
  else
    zbv (F_X8_fail M p0 (3 : Int32) (M.1 p0 4)) fun M6 =>
    some M6
set_option maxHeartbeats 4000000 in
set_option maxRecDepth 100000 in
theorem co_X3_readTwo (l : Launch) {G : zG} {ad : Nat → Nat} {n : Nat} (hA : zInj ad n) (M : zMem) (r_X3_readSum : zMem → Nat → Nat → Int32 → Option (zMem)) (t : Nat) (p0 : Nat) (p1 : Int32) {rr : Room} (hrr : rr.cells = 0 ∧ rr.slots = 0) (hr_X3_readSum : ∀ (M : zMem) (t : Nat) (p0 : Nat) (p1 : Int32) (M9 : zMem), zT shX n t 4 → zT shX n p0 9 → r_X3_readSum M t p0 p1 = some M9 → zM l yX3_readSum cX3_readSum 5 none rr G shX ad n M [.ref (ad t), .ref (ad p0), .int p1] none M9) (hT_t : zT shX n t 4) (hT_p0 : zT shX n p0 9) {M9 : zMem} (hF : F_X3_readTwo_r M r_X3_readSum t p0 p1 = some M9) : zM l yX3_readTwo cX3_readTwo 3 none (zRmS rr) G shX ad n M [.ref (ad t), .ref (ad p0), .int p1] none M9 := by
  refine zM_of hA (by decide +kernel) (lv := [(0, .ref (ad t)), (1, .ref (ad p0)), (2, .int p1)]) (Nat.le_of_ble_eq_true rfl) rfl (fun p e s m args below meth c A cx hr => ?_)
  unfold F_X3_readTwo_r at hF
  refine z_iload_n cx d_X3_readTwo_0 2 rfl ?_
  refine z_bipush (v := 6) cx d_X3_readTwo_1 kb_6 ?_
  refine z_icmp_lt cx 16 d_X3_readTwo_3 (by decide) hF (fun hF => ?_) (fun hF => ?_)
  · refine z_aload_n cx d_X3_readTwo_16 1 rfl ?_
    refine z_bipush (v := 91) cx d_X3_readTwo_17 kb_91 ?_
    obtain ⟨M1, hc, hF⟩ := zbv_inv hF
    refine z_callV cx (As := [.int (91 : Int32)]) (rest := []) (c_X8_sign l cx.2.2.2.1.1 M p0 (91 : Int32) hT_p0 hc) hT_p0 zo_9 cv_Law_52 (zRmS_c rfl rfl (Nat.le_of_ble_eq_true rfl) (Nat.le_of_ble_eq_true rfl)) rfl rfl ⟨Nat.zero_le _, Nat.zero_le _⟩ (Nat.le_of_ble_eq_true rfl) d_X3_readTwo_19 ?_
    refine z_aload_n cx d_X3_readTwo_22 0 rfl ?_
    refine z_aload_n cx d_X3_readTwo_23 1 rfl ?_
    refine z_iload_n cx d_X3_readTwo_24 2 rfl ?_
    refine z_iconst (v := 1) cx d_X3_readTwo_25 ki_1 ?_
    refine z_iadd cx d_X3_readTwo_26 ?_
    obtain ⟨M2, hc, hF⟩ := zbv_inv hF
    refine z_callV cx (As := [.ref (ad p0), .int (p1 + (1 : Int32))]) (rest := []) (hr_X3_readSum M1 t p0 (p1 + (1 : Int32)) _ hT_t hT_p0 hc) hT_t zo_4 cv_Law_32 (zRmS_r hrr (by decide)) rfl rfl ⟨Nat.zero_le _, Nat.zero_le _⟩ (Nat.le_of_ble_eq_true rfl) d_X3_readTwo_27 ?_
    refine z_aload_n cx d_X3_readTwo_30 1 rfl ?_
    refine z_bipush (v := 44) cx d_X3_readTwo_31 kb_44 ?_
    obtain ⟨M3, hc, hF⟩ := zbv_inv hF
    refine z_callV cx (As := [.int (44 : Int32)]) (rest := []) (c_X8_sign l cx.2.2.2.1.1 M2 p0 (44 : Int32) hT_p0 hc) hT_p0 zo_9 cv_Law_52 (zRmS_c rfl rfl (Nat.le_of_ble_eq_true rfl) (Nat.le_of_ble_eq_true rfl)) rfl rfl ⟨Nat.zero_le _, Nat.zero_le _⟩ (Nat.le_of_ble_eq_true rfl) d_X3_readTwo_33 ?_
    refine z_aload_n cx d_X3_readTwo_36 0 rfl ?_
    refine z_aload_n cx d_X3_readTwo_37 1 rfl ?_
    refine z_iload_n cx d_X3_readTwo_38 2 rfl ?_
    refine z_iconst (v := 1) cx d_X3_readTwo_39 ki_1 ?_
    refine z_iadd cx d_X3_readTwo_40 ?_
    obtain ⟨M4, hc, hF⟩ := zbv_inv hF
    refine z_callV cx (As := [.ref (ad p0), .int (p1 + (1 : Int32))]) (rest := []) (hr_X3_readSum M3 t p0 (p1 + (1 : Int32)) _ hT_t hT_p0 hc) hT_t zo_4 cv_Law_32 (zRmS_r hrr (by decide)) rfl rfl ⟨Nat.zero_le _, Nat.zero_le _⟩ (Nat.le_of_ble_eq_true rfl) d_X3_readTwo_41 ?_
    refine z_aload_n cx d_X3_readTwo_44 1 rfl ?_
    refine z_bipush (v := 93) cx d_X3_readTwo_45 kb_93 ?_
    obtain ⟨M5, hc, hF⟩ := zbv_inv hF
    refine z_callV cx (As := [.int (93 : Int32)]) (rest := []) (c_X8_sign l cx.2.2.2.1.1 M4 p0 (93 : Int32) hT_p0 hc) hT_p0 zo_9 cv_Law_52 (zRmS_c rfl rfl (Nat.le_of_ble_eq_true rfl) (Nat.le_of_ble_eq_true rfl)) rfl rfl ⟨Nat.zero_le _, Nat.zero_le _⟩ (Nat.le_of_ble_eq_true rfl) d_X3_readTwo_47 ?_
    exact z_vret cx hr hF d_X3_readTwo_50
  refine z_aload_n cx d_X3_readTwo_6 1 rfl ?_
  refine z_iconst (v := 3) cx d_X3_readTwo_7 ki_3 ?_
  refine z_aload_n cx d_X3_readTwo_8 1 rfl ?_
  refine z_getI cx hT_p0 fg_Law_94 d_X3_readTwo_9 ?_
  obtain ⟨M6, hc, hF⟩ := zbv_inv hF
  refine z_callV cx (As := [.int (3 : Int32), .int (M.1 p0 4)]) (rest := []) (c_X8_fail l cx.2.2.2.1.1 M p0 (3 : Int32) (M.1 p0 4) hT_p0 hc) hT_p0 zo_9 cv_Law_69 (zRmS_c rfl rfl (Nat.le_of_ble_eq_true rfl) (Nat.le_of_ble_eq_true rfl)) rfl rfl ⟨Nat.zero_le _, Nat.zero_le _⟩ (Nat.le_of_ble_eq_true rfl) d_X3_readTwo_12 ?_
  exact z_vret cx hr hF d_X3_readTwo_15
noncomputable def FG_X3_readSum : Nat → (zMem → Nat → Nat → Int32 → Option (zMem)) × (zMem → Nat → Nat → Int32 → Option (zMem)) × (zMem → Nat → Nat → Int32 → Option (zMem)) × (zMem → Nat → Nat → Int32 → Option (zMem)) × (zMem → Nat → Nat → Int32 → Option (zMem)) := itF ((fun _ _ _ _ => none), (fun _ _ _ _ => none), (fun _ _ _ _ => none), (fun _ _ _ _ => none), (fun _ _ _ _ => none)) (fun r => ((fun M t p0 p1 => F_X3_readSum_r M (r.2.1) t p0 p1), (fun M t p0 p1 => F_X3_readProduct_r M (r.2.2.1) t p0 p1), (fun M t p0 p1 => F_X3_readUnit_r M (r.1) (r.2.2.2.1) t p0 p1), (fun M t p0 p1 => F_X3_readWord_r M (r.2.2.2.2) t p0 p1), (fun M t p0 p1 => F_X3_readTwo_r M (r.1) t p0 p1)))
theorem FGs_X3_readSum (d : Nat) : FG_X3_readSum (d + 1) = ((fun M t p0 p1 => F_X3_readSum_r M ((FG_X3_readSum d).2.1) t p0 p1), (fun M t p0 p1 => F_X3_readProduct_r M ((FG_X3_readSum d).2.2.1) t p0 p1), (fun M t p0 p1 => F_X3_readUnit_r M ((FG_X3_readSum d).1) ((FG_X3_readSum d).2.2.2.1) t p0 p1), (fun M t p0 p1 => F_X3_readWord_r M ((FG_X3_readSum d).2.2.2.2) t p0 p1), (fun M t p0 p1 => F_X3_readTwo_r M ((FG_X3_readSum d).1) t p0 p1)) := rfl
noncomputable def F_X3_readSum (M : zMem) (t : Nat) (p0 : Nat) (p1 : Int32) : Option (zMem) := (FG_X3_readSum 48).1 M t p0 p1
noncomputable def F_X3_readProduct (M : zMem) (t : Nat) (p0 : Nat) (p1 : Int32) : Option (zMem) := (FG_X3_readSum 48).2.1 M t p0 p1
noncomputable def F_X3_readUnit (M : zMem) (t : Nat) (p0 : Nat) (p1 : Int32) : Option (zMem) := (FG_X3_readSum 48).2.2.1 M t p0 p1
noncomputable def F_X3_readWord (M : zMem) (t : Nat) (p0 : Nat) (p1 : Int32) : Option (zMem) := (FG_X3_readSum 48).2.2.2.1 M t p0 p1
noncomputable def F_X3_readTwo (M : zMem) (t : Nat) (p0 : Nat) (p1 : Int32) : Option (zMem) := (FG_X3_readSum 48).2.2.2.2 M t p0 p1
set_option maxHeartbeats 4000000 in
theorem cg_X3_readSum (l : Launch) {G : zG} {ad : Nat → Nat} {n : Nat} (hA : zInj ad n) : ∀ d : Nat, (∀ (M : zMem) (t : Nat) (p0 : Nat) (p1 : Int32) (M9 : zMem), zT shX n t 4 → zT shX n p0 9 → (FG_X3_readSum d).1 M t p0 p1 = some M9 → zM l yX3_readSum cX3_readSum 5 none (zRmG d) G shX ad n M [.ref (ad t), .ref (ad p0), .int p1] none M9) ∧ (∀ (M : zMem) (t : Nat) (p0 : Nat) (p1 : Int32) (M9 : zMem), zT shX n t 4 → zT shX n p0 9 → (FG_X3_readSum d).2.1 M t p0 p1 = some M9 → zM l yX3_readProduct cX3_readProduct 5 none (zRmG d) G shX ad n M [.ref (ad t), .ref (ad p0), .int p1] none M9) ∧ (∀ (M : zMem) (t : Nat) (p0 : Nat) (p1 : Int32) (M9 : zMem), zT shX n t 4 → zT shX n p0 9 → (FG_X3_readSum d).2.2.1 M t p0 p1 = some M9 → zM l yX3_readUnit cX3_readUnit 3 none (zRmG d) G shX ad n M [.ref (ad t), .ref (ad p0), .int p1] none M9) ∧ (∀ (M : zMem) (t : Nat) (p0 : Nat) (p1 : Int32) (M9 : zMem), zT shX n t 4 → zT shX n p0 9 → (FG_X3_readSum d).2.2.2.1 M t p0 p1 = some M9 → zM l yX3_readWord cX3_readWord 4 none (zRmG d) G shX ad n M [.ref (ad t), .ref (ad p0), .int p1] none M9) ∧ (∀ (M : zMem) (t : Nat) (p0 : Nat) (p1 : Int32) (M9 : zMem), zT shX n t 4 → zT shX n p0 9 → (FG_X3_readSum d).2.2.2.2 M t p0 p1 = some M9 → zM l yX3_readTwo cX3_readTwo 3 none (zRmG d) G shX ad n M [.ref (ad t), .ref (ad p0), .int p1] none M9) := by
  intro d
  induction d with
  | zero => exact ⟨(fun M t p0 p1 M9 hT_t hT_p0 hF => by cases hF), (fun M t p0 p1 M9 hT_t hT_p0 hF => by cases hF), (fun M t p0 p1 M9 hT_t hT_p0 hF => by cases hF), (fun M t p0 p1 M9 hT_t hT_p0 hF => by cases hF), (fun M t p0 p1 M9 hT_t hT_p0 hF => by cases hF)⟩
  | succ d ih =>
    exact ⟨fun M t p0 p1 M9 hT_t hT_p0 hF => co_X3_readSum l hA M _ t p0 p1 (zRmG_0 d) (ih.2.1) hT_t hT_p0 (by rw [FGs_X3_readSum] at hF; exact hF), fun M t p0 p1 M9 hT_t hT_p0 hF => co_X3_readProduct l hA M _ t p0 p1 (zRmG_0 d) (ih.2.2.1) hT_t hT_p0 (by rw [FGs_X3_readSum] at hF; exact hF), fun M t p0 p1 M9 hT_t hT_p0 hF => co_X3_readUnit l hA M _ _ t p0 p1 (zRmG_0 d) (ih.1) (ih.2.2.2.1) hT_t hT_p0 (by rw [FGs_X3_readSum] at hF; exact hF), fun M t p0 p1 M9 hT_t hT_p0 hF => co_X3_readWord l hA M _ t p0 p1 (zRmG_0 d) (ih.2.2.2.2) hT_t hT_p0 (by rw [FGs_X3_readSum] at hF; exact hF), fun M t p0 p1 M9 hT_t hT_p0 hF => co_X3_readTwo l hA M _ t p0 p1 (zRmG_0 d) (ih.1) hT_t hT_p0 (by rw [FGs_X3_readSum] at hF; exact hF)⟩
def rm_X3_readSum : Room := zRmG 48
theorem c_X3_readSum (l : Launch) {G : zG} {ad : Nat → Nat} {n : Nat} (hA : zInj ad n) (M : zMem) (t : Nat) (p0 : Nat) (p1 : Int32) (hT_t : zT shX n t 4) (hT_p0 : zT shX n p0 9) {M9 : zMem} (hF : F_X3_readSum M t p0 p1 = some M9) : zM l yX3_readSum cX3_readSum 5 none rm_X3_readSum G shX ad n M [.ref (ad t), .ref (ad p0), .int p1] none M9 := (cg_X3_readSum l hA 48).1 M t p0 p1 M9 hT_t hT_p0 hF
def rm_X3_readProduct : Room := zRmG 48
theorem c_X3_readProduct (l : Launch) {G : zG} {ad : Nat → Nat} {n : Nat} (hA : zInj ad n) (M : zMem) (t : Nat) (p0 : Nat) (p1 : Int32) (hT_t : zT shX n t 4) (hT_p0 : zT shX n p0 9) {M9 : zMem} (hF : F_X3_readProduct M t p0 p1 = some M9) : zM l yX3_readProduct cX3_readProduct 5 none rm_X3_readProduct G shX ad n M [.ref (ad t), .ref (ad p0), .int p1] none M9 := (cg_X3_readSum l hA 48).2.1 M t p0 p1 M9 hT_t hT_p0 hF
def rm_X3_readUnit : Room := zRmG 48
theorem c_X3_readUnit (l : Launch) {G : zG} {ad : Nat → Nat} {n : Nat} (hA : zInj ad n) (M : zMem) (t : Nat) (p0 : Nat) (p1 : Int32) (hT_t : zT shX n t 4) (hT_p0 : zT shX n p0 9) {M9 : zMem} (hF : F_X3_readUnit M t p0 p1 = some M9) : zM l yX3_readUnit cX3_readUnit 3 none rm_X3_readUnit G shX ad n M [.ref (ad t), .ref (ad p0), .int p1] none M9 := (cg_X3_readSum l hA 48).2.2.1 M t p0 p1 M9 hT_t hT_p0 hF
def rm_X3_readWord : Room := zRmG 48
theorem c_X3_readWord (l : Launch) {G : zG} {ad : Nat → Nat} {n : Nat} (hA : zInj ad n) (M : zMem) (t : Nat) (p0 : Nat) (p1 : Int32) (hT_t : zT shX n t 4) (hT_p0 : zT shX n p0 9) {M9 : zMem} (hF : F_X3_readWord M t p0 p1 = some M9) : zM l yX3_readWord cX3_readWord 4 none rm_X3_readWord G shX ad n M [.ref (ad t), .ref (ad p0), .int p1] none M9 := (cg_X3_readSum l hA 48).2.2.2.1 M t p0 p1 M9 hT_t hT_p0 hF
def rm_X3_readTwo : Room := zRmG 48
theorem c_X3_readTwo (l : Launch) {G : zG} {ad : Nat → Nat} {n : Nat} (hA : zInj ad n) (M : zMem) (t : Nat) (p0 : Nat) (p1 : Int32) (hT_t : zT shX n t 4) (hT_p0 : zT shX n p0 9) {M9 : zMem} (hF : F_X3_readTwo M t p0 p1 = some M9) : zM l yX3_readTwo cX3_readTwo 3 none rm_X3_readTwo G shX ad n M [.ref (ad t), .ref (ad p0), .int p1] none M9 := (cg_X3_readSum l hA 48).2.2.2.2 M t p0 p1 M9 hT_t hT_p0 hF
/-! SunnyPans$Text.failHere -/
theorem d_X8_failHere_0 : decode cX8_failHere 0 = .ok (.aload_n 0, 1) := by decide +kernel
theorem d_X8_failHere_1 : decode cX8_failHere 1 = .ok (.invokevirtual 40, 3) := by decide +kernel
theorem d_X8_failHere_4 : decode cX8_failHere 4 = .ok (.aload_n 0, 1) := by decide +kernel
theorem d_X8_failHere_5 : decode cX8_failHere 5 = .ok (.iconst 1, 1) := by decide +kernel
theorem d_X8_failHere_6 : decode cX8_failHere 6 = .ok (.aload_n 0, 1) := by decide +kernel
theorem d_X8_failHere_7 : decode cX8_failHere 7 = .ok (.getfield 34, 3) := by decide +kernel
theorem d_X8_failHere_10 : decode cX8_failHere 10 = .ok (.invokevirtual 43, 3) := by decide +kernel
theorem d_X8_failHere_13 : decode cX8_failHere 13 = .ok (.return_, 1) := by decide +kernel
noncomputable def F_X8_failHere (M : zMem) (t : Nat) : Option (zMem) :=
  zbv (F_X8_skipBlanks M t) fun M1 =>
  zbv (F_X8_fail M1 t (1 : Int32) (M1.1 t 7)) fun M2 =>
  some M2
def rm_X8_failHere : Room := { frames := 3, cells := 0, slots := 0, locals := 102 }
set_option maxHeartbeats 4000000 in
set_option maxRecDepth 100000 in
theorem c_X8_failHere (l : Launch) {G : zG} {ad : Nat → Nat} {n : Nat} (hA : zInj ad n) (M : zMem) (t : Nat) (hT_t : zT shX n t 9) {M9 : zMem} (hF : F_X8_failHere M t = some M9) : zM l yX8_failHere cX8_failHere 1 none rm_X8_failHere G shX ad n M [.ref (ad t)] none M9 := by
  refine zM_of hA (by decide +kernel) (lv := [(0, .ref (ad t))]) (Nat.le_of_ble_eq_true rfl) rfl (fun p e s m args below meth c A cx hr => ?_)
  unfold F_X8_failHere at hF
  refine z_aload_n cx d_X8_failHere_0 0 rfl ?_
  obtain ⟨M1, hc, hF⟩ := zbv_inv hF
  refine z_callV cx (As := []) (rest := []) (c_X8_skipBlanks l cx.2.2.2.1.1 M t hT_t hc) hT_t zo_9 cv_Text_40 ⟨rfl, rfl, Nat.le_of_ble_eq_true rfl, Nat.le_of_ble_eq_true rfl⟩ rfl rfl ⟨Nat.zero_le _, Nat.zero_le _⟩ (Nat.le_of_ble_eq_true rfl) d_X8_failHere_1 ?_
  refine z_aload_n cx d_X8_failHere_4 0 rfl ?_
  refine z_iconst (v := 1) cx d_X8_failHere_5 ki_1 ?_
  refine z_aload_n cx d_X8_failHere_6 0 rfl ?_
  refine z_getI cx hT_t fg_Text_34 d_X8_failHere_7 ?_
  obtain ⟨M2, hc, hF⟩ := zbv_inv hF
  refine z_callV cx (As := [.int (1 : Int32), .int (M1.1 t 7)]) (rest := []) (c_X8_fail l cx.2.2.2.1.1 M1 t (1 : Int32) (M1.1 t 7) hT_t hc) hT_t zo_9 cv_Text_43 ⟨rfl, rfl, Nat.le_of_ble_eq_true rfl, Nat.le_of_ble_eq_true rfl⟩ rfl rfl ⟨Nat.zero_le _, Nat.zero_le _⟩ (Nat.le_of_ble_eq_true rfl) d_X8_failHere_10 ?_
  exact z_vret cx hr hF d_X8_failHere_13
/-! SunnyPans$Law.read -/
set_option maxRecDepth 100000 in
theorem wd_825 : Cond.methodLink "SunnyPans$Law" 36 yX8_goesOn ∈ tbG := tw4 5 rfl rfl
theorem cv_Law_36 : zCV "SunnyPans$Law" 36 "SunnyPans$Text" yX8_goesOn cX8_goesOn 1 (some .boolean) 0 := zCV_of wd_825 wd_612 wd_613 wd_102 wd_614 (by decide +kernel)
set_option maxRecDepth 100000 in
theorem wd_829 : Cond.code yX8_failHere cX8_failHere 1 none ∈ tbG := tw4 9 rfl rfl
set_option maxRecDepth 100000 in
theorem wd_826 : Cond.methodLink "SunnyPans$Law" 42 yX8_failHere ∈ tbG := tw4 6 rfl rfl
set_option maxRecDepth 100000 in
theorem wd_827 : Cond.instanceMethod yX8_failHere ∈ tbG := tw4 7 rfl rfl
set_option maxRecDepth 100000 in
theorem wd_828 : Cond.selects "SunnyPans$Text" yX8_failHere yX8_failHere ∈ tbG := tw4 8 rfl rfl
theorem cv_Law_42 : zCV "SunnyPans$Law" 42 "SunnyPans$Text" yX8_failHere cX8_failHere 1 none 0 := zCV_of wd_826 wd_827 wd_828 wd_102 wd_829 (by decide +kernel)
theorem d_X3_read_0 : decode cX3_read 0 = .ok (.aload_n 0, 1) := by decide +kernel
theorem d_X3_read_1 : decode cX3_read 1 = .ok (.iconst 0, 1) := by decide +kernel
theorem d_X3_read_2 : decode cX3_read 2 = .ok (.putfield 24, 3) := by decide +kernel
theorem d_X3_read_5 : decode cX3_read 5 = .ok (.aload_n 0, 1) := by decide +kernel
theorem d_X3_read_6 : decode cX3_read 6 = .ok (.aload_n 1, 1) := by decide +kernel
theorem d_X3_read_7 : decode cX3_read 7 = .ok (.iconst 0, 1) := by decide +kernel
theorem d_X3_read_8 : decode cX3_read 8 = .ok (.invokevirtual 32, 3) := by decide +kernel
theorem d_X3_read_11 : decode cX3_read 11 = .ok (.aload_n 1, 1) := by decide +kernel
theorem d_X3_read_12 : decode cX3_read 12 = .ok (.invokevirtual 36, 3) := by decide +kernel
theorem d_X3_read_15 : decode cX3_read 15 = .ok (.ifCond .eq 7, 3) := by decide +kernel
theorem d_X3_read_18 : decode cX3_read 18 = .ok (.aload_n 1, 1) := by decide +kernel
theorem d_X3_read_19 : decode cX3_read 19 = .ok (.invokevirtual 42, 3) := by decide +kernel
theorem d_X3_read_22 : decode cX3_read 22 = .ok (.return_, 1) := by decide +kernel
noncomputable def F_X3_read (M : zMem) (t : Nat) (p0 : Nat) : Option (zMem) :=
  zl (zI M t 3 (0 : Int32)) fun M1 =>
  zbv (F_X3_readSum M1 t p0 (0 : Int32)) fun M2 =>
  zb (F_X8_goesOn M2 p0) fun v4 M3 =>
  if v4 = 0 then
    some M3
  else
    zbv (F_X8_failHere M3 p0) fun M5 =>
    some M5
def rm_X3_read : Room := { frames := 961, cells := 0, slots := 0, locals := 24024 }
set_option maxHeartbeats 4000000 in
set_option maxRecDepth 100000 in
theorem c_X3_read (l : Launch) {G : zG} {ad : Nat → Nat} {n : Nat} (hA : zInj ad n) (M : zMem) (t : Nat) (p0 : Nat) (hT_t : zT shX n t 4) (hT_p0 : zT shX n p0 9) {M9 : zMem} (hF : F_X3_read M t p0 = some M9) : zM l yX3_read cX3_read 2 none rm_X3_read G shX ad n M [.ref (ad t), .ref (ad p0)] none M9 := by
  refine zM_of hA (by decide +kernel) (lv := [(0, .ref (ad t)), (1, .ref (ad p0))]) (Nat.le_of_ble_eq_true rfl) rfl (fun p e s m args below meth c A cx hr => ?_)
  unfold F_X3_read at hF
  refine z_aload_n cx d_X3_read_0 0 rfl ?_
  refine z_iconst (v := 0) cx d_X3_read_1 ki_0 ?_
  refine z_putI cx hT_t fp_Law_24 d_X3_read_2 ?_
  refine z_nmM hF (fun M1 hF => ?_)
  refine z_aload_n cx d_X3_read_5 0 rfl ?_
  refine z_aload_n cx d_X3_read_6 1 rfl ?_
  refine z_iconst (v := 0) cx d_X3_read_7 ki_0 ?_
  obtain ⟨M2, hc, hF⟩ := zbv_inv hF
  refine z_callV cx (As := [.ref (ad p0), .int (0 : Int32)]) (rest := []) (c_X3_readSum l cx.2.2.2.1.1 M1 t p0 (0 : Int32) hT_t hT_p0 hc) hT_t zo_4 cv_Law_32 ⟨rfl, rfl, Nat.le_of_ble_eq_true rfl, Nat.le_of_ble_eq_true rfl⟩ rfl rfl ⟨Nat.zero_le _, Nat.zero_le _⟩ (Nat.le_of_ble_eq_true rfl) d_X3_read_8 ?_
  refine z_aload_n cx d_X3_read_11 1 rfl ?_
  obtain ⟨v4, M3, hc, hF⟩ := zb_inv hF
  refine z_callV cx (As := []) (rest := []) (c_X8_goesOn l cx.2.2.2.1.1 M2 p0 hT_p0 hc) hT_p0 zo_9 cv_Law_36 ⟨rfl, rfl, Nat.le_of_ble_eq_true rfl, Nat.le_of_ble_eq_true rfl⟩ rfl rfl ⟨Nat.zero_le _, Nat.zero_le _⟩ (Nat.le_of_ble_eq_true rfl) d_X3_read_12 ?_
  refine z_if_eq cx 22 d_X3_read_15 (by decide) hF (fun hF => ?_) (fun hF => ?_)
  · exact z_vret cx hr hF d_X3_read_22
  refine z_aload_n cx d_X3_read_18 1 rfl ?_
  obtain ⟨M5, hc, hF⟩ := zbv_inv hF
  refine z_callV cx (As := []) (rest := []) (c_X8_failHere l cx.2.2.2.1.1 M3 p0 hT_p0 hc) hT_p0 zo_9 cv_Law_42 ⟨rfl, rfl, Nat.le_of_ble_eq_true rfl, Nat.le_of_ble_eq_true rfl⟩ rfl rfl ⟨Nat.zero_le _, Nat.zero_le _⟩ (Nat.le_of_ble_eq_true rfl) d_X3_read_19 ?_
  exact z_vret cx hr hF d_X3_read_22
/-! SunnyPans$Law.join -/
set_option maxRecDepth 100000 in
theorem wd_949 : Cond.methodLink "SunnyPans$Law" 122 Lib.Math.max.name ∈ tbG := tw4 129 rfl rfl
set_option maxRecDepth 100000 in
theorem wd_605 : Cond.static Lib.Math.max.name ∈ tbG := tw3 25 rfl rfl
set_option maxRecDepth 100000 in
theorem wd_606 : Cond.code Lib.Math.max.name Lib.Math.max.code 2 (some .int) ∈ tbG := tw3 26 rfl rfl
set_option maxRecDepth 100000 in
theorem wd_948 : Cond.methodLink "SunnyPans$Law" 117 Lib.Math.min.name ∈ tbG := tw4 128 rfl rfl
theorem d_X3_join_0 : decode cX3_join 0 = .ok (.iload_n 0, 1) := by decide +kernel
theorem d_X3_join_1 : decode cX3_join 1 = .ok (.tableswitch 81 1008 1013 #[39, 43, 47, 51, 63, 75], 39) := by decide +kernel
theorem d_X3_join_40 : decode cX3_join 40 = .ok (.iload_n 1, 1) := by decide +kernel
theorem d_X3_join_41 : decode cX3_join 41 = .ok (.iload_n 2, 1) := by decide +kernel
theorem d_X3_join_42 : decode cX3_join 42 = .ok (.iadd, 1) := by decide +kernel
theorem d_X3_join_43 : decode cX3_join 43 = .ok (.ireturn, 1) := by decide +kernel
theorem d_X3_join_44 : decode cX3_join 44 = .ok (.iload_n 1, 1) := by decide +kernel
theorem d_X3_join_45 : decode cX3_join 45 = .ok (.iload_n 2, 1) := by decide +kernel
theorem d_X3_join_46 : decode cX3_join 46 = .ok (.isub, 1) := by decide +kernel
theorem d_X3_join_47 : decode cX3_join 47 = .ok (.ireturn, 1) := by decide +kernel
theorem d_X3_join_48 : decode cX3_join 48 = .ok (.iload_n 1, 1) := by decide +kernel
theorem d_X3_join_49 : decode cX3_join 49 = .ok (.iload_n 2, 1) := by decide +kernel
theorem d_X3_join_50 : decode cX3_join 50 = .ok (.imul, 1) := by decide +kernel
theorem d_X3_join_51 : decode cX3_join 51 = .ok (.ireturn, 1) := by decide +kernel
theorem d_X3_join_52 : decode cX3_join 52 = .ok (.iload_n 2, 1) := by decide +kernel
theorem d_X3_join_53 : decode cX3_join 53 = .ok (.ifCond .ne 7, 3) := by decide +kernel
theorem d_X3_join_56 : decode cX3_join 56 = .ok (.iconst 0, 1) := by decide +kernel
theorem d_X3_join_57 : decode cX3_join 57 = .ok (.goto 6, 3) := by decide +kernel
theorem d_X3_join_60 : decode cX3_join 60 = .ok (.iload_n 1, 1) := by decide +kernel
theorem d_X3_join_61 : decode cX3_join 61 = .ok (.iload_n 2, 1) := by decide +kernel
theorem d_X3_join_62 : decode cX3_join 62 = .ok (.idiv, 1) := by decide +kernel
theorem d_X3_join_63 : decode cX3_join 63 = .ok (.ireturn, 1) := by decide +kernel
theorem d_X3_join_64 : decode cX3_join 64 = .ok (.iload_n 2, 1) := by decide +kernel
theorem d_X3_join_65 : decode cX3_join 65 = .ok (.ifCond .ne 7, 3) := by decide +kernel
theorem d_X3_join_68 : decode cX3_join 68 = .ok (.iconst 0, 1) := by decide +kernel
theorem d_X3_join_69 : decode cX3_join 69 = .ok (.goto 6, 3) := by decide +kernel
theorem d_X3_join_72 : decode cX3_join 72 = .ok (.iload_n 1, 1) := by decide +kernel
theorem d_X3_join_73 : decode cX3_join 73 = .ok (.iload_n 2, 1) := by decide +kernel
theorem d_X3_join_74 : decode cX3_join 74 = .ok (.irem, 1) := by decide +kernel
theorem d_X3_join_75 : decode cX3_join 75 = .ok (.ireturn, 1) := by decide +kernel
theorem d_X3_join_76 : decode cX3_join 76 = .ok (.iload_n 1, 1) := by decide +kernel
theorem d_X3_join_77 : decode cX3_join 77 = .ok (.iload_n 2, 1) := by decide +kernel
theorem d_X3_join_78 : decode cX3_join 78 = .ok (.invokestatic 117, 3) := by decide +kernel
theorem d_X3_join_81 : decode cX3_join 81 = .ok (.ireturn, 1) := by decide +kernel
theorem d_X3_join_82 : decode cX3_join 82 = .ok (.iload_n 1, 1) := by decide +kernel
theorem d_X3_join_83 : decode cX3_join 83 = .ok (.iload_n 2, 1) := by decide +kernel
theorem d_X3_join_84 : decode cX3_join 84 = .ok (.invokestatic 122, 3) := by decide +kernel
theorem d_X3_join_87 : decode cX3_join 87 = .ok (.ireturn, 1) := by decide +kernel
noncomputable def F_X3_join_82 (p0 : Int32) (p1 : Int32) (p2 : Int32) (b82_L1 : Int32) (b82_L2 : Int32) (M : zMem) : Option (Int32 × zMem) :=
  some ((zmax b82_L1 b82_L2), M)
noncomputable def F_X3_join_76 (p0 : Int32) (p1 : Int32) (p2 : Int32) (b76_L1 : Int32) (b76_L2 : Int32) (M : zMem) : Option (Int32 × zMem) :=
  some ((zmin b76_L1 b76_L2), M)
noncomputable def F_X3_join_64 (p0 : Int32) (p1 : Int32) (p2 : Int32) (b64_L1 : Int32) (b64_L2 : Int32) (M : zMem) : Option (Int32 × zMem) :=
  if b64_L2 = 0 then
    some ((0 : Int32), M)
  else
    gd (!(b64_L2 == 0)) <|
    some ((b64_L1 - b64_L1 / b64_L2 * b64_L2), M)
noncomputable def F_X3_join_52 (p0 : Int32) (p1 : Int32) (p2 : Int32) (b52_L1 : Int32) (b52_L2 : Int32) (M : zMem) : Option (Int32 × zMem) :=
  if b52_L2 = 0 then
    some ((0 : Int32), M)
  else
    gd (!(b52_L2 == 0)) <|
    some ((b52_L1 / b52_L2), M)
noncomputable def F_X3_join_48 (p0 : Int32) (p1 : Int32) (p2 : Int32) (b48_L1 : Int32) (b48_L2 : Int32) (M : zMem) : Option (Int32 × zMem) :=
  some ((b48_L1 * b48_L2), M)
noncomputable def F_X3_join_44 (p0 : Int32) (p1 : Int32) (p2 : Int32) (b44_L1 : Int32) (b44_L2 : Int32) (M : zMem) : Option (Int32 × zMem) :=
  some ((b44_L1 - b44_L2), M)
noncomputable def F_X3_join_40 (p0 : Int32) (p1 : Int32) (p2 : Int32) (b40_L1 : Int32) (b40_L2 : Int32) (M : zMem) : Option (Int32 × zMem) :=
  some ((b40_L1 + b40_L2), M)
noncomputable def F_X3_join (M : zMem) (p0 : Int32) (p1 : Int32) (p2 : Int32) : Option (Int32 × zMem) :=
  if p0 = 1008 then
    F_X3_join_40 p0 p1 p2 p1 p2 M
  else
  if p0 = 1009 then
    F_X3_join_44 p0 p1 p2 p1 p2 M
  else
  if p0 = 1010 then
    F_X3_join_48 p0 p1 p2 p1 p2 M
  else
  if p0 = 1011 then
    F_X3_join_52 p0 p1 p2 p1 p2 M
  else
  if p0 = 1012 then
    F_X3_join_64 p0 p1 p2 p1 p2 M
  else
  if p0 = 1013 then
    F_X3_join_76 p0 p1 p2 p1 p2 M
  else
  F_X3_join_82 p0 p1 p2 p1 p2 M
def rm_X3_join : Room := { frames := 3, cells := 0, slots := 0, locals := 80 }
set_option maxHeartbeats 4000000 in
set_option maxRecDepth 100000 in
theorem c_X3_join (l : Launch) {G : zG} {ad : Nat → Nat} {n : Nat} (hA : zInj ad n) (M : zMem) (p0 : Int32) (p1 : Int32) (p2 : Int32) {r9 : Int32} {M9 : zMem} (hF : F_X3_join M p0 p1 p2 = some (r9, M9)) : zM l yX3_join cX3_join 3 (some .int) rm_X3_join G shX ad n M [.int p0, .int p1, .int p2] (some (.int r9)) M9 := by
  refine zM_of hA (by decide +kernel) (lv := [(0, .int p0), (1, .int p1), (2, .int p2)]) (Nat.le_of_ble_eq_true rfl) rfl (fun p e s m args below meth c A cx hr => ?_)
  have hb82 : ∀ (b82_L1 : Int32) (b82_L2 : Int32) (M : zMem), F_X3_join_82 p0 p1 p2 b82_L1 b82_L2 M = some (r9, M9) → zJ p l e rm_X3_join s m args below meth c G shX ad n A 3 (MQ below (zQ G shX ad n M9 (some (.int r9)) A) args s 0 0 A) 0 0 M 82 [(1, .int b82_L1), (2, .int b82_L2)] [] := by
    intro b82_L1 b82_L2 M hF
    unfold F_X3_join_82 at hF
    refine z_iload_n cx d_X3_join_82 0 rfl ?_
    refine z_iload_n cx d_X3_join_83 1 rfl ?_
    refine z_mmax cx ⟨wd_949, wd_605, wd_116, wd_606⟩ ⟨Nat.le_of_ble_eq_true rfl, Nat.le_of_ble_eq_true rfl, Nat.le_of_ble_eq_true rfl, Nat.le_of_ble_eq_true rfl⟩ d_X3_join_84 ?_
    exact z_iret cx hr rfl hF d_X3_join_87
  have hb76 : ∀ (b76_L1 : Int32) (b76_L2 : Int32) (M : zMem), F_X3_join_76 p0 p1 p2 b76_L1 b76_L2 M = some (r9, M9) → zJ p l e rm_X3_join s m args below meth c G shX ad n A 3 (MQ below (zQ G shX ad n M9 (some (.int r9)) A) args s 0 0 A) 0 0 M 76 [(1, .int b76_L1), (2, .int b76_L2)] [] := by
    intro b76_L1 b76_L2 M hF
    unfold F_X3_join_76 at hF
    refine z_iload_n cx d_X3_join_76 0 rfl ?_
    refine z_iload_n cx d_X3_join_77 1 rfl ?_
    refine z_mmin cx ⟨wd_948, wd_602, wd_116, wd_603⟩ ⟨Nat.le_of_ble_eq_true rfl, Nat.le_of_ble_eq_true rfl, Nat.le_of_ble_eq_true rfl, Nat.le_of_ble_eq_true rfl⟩ d_X3_join_78 ?_
    exact z_iret cx hr rfl hF d_X3_join_81
  have hb64 : ∀ (b64_L1 : Int32) (b64_L2 : Int32) (M : zMem), F_X3_join_64 p0 p1 p2 b64_L1 b64_L2 M = some (r9, M9) → zJ p l e rm_X3_join s m args below meth c G shX ad n A 3 (MQ below (zQ G shX ad n M9 (some (.int r9)) A) args s 0 0 A) 0 0 M 64 [(1, .int b64_L1), (2, .int b64_L2)] [] := by
    intro b64_L1 b64_L2 M hF
    unfold F_X3_join_64 at hF
    refine z_iload_n cx d_X3_join_64 1 rfl ?_
    refine z_if_ne cx 72 d_X3_join_65 (by decide) hF (fun hF => ?_) (fun hF => ?_)
    · refine z_iload_n cx d_X3_join_72 0 rfl ?_
      refine z_iload_n cx d_X3_join_73 1 rfl ?_
      obtain ⟨hz1, hF⟩ := gd_inv hF
      refine z_irem cx d_X3_join_74 (zne hz1) ?_
      exact z_iret cx hr rfl hF d_X3_join_75
    refine z_iconst (v := 0) cx d_X3_join_68 ki_0 ?_
    refine z_goto cx 75 d_X3_join_69 (by decide) ?_
    exact z_iret cx hr rfl hF d_X3_join_75
  have hb52 : ∀ (b52_L1 : Int32) (b52_L2 : Int32) (M : zMem), F_X3_join_52 p0 p1 p2 b52_L1 b52_L2 M = some (r9, M9) → zJ p l e rm_X3_join s m args below meth c G shX ad n A 3 (MQ below (zQ G shX ad n M9 (some (.int r9)) A) args s 0 0 A) 0 0 M 52 [(1, .int b52_L1), (2, .int b52_L2)] [] := by
    intro b52_L1 b52_L2 M hF
    unfold F_X3_join_52 at hF
    refine z_iload_n cx d_X3_join_52 1 rfl ?_
    refine z_if_ne cx 60 d_X3_join_53 (by decide) hF (fun hF => ?_) (fun hF => ?_)
    · refine z_iload_n cx d_X3_join_60 0 rfl ?_
      refine z_iload_n cx d_X3_join_61 1 rfl ?_
      obtain ⟨hz2, hF⟩ := gd_inv hF
      refine z_idiv cx d_X3_join_62 (zne hz2) ?_
      exact z_iret cx hr rfl hF d_X3_join_63
    refine z_iconst (v := 0) cx d_X3_join_56 ki_0 ?_
    refine z_goto cx 63 d_X3_join_57 (by decide) ?_
    exact z_iret cx hr rfl hF d_X3_join_63
  have hb48 : ∀ (b48_L1 : Int32) (b48_L2 : Int32) (M : zMem), F_X3_join_48 p0 p1 p2 b48_L1 b48_L2 M = some (r9, M9) → zJ p l e rm_X3_join s m args below meth c G shX ad n A 3 (MQ below (zQ G shX ad n M9 (some (.int r9)) A) args s 0 0 A) 0 0 M 48 [(1, .int b48_L1), (2, .int b48_L2)] [] := by
    intro b48_L1 b48_L2 M hF
    unfold F_X3_join_48 at hF
    refine z_iload_n cx d_X3_join_48 0 rfl ?_
    refine z_iload_n cx d_X3_join_49 1 rfl ?_
    refine z_imul cx d_X3_join_50 ?_
    exact z_iret cx hr rfl hF d_X3_join_51
  have hb44 : ∀ (b44_L1 : Int32) (b44_L2 : Int32) (M : zMem), F_X3_join_44 p0 p1 p2 b44_L1 b44_L2 M = some (r9, M9) → zJ p l e rm_X3_join s m args below meth c G shX ad n A 3 (MQ below (zQ G shX ad n M9 (some (.int r9)) A) args s 0 0 A) 0 0 M 44 [(1, .int b44_L1), (2, .int b44_L2)] [] := by
    intro b44_L1 b44_L2 M hF
    unfold F_X3_join_44 at hF
    refine z_iload_n cx d_X3_join_44 0 rfl ?_
    refine z_iload_n cx d_X3_join_45 1 rfl ?_
    refine z_isub cx d_X3_join_46 ?_
    exact z_iret cx hr rfl hF d_X3_join_47
  have hb40 : ∀ (b40_L1 : Int32) (b40_L2 : Int32) (M : zMem), F_X3_join_40 p0 p1 p2 b40_L1 b40_L2 M = some (r9, M9) → zJ p l e rm_X3_join s m args below meth c G shX ad n A 3 (MQ below (zQ G shX ad n M9 (some (.int r9)) A) args s 0 0 A) 0 0 M 40 [(1, .int b40_L1), (2, .int b40_L2)] [] := by
    intro b40_L1 b40_L2 M hF
    unfold F_X3_join_40 at hF
    refine z_iload_n cx d_X3_join_40 0 rfl ?_
    refine z_iload_n cx d_X3_join_41 1 rfl ?_
    refine z_iadd cx d_X3_join_42 ?_
    exact z_iret cx hr rfl hF d_X3_join_43
  unfold F_X3_join at hF
  refine z_iload_n cx d_X3_join_0 0 rfl ?_
  by_cases q0 : p0 = 1008
  · rw [if_pos q0] at hF
    refine z_tabIn cx 40 d_X3_join_1 (by rw [q0]; decide +kernel) (by rw [q0]; decide +kernel) (by rw [q0]; rfl) (by decide) ?_
    exact z_lv [1, 2] _ rfl (hb40 p1 p2 M hF)
  rw [if_neg q0] at hF
  by_cases q1 : p0 = 1009
  · rw [if_pos q1] at hF
    refine z_tabIn cx 44 d_X3_join_1 (by rw [q1]; decide +kernel) (by rw [q1]; decide +kernel) (by rw [q1]; rfl) (by decide) ?_
    exact z_lv [1, 2] _ rfl (hb44 p1 p2 M hF)
  rw [if_neg q1] at hF
  by_cases q2 : p0 = 1010
  · rw [if_pos q2] at hF
    refine z_tabIn cx 48 d_X3_join_1 (by rw [q2]; decide +kernel) (by rw [q2]; decide +kernel) (by rw [q2]; rfl) (by decide) ?_
    exact z_lv [1, 2] _ rfl (hb48 p1 p2 M hF)
  rw [if_neg q2] at hF
  by_cases q3 : p0 = 1011
  · rw [if_pos q3] at hF
    refine z_tabIn cx 52 d_X3_join_1 (by rw [q3]; decide +kernel) (by rw [q3]; decide +kernel) (by rw [q3]; rfl) (by decide) ?_
    exact z_lv [1, 2] _ rfl (hb52 p1 p2 M hF)
  rw [if_neg q3] at hF
  by_cases q4 : p0 = 1012
  · rw [if_pos q4] at hF
    refine z_tabIn cx 64 d_X3_join_1 (by rw [q4]; decide +kernel) (by rw [q4]; decide +kernel) (by rw [q4]; rfl) (by decide) ?_
    exact z_lv [1, 2] _ rfl (hb64 p1 p2 M hF)
  rw [if_neg q4] at hF
  by_cases q5 : p0 = 1013
  · rw [if_pos q5] at hF
    refine z_tabIn cx 76 d_X3_join_1 (by rw [q5]; decide +kernel) (by rw [q5]; decide +kernel) (by rw [q5]; rfl) (by decide) ?_
    exact z_lv [1, 2] _ rfl (hb76 p1 p2 M hF)
  rw [if_neg q5] at hF
  refine z_tabOut cx 82 d_X3_join_1 (by have w0 := lv_neT q0 (a := 1008) (by decide +kernel); have w1 := lv_neT q1 (a := 1009) (by decide +kernel); have w2 := lv_neT q2 (a := 1010) (by decide +kernel); have w3 := lv_neT q3 (a := 1011) (by decide +kernel); have w4 := lv_neT q4 (a := 1012) (by decide +kernel); have w5 := lv_neT q5 (a := 1013) (by decide +kernel); omega) (by decide) ?_
  exact z_lv [1, 2] _ rfl (hb82 p1 p2 M hF)
/-! SunnyPans$Law.rate -/
theorem tfX_4_3 {n k : Nat} (h : zT shX n k 4) : zT shX n (k + 3) 26 := zT_off h (shX_f (by decide) (by decide +kernel)) (by decide) (by decide)
theorem tfX_4_2 {n k : Nat} (h : zT shX n k 4) : zT shX n (k + 2) 21 := zT_off h (shX_f (by decide) (by decide +kernel)) (by decide) (by decide)
set_option maxRecDepth 100000 in
theorem wd_374 : Cond.fieldLink "SunnyPans$Law" 15 "SunnyPans$Law" "stack" "[I" ∈ tbG := tw2 34 rfl rfl
theorem fg_Law_15 : zGetR "SunnyPans$Law" 15 3 4 1 2 := ⟨RX3, TX3, 4, rfl, by decide, uw_3, wd_374, fun _ _ _ _ _ _ => ⟨_, rfl, rfl⟩⟩
set_option maxRecDepth 100000 in
theorem wd_375 : Cond.fieldLink "SunnyPans$Law" 18 "SunnyPans$Law" "named" "[I" ∈ tbG := tw2 35 rfl rfl
theorem fg_Law_18 : zGetR "SunnyPans$Law" 18 3 4 2 3 := ⟨RX3, TX3, 4, rfl, by decide, uw_3, wd_375, fun _ _ _ _ _ _ => ⟨_, rfl, rfl⟩⟩
set_option maxRecDepth 100000 in
theorem wd_947 : Cond.code yX3_join cX3_join 3 (some .int) ∈ tbG := tw4 127 rfl rfl
set_option maxRecDepth 100000 in
theorem wd_945 : Cond.methodLink "SunnyPans$Law" 113 yX3_join ∈ tbG := tw4 125 rfl rfl
set_option maxRecDepth 100000 in
theorem wd_946 : Cond.static yX3_join ∈ tbG := tw4 126 rfl rfl
theorem cs_Law_113 : zCS "SunnyPans$Law" 113 yX3_join cX3_join 3 (some .int) 3 := zCS_of wd_945 wd_946 wd_109 wd_947 (by decide +kernel)
theorem d_X3_rate_0 : decode cX3_rate 0 = .ok (.aload_n 0, 1) := by decide +kernel
theorem d_X3_rate_1 : decode cX3_rate 1 = .ok (.getfield 18, 3) := by decide +kernel
theorem d_X3_rate_4 : decode cX3_rate 4 = .ok (.iconst 0, 1) := by decide +kernel
theorem d_X3_rate_5 : decode cX3_rate 5 = .ok (.iload_n 1, 1) := by decide +kernel
theorem d_X3_rate_6 : decode cX3_rate 6 = .ok (.iastore, 1) := by decide +kernel
theorem d_X3_rate_7 : decode cX3_rate 7 = .ok (.aload_n 0, 1) := by decide +kernel
theorem d_X3_rate_8 : decode cX3_rate 8 = .ok (.getfield 18, 3) := by decide +kernel
theorem d_X3_rate_11 : decode cX3_rate 11 = .ok (.iconst 1, 1) := by decide +kernel
theorem d_X3_rate_12 : decode cX3_rate 12 = .ok (.iload_n 2, 1) := by decide +kernel
theorem d_X3_rate_13 : decode cX3_rate 13 = .ok (.iastore, 1) := by decide +kernel
theorem d_X3_rate_14 : decode cX3_rate 14 = .ok (.aload_n 0, 1) := by decide +kernel
theorem d_X3_rate_15 : decode cX3_rate 15 = .ok (.getfield 18, 3) := by decide +kernel
theorem d_X3_rate_18 : decode cX3_rate 18 = .ok (.iconst 2, 1) := by decide +kernel
theorem d_X3_rate_19 : decode cX3_rate 19 = .ok (.iload_n 3, 1) := by decide +kernel
theorem d_X3_rate_20 : decode cX3_rate 20 = .ok (.iastore, 1) := by decide +kernel
theorem d_X3_rate_21 : decode cX3_rate 21 = .ok (.aload_n 0, 1) := by decide +kernel
theorem d_X3_rate_22 : decode cX3_rate 22 = .ok (.getfield 18, 3) := by decide +kernel
theorem d_X3_rate_25 : decode cX3_rate 25 = .ok (.iconst 3, 1) := by decide +kernel
theorem d_X3_rate_26 : decode cX3_rate 26 = .ok (.iload 4, 2) := by decide +kernel
theorem d_X3_rate_28 : decode cX3_rate 28 = .ok (.iastore, 1) := by decide +kernel
theorem d_X3_rate_29 : decode cX3_rate 29 = .ok (.aload_n 0, 1) := by decide +kernel
theorem d_X3_rate_30 : decode cX3_rate 30 = .ok (.getfield 18, 3) := by decide +kernel
theorem d_X3_rate_33 : decode cX3_rate 33 = .ok (.iconst 4, 1) := by decide +kernel
theorem d_X3_rate_34 : decode cX3_rate 34 = .ok (.iload 5, 2) := by decide +kernel
theorem d_X3_rate_36 : decode cX3_rate 36 = .ok (.iastore, 1) := by decide +kernel
theorem d_X3_rate_37 : decode cX3_rate 37 = .ok (.aload_n 0, 1) := by decide +kernel
theorem d_X3_rate_38 : decode cX3_rate 38 = .ok (.getfield 18, 3) := by decide +kernel
theorem d_X3_rate_41 : decode cX3_rate 41 = .ok (.iconst 5, 1) := by decide +kernel
theorem d_X3_rate_42 : decode cX3_rate 42 = .ok (.iload 6, 2) := by decide +kernel
theorem d_X3_rate_44 : decode cX3_rate 44 = .ok (.iastore, 1) := by decide +kernel
theorem d_X3_rate_45 : decode cX3_rate 45 = .ok (.aload_n 0, 1) := by decide +kernel
theorem d_X3_rate_46 : decode cX3_rate 46 = .ok (.getfield 18, 3) := by decide +kernel
theorem d_X3_rate_49 : decode cX3_rate 49 = .ok (.bipush 6, 2) := by decide +kernel
theorem d_X3_rate_51 : decode cX3_rate 51 = .ok (.iload 7, 2) := by decide +kernel
theorem d_X3_rate_53 : decode cX3_rate 53 = .ok (.bipush 8, 2) := by decide +kernel
theorem d_X3_rate_55 : decode cX3_rate 55 = .ok (.irem, 1) := by decide +kernel
theorem d_X3_rate_56 : decode cX3_rate 56 = .ok (.iastore, 1) := by decide +kernel
theorem d_X3_rate_57 : decode cX3_rate 57 = .ok (.aload_n 0, 1) := by decide +kernel
theorem d_X3_rate_58 : decode cX3_rate 58 = .ok (.getfield 18, 3) := by decide +kernel
theorem d_X3_rate_61 : decode cX3_rate 61 = .ok (.bipush 7, 2) := by decide +kernel
theorem d_X3_rate_63 : decode cX3_rate 63 = .ok (.iload 7, 2) := by decide +kernel
theorem d_X3_rate_65 : decode cX3_rate 65 = .ok (.bipush 8, 2) := by decide +kernel
theorem d_X3_rate_67 : decode cX3_rate 67 = .ok (.idiv, 1) := by decide +kernel
theorem d_X3_rate_68 : decode cX3_rate 68 = .ok (.iastore, 1) := by decide +kernel
theorem d_X3_rate_69 : decode cX3_rate 69 = .ok (.iconst 0, 1) := by decide +kernel
theorem d_X3_rate_70 : decode cX3_rate 70 = .ok (.istore 8, 2) := by decide +kernel
theorem d_X3_rate_72 : decode cX3_rate 72 = .ok (.iconst 0, 1) := by decide +kernel
theorem d_X3_rate_73 : decode cX3_rate 73 = .ok (.istore 9, 2) := by decide +kernel
theorem d_X3_rate_75 : decode cX3_rate 75 = .ok (.iload 9, 2) := by decide +kernel
theorem d_X3_rate_77 : decode cX3_rate 77 = .ok (.aload_n 0, 1) := by decide +kernel
theorem d_X3_rate_78 : decode cX3_rate 78 = .ok (.getfield 24, 3) := by decide +kernel
theorem d_X3_rate_81 : decode cX3_rate 81 = .ok (.if_icmp .ge 130, 3) := by decide +kernel
theorem d_X3_rate_84 : decode cX3_rate 84 = .ok (.iload 9, 2) := by decide +kernel
theorem d_X3_rate_86 : decode cX3_rate 86 = .ok (.aload_n 0, 1) := by decide +kernel
theorem d_X3_rate_87 : decode cX3_rate 87 = .ok (.getfield 11, 3) := by decide +kernel
theorem d_X3_rate_90 : decode cX3_rate 90 = .ok (.arraylength, 1) := by decide +kernel
theorem d_X3_rate_91 : decode cX3_rate 91 = .ok (.if_icmp .ge 120, 3) := by decide +kernel
theorem d_X3_rate_94 : decode cX3_rate 94 = .ok (.aload_n 0, 1) := by decide +kernel
theorem d_X3_rate_95 : decode cX3_rate 95 = .ok (.getfield 11, 3) := by decide +kernel
theorem d_X3_rate_98 : decode cX3_rate 98 = .ok (.iload 9, 2) := by decide +kernel
theorem d_X3_rate_100 : decode cX3_rate 100 = .ok (.iaload, 1) := by decide +kernel
theorem d_X3_rate_101 : decode cX3_rate 101 = .ok (.istore 10, 2) := by decide +kernel
theorem d_X3_rate_103 : decode cX3_rate 103 = .ok (.iload 10, 2) := by decide +kernel
theorem d_X3_rate_105 : decode cX3_rate 105 = .ok (.sipush 1008, 3) := by decide +kernel
theorem d_X3_rate_108 : decode cX3_rate 108 = .ok (.if_icmp .lt 45, 3) := by decide +kernel
theorem d_X3_rate_111 : decode cX3_rate 111 = .ok (.iload 8, 2) := by decide +kernel
theorem d_X3_rate_113 : decode cX3_rate 113 = .ok (.iconst 2, 1) := by decide +kernel
theorem d_X3_rate_114 : decode cX3_rate 114 = .ok (.if_icmp .lt 39, 3) := by decide +kernel
theorem d_X3_rate_117 : decode cX3_rate 117 = .ok (.iinc 8 (-1), 3) := by decide +kernel
theorem d_X3_rate_120 : decode cX3_rate 120 = .ok (.aload_n 0, 1) := by decide +kernel
theorem d_X3_rate_121 : decode cX3_rate 121 = .ok (.getfield 15, 3) := by decide +kernel
theorem d_X3_rate_124 : decode cX3_rate 124 = .ok (.iload 8, 2) := by decide +kernel
theorem d_X3_rate_126 : decode cX3_rate 126 = .ok (.iconst 1, 1) := by decide +kernel
theorem d_X3_rate_127 : decode cX3_rate 127 = .ok (.isub, 1) := by decide +kernel
theorem d_X3_rate_128 : decode cX3_rate 128 = .ok (.iload 10, 2) := by decide +kernel
theorem d_X3_rate_130 : decode cX3_rate 130 = .ok (.aload_n 0, 1) := by decide +kernel
theorem d_X3_rate_131 : decode cX3_rate 131 = .ok (.getfield 15, 3) := by decide +kernel
theorem d_X3_rate_134 : decode cX3_rate 134 = .ok (.iload 8, 2) := by decide +kernel
theorem d_X3_rate_136 : decode cX3_rate 136 = .ok (.iconst 1, 1) := by decide +kernel
theorem d_X3_rate_137 : decode cX3_rate 137 = .ok (.isub, 1) := by decide +kernel
theorem d_X3_rate_138 : decode cX3_rate 138 = .ok (.iaload, 1) := by decide +kernel
theorem d_X3_rate_139 : decode cX3_rate 139 = .ok (.aload_n 0, 1) := by decide +kernel
theorem d_X3_rate_140 : decode cX3_rate 140 = .ok (.getfield 15, 3) := by decide +kernel
theorem d_X3_rate_143 : decode cX3_rate 143 = .ok (.iload 8, 2) := by decide +kernel
theorem d_X3_rate_145 : decode cX3_rate 145 = .ok (.iaload, 1) := by decide +kernel
theorem d_X3_rate_146 : decode cX3_rate 146 = .ok (.invokestatic 113, 3) := by decide +kernel
theorem d_X3_rate_149 : decode cX3_rate 149 = .ok (.iastore, 1) := by decide +kernel
theorem d_X3_rate_150 : decode cX3_rate 150 = .ok (.goto 55, 3) := by decide +kernel
theorem d_X3_rate_153 : decode cX3_rate 153 = .ok (.iload 10, 2) := by decide +kernel
theorem d_X3_rate_155 : decode cX3_rate 155 = .ok (.sipush 1008, 3) := by decide +kernel
theorem d_X3_rate_158 : decode cX3_rate 158 = .ok (.if_icmp .ge 47, 3) := by decide +kernel
theorem d_X3_rate_161 : decode cX3_rate 161 = .ok (.iload 8, 2) := by decide +kernel
theorem d_X3_rate_163 : decode cX3_rate 163 = .ok (.aload_n 0, 1) := by decide +kernel
theorem d_X3_rate_164 : decode cX3_rate 164 = .ok (.getfield 15, 3) := by decide +kernel
theorem d_X3_rate_167 : decode cX3_rate 167 = .ok (.arraylength, 1) := by decide +kernel
theorem d_X3_rate_168 : decode cX3_rate 168 = .ok (.if_icmp .ge 37, 3) := by decide +kernel
theorem d_X3_rate_171 : decode cX3_rate 171 = .ok (.aload_n 0, 1) := by decide +kernel
theorem d_X3_rate_172 : decode cX3_rate 172 = .ok (.getfield 15, 3) := by decide +kernel
theorem d_X3_rate_175 : decode cX3_rate 175 = .ok (.iload 8, 2) := by decide +kernel
theorem d_X3_rate_177 : decode cX3_rate 177 = .ok (.iload 10, 2) := by decide +kernel
theorem d_X3_rate_179 : decode cX3_rate 179 = .ok (.sipush 1000, 3) := by decide +kernel
theorem d_X3_rate_182 : decode cX3_rate 182 = .ok (.if_icmp .lt 17, 3) := by decide +kernel
theorem d_X3_rate_185 : decode cX3_rate 185 = .ok (.aload_n 0, 1) := by decide +kernel
theorem d_X3_rate_186 : decode cX3_rate 186 = .ok (.getfield 18, 3) := by decide +kernel
theorem d_X3_rate_189 : decode cX3_rate 189 = .ok (.iload 10, 2) := by decide +kernel
theorem d_X3_rate_191 : decode cX3_rate 191 = .ok (.sipush 1000, 3) := by decide +kernel
theorem d_X3_rate_194 : decode cX3_rate 194 = .ok (.isub, 1) := by decide +kernel
theorem d_X3_rate_195 : decode cX3_rate 195 = .ok (.iaload, 1) := by decide +kernel
theorem d_X3_rate_196 : decode cX3_rate 196 = .ok (.goto 5, 3) := by decide +kernel
theorem d_X3_rate_199 : decode cX3_rate 199 = .ok (.iload 10, 2) := by decide +kernel
theorem d_X3_rate_201 : decode cX3_rate 201 = .ok (.iastore, 1) := by decide +kernel
theorem d_X3_rate_202 : decode cX3_rate 202 = .ok (.iinc 8 1, 3) := by decide +kernel
theorem d_X3_rate_205 : decode cX3_rate 205 = .ok (.iinc 9 1, 3) := by decide +kernel
theorem d_X3_rate_208 : decode cX3_rate 208 = .ok (.goto (-133), 3) := by decide +kernel
theorem d_X3_rate_211 : decode cX3_rate 211 = .ok (.iconst 0, 1) := by decide +kernel
theorem d_X3_rate_212 : decode cX3_rate 212 = .ok (.bipush 99, 2) := by decide +kernel
theorem d_X3_rate_214 : decode cX3_rate 214 = .ok (.aload_n 0, 1) := by decide +kernel
theorem d_X3_rate_215 : decode cX3_rate 215 = .ok (.getfield 15, 3) := by decide +kernel
theorem d_X3_rate_218 : decode cX3_rate 218 = .ok (.iconst 0, 1) := by decide +kernel
theorem d_X3_rate_219 : decode cX3_rate 219 = .ok (.iaload, 1) := by decide +kernel
theorem d_X3_rate_220 : decode cX3_rate 220 = .ok (.invokestatic 117, 3) := by decide +kernel
theorem d_X3_rate_223 : decode cX3_rate 223 = .ok (.invokestatic 122, 3) := by decide +kernel
theorem d_X3_rate_226 : decode cX3_rate 226 = .ok (.ireturn, 1) := by decide +kernel
noncomputable def F_X3_rate_211 (t : Nat) (p0 : Int32) (p1 : Int32) (p2 : Int32) (p3 : Int32) (p4 : Int32) (p5 : Int32) (p6 : Int32) (M : zMem) : Option (Int32 × zMem) :=
  some ((zmax (0 : Int32) (zmin (99 : Int32) (M.1 (t + 2) 0))), M)
noncomputable def F_X3_rate_205 (t : Nat) (p0 : Int32) (p1 : Int32) (p2 : Int32) (p3 : Int32) (p4 : Int32) (p5 : Int32) (p6 : Int32) (self75 : Int32 → Int32 → zMem → Option (Int32 × zMem)) (b205_L8 : Int32) (b205_L9 : Int32) (M : zMem) : Option (Int32 × zMem) :=
  self75 b205_L8 (b205_L9 + 1) M
noncomputable def F_X3_rate_201 (t : Nat) (p0 : Int32) (p1 : Int32) (p2 : Int32) (p3 : Int32) (p4 : Int32) (p5 : Int32) (p6 : Int32) (self75 : Int32 → Int32 → zMem → Option (Int32 × zMem)) (b201_L8 : Int32) (b201_L9 : Int32) (b201_S1 : Int32) (b201_S2 : Int32) (M : zMem) : Option (Int32 × zMem) :=
  gin b201_S1 150 <|
  zl (zI M (t + 2) b201_S1.toNatClampNeg b201_S2) fun M2 =>
  F_X3_rate_205 t p0 p1 p2 p3 p4 p5 p6 self75 (b201_L8 + 1) b201_L9 M2
noncomputable def F_X3_rate_153 (t : Nat) (p0 : Int32) (p1 : Int32) (p2 : Int32) (p3 : Int32) (p4 : Int32) (p5 : Int32) (p6 : Int32) (self75 : Int32 → Int32 → zMem → Option (Int32 × zMem)) (b153_L8 : Int32) (b153_L9 : Int32) (b153_L10 : Int32) (M : zMem) : Option (Int32 × zMem) :=
  if (1008 : Int32) ≤ b153_L10 then
    F_X3_rate_205 t p0 p1 p2 p3 p4 p5 p6 self75 b153_L8 b153_L9 M
  else
    if (nI 150) ≤ b153_L8 then
      F_X3_rate_205 t p0 p1 p2 p3 p4 p5 p6 self75 b153_L8 b153_L9 M
    else
      if b153_L10 < (1000 : Int32) then
        F_X3_rate_201 t p0 p1 p2 p3 p4 p5 p6 self75 b153_L8 b153_L9 b153_L8 b153_L10 M
      else
        gin (b153_L10 - (1000 : Int32)) 8 <|
        F_X3_rate_201 t p0 p1 p2 p3 p4 p5 p6 self75 b153_L8 b153_L9 b153_L8 (M.1 (t + 3) (b153_L10 - (1000 : Int32)).toNatClampNeg) M
noncomputable def F_X3_rate_75 (t : Nat) (p0 : Int32) (p1 : Int32) (p2 : Int32) (p3 : Int32) (p4 : Int32) (p5 : Int32) (p6 : Int32) (self75 : Int32 → Int32 → zMem → Option (Int32 × zMem)) (b75_L8 : Int32) (b75_L9 : Int32) (M : zMem) : Option (Int32 × zMem) :=
  if (M.1 t 3) ≤ b75_L9 then
    F_X3_rate_211 t p0 p1 p2 p3 p4 p5 p6 M
  else
    if (nI 150) ≤ b75_L9 then
      F_X3_rate_211 t p0 p1 p2 p3 p4 p5 p6 M
    else
      gin b75_L9 150 <|
      zl (M.1 (t + 1) b75_L9.toNatClampNeg) fun v5 =>
      if v5 < (1008 : Int32) then
        F_X3_rate_153 t p0 p1 p2 p3 p4 p5 p6 self75 b75_L8 b75_L9 v5 M
      else
        if b75_L8 < (2 : Int32) then
          F_X3_rate_153 t p0 p1 p2 p3 p4 p5 p6 self75 b75_L8 b75_L9 v5 M
        else
          gin ((b75_L8 + (-1)) - (1 : Int32)) 150 <|
          gin (b75_L8 + (-1)) 150 <|
          zb (F_X3_join M v5 (M.1 (t + 2) ((b75_L8 + (-1)) - (1 : Int32)).toNatClampNeg) (M.1 (t + 2) (b75_L8 + (-1)).toNatClampNeg)) fun v9 M8 =>
          zl (zI M8 (t + 2) (((b75_L8 + (-1)) - (1 : Int32)).toNatClampNeg) v9) fun M10 =>
          F_X3_rate_205 t p0 p1 p2 p3 p4 p5 p6 self75 (b75_L8 + (-1)) b75_L9 M10
noncomputable def F_X3_rate (M : zMem) (t : Nat) (p0 : Int32) (p1 : Int32) (p2 : Int32) (p3 : Int32) (p4 : Int32) (p5 : Int32) (p6 : Int32) : Option (Int32 × zMem) :=
  zl (zI M (t + 3) 0 p0) fun M11 =>
  zl (zI M11 (t + 3) 1 p1) fun M12 =>
  zl (zI M12 (t + 3) 2 p2) fun M13 =>
  zl (zI M13 (t + 3) 3 p3) fun M14 =>
  zl (zI M14 (t + 3) 4 p4) fun M15 =>
  zl (zI M15 (t + 3) 5 p5) fun M16 =>
  zl (zI M16 (t + 3) 6 (p6 - p6 / (8 : Int32) * (8 : Int32))) fun M17 =>
  zl (zI M17 (t + 3) 7 (p6 / (8 : Int32))) fun M18 =>
  itF (fun _ _ _ => none) (F_X3_rate_75 t p0 p1 p2 p3 p4 p5 p6) zFuel (0 : Int32) (0 : Int32) M18
def rm_X3_rate : Room := { frames := 4, cells := 0, slots := 0, locals := 102 }
set_option maxHeartbeats 4000000 in
set_option maxRecDepth 100000 in
theorem c_X3_rate (l : Launch) {G : zG} {ad : Nat → Nat} {n : Nat} (hA : zInj ad n) (M : zMem) (t : Nat) (p0 : Int32) (p1 : Int32) (p2 : Int32) (p3 : Int32) (p4 : Int32) (p5 : Int32) (p6 : Int32) (hT_t : zT shX n t 4) {r9 : Int32} {M9 : zMem} (hF : F_X3_rate M t p0 p1 p2 p3 p4 p5 p6 = some (r9, M9)) : zM l yX3_rate cX3_rate 11 (some .int) rm_X3_rate G shX ad n M [.ref (ad t), .int p0, .int p1, .int p2, .int p3, .int p4, .int p5, .int p6] (some (.int r9)) M9 := by
  refine zM_of hA (by decide +kernel) (lv := [(0, .ref (ad t)), (1, .int p0), (2, .int p1), (3, .int p2), (4, .int p3), (5, .int p4), (6, .int p5), (7, .int p6)]) (Nat.le_of_ble_eq_true rfl) rfl (fun p e s m args below meth c A cx hr => ?_)
  have hb211 : ∀ (M : zMem), F_X3_rate_211 t p0 p1 p2 p3 p4 p5 p6 M = some (r9, M9) → zJ p l e rm_X3_rate s m args below meth c G shX ad n A 11 (MQ below (zQ G shX ad n M9 (some (.int r9)) A) args s 0 0 A) 0 0 M 211 [(0, .ref (ad t))] [] := by
    intro M hF
    unfold F_X3_rate_211 at hF
    refine z_iconst (v := 0) cx d_X3_rate_211 ki_0 ?_
    refine z_bipush (v := 99) cx d_X3_rate_212 kb_99 ?_
    refine z_aload_n cx d_X3_rate_214 0 rfl ?_
    refine z_getR cx hT_t fg_Law_15 (t + 2) rfl d_X3_rate_215 ?_
    refine z_iconst (v := 0) cx d_X3_rate_218 ki_0 ?_
    refine z_iald cx (tfX_4_2 hT_t) za_21 (zvp (by decide +kernel)) 0 rfl d_X3_rate_219 ?_
    refine z_mmin cx ⟨wd_948, wd_602, wd_116, wd_603⟩ ⟨Nat.le_of_ble_eq_true rfl, Nat.le_of_ble_eq_true rfl, Nat.le_of_ble_eq_true rfl, Nat.le_of_ble_eq_true rfl⟩ d_X3_rate_220 ?_
    refine z_mmax cx ⟨wd_949, wd_605, wd_116, wd_606⟩ ⟨Nat.le_of_ble_eq_true rfl, Nat.le_of_ble_eq_true rfl, Nat.le_of_ble_eq_true rfl, Nat.le_of_ble_eq_true rfl⟩ d_X3_rate_223 ?_
    exact z_iret cx hr rfl hF d_X3_rate_226
  have hb205 : ∀ (self75 : Int32 → Int32 → zMem → Option (Int32 × zMem)) (hs75 : ∀ (b75_L8 : Int32) (b75_L9 : Int32) (M : zMem), self75 b75_L8 b75_L9 M = some (r9, M9) → zJ p l e rm_X3_rate s m args below meth c G shX ad n A 11 (MQ below (zQ G shX ad n M9 (some (.int r9)) A) args s 0 0 A) 0 0 M 75 [(0, .ref (ad t)), (8, .int b75_L8), (9, .int b75_L9)] []), ∀ (b205_L8 : Int32) (b205_L9 : Int32) (M : zMem), F_X3_rate_205 t p0 p1 p2 p3 p4 p5 p6 self75 b205_L8 b205_L9 M = some (r9, M9) → zJ p l e rm_X3_rate s m args below meth c G shX ad n A 11 (MQ below (zQ G shX ad n M9 (some (.int r9)) A) args s 0 0 A) 0 0 M 205 [(0, .ref (ad t)), (8, .int b205_L8), (9, .int b205_L9)] [] := by
    intro self75 hs75 b205_L8 b205_L9 M hF
    unfold F_X3_rate_205 at hF
    refine z_iinc cx 9 1 [(9, .int (b205_L9 + 1)), (0, .ref (ad t)), (8, .int b205_L8)] d_X3_rate_205 2 rfl ki_1 (by decide) rfl ?_
    refine z_goto cx 75 d_X3_rate_208 (by decide) ?_
    exact z_lv [1, 2, 0] _ rfl (hs75 b205_L8 (b205_L9 + 1) M hF)
  have hb201 : ∀ (self75 : Int32 → Int32 → zMem → Option (Int32 × zMem)) (hs75 : ∀ (b75_L8 : Int32) (b75_L9 : Int32) (M : zMem), self75 b75_L8 b75_L9 M = some (r9, M9) → zJ p l e rm_X3_rate s m args below meth c G shX ad n A 11 (MQ below (zQ G shX ad n M9 (some (.int r9)) A) args s 0 0 A) 0 0 M 75 [(0, .ref (ad t)), (8, .int b75_L8), (9, .int b75_L9)] []), ∀ (b201_L8 : Int32) (b201_L9 : Int32) (b201_S1 : Int32) (b201_S2 : Int32) (M : zMem), F_X3_rate_201 t p0 p1 p2 p3 p4 p5 p6 self75 b201_L8 b201_L9 b201_S1 b201_S2 M = some (r9, M9) → zJ p l e rm_X3_rate s m args below meth c G shX ad n A 11 (MQ below (zQ G shX ad n M9 (some (.int r9)) A) args s 0 0 A) 0 0 M 201 [(0, .ref (ad t)), (8, .int b201_L8), (9, .int b201_L9)] [.int b201_S2, .int b201_S1, .ref (ad (t + 2))] := by
    intro self75 hs75 b201_L8 b201_L9 b201_S1 b201_S2 M hF
    unfold F_X3_rate_201 at hF
    obtain ⟨hi1, hF⟩ := gin_inv hF
    refine z_iast cx (tfX_4_2 hT_t) za_21 hi1 b201_S1.toNatClampNeg rfl d_X3_rate_201 ?_
    refine z_nmM hF (fun M2 hF => ?_)
    refine z_iinc cx 8 1 [(8, .int (b201_L8 + 1)), (0, .ref (ad t)), (9, .int b201_L9)] d_X3_rate_202 1 rfl ki_1 (by decide) rfl ?_
    exact z_lv [1, 0, 2] _ rfl (hb205 self75 hs75 (b201_L8 + 1) b201_L9 M2 hF)
  have hb153 : ∀ (self75 : Int32 → Int32 → zMem → Option (Int32 × zMem)) (hs75 : ∀ (b75_L8 : Int32) (b75_L9 : Int32) (M : zMem), self75 b75_L8 b75_L9 M = some (r9, M9) → zJ p l e rm_X3_rate s m args below meth c G shX ad n A 11 (MQ below (zQ G shX ad n M9 (some (.int r9)) A) args s 0 0 A) 0 0 M 75 [(0, .ref (ad t)), (8, .int b75_L8), (9, .int b75_L9)] []), ∀ (b153_L8 : Int32) (b153_L9 : Int32) (b153_L10 : Int32) (M : zMem), F_X3_rate_153 t p0 p1 p2 p3 p4 p5 p6 self75 b153_L8 b153_L9 b153_L10 M = some (r9, M9) → zJ p l e rm_X3_rate s m args below meth c G shX ad n A 11 (MQ below (zQ G shX ad n M9 (some (.int r9)) A) args s 0 0 A) 0 0 M 153 [(0, .ref (ad t)), (8, .int b153_L8), (9, .int b153_L9), (10, .int b153_L10)] [] := by
    intro self75 hs75 b153_L8 b153_L9 b153_L10 M hF
    unfold F_X3_rate_153 at hF
    refine z_iload cx d_X3_rate_153 3 rfl ?_
    refine z_sipush (v := 1008) cx d_X3_rate_155 ks_1008 ?_
    refine z_icmp_ge cx 205 d_X3_rate_158 (by decide) hF (fun hF => ?_) (fun hF => ?_)
    · exact z_lv [0, 1, 2] _ rfl (hb205 self75 hs75 b153_L8 b153_L9 M hF)
    refine z_iload cx d_X3_rate_161 1 rfl ?_
    refine z_aload_n cx d_X3_rate_163 0 rfl ?_
    refine z_getR cx hT_t fg_Law_15 (t + 2) rfl d_X3_rate_164 ?_
    refine z_alenI cx (tfX_4_2 hT_t) za_21 d_X3_rate_167 ?_
    refine z_icmp_ge cx 205 d_X3_rate_168 (by decide) hF (fun hF => ?_) (fun hF => ?_)
    · exact z_lv [0, 1, 2] _ rfl (hb205 self75 hs75 b153_L8 b153_L9 M hF)
    refine z_aload_n cx d_X3_rate_171 0 rfl ?_
    refine z_getR cx hT_t fg_Law_15 (t + 2) rfl d_X3_rate_172 ?_
    refine z_iload cx d_X3_rate_175 1 rfl ?_
    refine z_iload cx d_X3_rate_177 3 rfl ?_
    refine z_sipush (v := 1000) cx d_X3_rate_179 ks_1000 ?_
    refine z_icmp_lt cx 199 d_X3_rate_182 (by decide) hF (fun hF => ?_) (fun hF => ?_)
    · refine z_iload cx d_X3_rate_199 3 rfl ?_
      exact z_lv [0, 1, 2] _ rfl (hb201 self75 hs75 b153_L8 b153_L9 b153_L8 b153_L10 M hF)
    refine z_aload_n cx d_X3_rate_185 0 rfl ?_
    refine z_getR cx hT_t fg_Law_18 (t + 3) rfl d_X3_rate_186 ?_
    refine z_iload cx d_X3_rate_189 3 rfl ?_
    refine z_sipush (v := 1000) cx d_X3_rate_191 ks_1000 ?_
    refine z_isub cx d_X3_rate_194 ?_
    obtain ⟨hi3, hF⟩ := gin_inv hF
    refine z_iald cx (tfX_4_3 hT_t) za_26 hi3 ((b153_L10 - (1000 : Int32)).toNatClampNeg) rfl d_X3_rate_195 ?_
    refine z_goto cx 201 d_X3_rate_196 (by decide) ?_
    exact z_lv [0, 1, 2] _ rfl (hb201 self75 hs75 b153_L8 b153_L9 b153_L8 (M.1 (t + 3) (b153_L10 - (1000 : Int32)).toNatClampNeg) M hF)
  have hL75 : ∀ (fuel : Nat), ∀ (b75_L8 : Int32) (b75_L9 : Int32) (M : zMem), itF (fun _ _ _ => none) (F_X3_rate_75 t p0 p1 p2 p3 p4 p5 p6) fuel b75_L8 b75_L9 M = some (r9, M9) → zJ p l e rm_X3_rate s m args below meth c G shX ad n A 11 (MQ below (zQ G shX ad n M9 (some (.int r9)) A) args s 0 0 A) 0 0 M 75 [(0, .ref (ad t)), (8, .int b75_L8), (9, .int b75_L9)] [] := by
    intro fuel
    induction fuel with
    | zero => intro b75_L8 b75_L9 M hF; cases hF
    | succ fuel hs75 =>
      intro b75_L8 b75_L9 M hF
      have hF : F_X3_rate_75 t p0 p1 p2 p3 p4 p5 p6 (itF (fun _ _ _ => none) (F_X3_rate_75 t p0 p1 p2 p3 p4 p5 p6) fuel) b75_L8 b75_L9 M = some (r9, M9) := hF
      generalize itF (fun _ _ _ => none) (F_X3_rate_75 t p0 p1 p2 p3 p4 p5 p6) fuel = self75 at hs75 hF
      unfold F_X3_rate_75 at hF
      refine z_iload cx d_X3_rate_75 2 rfl ?_
      refine z_aload_n cx d_X3_rate_77 0 rfl ?_
      refine z_getI cx hT_t fg_Law_24 d_X3_rate_78 ?_
      refine z_icmp_ge cx 211 d_X3_rate_81 (by decide) hF (fun hF => ?_) (fun hF => ?_)
      · exact z_lv [0] _ rfl (hb211 M hF)
      refine z_iload cx d_X3_rate_84 2 rfl ?_
      refine z_aload_n cx d_X3_rate_86 0 rfl ?_
      refine z_getR cx hT_t fg_Law_11 (t + 1) rfl d_X3_rate_87 ?_
      refine z_alenI cx (tfX_4_1 hT_t) za_21 d_X3_rate_90 ?_
      refine z_icmp_ge cx 211 d_X3_rate_91 (by decide) hF (fun hF => ?_) (fun hF => ?_)
      · exact z_lv [0] _ rfl (hb211 M hF)
      refine z_aload_n cx d_X3_rate_94 0 rfl ?_
      refine z_getR cx hT_t fg_Law_11 (t + 1) rfl d_X3_rate_95 ?_
      refine z_iload cx d_X3_rate_98 2 rfl ?_
      obtain ⟨hi4, hF⟩ := gin_inv hF
      refine z_iald cx (tfX_4_1 hT_t) za_21 hi4 b75_L9.toNatClampNeg rfl d_X3_rate_100 ?_
      refine z_nm hF (fun v5 hF => ?_)
      refine z_istore cx 10 [(10, .int v5), (0, .ref (ad t)), (8, .int b75_L8), (9, .int b75_L9)] d_X3_rate_101 (by decide) rfl ?_
      refine z_iload cx d_X3_rate_103 0 rfl ?_
      refine z_sipush (v := 1008) cx d_X3_rate_105 ks_1008 ?_
      refine z_icmp_lt cx 153 d_X3_rate_108 (by decide) hF (fun hF => ?_) (fun hF => ?_)
      · exact z_lv [1, 2, 3, 0] _ rfl (hb153 self75 hs75 b75_L8 b75_L9 v5 M hF)
      refine z_iload cx d_X3_rate_111 2 rfl ?_
      refine z_iconst (v := 2) cx d_X3_rate_113 ki_2 ?_
      refine z_icmp_lt cx 153 d_X3_rate_114 (by decide) hF (fun hF => ?_) (fun hF => ?_)
      · exact z_lv [1, 2, 3, 0] _ rfl (hb153 self75 hs75 b75_L8 b75_L9 v5 M hF)
      refine z_iinc cx 8 (-1) [(8, .int (b75_L8 + (-1))), (10, .int v5), (0, .ref (ad t)), (9, .int b75_L9)] d_X3_rate_117 2 rfl ki_m1 (by decide) rfl ?_
      refine z_aload_n cx d_X3_rate_120 2 rfl ?_
      refine z_getR cx hT_t fg_Law_15 (t + 2) rfl d_X3_rate_121 ?_
      refine z_iload cx d_X3_rate_124 0 rfl ?_
      refine z_iconst (v := 1) cx d_X3_rate_126 ki_1 ?_
      refine z_isub cx d_X3_rate_127 ?_
      refine z_iload cx d_X3_rate_128 1 rfl ?_
      refine z_aload_n cx d_X3_rate_130 2 rfl ?_
      refine z_getR cx hT_t fg_Law_15 (t + 2) rfl d_X3_rate_131 ?_
      refine z_iload cx d_X3_rate_134 0 rfl ?_
      refine z_iconst (v := 1) cx d_X3_rate_136 ki_1 ?_
      refine z_isub cx d_X3_rate_137 ?_
      obtain ⟨hi6, hF⟩ := gin_inv hF
      refine z_iald cx (tfX_4_2 hT_t) za_21 hi6 (((b75_L8 + (-1)) - (1 : Int32)).toNatClampNeg) rfl d_X3_rate_138 ?_
      refine z_aload_n cx d_X3_rate_139 2 rfl ?_
      refine z_getR cx hT_t fg_Law_15 (t + 2) rfl d_X3_rate_140 ?_
      refine z_iload cx d_X3_rate_143 0 rfl ?_
      obtain ⟨hi7, hF⟩ := gin_inv hF
      refine z_iald cx (tfX_4_2 hT_t) za_21 hi7 ((b75_L8 + (-1)).toNatClampNeg) rfl d_X3_rate_145 ?_
      obtain ⟨v9, M8, hc, hF⟩ := zb_inv hF
      refine z_callS cx (As := [.int v5, .int (M.1 (t + 2) ((b75_L8 + (-1)) - (1 : Int32)).toNatClampNeg), .int (M.1 (t + 2) (b75_L8 + (-1)).toNatClampNeg)]) (rest := [.int ((b75_L8 + (-1)) - (1 : Int32)), .ref (ad (t + 2))]) (c_X3_join l cx.2.2.2.1.1 M v5 (M.1 (t + 2) ((b75_L8 + (-1)) - (1 : Int32)).toNatClampNeg) (M.1 (t + 2) (b75_L8 + (-1)).toNatClampNeg)  hc) cs_Law_113 ⟨rfl, rfl, Nat.le_of_ble_eq_true rfl, Nat.le_of_ble_eq_true rfl⟩ rfl rfl ⟨Nat.zero_le _, Nat.zero_le _⟩ (Nat.le_of_ble_eq_true rfl) d_X3_rate_146 ?_
      refine z_iast cx (tfX_4_2 hT_t) za_21 hi6 (((b75_L8 + (-1)) - (1 : Int32)).toNatClampNeg) rfl d_X3_rate_149 ?_
      refine z_nmM hF (fun M10 hF => ?_)
      refine z_goto cx 205 d_X3_rate_150 (by decide) ?_
      exact z_lv [2, 0, 3] _ rfl (hb205 self75 hs75 (b75_L8 + (-1)) b75_L9 M10 hF)
  unfold F_X3_rate at hF
  refine z_aload_n cx d_X3_rate_0 0 rfl ?_
  refine z_getR cx hT_t fg_Law_18 (t + 3) rfl d_X3_rate_1 ?_
  refine z_iconst (v := 0) cx d_X3_rate_4 ki_0 ?_
  refine z_iload_n cx d_X3_rate_5 1 rfl ?_
  refine z_iast cx (tfX_4_3 hT_t) za_26 (zvp (by decide +kernel)) 0 rfl d_X3_rate_6 ?_
  refine z_nmM hF (fun M11 hF => ?_)
  refine z_aload_n cx d_X3_rate_7 0 rfl ?_
  refine z_getR cx hT_t fg_Law_18 (t + 3) rfl d_X3_rate_8 ?_
  refine z_iconst (v := 1) cx d_X3_rate_11 ki_1 ?_
  refine z_iload_n cx d_X3_rate_12 2 rfl ?_
  refine z_iast cx (tfX_4_3 hT_t) za_26 (zvp (by decide +kernel)) 1 rfl d_X3_rate_13 ?_
  refine z_nmM hF (fun M12 hF => ?_)
  refine z_aload_n cx d_X3_rate_14 0 rfl ?_
  refine z_getR cx hT_t fg_Law_18 (t + 3) rfl d_X3_rate_15 ?_
  refine z_iconst (v := 2) cx d_X3_rate_18 ki_2 ?_
  refine z_iload_n cx d_X3_rate_19 3 rfl ?_
  refine z_iast cx (tfX_4_3 hT_t) za_26 (zvp (by decide +kernel)) 2 rfl d_X3_rate_20 ?_
  refine z_nmM hF (fun M13 hF => ?_)
  refine z_aload_n cx d_X3_rate_21 0 rfl ?_
  refine z_getR cx hT_t fg_Law_18 (t + 3) rfl d_X3_rate_22 ?_
  refine z_iconst (v := 3) cx d_X3_rate_25 ki_3 ?_
  refine z_iload cx d_X3_rate_26 4 rfl ?_
  refine z_iast cx (tfX_4_3 hT_t) za_26 (zvp (by decide +kernel)) 3 rfl d_X3_rate_28 ?_
  refine z_nmM hF (fun M14 hF => ?_)
  refine z_aload_n cx d_X3_rate_29 0 rfl ?_
  refine z_getR cx hT_t fg_Law_18 (t + 3) rfl d_X3_rate_30 ?_
  refine z_iconst (v := 4) cx d_X3_rate_33 ki_4 ?_
  refine z_iload cx d_X3_rate_34 5 rfl ?_
  refine z_iast cx (tfX_4_3 hT_t) za_26 (zvp (by decide +kernel)) 4 rfl d_X3_rate_36 ?_
  refine z_nmM hF (fun M15 hF => ?_)
  refine z_aload_n cx d_X3_rate_37 0 rfl ?_
  refine z_getR cx hT_t fg_Law_18 (t + 3) rfl d_X3_rate_38 ?_
  refine z_iconst (v := 5) cx d_X3_rate_41 ki_5 ?_
  refine z_iload cx d_X3_rate_42 6 rfl ?_
  refine z_iast cx (tfX_4_3 hT_t) za_26 (zvp (by decide +kernel)) 5 rfl d_X3_rate_44 ?_
  refine z_nmM hF (fun M16 hF => ?_)
  refine z_aload_n cx d_X3_rate_45 0 rfl ?_
  refine z_getR cx hT_t fg_Law_18 (t + 3) rfl d_X3_rate_46 ?_
  refine z_bipush (v := 6) cx d_X3_rate_49 kb_6 ?_
  refine z_iload cx d_X3_rate_51 7 rfl ?_
  refine z_bipush (v := 8) cx d_X3_rate_53 kb_8 ?_
  refine z_irem cx d_X3_rate_55 (by decide) ?_
  refine z_iast cx (tfX_4_3 hT_t) za_26 (zvp (by decide +kernel)) 6 rfl d_X3_rate_56 ?_
  refine z_nmM hF (fun M17 hF => ?_)
  refine z_aload_n cx d_X3_rate_57 0 rfl ?_
  refine z_getR cx hT_t fg_Law_18 (t + 3) rfl d_X3_rate_58 ?_
  refine z_bipush (v := 7) cx d_X3_rate_61 kb_7 ?_
  refine z_iload cx d_X3_rate_63 7 rfl ?_
  refine z_bipush (v := 8) cx d_X3_rate_65 kb_8 ?_
  refine z_idiv cx d_X3_rate_67 (by decide) ?_
  refine z_iast cx (tfX_4_3 hT_t) za_26 (zvp (by decide +kernel)) 7 rfl d_X3_rate_68 ?_
  refine z_nmM hF (fun M18 hF => ?_)
  refine z_iconst (v := 0) cx d_X3_rate_69 ki_0 ?_
  refine z_istore cx 8 [(8, .int (0 : Int32)), (0, .ref (ad t)), (1, .int p0), (2, .int p1), (3, .int p2), (4, .int p3), (5, .int p4), (6, .int p5), (7, .int p6)] d_X3_rate_70 (by decide) rfl ?_
  refine z_iconst (v := 0) cx d_X3_rate_72 ki_0 ?_
  refine z_istore cx 9 [(9, .int (0 : Int32)), (8, .int (0 : Int32)), (0, .ref (ad t)), (1, .int p0), (2, .int p1), (3, .int p2), (4, .int p3), (5, .int p4), (6, .int p5), (7, .int p6)] d_X3_rate_73 (by decide) rfl ?_
  exact z_lv [2, 1, 0] _ rfl (hL75 zFuel (0 : Int32) (0 : Int32) M18 hF)
/-! SunnyPans$Pans.copyFrom -/
theorem tfX_5_1 {n k : Nat} (h : zT shX n k 5) : zT shX n (k + 1) 16 := zT_off h (shX_f (by decide) (by decide +kernel)) (by decide) (by decide)
theorem tfX_5_2 {n k : Nat} (h : zT shX n k 5) : zT shX n (k + 2) 16 := zT_off h (shX_f (by decide) (by decide +kernel)) (by decide) (by decide)
theorem tfX_5_3 {n k : Nat} (h : zT shX n k 5) : zT shX n (k + 3) 16 := zT_off h (shX_f (by decide) (by decide +kernel)) (by decide) (by decide)
theorem tfX_5_4 {n k : Nat} (h : zT shX n k 5) : zT shX n (k + 4) 18 := zT_off h (shX_f (by decide) (by decide +kernel)) (by decide) (by decide)
set_option maxRecDepth 100000 in
theorem wd_183 : Cond.fieldLink "SunnyPans$Pans" 9 "SunnyPans$Pans" "brine" "[I" ∈ tbG := tw1 83 rfl rfl
theorem uw_4 : ∀ w ∈ u_ws RX4 TX4 7, w ∈ tbG := zUW _ [197, 199, 201, 203, 205, 207, 209] (by decide +kernel) (by decide +kernel)
theorem fg_Pans_9 : zGetR "SunnyPans$Pans" 9 4 5 0 1 := ⟨RX4, TX4, 7, rfl, by decide, uw_4, wd_183, fun _ _ _ _ _ _ => ⟨_, rfl, rfl⟩⟩
theorem kb_64 : (Int8.ofInt (64)).toInt32 = (64 : Int32) := by decide +kernel
set_option maxRecDepth 100000 in
theorem wd_491 : Cond.methodLink "SunnyPans$Pans" 25 arraycopyName ∈ tbG := tw2 151 rfl rfl
set_option maxRecDepth 100000 in
theorem wd_493 : Cond.native arraycopyName ∈ tbG := tw2 153 rfl rfl
set_option maxRecDepth 100000 in
theorem wd_492 : Cond.static arraycopyName ∈ tbG := tw2 152 rfl rfl
set_option maxRecDepth 100000 in
theorem wd_121 : Cond.initialized "java/lang/System" ∈ tbG := tw1 21 rfl rfl
theorem za_16 : zArrI 16 64 := fun _ _ _ _ _ _ => rfl
set_option maxRecDepth 100000 in
theorem wd_185 : Cond.fieldLink "SunnyPans$Pans" 15 "SunnyPans$Pans" "salt" "[I" ∈ tbG := tw1 85 rfl rfl
theorem fg_Pans_15 : zGetR "SunnyPans$Pans" 15 4 5 1 2 := ⟨RX4, TX4, 7, rfl, by decide, uw_4, wd_185, fun _ _ _ _ _ _ => ⟨_, rfl, rfl⟩⟩
set_option maxRecDepth 100000 in
theorem wd_187 : Cond.fieldLink "SunnyPans$Pans" 18 "SunnyPans$Pans" "grams" "[I" ∈ tbG := tw1 87 rfl rfl
theorem fg_Pans_18 : zGetR "SunnyPans$Pans" 18 4 5 2 3 := ⟨RX4, TX4, 7, rfl, by decide, uw_4, wd_187, fun _ _ _ _ _ _ => ⟨_, rfl, rfl⟩⟩
set_option maxRecDepth 100000 in
theorem wd_190 : Cond.fieldLink "SunnyPans$Pans" 31 "SunnyPans$Pans" "store" "I" ∈ tbG := tw1 90 rfl rfl
theorem fg_Pans_31 : zGetI "SunnyPans$Pans" 31 4 5 3 := ⟨RX4, TX4, 7, rfl, by decide, uw_4, wd_190, fun _ _ _ _ _ _ => ⟨_, rfl, rfl⟩⟩
theorem zc_4 : zCls 4 := ⟨RX4, TX4, 7, tyX4, rfl, tyX4_ok, nmX4⟩
theorem fp_Pans_31 : zPutI "SunnyPans$Pans" 31 4 5 3 := ⟨zc_4, fg_Pans_31, ⟨RX4, TX4, 7, rfl, rfl, by decide +kernel⟩, fun _ _ _ _ _ _ _ => ⟨_, rfl, Nat.le_of_ble_eq_true rfl, rfl⟩⟩
set_option maxRecDepth 100000 in
theorem wd_192 : Cond.fieldLink "SunnyPans$Pans" 35 "SunnyPans$Pans" "day" "I" ∈ tbG := tw1 92 rfl rfl
theorem fg_Pans_35 : zGetI "SunnyPans$Pans" 35 4 5 4 := ⟨RX4, TX4, 7, rfl, by decide, uw_4, wd_192, fun _ _ _ _ _ _ => ⟨_, rfl, rfl⟩⟩
theorem fp_Pans_35 : zPutI "SunnyPans$Pans" 35 4 5 4 := ⟨zc_4, fg_Pans_35, ⟨RX4, TX4, 7, rfl, rfl, by decide +kernel⟩, fun _ _ _ _ _ _ _ => ⟨_, rfl, Nat.le_of_ble_eq_true rfl, rfl⟩⟩
set_option maxRecDepth 100000 in
theorem wd_194 : Cond.fieldLink "SunnyPans$Pans" 38 "SunnyPans$Pans" "next" "I" ∈ tbG := tw1 94 rfl rfl
theorem fg_Pans_38 : zGetI "SunnyPans$Pans" 38 4 5 5 := ⟨RX4, TX4, 7, rfl, by decide, uw_4, wd_194, fun _ _ _ _ _ _ => ⟨_, rfl, rfl⟩⟩
theorem fp_Pans_38 : zPutI "SunnyPans$Pans" 38 4 5 5 := ⟨zc_4, fg_Pans_38, ⟨RX4, TX4, 7, rfl, rfl, by decide +kernel⟩, fun _ _ _ _ _ _ _ => ⟨_, rfl, Nat.le_of_ble_eq_true rfl, rfl⟩⟩
set_option maxRecDepth 100000 in
theorem wd_196 : Cond.fieldLink "SunnyPans$Pans" 21 "SunnyPans$Pans" "shades" "[J" ∈ tbG := tw1 96 rfl rfl
theorem fg_Pans_21 : zGetR "SunnyPans$Pans" 21 4 5 6 4 := ⟨RX4, TX4, 7, rfl, by decide, uw_4, wd_196, fun _ _ _ _ _ _ => ⟨_, rfl, rfl⟩⟩
theorem za_18 : zArrL 18 10 := fun _ _ _ _ _ _ => rfl
theorem d_X4_copyFrom_0 : decode cX4_copyFrom 0 = .ok (.aload_n 1, 1) := by decide +kernel
theorem d_X4_copyFrom_1 : decode cX4_copyFrom 1 = .ok (.getfield 9, 3) := by decide +kernel
theorem d_X4_copyFrom_4 : decode cX4_copyFrom 4 = .ok (.iconst 0, 1) := by decide +kernel
theorem d_X4_copyFrom_5 : decode cX4_copyFrom 5 = .ok (.aload_n 0, 1) := by decide +kernel
theorem d_X4_copyFrom_6 : decode cX4_copyFrom 6 = .ok (.getfield 9, 3) := by decide +kernel
theorem d_X4_copyFrom_9 : decode cX4_copyFrom 9 = .ok (.iconst 0, 1) := by decide +kernel
theorem d_X4_copyFrom_10 : decode cX4_copyFrom 10 = .ok (.bipush 64, 2) := by decide +kernel
theorem d_X4_copyFrom_12 : decode cX4_copyFrom 12 = .ok (.invokestatic 25, 3) := by decide +kernel
theorem d_X4_copyFrom_15 : decode cX4_copyFrom 15 = .ok (.aload_n 1, 1) := by decide +kernel
theorem d_X4_copyFrom_16 : decode cX4_copyFrom 16 = .ok (.getfield 15, 3) := by decide +kernel
theorem d_X4_copyFrom_19 : decode cX4_copyFrom 19 = .ok (.iconst 0, 1) := by decide +kernel
theorem d_X4_copyFrom_20 : decode cX4_copyFrom 20 = .ok (.aload_n 0, 1) := by decide +kernel
theorem d_X4_copyFrom_21 : decode cX4_copyFrom 21 = .ok (.getfield 15, 3) := by decide +kernel
theorem d_X4_copyFrom_24 : decode cX4_copyFrom 24 = .ok (.iconst 0, 1) := by decide +kernel
theorem d_X4_copyFrom_25 : decode cX4_copyFrom 25 = .ok (.bipush 64, 2) := by decide +kernel
theorem d_X4_copyFrom_27 : decode cX4_copyFrom 27 = .ok (.invokestatic 25, 3) := by decide +kernel
theorem d_X4_copyFrom_30 : decode cX4_copyFrom 30 = .ok (.aload_n 1, 1) := by decide +kernel
theorem d_X4_copyFrom_31 : decode cX4_copyFrom 31 = .ok (.getfield 18, 3) := by decide +kernel
theorem d_X4_copyFrom_34 : decode cX4_copyFrom 34 = .ok (.iconst 0, 1) := by decide +kernel
theorem d_X4_copyFrom_35 : decode cX4_copyFrom 35 = .ok (.aload_n 0, 1) := by decide +kernel
theorem d_X4_copyFrom_36 : decode cX4_copyFrom 36 = .ok (.getfield 18, 3) := by decide +kernel
theorem d_X4_copyFrom_39 : decode cX4_copyFrom 39 = .ok (.iconst 0, 1) := by decide +kernel
theorem d_X4_copyFrom_40 : decode cX4_copyFrom 40 = .ok (.bipush 64, 2) := by decide +kernel
theorem d_X4_copyFrom_42 : decode cX4_copyFrom 42 = .ok (.invokestatic 25, 3) := by decide +kernel
theorem d_X4_copyFrom_45 : decode cX4_copyFrom 45 = .ok (.aload_n 0, 1) := by decide +kernel
theorem d_X4_copyFrom_46 : decode cX4_copyFrom 46 = .ok (.aload_n 1, 1) := by decide +kernel
theorem d_X4_copyFrom_47 : decode cX4_copyFrom 47 = .ok (.getfield 31, 3) := by decide +kernel
theorem d_X4_copyFrom_50 : decode cX4_copyFrom 50 = .ok (.putfield 31, 3) := by decide +kernel
theorem d_X4_copyFrom_53 : decode cX4_copyFrom 53 = .ok (.aload_n 0, 1) := by decide +kernel
theorem d_X4_copyFrom_54 : decode cX4_copyFrom 54 = .ok (.aload_n 1, 1) := by decide +kernel
theorem d_X4_copyFrom_55 : decode cX4_copyFrom 55 = .ok (.getfield 35, 3) := by decide +kernel
theorem d_X4_copyFrom_58 : decode cX4_copyFrom 58 = .ok (.putfield 35, 3) := by decide +kernel
theorem d_X4_copyFrom_61 : decode cX4_copyFrom 61 = .ok (.aload_n 0, 1) := by decide +kernel
theorem d_X4_copyFrom_62 : decode cX4_copyFrom 62 = .ok (.aload_n 1, 1) := by decide +kernel
theorem d_X4_copyFrom_63 : decode cX4_copyFrom 63 = .ok (.getfield 38, 3) := by decide +kernel
theorem d_X4_copyFrom_66 : decode cX4_copyFrom 66 = .ok (.putfield 38, 3) := by decide +kernel
theorem d_X4_copyFrom_69 : decode cX4_copyFrom 69 = .ok (.aload_n 1, 1) := by decide +kernel
theorem d_X4_copyFrom_70 : decode cX4_copyFrom 70 = .ok (.getfield 21, 3) := by decide +kernel
theorem d_X4_copyFrom_73 : decode cX4_copyFrom 73 = .ok (.iconst 0, 1) := by decide +kernel
theorem d_X4_copyFrom_74 : decode cX4_copyFrom 74 = .ok (.aload_n 0, 1) := by decide +kernel
theorem d_X4_copyFrom_75 : decode cX4_copyFrom 75 = .ok (.getfield 21, 3) := by decide +kernel
theorem d_X4_copyFrom_78 : decode cX4_copyFrom 78 = .ok (.iconst 0, 1) := by decide +kernel
theorem d_X4_copyFrom_79 : decode cX4_copyFrom 79 = .ok (.bipush 10, 2) := by decide +kernel
theorem d_X4_copyFrom_81 : decode cX4_copyFrom 81 = .ok (.invokestatic 25, 3) := by decide +kernel
theorem d_X4_copyFrom_84 : decode cX4_copyFrom 84 = .ok (.return_, 1) := by decide +kernel
noncomputable def F_X4_copyFrom (M : zMem) (t : Nat) (p0 : Nat) : Option (zMem) :=
  zl (zCI M (p0 + 1) 0 (t + 1) 0 64) fun M1 =>
  zl (zCI M1 (p0 + 2) 0 (t + 2) 0 64) fun M2 =>
  zl (zCI M2 (p0 + 3) 0 (t + 3) 0 64) fun M3 =>
  zl (zI M3 t 3 (M3.1 p0 3)) fun M4 =>
  zl (zI M4 t 4 (M4.1 p0 4)) fun M5 =>
  zl (zI M5 t 5 (M5.1 p0 5)) fun M6 =>
  zl (zCL M6 (p0 + 4) 0 (t + 4) 0 10) fun M7 =>
  some M7
def rm_X4_copyFrom : Room := { frames := 2, cells := 0, slots := 0, locals := 80 }
set_option maxHeartbeats 4000000 in
set_option maxRecDepth 100000 in
theorem c_X4_copyFrom (l : Launch) {G : zG} {ad : Nat → Nat} {n : Nat} (hA : zInj ad n) (M : zMem) (t : Nat) (p0 : Nat) (hT_t : zT shX n t 5) (hT_p0 : zT shX n p0 5) {M9 : zMem} (hF : F_X4_copyFrom M t p0 = some M9) : zM l yX4_copyFrom cX4_copyFrom 2 none rm_X4_copyFrom G shX ad n M [.ref (ad t), .ref (ad p0)] none M9 := by
  refine zM_of hA (by decide +kernel) (lv := [(0, .ref (ad t)), (1, .ref (ad p0))]) (Nat.le_of_ble_eq_true rfl) rfl (fun p e s m args below meth c A cx hr => ?_)
  unfold F_X4_copyFrom at hF
  refine z_aload_n cx d_X4_copyFrom_0 1 rfl ?_
  refine z_getR cx hT_p0 fg_Pans_9 (p0 + 1) rfl d_X4_copyFrom_1 ?_
  refine z_iconst (v := 0) cx d_X4_copyFrom_4 ki_0 ?_
  refine z_aload_n cx d_X4_copyFrom_5 0 rfl ?_
  refine z_getR cx hT_t fg_Pans_9 (t + 1) rfl d_X4_copyFrom_6 ?_
  refine z_iconst (v := 0) cx d_X4_copyFrom_9 ki_0 ?_
  refine z_bipush (v := 64) cx d_X4_copyFrom_10 kb_64 ?_
  refine z_copyI cx (tfX_5_1 hT_p0) za_16 (tfX_5_1 hT_t) za_16 ⟨wd_491, wd_493, wd_492, wd_121⟩ (by decide +kernel) (by decide +kernel) (by decide +kernel) (by decide +kernel) (by decide +kernel) ⟨Nat.le_of_ble_eq_true rfl, Nat.le_of_ble_eq_true rfl⟩ d_X4_copyFrom_12 ?_
  refine z_nmM hF (fun M1 hF => ?_)
  refine z_aload_n cx d_X4_copyFrom_15 1 rfl ?_
  refine z_getR cx hT_p0 fg_Pans_15 (p0 + 2) rfl d_X4_copyFrom_16 ?_
  refine z_iconst (v := 0) cx d_X4_copyFrom_19 ki_0 ?_
  refine z_aload_n cx d_X4_copyFrom_20 0 rfl ?_
  refine z_getR cx hT_t fg_Pans_15 (t + 2) rfl d_X4_copyFrom_21 ?_
  refine z_iconst (v := 0) cx d_X4_copyFrom_24 ki_0 ?_
  refine z_bipush (v := 64) cx d_X4_copyFrom_25 kb_64 ?_
  refine z_copyI cx (tfX_5_2 hT_p0) za_16 (tfX_5_2 hT_t) za_16 ⟨wd_491, wd_493, wd_492, wd_121⟩ (by decide +kernel) (by decide +kernel) (by decide +kernel) (by decide +kernel) (by decide +kernel) ⟨Nat.le_of_ble_eq_true rfl, Nat.le_of_ble_eq_true rfl⟩ d_X4_copyFrom_27 ?_
  refine z_nmM hF (fun M2 hF => ?_)
  refine z_aload_n cx d_X4_copyFrom_30 1 rfl ?_
  refine z_getR cx hT_p0 fg_Pans_18 (p0 + 3) rfl d_X4_copyFrom_31 ?_
  refine z_iconst (v := 0) cx d_X4_copyFrom_34 ki_0 ?_
  refine z_aload_n cx d_X4_copyFrom_35 0 rfl ?_
  refine z_getR cx hT_t fg_Pans_18 (t + 3) rfl d_X4_copyFrom_36 ?_
  refine z_iconst (v := 0) cx d_X4_copyFrom_39 ki_0 ?_
  refine z_bipush (v := 64) cx d_X4_copyFrom_40 kb_64 ?_
  refine z_copyI cx (tfX_5_3 hT_p0) za_16 (tfX_5_3 hT_t) za_16 ⟨wd_491, wd_493, wd_492, wd_121⟩ (by decide +kernel) (by decide +kernel) (by decide +kernel) (by decide +kernel) (by decide +kernel) ⟨Nat.le_of_ble_eq_true rfl, Nat.le_of_ble_eq_true rfl⟩ d_X4_copyFrom_42 ?_
  refine z_nmM hF (fun M3 hF => ?_)
  refine z_aload_n cx d_X4_copyFrom_45 0 rfl ?_
  refine z_aload_n cx d_X4_copyFrom_46 1 rfl ?_
  refine z_getI cx hT_p0 fg_Pans_31 d_X4_copyFrom_47 ?_
  refine z_putI cx hT_t fp_Pans_31 d_X4_copyFrom_50 ?_
  refine z_nmM hF (fun M4 hF => ?_)
  refine z_aload_n cx d_X4_copyFrom_53 0 rfl ?_
  refine z_aload_n cx d_X4_copyFrom_54 1 rfl ?_
  refine z_getI cx hT_p0 fg_Pans_35 d_X4_copyFrom_55 ?_
  refine z_putI cx hT_t fp_Pans_35 d_X4_copyFrom_58 ?_
  refine z_nmM hF (fun M5 hF => ?_)
  refine z_aload_n cx d_X4_copyFrom_61 0 rfl ?_
  refine z_aload_n cx d_X4_copyFrom_62 1 rfl ?_
  refine z_getI cx hT_p0 fg_Pans_38 d_X4_copyFrom_63 ?_
  refine z_putI cx hT_t fp_Pans_38 d_X4_copyFrom_66 ?_
  refine z_nmM hF (fun M6 hF => ?_)
  refine z_aload_n cx d_X4_copyFrom_69 1 rfl ?_
  refine z_getR cx hT_p0 fg_Pans_21 (p0 + 4) rfl d_X4_copyFrom_70 ?_
  refine z_iconst (v := 0) cx d_X4_copyFrom_73 ki_0 ?_
  refine z_aload_n cx d_X4_copyFrom_74 0 rfl ?_
  refine z_getR cx hT_t fg_Pans_21 (t + 4) rfl d_X4_copyFrom_75 ?_
  refine z_iconst (v := 0) cx d_X4_copyFrom_78 ki_0 ?_
  refine z_bipush (v := 10) cx d_X4_copyFrom_79 kb_10 ?_
  refine z_copyL cx (tfX_5_4 hT_p0) za_18 (tfX_5_4 hT_t) za_18 ⟨wd_491, wd_493, wd_492, wd_121⟩ (by decide +kernel) (by decide +kernel) (by decide +kernel) (by decide +kernel) (by decide +kernel) ⟨Nat.le_of_ble_eq_true rfl, Nat.le_of_ble_eq_true rfl⟩ d_X4_copyFrom_81 ?_
  refine z_nmM hF (fun M7 hF => ?_)
  exact z_vret cx hr hF d_X4_copyFrom_84
/-! SunnyPans.heightOf -/
theorem kb_50 : (Int8.ofInt (50)).toInt32 = (50 : Int32) := by decide +kernel
theorem d_X9_heightOf_0 : decode cX9_heightOf 0 = .ok (.iload_n 0, 1) := by decide +kernel
theorem d_X9_heightOf_1 : decode cX9_heightOf 1 = .ok (.ifCond .le 12, 3) := by decide +kernel
theorem d_X9_heightOf_4 : decode cX9_heightOf 4 = .ok (.iload_n 0, 1) := by decide +kernel
theorem d_X9_heightOf_5 : decode cX9_heightOf 5 = .ok (.bipush 50, 2) := by decide +kernel
theorem d_X9_heightOf_7 : decode cX9_heightOf 7 = .ok (.idiv, 1) := by decide +kernel
theorem d_X9_heightOf_8 : decode cX9_heightOf 8 = .ok (.iconst 1, 1) := by decide +kernel
theorem d_X9_heightOf_9 : decode cX9_heightOf 9 = .ok (.iadd, 1) := by decide +kernel
theorem d_X9_heightOf_10 : decode cX9_heightOf 10 = .ok (.goto 4, 3) := by decide +kernel
theorem d_X9_heightOf_13 : decode cX9_heightOf 13 = .ok (.iconst 0, 1) := by decide +kernel
theorem d_X9_heightOf_14 : decode cX9_heightOf 14 = .ok (.ireturn, 1) := by decide +kernel
noncomputable def F_X9_heightOf (M : zMem) (p0 : Int32) : Option (Int32 × zMem) :=
  if p0 ≤ 0 then
    some ((0 : Int32), M)
  else
    some (((p0 / (50 : Int32)) + (1 : Int32)), M)
def rm_X9_heightOf : Room := { frames := 2, cells := 0, slots := 0, locals := 80 }
set_option maxHeartbeats 4000000 in
set_option maxRecDepth 100000 in
theorem c_X9_heightOf (l : Launch) {G : zG} {ad : Nat → Nat} {n : Nat} (hA : zInj ad n) (M : zMem) (p0 : Int32) {r9 : Int32} {M9 : zMem} (hF : F_X9_heightOf M p0 = some (r9, M9)) : zM l yX9_heightOf cX9_heightOf 1 (some .int) rm_X9_heightOf G shX ad n M [.int p0] (some (.int r9)) M9 := by
  refine zM_of hA (by decide +kernel) (lv := [(0, .int p0)]) (Nat.le_of_ble_eq_true rfl) rfl (fun p e s m args below meth c A cx hr => ?_)
  unfold F_X9_heightOf at hF
  refine z_iload_n cx d_X9_heightOf_0 0 rfl ?_
  refine z_if_le cx 13 d_X9_heightOf_1 (by decide) hF (fun hF => ?_) (fun hF => ?_)
  · refine z_iconst (v := 0) cx d_X9_heightOf_13 ki_0 ?_
    exact z_iret cx hr rfl hF d_X9_heightOf_14
  refine z_iload_n cx d_X9_heightOf_4 0 rfl ?_
  refine z_bipush (v := 50) cx d_X9_heightOf_5 kb_50 ?_
  refine z_idiv cx d_X9_heightOf_7 (by decide) ?_
  refine z_iconst (v := 1) cx d_X9_heightOf_8 ki_1 ?_
  refine z_iadd cx d_X9_heightOf_9 ?_
  refine z_goto cx 14 d_X9_heightOf_10 (by decide) ?_
  exact z_iret cx hr rfl hF d_X9_heightOf_14
/-! SunnyPans$Plan.holds -/
set_option maxRecDepth 100000 in
theorem wd_315 : Cond.fieldLink "SunnyPans$Plan" 9 "SunnyPans$Plan" "wide" "I" ∈ tbG := tw1 215 rfl rfl
theorem fg_Plan_9 : zGetI "SunnyPans$Plan" 9 5 6 0 := ⟨RX5, TX5, 9, rfl, by decide, uw_5, wd_315, fun _ _ _ _ _ _ => ⟨_, rfl, rfl⟩⟩
set_option maxRecDepth 100000 in
theorem wd_319 : Cond.fieldLink "SunnyPans$Plan" 15 "SunnyPans$Plan" "high" "I" ∈ tbG := tw1 219 rfl rfl
theorem fg_Plan_15 : zGetI "SunnyPans$Plan" 15 5 6 1 := ⟨RX5, TX5, 9, rfl, by decide, uw_5, wd_319, fun _ _ _ _ _ _ => ⟨_, rfl, rfl⟩⟩
theorem d_X5_holds_0 : decode cX5_holds 0 = .ok (.iload_n 1, 1) := by decide +kernel
theorem d_X5_holds_1 : decode cX5_holds 1 = .ok (.ifCond .lt 27, 3) := by decide +kernel
theorem d_X5_holds_4 : decode cX5_holds 4 = .ok (.iload_n 1, 1) := by decide +kernel
theorem d_X5_holds_5 : decode cX5_holds 5 = .ok (.aload_n 0, 1) := by decide +kernel
theorem d_X5_holds_6 : decode cX5_holds 6 = .ok (.getfield 9, 3) := by decide +kernel
theorem d_X5_holds_9 : decode cX5_holds 9 = .ok (.if_icmp .ge 19, 3) := by decide +kernel
theorem d_X5_holds_12 : decode cX5_holds 12 = .ok (.iload_n 2, 1) := by decide +kernel
theorem d_X5_holds_13 : decode cX5_holds 13 = .ok (.ifCond .lt 15, 3) := by decide +kernel
theorem d_X5_holds_16 : decode cX5_holds 16 = .ok (.iload_n 2, 1) := by decide +kernel
theorem d_X5_holds_17 : decode cX5_holds 17 = .ok (.aload_n 0, 1) := by decide +kernel
theorem d_X5_holds_18 : decode cX5_holds 18 = .ok (.getfield 15, 3) := by decide +kernel
theorem d_X5_holds_21 : decode cX5_holds 21 = .ok (.if_icmp .ge 7, 3) := by decide +kernel
theorem d_X5_holds_24 : decode cX5_holds 24 = .ok (.iconst 1, 1) := by decide +kernel
theorem d_X5_holds_25 : decode cX5_holds 25 = .ok (.goto 4, 3) := by decide +kernel
theorem d_X5_holds_28 : decode cX5_holds 28 = .ok (.iconst 0, 1) := by decide +kernel
theorem d_X5_holds_29 : decode cX5_holds 29 = .ok (.ireturn, 1) := by decide +kernel
noncomputable def F_X5_holds (M : zMem) (t : Nat) (p0 : Int32) (p1 : Int32) : Option (Int32 × zMem) :=
  if p0 < 0 then
    some ((0 : Int32), M)
  else
    if (M.1 t 0) ≤ p0 then
      some ((0 : Int32), M)
    else
      if p1 < 0 then
        some ((0 : Int32), M)
      else
        if (M.1 t 1) ≤ p1 then
          some ((0 : Int32), M)
        else
          some ((1 : Int32), M)
def rm_X5_holds : Room := { frames := 2, cells := 0, slots := 0, locals := 80 }
set_option maxHeartbeats 4000000 in
set_option maxRecDepth 100000 in
theorem c_X5_holds (l : Launch) {G : zG} {ad : Nat → Nat} {n : Nat} (hA : zInj ad n) (M : zMem) (t : Nat) (p0 : Int32) (p1 : Int32) (hT_t : zT shX n t 6) {r9 : Int32} {M9 : zMem} (hF : F_X5_holds M t p0 p1 = some (r9, M9)) : zM l yX5_holds cX5_holds 3 (some .boolean) rm_X5_holds G shX ad n M [.ref (ad t), .int p0, .int p1] (some (.int r9)) M9 := by
  refine zM_of hA (by decide +kernel) (lv := [(0, .ref (ad t)), (1, .int p0), (2, .int p1)]) (Nat.le_of_ble_eq_true rfl) rfl (fun p e s m args below meth c A cx hr => ?_)
  unfold F_X5_holds at hF
  refine z_iload_n cx d_X5_holds_0 1 rfl ?_
  refine z_if_lt cx 28 d_X5_holds_1 (by decide) hF (fun hF => ?_) (fun hF => ?_)
  · refine z_iconst (v := 0) cx d_X5_holds_28 ki_0 ?_
    exact z_iret cx hr nb0 hF d_X5_holds_29
  refine z_iload_n cx d_X5_holds_4 1 rfl ?_
  refine z_aload_n cx d_X5_holds_5 0 rfl ?_
  refine z_getI cx hT_t fg_Plan_9 d_X5_holds_6 ?_
  refine z_icmp_ge cx 28 d_X5_holds_9 (by decide) hF (fun hF => ?_) (fun hF => ?_)
  · refine z_iconst (v := 0) cx d_X5_holds_28 ki_0 ?_
    exact z_iret cx hr nb0 hF d_X5_holds_29
  refine z_iload_n cx d_X5_holds_12 2 rfl ?_
  refine z_if_lt cx 28 d_X5_holds_13 (by decide) hF (fun hF => ?_) (fun hF => ?_)
  · refine z_iconst (v := 0) cx d_X5_holds_28 ki_0 ?_
    exact z_iret cx hr nb0 hF d_X5_holds_29
  refine z_iload_n cx d_X5_holds_16 2 rfl ?_
  refine z_aload_n cx d_X5_holds_17 0 rfl ?_
  refine z_getI cx hT_t fg_Plan_15 d_X5_holds_18 ?_
  refine z_icmp_ge cx 28 d_X5_holds_21 (by decide) hF (fun hF => ?_) (fun hF => ?_)
  · refine z_iconst (v := 0) cx d_X5_holds_28 ki_0 ?_
    exact z_iret cx hr nb0 hF d_X5_holds_29
  refine z_iconst (v := 1) cx d_X5_holds_24 ki_1 ?_
  refine z_goto cx 29 d_X5_holds_25 (by decide) ?_
  exact z_iret cx hr nb1 hF d_X5_holds_29
/-! SunnyPans$Plan.shadedBy -/
theorem tfX_6_2 {n k : Nat} (h : zT shX n k 6) : zT shX n (k + 2) 25 := zT_off h (shX_f (by decide) (by decide +kernel)) (by decide) (by decide)
theorem tfX_6_1 {n k : Nat} (h : zT shX n k 6) : zT shX n (k + 1) 25 := zT_off h (shX_f (by decide) (by decide +kernel)) (by decide) (by decide)
set_option maxRecDepth 100000 in
theorem wd_762 : Cond.fieldLinkNest "SunnyPans$Plan" 114 "SunnyPans" "EAST" "[I" "SunnyPans" ∈ tbN := twn3 182 rfl rfl
set_option maxRecDepth 100000 in
theorem wd_330 : Cond.fieldLink "SunnyPans$Plan" 26 "SunnyPans$Plan" "side" "[I" ∈ tbG := tw1 230 rfl rfl
theorem fg_Plan_26 : zGetR "SunnyPans$Plan" 26 5 6 4 1 := ⟨RX5, TX5, 9, rfl, by decide, uw_5, wd_330, fun _ _ _ _ _ _ => ⟨_, rfl, rfl⟩⟩
theorem za_25 : zArrI 25 10 := fun _ _ _ _ _ _ => rfl
set_option maxRecDepth 100000 in
theorem wd_764 : Cond.fieldLinkNest "SunnyPans$Plan" 117 "SunnyPans" "SOUTH" "[I" "SunnyPans" ∈ tbN := twn3 184 rfl rfl
set_option maxRecDepth 100000 in
theorem wd_769 : Cond.code yX5_holds cX5_holds 3 (some .boolean) ∈ tbG := tw3 189 rfl rfl
set_option maxRecDepth 100000 in
theorem wd_766 : Cond.methodLink "SunnyPans$Plan" 120 yX5_holds ∈ tbG := tw3 186 rfl rfl
set_option maxRecDepth 100000 in
theorem wd_767 : Cond.instanceMethod yX5_holds ∈ tbG := tw3 187 rfl rfl
set_option maxRecDepth 100000 in
theorem wd_768 : Cond.selects "SunnyPans$Plan" yX5_holds yX5_holds ∈ tbG := tw3 188 rfl rfl
set_option maxRecDepth 100000 in
theorem wd_108 : Cond.initialized "SunnyPans$Plan" ∈ tbG := tw1 8 rfl rfl
theorem cv_Plan_120 : zCV "SunnyPans$Plan" 120 "SunnyPans$Plan" yX5_holds cX5_holds 3 (some .boolean) 2 := zCV_of wd_766 wd_767 wd_768 wd_108 wd_769 (by decide +kernel)
theorem zo_6 : zObj "SunnyPans$Plan" 6 := ⟨5, (RX5, TX5, 9), rfl, rfl, fun _ _ _ _ _ _ => ⟨_, rfl⟩⟩
set_option maxRecDepth 100000 in
theorem wd_309 : Cond.methodLinkNest "SunnyPans$Plan" 103 yX9_placeOf "SunnyPans" ∈ tbN := twn1 209 rfl rfl
theorem cn_Plan_103 : zCN "SunnyPans$Plan" 103 yX9_placeOf cX9_placeOf 2 (some .int) 2 := ⟨wd_309, wd_101, wd_311, by decide +kernel⟩
set_option maxRecDepth 100000 in
theorem wd_312 : Cond.methodLinkNest "SunnyPans$Plan" 106 yX9_bit "SunnyPans" ∈ tbN := twn1 212 rfl rfl
theorem cn_Plan_106 : zCN "SunnyPans$Plan" 106 yX9_bit cX9_bit 1 (some .long) 1 := ⟨wd_312, wd_101, wd_314, by decide +kernel⟩
set_option maxRecDepth 100000 in
theorem wd_323 : Cond.fieldLink "SunnyPans$Plan" 42 "SunnyPans$Plan" "hours" "I" ∈ tbG := tw1 223 rfl rfl
theorem fg_Plan_42 : zGetI "SunnyPans$Plan" 42 5 6 2 := ⟨RX5, TX5, 9, rfl, by decide, uw_5, wd_323, fun _ _ _ _ _ _ => ⟨_, rfl, rfl⟩⟩
set_option maxRecDepth 100000 in
theorem wd_761 : Cond.code yX9_heightOf cX9_heightOf 1 (some .int) ∈ tbG := tw3 181 rfl rfl
set_option maxRecDepth 100000 in
theorem wd_759 : Cond.methodLinkNest "SunnyPans$Plan" 110 yX9_heightOf "SunnyPans" ∈ tbN := twn3 179 rfl rfl
theorem cn_Plan_110 : zCN "SunnyPans$Plan" 110 yX9_heightOf cX9_heightOf 1 (some .int) 1 := ⟨wd_759, wd_101, wd_761, by decide +kernel⟩
set_option maxRecDepth 100000 in
theorem wd_760 : Cond.static yX9_heightOf ∈ tbG := tw3 180 rfl rfl
set_option maxRecDepth 100000 in
theorem wd_332 : Cond.fieldLink "SunnyPans$Plan" 30 "SunnyPans$Plan" "reach" "[I" ∈ tbG := tw1 232 rfl rfl
theorem fg_Plan_30 : zGetR "SunnyPans$Plan" 30 5 6 5 2 := ⟨RX5, TX5, 9, rfl, by decide, uw_5, wd_332, fun _ _ _ _ _ _ => ⟨_, rfl, rfl⟩⟩
theorem d_X5_shadedBy_0 : decode cX5_shadedBy 0 = .ok (.iload_n 1, 1) := by decide +kernel
theorem d_X5_shadedBy_1 : decode cX5_shadedBy 1 = .ok (.invokestatic 106, 3) := by decide +kernel
theorem d_X5_shadedBy_4 : decode cX5_shadedBy 4 = .ok (.lstore 4, 2) := by decide +kernel
theorem d_X5_shadedBy_6 : decode cX5_shadedBy 6 = .ok (.iload_n 3, 1) := by decide +kernel
theorem d_X5_shadedBy_7 : decode cX5_shadedBy 7 = .ok (.ifCond .lt 11, 3) := by decide +kernel
theorem d_X5_shadedBy_10 : decode cX5_shadedBy 10 = .ok (.iload_n 3, 1) := by decide +kernel
theorem d_X5_shadedBy_11 : decode cX5_shadedBy 11 = .ok (.aload_n 0, 1) := by decide +kernel
theorem d_X5_shadedBy_12 : decode cX5_shadedBy 12 = .ok (.getfield 42, 3) := by decide +kernel
theorem d_X5_shadedBy_15 : decode cX5_shadedBy 15 = .ok (.if_icmp .lt 6, 3) := by decide +kernel
theorem d_X5_shadedBy_18 : decode cX5_shadedBy 18 = .ok (.lload 4, 2) := by decide +kernel
theorem d_X5_shadedBy_20 : decode cX5_shadedBy 20 = .ok (.lreturn, 1) := by decide +kernel
theorem d_X5_shadedBy_21 : decode cX5_shadedBy 21 = .ok (.iload_n 2, 1) := by decide +kernel
theorem d_X5_shadedBy_22 : decode cX5_shadedBy 22 = .ok (.invokestatic 110, 3) := by decide +kernel
theorem d_X5_shadedBy_25 : decode cX5_shadedBy 25 = .ok (.aload_n 0, 1) := by decide +kernel
theorem d_X5_shadedBy_26 : decode cX5_shadedBy 26 = .ok (.getfield 30, 3) := by decide +kernel
theorem d_X5_shadedBy_29 : decode cX5_shadedBy 29 = .ok (.iload_n 3, 1) := by decide +kernel
theorem d_X5_shadedBy_30 : decode cX5_shadedBy 30 = .ok (.iaload, 1) := by decide +kernel
theorem d_X5_shadedBy_31 : decode cX5_shadedBy 31 = .ok (.imul, 1) := by decide +kernel
theorem d_X5_shadedBy_32 : decode cX5_shadedBy 32 = .ok (.bipush 10, 2) := by decide +kernel
theorem d_X5_shadedBy_34 : decode cX5_shadedBy 34 = .ok (.idiv, 1) := by decide +kernel
theorem d_X5_shadedBy_35 : decode cX5_shadedBy 35 = .ok (.istore 6, 2) := by decide +kernel
theorem d_X5_shadedBy_37 : decode cX5_shadedBy 37 = .ok (.iload_n 1, 1) := by decide +kernel
theorem d_X5_shadedBy_38 : decode cX5_shadedBy 38 = .ok (.bipush 8, 2) := by decide +kernel
theorem d_X5_shadedBy_40 : decode cX5_shadedBy 40 = .ok (.irem, 1) := by decide +kernel
theorem d_X5_shadedBy_41 : decode cX5_shadedBy 41 = .ok (.istore 7, 2) := by decide +kernel
theorem d_X5_shadedBy_43 : decode cX5_shadedBy 43 = .ok (.iload_n 1, 1) := by decide +kernel
theorem d_X5_shadedBy_44 : decode cX5_shadedBy 44 = .ok (.bipush 8, 2) := by decide +kernel
theorem d_X5_shadedBy_46 : decode cX5_shadedBy 46 = .ok (.idiv, 1) := by decide +kernel
theorem d_X5_shadedBy_47 : decode cX5_shadedBy 47 = .ok (.istore 8, 2) := by decide +kernel
theorem d_X5_shadedBy_49 : decode cX5_shadedBy 49 = .ok (.iconst 1, 1) := by decide +kernel
theorem d_X5_shadedBy_50 : decode cX5_shadedBy 50 = .ok (.istore 9, 2) := by decide +kernel
theorem d_X5_shadedBy_52 : decode cX5_shadedBy 52 = .ok (.iload 9, 2) := by decide +kernel
theorem d_X5_shadedBy_54 : decode cX5_shadedBy 54 = .ok (.iload 6, 2) := by decide +kernel
theorem d_X5_shadedBy_56 : decode cX5_shadedBy 56 = .ok (.if_icmp .gt 75, 3) := by decide +kernel
theorem d_X5_shadedBy_59 : decode cX5_shadedBy 59 = .ok (.iload 9, 2) := by decide +kernel
theorem d_X5_shadedBy_61 : decode cX5_shadedBy 61 = .ok (.bipush 8, 2) := by decide +kernel
theorem d_X5_shadedBy_63 : decode cX5_shadedBy 63 = .ok (.if_icmp .ge 68, 3) := by decide +kernel
theorem d_X5_shadedBy_66 : decode cX5_shadedBy 66 = .ok (.iload 7, 2) := by decide +kernel
theorem d_X5_shadedBy_68 : decode cX5_shadedBy 68 = .ok (.getstatic 114, 3) := by decide +kernel
theorem d_X5_shadedBy_71 : decode cX5_shadedBy 71 = .ok (.aload_n 0, 1) := by decide +kernel
theorem d_X5_shadedBy_72 : decode cX5_shadedBy 72 = .ok (.getfield 26, 3) := by decide +kernel
theorem d_X5_shadedBy_75 : decode cX5_shadedBy 75 = .ok (.iload_n 3, 1) := by decide +kernel
theorem d_X5_shadedBy_76 : decode cX5_shadedBy 76 = .ok (.iaload, 1) := by decide +kernel
theorem d_X5_shadedBy_77 : decode cX5_shadedBy 77 = .ok (.iaload, 1) := by decide +kernel
theorem d_X5_shadedBy_78 : decode cX5_shadedBy 78 = .ok (.isub, 1) := by decide +kernel
theorem d_X5_shadedBy_79 : decode cX5_shadedBy 79 = .ok (.istore 7, 2) := by decide +kernel
theorem d_X5_shadedBy_81 : decode cX5_shadedBy 81 = .ok (.iload 8, 2) := by decide +kernel
theorem d_X5_shadedBy_83 : decode cX5_shadedBy 83 = .ok (.getstatic 117, 3) := by decide +kernel
theorem d_X5_shadedBy_86 : decode cX5_shadedBy 86 = .ok (.aload_n 0, 1) := by decide +kernel
theorem d_X5_shadedBy_87 : decode cX5_shadedBy 87 = .ok (.getfield 26, 3) := by decide +kernel
theorem d_X5_shadedBy_90 : decode cX5_shadedBy 90 = .ok (.iload_n 3, 1) := by decide +kernel
theorem d_X5_shadedBy_91 : decode cX5_shadedBy 91 = .ok (.iaload, 1) := by decide +kernel
theorem d_X5_shadedBy_92 : decode cX5_shadedBy 92 = .ok (.iaload, 1) := by decide +kernel
theorem d_X5_shadedBy_93 : decode cX5_shadedBy 93 = .ok (.isub, 1) := by decide +kernel
theorem d_X5_shadedBy_94 : decode cX5_shadedBy 94 = .ok (.istore 8, 2) := by decide +kernel
theorem d_X5_shadedBy_96 : decode cX5_shadedBy 96 = .ok (.aload_n 0, 1) := by decide +kernel
theorem d_X5_shadedBy_97 : decode cX5_shadedBy 97 = .ok (.iload 7, 2) := by decide +kernel
theorem d_X5_shadedBy_99 : decode cX5_shadedBy 99 = .ok (.iload 8, 2) := by decide +kernel
theorem d_X5_shadedBy_101 : decode cX5_shadedBy 101 = .ok (.invokevirtual 120, 3) := by decide +kernel
theorem d_X5_shadedBy_104 : decode cX5_shadedBy 104 = .ok (.ifCond .ne 6, 3) := by decide +kernel
theorem d_X5_shadedBy_107 : decode cX5_shadedBy 107 = .ok (.goto 24, 3) := by decide +kernel
theorem d_X5_shadedBy_110 : decode cX5_shadedBy 110 = .ok (.lload 4, 2) := by decide +kernel
theorem d_X5_shadedBy_112 : decode cX5_shadedBy 112 = .ok (.iload 7, 2) := by decide +kernel
theorem d_X5_shadedBy_114 : decode cX5_shadedBy 114 = .ok (.iload 8, 2) := by decide +kernel
theorem d_X5_shadedBy_116 : decode cX5_shadedBy 116 = .ok (.invokestatic 103, 3) := by decide +kernel
theorem d_X5_shadedBy_119 : decode cX5_shadedBy 119 = .ok (.invokestatic 106, 3) := by decide +kernel
theorem d_X5_shadedBy_122 : decode cX5_shadedBy 122 = .ok (.lor, 1) := by decide +kernel
theorem d_X5_shadedBy_123 : decode cX5_shadedBy 123 = .ok (.lstore 4, 2) := by decide +kernel
theorem d_X5_shadedBy_125 : decode cX5_shadedBy 125 = .ok (.iinc 9 1, 3) := by decide +kernel
theorem d_X5_shadedBy_128 : decode cX5_shadedBy 128 = .ok (.goto (-76), 3) := by decide +kernel
theorem d_X5_shadedBy_131 : decode cX5_shadedBy 131 = .ok (.lload 4, 2) := by decide +kernel
theorem d_X5_shadedBy_133 : decode cX5_shadedBy 133 = .ok (.lreturn, 1) := by decide +kernel
noncomputable def F_X5_shadedBy_52 (t : Nat) (p0 : Int32) (p1 : Int32) (p2 : Int32) (self52 : Int32 → Int64 → Int32 → Int32 → Int32 → Int32 → zMem → Option (Int64 × zMem)) (b52_L3 : Int32) (b52_L4 : Int64) (b52_L6 : Int32) (b52_L7 : Int32) (b52_L8 : Int32) (b52_L9 : Int32) (M : zMem) : Option (Int64 × zMem) :=
  if b52_L6 < b52_L9 then
    some (b52_L4, M)
  else
    if (8 : Int32) ≤ b52_L9 then
      some (b52_L4, M)
    else
      gin b52_L3 10 <|
      gin (M.1 (t + 1) b52_L3.toNatClampNeg) 8 <|
      zl (b52_L7 - (zEast (M.1 (t + 1) b52_L3.toNatClampNeg).toNatClampNeg)) fun v3 =>
      zl (b52_L8 - (zSouth (M.1 (t + 1) b52_L3.toNatClampNeg).toNatClampNeg)) fun v4 =>
      zb (F_X5_holds M t v3 v4) fun v6 M5 =>
      if v6 = 0 then
        some (b52_L4, M5)
      else
        zb (F_X9_placeOf M5 v3 v4) fun v8 M7 =>
        zb (F_X9_bit M7 v8) fun v10 M9 =>
        zl (b52_L4 ||| v10) fun v11 =>
        self52 b52_L3 v11 b52_L6 v3 v4 (b52_L9 + 1) M9
noncomputable def F_X5_shadedBy (M : zMem) (t : Nat) (p0 : Int32) (p1 : Int32) (p2 : Int32) : Option (Int64 × zMem) :=
  zb (F_X9_bit M p0) fun v13 M12 =>
  if p2 < 0 then
    some (v13, M12)
  else
    if p2 < (M12.1 t 2) then
      zb (F_X9_heightOf M12 p1) fun v15 M14 =>
      gin p2 10 <|
      zl ((v15 * (M14.1 (t + 2) p2.toNatClampNeg)) / (10 : Int32)) fun v17 =>
      zl (p0 - p0 / (8 : Int32) * (8 : Int32)) fun v18 =>
      zl (p0 / (8 : Int32)) fun v19 =>
      itF (fun _ _ _ _ _ _ _ => none) (F_X5_shadedBy_52 t p0 p1 p2) zFuel p2 v13 v17 v18 v19 (1 : Int32) M14
    else
      some (v13, M12)
def rm_X5_shadedBy : Room := { frames := 3, cells := 0, slots := 0, locals := 102 }
set_option maxHeartbeats 4000000 in
set_option maxRecDepth 100000 in
theorem c_X5_shadedBy (l : Launch) {G : zG} {ad : Nat → Nat} {n : Nat} (hA : zInj ad n) (M : zMem) (t : Nat) (p0 : Int32) (p1 : Int32) (p2 : Int32) (hT_t : zT shX n t 6) {r9 : Int64} {M9 : zMem} (hF : F_X5_shadedBy M t p0 p1 p2 = some (r9, M9)) : zM l yX5_shadedBy cX5_shadedBy 10 (some .long) rm_X5_shadedBy G shX ad n M [.ref (ad t), .int p0, .int p1, .int p2] (some (.long r9)) M9 := by
  refine zM_of hA (by decide +kernel) (lv := [(0, .ref (ad t)), (1, .int p0), (2, .int p1), (3, .int p2)]) (Nat.le_of_ble_eq_true rfl) rfl (fun p e s m args below meth c A cx hr => ?_)
  have hL52 : ∀ (fuel : Nat), ∀ (b52_L3 : Int32) (b52_L4 : Int64) (b52_L6 : Int32) (b52_L7 : Int32) (b52_L8 : Int32) (b52_L9 : Int32) (M : zMem), itF (fun _ _ _ _ _ _ _ => none) (F_X5_shadedBy_52 t p0 p1 p2) fuel b52_L3 b52_L4 b52_L6 b52_L7 b52_L8 b52_L9 M = some (r9, M9) → zJ p l e rm_X5_shadedBy s m args below meth c G shX ad n A 10 (MQ below (zQ G shX ad n M9 (some (.long r9)) A) args s 0 0 A) 0 0 M 52 [(0, .ref (ad t)), (3, .int b52_L3), (4, .long b52_L4), (6, .int b52_L6), (7, .int b52_L7), (8, .int b52_L8), (9, .int b52_L9)] [] := by
    intro fuel
    induction fuel with
    | zero => intro b52_L3 b52_L4 b52_L6 b52_L7 b52_L8 b52_L9 M hF; cases hF
    | succ fuel hs52 =>
      intro b52_L3 b52_L4 b52_L6 b52_L7 b52_L8 b52_L9 M hF
      have hF : F_X5_shadedBy_52 t p0 p1 p2 (itF (fun _ _ _ _ _ _ _ => none) (F_X5_shadedBy_52 t p0 p1 p2) fuel) b52_L3 b52_L4 b52_L6 b52_L7 b52_L8 b52_L9 M = some (r9, M9) := hF
      generalize itF (fun _ _ _ _ _ _ _ => none) (F_X5_shadedBy_52 t p0 p1 p2) fuel = self52 at hs52 hF
      unfold F_X5_shadedBy_52 at hF
      refine z_iload cx d_X5_shadedBy_52 6 rfl ?_
      refine z_iload cx d_X5_shadedBy_54 3 rfl ?_
      refine z_icmp_gt cx 131 d_X5_shadedBy_56 (by decide) hF (fun hF => ?_) (fun hF => ?_)
      · refine z_lload cx d_X5_shadedBy_131 2 rfl ?_
        exact z_lret cx hr hF d_X5_shadedBy_133
      refine z_iload cx d_X5_shadedBy_59 6 rfl ?_
      refine z_bipush (v := 8) cx d_X5_shadedBy_61 kb_8 ?_
      refine z_icmp_ge cx 131 d_X5_shadedBy_63 (by decide) hF (fun hF => ?_) (fun hF => ?_)
      · refine z_lload cx d_X5_shadedBy_131 2 rfl ?_
        exact z_lret cx hr hF d_X5_shadedBy_133
      refine z_iload cx d_X5_shadedBy_66 4 rfl ?_
      refine z_east cx wd_762 d_X5_shadedBy_68 ?_
      refine z_aload_n cx d_X5_shadedBy_71 0 rfl ?_
      refine z_getR cx hT_t fg_Plan_26 (t + 1) rfl d_X5_shadedBy_72 ?_
      refine z_iload_n cx d_X5_shadedBy_75 1 rfl ?_
      obtain ⟨hi1, hF⟩ := gin_inv hF
      refine z_iald cx (tfX_6_1 hT_t) za_25 hi1 b52_L3.toNatClampNeg rfl d_X5_shadedBy_76 ?_
      obtain ⟨hi2, hF⟩ := gin_inv hF
      refine z_eastAt cx hi2 d_X5_shadedBy_77 ?_
      refine z_isub cx d_X5_shadedBy_78 ?_
      refine z_nm hF (fun v3 hF => ?_)
      refine z_istore cx 7 [(7, .int v3), (0, .ref (ad t)), (3, .int b52_L3), (4, .long b52_L4), (6, .int b52_L6), (8, .int b52_L8), (9, .int b52_L9)] d_X5_shadedBy_79 (by decide) rfl ?_
      refine z_iload cx d_X5_shadedBy_81 5 rfl ?_
      refine z_south cx wd_764 d_X5_shadedBy_83 ?_
      refine z_aload_n cx d_X5_shadedBy_86 1 rfl ?_
      refine z_getR cx hT_t fg_Plan_26 (t + 1) rfl d_X5_shadedBy_87 ?_
      refine z_iload_n cx d_X5_shadedBy_90 2 rfl ?_
      refine z_iald cx (tfX_6_1 hT_t) za_25 hi1 b52_L3.toNatClampNeg rfl d_X5_shadedBy_91 ?_
      refine z_southAt cx hi2 d_X5_shadedBy_92 ?_
      refine z_isub cx d_X5_shadedBy_93 ?_
      refine z_nm hF (fun v4 hF => ?_)
      refine z_istore cx 8 [(8, .int v4), (7, .int v3), (0, .ref (ad t)), (3, .int b52_L3), (4, .long b52_L4), (6, .int b52_L6), (9, .int b52_L9)] d_X5_shadedBy_94 (by decide) rfl ?_
      refine z_aload_n cx d_X5_shadedBy_96 2 rfl ?_
      refine z_iload cx d_X5_shadedBy_97 1 rfl ?_
      refine z_iload cx d_X5_shadedBy_99 0 rfl ?_
      obtain ⟨v6, M5, hc, hF⟩ := zb_inv hF
      refine z_callV cx (As := [.int v3, .int v4]) (rest := []) (c_X5_holds l cx.2.2.2.1.1 M t v3 v4 hT_t hc) hT_t zo_6 cv_Plan_120 ⟨rfl, rfl, Nat.le_of_ble_eq_true rfl, Nat.le_of_ble_eq_true rfl⟩ rfl rfl ⟨Nat.zero_le _, Nat.zero_le _⟩ (Nat.le_of_ble_eq_true rfl) d_X5_shadedBy_101 ?_
      refine z_if_ne cx 110 d_X5_shadedBy_104 (by decide) hF (fun hF => ?_) (fun hF => ?_)
      · refine z_lload cx d_X5_shadedBy_110 4 rfl ?_
        refine z_iload cx d_X5_shadedBy_112 1 rfl ?_
        refine z_iload cx d_X5_shadedBy_114 0 rfl ?_
        obtain ⟨v8, M7, hc, hF⟩ := zb_inv hF
        refine z_callSN cx (As := [.int v3, .int v4]) (rest := [.long b52_L4]) (c_X9_placeOf l cx.2.2.2.1.1 M5 v3 v4  hc) cn_Plan_103 wd_310 ⟨rfl, rfl, Nat.le_of_ble_eq_true rfl, Nat.le_of_ble_eq_true rfl⟩ rfl rfl ⟨Nat.zero_le _, Nat.zero_le _⟩ (Nat.le_of_ble_eq_true rfl) d_X5_shadedBy_116 ?_
        obtain ⟨v10, M9, hc, hF⟩ := zb_inv hF
        refine z_callSN cx (As := [.int v8]) (rest := [.long b52_L4]) (c_X9_bit l cx.2.2.2.1.1 M7 v8  hc) cn_Plan_106 wd_313 ⟨rfl, rfl, Nat.le_of_ble_eq_true rfl, Nat.le_of_ble_eq_true rfl⟩ rfl rfl ⟨Nat.zero_le _, Nat.zero_le _⟩ (Nat.le_of_ble_eq_true rfl) d_X5_shadedBy_119 ?_
        refine z_lor cx d_X5_shadedBy_122 ?_
        refine z_nml hF (fun v11 hF => ?_)
        refine z_lstore cx 4 [(4, .long v11), (8, .int v4), (7, .int v3), (0, .ref (ad t)), (3, .int b52_L3), (6, .int b52_L6), (9, .int b52_L9)] d_X5_shadedBy_123 (by decide) rfl ?_
        refine z_iinc cx 9 1 [(9, .int (b52_L9 + 1)), (4, .long v11), (8, .int v4), (7, .int v3), (0, .ref (ad t)), (3, .int b52_L3), (6, .int b52_L6)] d_X5_shadedBy_125 6 rfl ki_1 (by decide) rfl ?_
        refine z_goto cx 52 d_X5_shadedBy_128 (by decide) ?_
        exact z_lv [4, 5, 1, 6, 3, 2, 0] _ rfl (hs52 b52_L3 v11 b52_L6 v3 v4 (b52_L9 + 1) M9 hF)
      refine z_goto cx 131 d_X5_shadedBy_107 (by decide) ?_
      refine z_lload cx d_X5_shadedBy_131 4 rfl ?_
      exact z_lret cx hr hF d_X5_shadedBy_133
  unfold F_X5_shadedBy at hF
  refine z_iload_n cx d_X5_shadedBy_0 1 rfl ?_
  obtain ⟨v13, M12, hc, hF⟩ := zb_inv hF
  refine z_callSN cx (As := [.int p0]) (rest := []) (c_X9_bit l cx.2.2.2.1.1 M p0  hc) cn_Plan_106 wd_313 ⟨rfl, rfl, Nat.le_of_ble_eq_true rfl, Nat.le_of_ble_eq_true rfl⟩ rfl rfl ⟨Nat.zero_le _, Nat.zero_le _⟩ (Nat.le_of_ble_eq_true rfl) d_X5_shadedBy_1 ?_
  refine z_lstore cx 4 [(4, .long v13), (0, .ref (ad t)), (1, .int p0), (2, .int p1), (3, .int p2)] d_X5_shadedBy_4 (by decide) rfl ?_
  refine z_iload_n cx d_X5_shadedBy_6 4 rfl ?_
  refine z_if_lt cx 18 d_X5_shadedBy_7 (by decide) hF (fun hF => ?_) (fun hF => ?_)
  · refine z_lload cx d_X5_shadedBy_18 0 rfl ?_
    exact z_lret cx hr hF d_X5_shadedBy_20
  refine z_iload_n cx d_X5_shadedBy_10 4 rfl ?_
  refine z_aload_n cx d_X5_shadedBy_11 1 rfl ?_
  refine z_getI cx hT_t fg_Plan_42 d_X5_shadedBy_12 ?_
  refine z_icmp_lt cx 21 d_X5_shadedBy_15 (by decide) hF (fun hF => ?_) (fun hF => ?_)
  · refine z_iload_n cx d_X5_shadedBy_21 3 rfl ?_
    obtain ⟨v15, M14, hc, hF⟩ := zb_inv hF
    refine z_callSN cx (As := [.int p1]) (rest := []) (c_X9_heightOf l cx.2.2.2.1.1 M12 p1  hc) cn_Plan_110 wd_760 ⟨rfl, rfl, Nat.le_of_ble_eq_true rfl, Nat.le_of_ble_eq_true rfl⟩ rfl rfl ⟨Nat.zero_le _, Nat.zero_le _⟩ (Nat.le_of_ble_eq_true rfl) d_X5_shadedBy_22 ?_
    refine z_aload_n cx d_X5_shadedBy_25 1 rfl ?_
    refine z_getR cx hT_t fg_Plan_30 (t + 2) rfl d_X5_shadedBy_26 ?_
    refine z_iload_n cx d_X5_shadedBy_29 4 rfl ?_
    obtain ⟨hi16, hF⟩ := gin_inv hF
    refine z_iald cx (tfX_6_2 hT_t) za_25 hi16 p2.toNatClampNeg rfl d_X5_shadedBy_30 ?_
    refine z_imul cx d_X5_shadedBy_31 ?_
    refine z_bipush (v := 10) cx d_X5_shadedBy_32 kb_10 ?_
    refine z_idiv cx d_X5_shadedBy_34 (by decide) ?_
    refine z_nm hF (fun v17 hF => ?_)
    refine z_istore cx 6 [(6, .int v17), (4, .long v13), (0, .ref (ad t)), (1, .int p0), (2, .int p1), (3, .int p2)] d_X5_shadedBy_35 (by decide) rfl ?_
    refine z_iload_n cx d_X5_shadedBy_37 3 rfl ?_
    refine z_bipush (v := 8) cx d_X5_shadedBy_38 kb_8 ?_
    refine z_irem cx d_X5_shadedBy_40 (by decide) ?_
    refine z_nm hF (fun v18 hF => ?_)
    refine z_istore cx 7 [(7, .int v18), (6, .int v17), (4, .long v13), (0, .ref (ad t)), (1, .int p0), (2, .int p1), (3, .int p2)] d_X5_shadedBy_41 (by decide) rfl ?_
    refine z_iload_n cx d_X5_shadedBy_43 4 rfl ?_
    refine z_bipush (v := 8) cx d_X5_shadedBy_44 kb_8 ?_
    refine z_idiv cx d_X5_shadedBy_46 (by decide) ?_
    refine z_nm hF (fun v19 hF => ?_)
    refine z_istore cx 8 [(8, .int v19), (7, .int v18), (6, .int v17), (4, .long v13), (0, .ref (ad t)), (1, .int p0), (2, .int p1), (3, .int p2)] d_X5_shadedBy_47 (by decide) rfl ?_
    refine z_iconst (v := 1) cx d_X5_shadedBy_49 ki_1 ?_
    refine z_istore cx 9 [(9, .int (1 : Int32)), (8, .int v19), (7, .int v18), (6, .int v17), (4, .long v13), (0, .ref (ad t)), (1, .int p0), (2, .int p1), (3, .int p2)] d_X5_shadedBy_50 (by decide) rfl ?_
    exact z_lv [5, 8, 4, 3, 2, 1, 0] _ rfl (hL52 zFuel p2 v13 v17 v18 v19 (1 : Int32) M14 hF)
  refine z_lload cx d_X5_shadedBy_18 0 rfl ?_
  exact z_lret cx hr hF d_X5_shadedBy_20
/-! SunnyPans$Pans.learnShades -/
set_option maxRecDepth 100000 in
theorem wd_326 : Cond.fieldLink "SunnyPans$Pans" 90 "SunnyPans$Plan" "hours" "I" ∈ tbG := tw1 226 rfl rfl
theorem fg_Pans_90 : zGetI "SunnyPans$Pans" 90 5 6 2 := ⟨RX5, TX5, 9, rfl, by decide, uw_5, wd_326, fun _ _ _ _ _ _ => ⟨_, rfl, rfl⟩⟩
set_option maxRecDepth 100000 in
theorem wd_758 : Cond.code yX5_shadedBy cX5_shadedBy 10 (some .long) ∈ tbG := tw3 178 rfl rfl
set_option maxRecDepth 100000 in
theorem wd_755 : Cond.methodLink "SunnyPans$Pans" 93 yX5_shadedBy ∈ tbG := tw3 175 rfl rfl
set_option maxRecDepth 100000 in
theorem wd_756 : Cond.instanceMethod yX5_shadedBy ∈ tbG := tw3 176 rfl rfl
set_option maxRecDepth 100000 in
theorem wd_757 : Cond.selects "SunnyPans$Plan" yX5_shadedBy yX5_shadedBy ∈ tbG := tw3 177 rfl rfl
theorem cv_Pans_93 : zCV "SunnyPans$Pans" 93 "SunnyPans$Plan" yX5_shadedBy cX5_shadedBy 10 (some .long) 3 := zCV_of wd_755 wd_756 wd_757 wd_108 wd_758 (by decide +kernel)
theorem d_X4_learnShades_0 : decode cX4_learnShades 0 = .ok (.iconst 0, 1) := by decide +kernel
theorem d_X4_learnShades_1 : decode cX4_learnShades 1 = .ok (.istore_n 2, 1) := by decide +kernel
theorem d_X4_learnShades_2 : decode cX4_learnShades 2 = .ok (.iload_n 2, 1) := by decide +kernel
theorem d_X4_learnShades_3 : decode cX4_learnShades 3 = .ok (.bipush 10, 2) := by decide +kernel
theorem d_X4_learnShades_5 : decode cX4_learnShades 5 = .ok (.if_icmp .ge 16, 3) := by decide +kernel
theorem d_X4_learnShades_8 : decode cX4_learnShades 8 = .ok (.aload_n 0, 1) := by decide +kernel
theorem d_X4_learnShades_9 : decode cX4_learnShades 9 = .ok (.getfield 21, 3) := by decide +kernel
theorem d_X4_learnShades_12 : decode cX4_learnShades 12 = .ok (.iload_n 2, 1) := by decide +kernel
theorem d_X4_learnShades_13 : decode cX4_learnShades 13 = .ok (.lconst 0, 1) := by decide +kernel
theorem d_X4_learnShades_14 : decode cX4_learnShades 14 = .ok (.lastore, 1) := by decide +kernel
theorem d_X4_learnShades_15 : decode cX4_learnShades 15 = .ok (.iinc 2 1, 3) := by decide +kernel
theorem d_X4_learnShades_18 : decode cX4_learnShades 18 = .ok (.goto (-16), 3) := by decide +kernel
theorem d_X4_learnShades_21 : decode cX4_learnShades 21 = .ok (.iconst 0, 1) := by decide +kernel
theorem d_X4_learnShades_22 : decode cX4_learnShades 22 = .ok (.istore_n 2, 1) := by decide +kernel
theorem d_X4_learnShades_23 : decode cX4_learnShades 23 = .ok (.iload_n 2, 1) := by decide +kernel
theorem d_X4_learnShades_24 : decode cX4_learnShades 24 = .ok (.bipush 64, 2) := by decide +kernel
theorem d_X4_learnShades_26 : decode cX4_learnShades 26 = .ok (.if_icmp .ge 61, 3) := by decide +kernel
theorem d_X4_learnShades_29 : decode cX4_learnShades 29 = .ok (.iconst 0, 1) := by decide +kernel
theorem d_X4_learnShades_30 : decode cX4_learnShades 30 = .ok (.istore_n 3, 1) := by decide +kernel
theorem d_X4_learnShades_31 : decode cX4_learnShades 31 = .ok (.iload_n 3, 1) := by decide +kernel
theorem d_X4_learnShades_32 : decode cX4_learnShades 32 = .ok (.aload_n 1, 1) := by decide +kernel
theorem d_X4_learnShades_33 : decode cX4_learnShades 33 = .ok (.getfield 90, 3) := by decide +kernel
theorem d_X4_learnShades_36 : decode cX4_learnShades 36 = .ok (.if_icmp .ge 45, 3) := by decide +kernel
theorem d_X4_learnShades_39 : decode cX4_learnShades 39 = .ok (.iload_n 3, 1) := by decide +kernel
theorem d_X4_learnShades_40 : decode cX4_learnShades 40 = .ok (.bipush 10, 2) := by decide +kernel
theorem d_X4_learnShades_42 : decode cX4_learnShades 42 = .ok (.if_icmp .ge 39, 3) := by decide +kernel
theorem d_X4_learnShades_45 : decode cX4_learnShades 45 = .ok (.aload_n 0, 1) := by decide +kernel
theorem d_X4_learnShades_46 : decode cX4_learnShades 46 = .ok (.getfield 18, 3) := by decide +kernel
theorem d_X4_learnShades_49 : decode cX4_learnShades 49 = .ok (.iload_n 2, 1) := by decide +kernel
theorem d_X4_learnShades_50 : decode cX4_learnShades 50 = .ok (.iaload, 1) := by decide +kernel
theorem d_X4_learnShades_51 : decode cX4_learnShades 51 = .ok (.ifCond .le 30, 3) := by decide +kernel
theorem d_X4_learnShades_54 : decode cX4_learnShades 54 = .ok (.aload_n 0, 1) := by decide +kernel
theorem d_X4_learnShades_55 : decode cX4_learnShades 55 = .ok (.getfield 21, 3) := by decide +kernel
theorem d_X4_learnShades_58 : decode cX4_learnShades 58 = .ok (.iload_n 3, 1) := by decide +kernel
theorem d_X4_learnShades_59 : decode cX4_learnShades 59 = .ok (.dup2, 1) := by decide +kernel
theorem d_X4_learnShades_60 : decode cX4_learnShades 60 = .ok (.laload, 1) := by decide +kernel
theorem d_X4_learnShades_61 : decode cX4_learnShades 61 = .ok (.aload_n 1, 1) := by decide +kernel
theorem d_X4_learnShades_62 : decode cX4_learnShades 62 = .ok (.iload_n 2, 1) := by decide +kernel
theorem d_X4_learnShades_63 : decode cX4_learnShades 63 = .ok (.aload_n 0, 1) := by decide +kernel
theorem d_X4_learnShades_64 : decode cX4_learnShades 64 = .ok (.getfield 18, 3) := by decide +kernel
theorem d_X4_learnShades_67 : decode cX4_learnShades 67 = .ok (.iload_n 2, 1) := by decide +kernel
theorem d_X4_learnShades_68 : decode cX4_learnShades 68 = .ok (.iaload, 1) := by decide +kernel
theorem d_X4_learnShades_69 : decode cX4_learnShades 69 = .ok (.iload_n 3, 1) := by decide +kernel
theorem d_X4_learnShades_70 : decode cX4_learnShades 70 = .ok (.invokevirtual 93, 3) := by decide +kernel
theorem d_X4_learnShades_73 : decode cX4_learnShades 73 = .ok (.lor, 1) := by decide +kernel
theorem d_X4_learnShades_74 : decode cX4_learnShades 74 = .ok (.lastore, 1) := by decide +kernel
theorem d_X4_learnShades_75 : decode cX4_learnShades 75 = .ok (.iinc 3 1, 3) := by decide +kernel
theorem d_X4_learnShades_78 : decode cX4_learnShades 78 = .ok (.goto (-47), 3) := by decide +kernel
theorem d_X4_learnShades_81 : decode cX4_learnShades 81 = .ok (.iinc 2 1, 3) := by decide +kernel
theorem d_X4_learnShades_84 : decode cX4_learnShades 84 = .ok (.goto (-61), 3) := by decide +kernel
theorem d_X4_learnShades_87 : decode cX4_learnShades 87 = .ok (.return_, 1) := by decide +kernel
noncomputable def F_X4_learnShades_81 (t : Nat) (p0 : Nat) (self23 : Int32 → zMem → Option (zMem)) (b81_L2 : Int32) (M : zMem) : Option (zMem) :=
  self23 (b81_L2 + 1) M
noncomputable def F_X4_learnShades_31 (t : Nat) (p0 : Nat) (self23 : Int32 → zMem → Option (zMem)) (self31 : Int32 → Int32 → zMem → Option (zMem)) (b31_L2 : Int32) (b31_L3 : Int32) (M : zMem) : Option (zMem) :=
  if (M.1 p0 2) ≤ b31_L3 then
    F_X4_learnShades_81 t p0 self23 b31_L2 M
  else
    if (10 : Int32) ≤ b31_L3 then
      F_X4_learnShades_81 t p0 self23 b31_L2 M
    else
      gin b31_L2 64 <|
      if (M.1 (t + 3) b31_L2.toNatClampNeg) ≤ 0 then
        F_X4_learnShades_81 t p0 self23 b31_L2 M
      else
        gin b31_L3 10 <|
        zb (F_X5_shadedBy M p0 b31_L2 (M.1 (t + 3) b31_L2.toNatClampNeg) b31_L3) fun v4 M3 =>
        zl (zL M3 (t + 4) b31_L3.toNatClampNeg ((M.2.1 (t + 4) b31_L3.toNatClampNeg) ||| v4)) fun M5 =>
        self31 b31_L2 (b31_L3 + 1) M5
noncomputable def F_X4_learnShades_23 (t : Nat) (p0 : Nat) (self23 : Int32 → zMem → Option (zMem)) (b23_L2 : Int32) (M : zMem) : Option (zMem) :=
  if (64 : Int32) ≤ b23_L2 then
    some M
  else
    itF (fun _ _ _ => none) (F_X4_learnShades_31 t p0 self23) zFuel b23_L2 (0 : Int32) M
noncomputable def F_X4_learnShades_2 (t : Nat) (p0 : Nat) (self2 : Int32 → zMem → Option (zMem)) (b2_L2 : Int32) (M : zMem) : Option (zMem) :=
  if (10 : Int32) ≤ b2_L2 then
    itF (fun _ _ => none) (F_X4_learnShades_23 t p0) zFuel (0 : Int32) M
  else
    gin b2_L2 10 <|
    zl (zL M (t + 4) b2_L2.toNatClampNeg (0 : Int64)) fun M7 =>
    self2 (b2_L2 + 1) M7
noncomputable def F_X4_learnShades (M : zMem) (t : Nat) (p0 : Nat) : Option (zMem) :=
  itF (fun _ _ => none) (F_X4_learnShades_2 t p0) zFuel (0 : Int32) M
def rm_X4_learnShades : Room := { frames := 4, cells := 0, slots := 0, locals := 131 }
set_option maxHeartbeats 4000000 in
set_option maxRecDepth 100000 in
theorem c_X4_learnShades (l : Launch) {G : zG} {ad : Nat → Nat} {n : Nat} (hA : zInj ad n) (M : zMem) (t : Nat) (p0 : Nat) (hT_t : zT shX n t 5) (hT_p0 : zT shX n p0 6) {M9 : zMem} (hF : F_X4_learnShades M t p0 = some M9) : zM l yX4_learnShades cX4_learnShades 4 none rm_X4_learnShades G shX ad n M [.ref (ad t), .ref (ad p0)] none M9 := by
  refine zM_of hA (by decide +kernel) (lv := [(0, .ref (ad t)), (1, .ref (ad p0))]) (Nat.le_of_ble_eq_true rfl) rfl (fun p e s m args below meth c A cx hr => ?_)
  have hb81 : ∀ (self23 : Int32 → zMem → Option (zMem)) (hs23 : ∀ (b23_L2 : Int32) (M : zMem), self23 b23_L2 M = some M9 → zJ p l e rm_X4_learnShades s m args below meth c G shX ad n A 4 (MQ below (zQ G shX ad n M9 none A) args s 0 0 A) 0 0 M 23 [(0, .ref (ad t)), (1, .ref (ad p0)), (2, .int b23_L2)] []), ∀ (b81_L2 : Int32) (M : zMem), F_X4_learnShades_81 t p0 self23 b81_L2 M = some M9 → zJ p l e rm_X4_learnShades s m args below meth c G shX ad n A 4 (MQ below (zQ G shX ad n M9 none A) args s 0 0 A) 0 0 M 81 [(0, .ref (ad t)), (1, .ref (ad p0)), (2, .int b81_L2)] [] := by
    intro self23 hs23 b81_L2 M hF
    unfold F_X4_learnShades_81 at hF
    refine z_iinc cx 2 1 [(2, .int (b81_L2 + 1)), (0, .ref (ad t)), (1, .ref (ad p0))] d_X4_learnShades_81 2 rfl ki_1 (by decide) rfl ?_
    refine z_goto cx 23 d_X4_learnShades_84 (by decide) ?_
    exact z_lv [1, 2, 0] _ rfl (hs23 (b81_L2 + 1) M hF)
  have hL31 : ∀ (self23 : Int32 → zMem → Option (zMem)) (hs23 : ∀ (b23_L2 : Int32) (M : zMem), self23 b23_L2 M = some M9 → zJ p l e rm_X4_learnShades s m args below meth c G shX ad n A 4 (MQ below (zQ G shX ad n M9 none A) args s 0 0 A) 0 0 M 23 [(0, .ref (ad t)), (1, .ref (ad p0)), (2, .int b23_L2)] []) (fuel : Nat), ∀ (b31_L2 : Int32) (b31_L3 : Int32) (M : zMem), itF (fun _ _ _ => none) (F_X4_learnShades_31 t p0 self23) fuel b31_L2 b31_L3 M = some M9 → zJ p l e rm_X4_learnShades s m args below meth c G shX ad n A 4 (MQ below (zQ G shX ad n M9 none A) args s 0 0 A) 0 0 M 31 [(0, .ref (ad t)), (1, .ref (ad p0)), (2, .int b31_L2), (3, .int b31_L3)] [] := by
    intro self23 hs23 fuel
    induction fuel with
    | zero => intro b31_L2 b31_L3 M hF; cases hF
    | succ fuel hs31 =>
      intro b31_L2 b31_L3 M hF
      have hF : F_X4_learnShades_31 t p0 self23 (itF (fun _ _ _ => none) (F_X4_learnShades_31 t p0 self23) fuel) b31_L2 b31_L3 M = some M9 := hF
      generalize itF (fun _ _ _ => none) (F_X4_learnShades_31 t p0 self23) fuel = self31 at hs31 hF
      unfold F_X4_learnShades_31 at hF
      refine z_iload_n cx d_X4_learnShades_31 3 rfl ?_
      refine z_aload_n cx d_X4_learnShades_32 1 rfl ?_
      refine z_getI cx hT_p0 fg_Pans_90 d_X4_learnShades_33 ?_
      refine z_icmp_ge cx 81 d_X4_learnShades_36 (by decide) hF (fun hF => ?_) (fun hF => ?_)
      · exact z_lv [0, 1, 2] _ rfl (hb81 self23 hs23 b31_L2 M hF)
      refine z_iload_n cx d_X4_learnShades_39 3 rfl ?_
      refine z_bipush (v := 10) cx d_X4_learnShades_40 kb_10 ?_
      refine z_icmp_ge cx 81 d_X4_learnShades_42 (by decide) hF (fun hF => ?_) (fun hF => ?_)
      · exact z_lv [0, 1, 2] _ rfl (hb81 self23 hs23 b31_L2 M hF)
      refine z_aload_n cx d_X4_learnShades_45 0 rfl ?_
      refine z_getR cx hT_t fg_Pans_18 (t + 3) rfl d_X4_learnShades_46 ?_
      refine z_iload_n cx d_X4_learnShades_49 2 rfl ?_
      obtain ⟨hi1, hF⟩ := gin_inv hF
      refine z_iald cx (tfX_5_3 hT_t) za_16 hi1 b31_L2.toNatClampNeg rfl d_X4_learnShades_50 ?_
      refine z_if_le cx 81 d_X4_learnShades_51 (by decide) hF (fun hF => ?_) (fun hF => ?_)
      · exact z_lv [0, 1, 2] _ rfl (hb81 self23 hs23 b31_L2 M hF)
      refine z_aload_n cx d_X4_learnShades_54 0 rfl ?_
      refine z_getR cx hT_t fg_Pans_21 (t + 4) rfl d_X4_learnShades_55 ?_
      refine z_iload_n cx d_X4_learnShades_58 3 rfl ?_
      refine z_dup2 cx d_X4_learnShades_59 rfl rfl ?_
      obtain ⟨hi2, hF⟩ := gin_inv hF
      refine z_lald cx (tfX_5_4 hT_t) za_18 hi2 b31_L3.toNatClampNeg rfl d_X4_learnShades_60 ?_
      refine z_aload_n cx d_X4_learnShades_61 1 rfl ?_
      refine z_iload_n cx d_X4_learnShades_62 2 rfl ?_
      refine z_aload_n cx d_X4_learnShades_63 0 rfl ?_
      refine z_getR cx hT_t fg_Pans_18 (t + 3) rfl d_X4_learnShades_64 ?_
      refine z_iload_n cx d_X4_learnShades_67 2 rfl ?_
      refine z_iald cx (tfX_5_3 hT_t) za_16 hi1 b31_L2.toNatClampNeg rfl d_X4_learnShades_68 ?_
      refine z_iload_n cx d_X4_learnShades_69 3 rfl ?_
      obtain ⟨v4, M3, hc, hF⟩ := zb_inv hF
      refine z_callV cx (As := [.int b31_L2, .int (M.1 (t + 3) b31_L2.toNatClampNeg), .int b31_L3]) (rest := [.long (M.2.1 (t + 4) b31_L3.toNatClampNeg), .int b31_L3, .ref (ad (t + 4))]) (c_X5_shadedBy l cx.2.2.2.1.1 M p0 b31_L2 (M.1 (t + 3) b31_L2.toNatClampNeg) b31_L3 hT_p0 hc) hT_p0 zo_6 cv_Pans_93 ⟨rfl, rfl, Nat.le_of_ble_eq_true rfl, Nat.le_of_ble_eq_true rfl⟩ rfl rfl ⟨Nat.zero_le _, Nat.zero_le _⟩ (Nat.le_of_ble_eq_true rfl) d_X4_learnShades_70 ?_
      refine z_lor cx d_X4_learnShades_73 ?_
      refine z_last cx (tfX_5_4 hT_t) za_18 hi2 b31_L3.toNatClampNeg rfl d_X4_learnShades_74 ?_
      refine z_nmM hF (fun M5 hF => ?_)
      refine z_iinc cx 3 1 [(3, .int (b31_L3 + 1)), (0, .ref (ad t)), (1, .ref (ad p0)), (2, .int b31_L2)] d_X4_learnShades_75 3 rfl ki_1 (by decide) rfl ?_
      refine z_goto cx 31 d_X4_learnShades_78 (by decide) ?_
      exact z_lv [1, 2, 3, 0] _ rfl (hs31 b31_L2 (b31_L3 + 1) M5 hF)
  have hL23 : ∀ (fuel : Nat), ∀ (b23_L2 : Int32) (M : zMem), itF (fun _ _ => none) (F_X4_learnShades_23 t p0) fuel b23_L2 M = some M9 → zJ p l e rm_X4_learnShades s m args below meth c G shX ad n A 4 (MQ below (zQ G shX ad n M9 none A) args s 0 0 A) 0 0 M 23 [(0, .ref (ad t)), (1, .ref (ad p0)), (2, .int b23_L2)] [] := by
    intro fuel
    induction fuel with
    | zero => intro b23_L2 M hF; cases hF
    | succ fuel hs23 =>
      intro b23_L2 M hF
      have hF : F_X4_learnShades_23 t p0 (itF (fun _ _ => none) (F_X4_learnShades_23 t p0) fuel) b23_L2 M = some M9 := hF
      generalize itF (fun _ _ => none) (F_X4_learnShades_23 t p0) fuel = self23 at hs23 hF
      unfold F_X4_learnShades_23 at hF
      refine z_iload_n cx d_X4_learnShades_23 2 rfl ?_
      refine z_bipush (v := 64) cx d_X4_learnShades_24 kb_64 ?_
      refine z_icmp_ge cx 87 d_X4_learnShades_26 (by decide) hF (fun hF => ?_) (fun hF => ?_)
      · exact z_vret cx hr hF d_X4_learnShades_87
      refine z_iconst (v := 0) cx d_X4_learnShades_29 ki_0 ?_
      refine z_istore_n cx 3 [(3, .int (0 : Int32)), (0, .ref (ad t)), (1, .ref (ad p0)), (2, .int b23_L2)] d_X4_learnShades_30 rfl (by decide) rfl ?_
      exact z_lv [1, 2, 3, 0] _ rfl (hL31 self23 hs23 zFuel b23_L2 (0 : Int32) M hF)
  have hL2 : ∀ (fuel : Nat), ∀ (b2_L2 : Int32) (M : zMem), itF (fun _ _ => none) (F_X4_learnShades_2 t p0) fuel b2_L2 M = some M9 → zJ p l e rm_X4_learnShades s m args below meth c G shX ad n A 4 (MQ below (zQ G shX ad n M9 none A) args s 0 0 A) 0 0 M 2 [(0, .ref (ad t)), (1, .ref (ad p0)), (2, .int b2_L2)] [] := by
    intro fuel
    induction fuel with
    | zero => intro b2_L2 M hF; cases hF
    | succ fuel hs2 =>
      intro b2_L2 M hF
      have hF : F_X4_learnShades_2 t p0 (itF (fun _ _ => none) (F_X4_learnShades_2 t p0) fuel) b2_L2 M = some M9 := hF
      generalize itF (fun _ _ => none) (F_X4_learnShades_2 t p0) fuel = self2 at hs2 hF
      unfold F_X4_learnShades_2 at hF
      refine z_iload_n cx d_X4_learnShades_2 2 rfl ?_
      refine z_bipush (v := 10) cx d_X4_learnShades_3 kb_10 ?_
      refine z_icmp_ge cx 21 d_X4_learnShades_5 (by decide) hF (fun hF => ?_) (fun hF => ?_)
      · refine z_iconst (v := 0) cx d_X4_learnShades_21 ki_0 ?_
        refine z_istore_n cx 2 [(2, .int (0 : Int32)), (0, .ref (ad t)), (1, .ref (ad p0))] d_X4_learnShades_22 rfl (by decide) rfl ?_
        exact z_lv [1, 2, 0] _ rfl (hL23 zFuel (0 : Int32) M hF)
      refine z_aload_n cx d_X4_learnShades_8 0 rfl ?_
      refine z_getR cx hT_t fg_Pans_21 (t + 4) rfl d_X4_learnShades_9 ?_
      refine z_iload_n cx d_X4_learnShades_12 2 rfl ?_
      refine z_lconst (v := 0) cx d_X4_learnShades_13 (by decide +kernel) ?_
      obtain ⟨hi6, hF⟩ := gin_inv hF
      refine z_last cx (tfX_5_4 hT_t) za_18 hi6 b2_L2.toNatClampNeg rfl d_X4_learnShades_14 ?_
      refine z_nmM hF (fun M7 hF => ?_)
      refine z_iinc cx 2 1 [(2, .int (b2_L2 + 1)), (0, .ref (ad t)), (1, .ref (ad p0))] d_X4_learnShades_15 2 rfl ki_1 (by decide) rfl ?_
      refine z_goto cx 2 d_X4_learnShades_18 (by decide) ?_
      exact z_lv [1, 2, 0] _ rfl (hs2 (b2_L2 + 1) M7 hF)
  unfold F_X4_learnShades at hF
  refine z_iconst (v := 0) cx d_X4_learnShades_0 ki_0 ?_
  refine z_istore_n cx 2 [(2, .int (0 : Int32)), (0, .ref (ad t)), (1, .ref (ad p0))] d_X4_learnShades_1 rfl (by decide) rfl ?_
  exact z_lv [1, 2, 0] _ rfl (hL2 zFuel (0 : Int32) M hF)
/-! SunnyPans$Pans.start -/
theorem tfX_6_3 {n k : Nat} (h : zT shX n k 6) : zT shX n (k + 3) 16 := zT_off h (shX_f (by decide) (by decide +kernel)) (by decide) (by decide)
theorem tfX_6_4 {n k : Nat} (h : zT shX n k 6) : zT shX n (k + 4) 16 := zT_off h (shX_f (by decide) (by decide +kernel)) (by decide) (by decide)
theorem tfX_6_5 {n k : Nat} (h : zT shX n k 6) : zT shX n (k + 5) 16 := zT_off h (shX_f (by decide) (by decide +kernel)) (by decide) (by decide)
set_option maxRecDepth 100000 in
theorem wd_335 : Cond.fieldLink "SunnyPans$Pans" 41 "SunnyPans$Plan" "brine" "[I" ∈ tbG := tw1 235 rfl rfl
theorem fg_Pans_41 : zGetR "SunnyPans$Pans" 41 5 6 6 3 := ⟨RX5, TX5, 9, rfl, by decide, uw_5, wd_335, fun _ _ _ _ _ _ => ⟨_, rfl, rfl⟩⟩
set_option maxRecDepth 100000 in
theorem wd_337 : Cond.fieldLink "SunnyPans$Pans" 44 "SunnyPans$Plan" "salt" "[I" ∈ tbG := tw1 237 rfl rfl
theorem fg_Pans_44 : zGetR "SunnyPans$Pans" 44 5 6 7 4 := ⟨RX5, TX5, 9, rfl, by decide, uw_5, wd_337, fun _ _ _ _ _ _ => ⟨_, rfl, rfl⟩⟩
set_option maxRecDepth 100000 in
theorem wd_339 : Cond.fieldLink "SunnyPans$Pans" 45 "SunnyPans$Plan" "grams" "[I" ∈ tbG := tw1 239 rfl rfl
theorem fg_Pans_45 : zGetR "SunnyPans$Pans" 45 5 6 8 5 := ⟨RX5, TX5, 9, rfl, by decide, uw_5, wd_339, fun _ _ _ _ _ _ => ⟨_, rfl, rfl⟩⟩
set_option maxRecDepth 100000 in
theorem wd_754 : Cond.code yX4_learnShades cX4_learnShades 4 none ∈ tbG := tw3 174 rfl rfl
set_option maxRecDepth 100000 in
theorem wd_751 : Cond.methodLink "SunnyPans$Pans" 46 yX4_learnShades ∈ tbG := tw3 171 rfl rfl
set_option maxRecDepth 100000 in
theorem wd_753 : Cond.instanceMethod yX4_learnShades ∈ tbG := tw3 173 rfl rfl
theorem wd_9 : Cond.selects "SunnyPans$Pans" yX4_learnShades yX4_learnShades ∈ tbG := tw 9 (by decide +kernel) rfl
set_option maxRecDepth 100000 in
theorem wd_104 : Cond.initialized "SunnyPans$Pans" ∈ tbG := tw1 4 rfl rfl
theorem cv_Pans_46 : zCV "SunnyPans$Pans" 46 "SunnyPans$Pans" yX4_learnShades cX4_learnShades 4 none 1 := zCV_of wd_751 wd_753 wd_9 wd_104 wd_754 (by decide +kernel)
theorem zo_5 : zObj "SunnyPans$Pans" 5 := ⟨4, (RX4, TX4, 7), rfl, rfl, fun _ _ _ _ _ _ => ⟨_, rfl⟩⟩
theorem d_X4_start_0 : decode cX4_start 0 = .ok (.aload_n 1, 1) := by decide +kernel
theorem d_X4_start_1 : decode cX4_start 1 = .ok (.getfield 41, 3) := by decide +kernel
theorem d_X4_start_4 : decode cX4_start 4 = .ok (.iconst 0, 1) := by decide +kernel
theorem d_X4_start_5 : decode cX4_start 5 = .ok (.aload_n 0, 1) := by decide +kernel
theorem d_X4_start_6 : decode cX4_start 6 = .ok (.getfield 9, 3) := by decide +kernel
theorem d_X4_start_9 : decode cX4_start 9 = .ok (.iconst 0, 1) := by decide +kernel
theorem d_X4_start_10 : decode cX4_start 10 = .ok (.bipush 64, 2) := by decide +kernel
theorem d_X4_start_12 : decode cX4_start 12 = .ok (.invokestatic 25, 3) := by decide +kernel
theorem d_X4_start_15 : decode cX4_start 15 = .ok (.aload_n 1, 1) := by decide +kernel
theorem d_X4_start_16 : decode cX4_start 16 = .ok (.getfield 44, 3) := by decide +kernel
theorem d_X4_start_19 : decode cX4_start 19 = .ok (.iconst 0, 1) := by decide +kernel
theorem d_X4_start_20 : decode cX4_start 20 = .ok (.aload_n 0, 1) := by decide +kernel
theorem d_X4_start_21 : decode cX4_start 21 = .ok (.getfield 15, 3) := by decide +kernel
theorem d_X4_start_24 : decode cX4_start 24 = .ok (.iconst 0, 1) := by decide +kernel
theorem d_X4_start_25 : decode cX4_start 25 = .ok (.bipush 64, 2) := by decide +kernel
theorem d_X4_start_27 : decode cX4_start 27 = .ok (.invokestatic 25, 3) := by decide +kernel
theorem d_X4_start_30 : decode cX4_start 30 = .ok (.aload_n 1, 1) := by decide +kernel
theorem d_X4_start_31 : decode cX4_start 31 = .ok (.getfield 45, 3) := by decide +kernel
theorem d_X4_start_34 : decode cX4_start 34 = .ok (.iconst 0, 1) := by decide +kernel
theorem d_X4_start_35 : decode cX4_start 35 = .ok (.aload_n 0, 1) := by decide +kernel
theorem d_X4_start_36 : decode cX4_start 36 = .ok (.getfield 18, 3) := by decide +kernel
theorem d_X4_start_39 : decode cX4_start 39 = .ok (.iconst 0, 1) := by decide +kernel
theorem d_X4_start_40 : decode cX4_start 40 = .ok (.bipush 64, 2) := by decide +kernel
theorem d_X4_start_42 : decode cX4_start 42 = .ok (.invokestatic 25, 3) := by decide +kernel
theorem d_X4_start_45 : decode cX4_start 45 = .ok (.aload_n 0, 1) := by decide +kernel
theorem d_X4_start_46 : decode cX4_start 46 = .ok (.iconst 0, 1) := by decide +kernel
theorem d_X4_start_47 : decode cX4_start 47 = .ok (.putfield 31, 3) := by decide +kernel
theorem d_X4_start_50 : decode cX4_start 50 = .ok (.aload_n 0, 1) := by decide +kernel
theorem d_X4_start_51 : decode cX4_start 51 = .ok (.iconst 0, 1) := by decide +kernel
theorem d_X4_start_52 : decode cX4_start 52 = .ok (.putfield 35, 3) := by decide +kernel
theorem d_X4_start_55 : decode cX4_start 55 = .ok (.aload_n 0, 1) := by decide +kernel
theorem d_X4_start_56 : decode cX4_start 56 = .ok (.iconst 0, 1) := by decide +kernel
theorem d_X4_start_57 : decode cX4_start 57 = .ok (.putfield 38, 3) := by decide +kernel
theorem d_X4_start_60 : decode cX4_start 60 = .ok (.aload_n 0, 1) := by decide +kernel
theorem d_X4_start_61 : decode cX4_start 61 = .ok (.aload_n 1, 1) := by decide +kernel
theorem d_X4_start_62 : decode cX4_start 62 = .ok (.invokevirtual 46, 3) := by decide +kernel
theorem d_X4_start_65 : decode cX4_start 65 = .ok (.return_, 1) := by decide +kernel
noncomputable def F_X4_start (M : zMem) (t : Nat) (p0 : Nat) : Option (zMem) :=
  zl (zCI M (p0 + 3) 0 (t + 1) 0 64) fun M1 =>
  zl (zCI M1 (p0 + 4) 0 (t + 2) 0 64) fun M2 =>
  zl (zCI M2 (p0 + 5) 0 (t + 3) 0 64) fun M3 =>
  zl (zI M3 t 3 (0 : Int32)) fun M4 =>
  zl (zI M4 t 4 (0 : Int32)) fun M5 =>
  zl (zI M5 t 5 (0 : Int32)) fun M6 =>
  zbv (F_X4_learnShades M6 t p0) fun M7 =>
  some M7
def rm_X4_start : Room := { frames := 5, cells := 0, slots := 0, locals := 154 }
set_option maxHeartbeats 4000000 in
set_option maxRecDepth 100000 in
theorem c_X4_start (l : Launch) {G : zG} {ad : Nat → Nat} {n : Nat} (hA : zInj ad n) (M : zMem) (t : Nat) (p0 : Nat) (hT_t : zT shX n t 5) (hT_p0 : zT shX n p0 6) {M9 : zMem} (hF : F_X4_start M t p0 = some M9) : zM l yX4_start cX4_start 2 none rm_X4_start G shX ad n M [.ref (ad t), .ref (ad p0)] none M9 := by
  refine zM_of hA (by decide +kernel) (lv := [(0, .ref (ad t)), (1, .ref (ad p0))]) (Nat.le_of_ble_eq_true rfl) rfl (fun p e s m args below meth c A cx hr => ?_)
  unfold F_X4_start at hF
  refine z_aload_n cx d_X4_start_0 1 rfl ?_
  refine z_getR cx hT_p0 fg_Pans_41 (p0 + 3) rfl d_X4_start_1 ?_
  refine z_iconst (v := 0) cx d_X4_start_4 ki_0 ?_
  refine z_aload_n cx d_X4_start_5 0 rfl ?_
  refine z_getR cx hT_t fg_Pans_9 (t + 1) rfl d_X4_start_6 ?_
  refine z_iconst (v := 0) cx d_X4_start_9 ki_0 ?_
  refine z_bipush (v := 64) cx d_X4_start_10 kb_64 ?_
  refine z_copyI cx (tfX_6_3 hT_p0) za_16 (tfX_5_1 hT_t) za_16 ⟨wd_491, wd_493, wd_492, wd_121⟩ (by decide +kernel) (by decide +kernel) (by decide +kernel) (by decide +kernel) (by decide +kernel) ⟨Nat.le_of_ble_eq_true rfl, Nat.le_of_ble_eq_true rfl⟩ d_X4_start_12 ?_
  refine z_nmM hF (fun M1 hF => ?_)
  refine z_aload_n cx d_X4_start_15 1 rfl ?_
  refine z_getR cx hT_p0 fg_Pans_44 (p0 + 4) rfl d_X4_start_16 ?_
  refine z_iconst (v := 0) cx d_X4_start_19 ki_0 ?_
  refine z_aload_n cx d_X4_start_20 0 rfl ?_
  refine z_getR cx hT_t fg_Pans_15 (t + 2) rfl d_X4_start_21 ?_
  refine z_iconst (v := 0) cx d_X4_start_24 ki_0 ?_
  refine z_bipush (v := 64) cx d_X4_start_25 kb_64 ?_
  refine z_copyI cx (tfX_6_4 hT_p0) za_16 (tfX_5_2 hT_t) za_16 ⟨wd_491, wd_493, wd_492, wd_121⟩ (by decide +kernel) (by decide +kernel) (by decide +kernel) (by decide +kernel) (by decide +kernel) ⟨Nat.le_of_ble_eq_true rfl, Nat.le_of_ble_eq_true rfl⟩ d_X4_start_27 ?_
  refine z_nmM hF (fun M2 hF => ?_)
  refine z_aload_n cx d_X4_start_30 1 rfl ?_
  refine z_getR cx hT_p0 fg_Pans_45 (p0 + 5) rfl d_X4_start_31 ?_
  refine z_iconst (v := 0) cx d_X4_start_34 ki_0 ?_
  refine z_aload_n cx d_X4_start_35 0 rfl ?_
  refine z_getR cx hT_t fg_Pans_18 (t + 3) rfl d_X4_start_36 ?_
  refine z_iconst (v := 0) cx d_X4_start_39 ki_0 ?_
  refine z_bipush (v := 64) cx d_X4_start_40 kb_64 ?_
  refine z_copyI cx (tfX_6_5 hT_p0) za_16 (tfX_5_3 hT_t) za_16 ⟨wd_491, wd_493, wd_492, wd_121⟩ (by decide +kernel) (by decide +kernel) (by decide +kernel) (by decide +kernel) (by decide +kernel) ⟨Nat.le_of_ble_eq_true rfl, Nat.le_of_ble_eq_true rfl⟩ d_X4_start_42 ?_
  refine z_nmM hF (fun M3 hF => ?_)
  refine z_aload_n cx d_X4_start_45 0 rfl ?_
  refine z_iconst (v := 0) cx d_X4_start_46 ki_0 ?_
  refine z_putI cx hT_t fp_Pans_31 d_X4_start_47 ?_
  refine z_nmM hF (fun M4 hF => ?_)
  refine z_aload_n cx d_X4_start_50 0 rfl ?_
  refine z_iconst (v := 0) cx d_X4_start_51 ki_0 ?_
  refine z_putI cx hT_t fp_Pans_35 d_X4_start_52 ?_
  refine z_nmM hF (fun M5 hF => ?_)
  refine z_aload_n cx d_X4_start_55 0 rfl ?_
  refine z_iconst (v := 0) cx d_X4_start_56 ki_0 ?_
  refine z_putI cx hT_t fp_Pans_38 d_X4_start_57 ?_
  refine z_nmM hF (fun M6 hF => ?_)
  refine z_aload_n cx d_X4_start_60 0 rfl ?_
  refine z_aload_n cx d_X4_start_61 1 rfl ?_
  obtain ⟨M7, hc, hF⟩ := zbv_inv hF
  refine z_callV cx (As := [.ref (ad p0)]) (rest := []) (c_X4_learnShades l cx.2.2.2.1.1 M6 t p0 hT_t hT_p0 hc) hT_t zo_5 cv_Pans_46 ⟨rfl, rfl, Nat.le_of_ble_eq_true rfl, Nat.le_of_ble_eq_true rfl⟩ rfl rfl ⟨Nat.zero_le _, Nat.zero_le _⟩ (Nat.le_of_ble_eq_true rfl) d_X4_start_62 ?_
  exact z_vret cx hr hF d_X4_start_65
/-! SunnyPans.placesOver0 -/
set_option maxRecDepth 100000 in
theorem wd_991 : Cond.methodLink "SunnyPans" 298 yX9_bit ∈ tbG := tw4 171 rfl rfl
theorem cs_SunnyPans_298 : zCS "SunnyPans" 298 yX9_bit cX9_bit 1 (some .long) 1 := zCS_of wd_991 wd_313 wd_101 wd_314 (by decide +kernel)
theorem d_X9_placesOver0_0 : decode cX9_placesOver0 0 = .ok (.lconst 0, 1) := by decide +kernel
theorem d_X9_placesOver0_1 : decode cX9_placesOver0 1 = .ok (.lstore_n 1, 1) := by decide +kernel
theorem d_X9_placesOver0_2 : decode cX9_placesOver0 2 = .ok (.iconst 0, 1) := by decide +kernel
theorem d_X9_placesOver0_3 : decode cX9_placesOver0 3 = .ok (.istore_n 3, 1) := by decide +kernel
theorem d_X9_placesOver0_4 : decode cX9_placesOver0 4 = .ok (.iload_n 3, 1) := by decide +kernel
theorem d_X9_placesOver0_5 : decode cX9_placesOver0 5 = .ok (.aload_n 0, 1) := by decide +kernel
theorem d_X9_placesOver0_6 : decode cX9_placesOver0 6 = .ok (.arraylength, 1) := by decide +kernel
theorem d_X9_placesOver0_7 : decode cX9_placesOver0 7 = .ok (.if_icmp .ge 28, 3) := by decide +kernel
theorem d_X9_placesOver0_10 : decode cX9_placesOver0 10 = .ok (.iload_n 3, 1) := by decide +kernel
theorem d_X9_placesOver0_11 : decode cX9_placesOver0 11 = .ok (.bipush 64, 2) := by decide +kernel
theorem d_X9_placesOver0_13 : decode cX9_placesOver0 13 = .ok (.if_icmp .ge 22, 3) := by decide +kernel
theorem d_X9_placesOver0_16 : decode cX9_placesOver0 16 = .ok (.aload_n 0, 1) := by decide +kernel
theorem d_X9_placesOver0_17 : decode cX9_placesOver0 17 = .ok (.iload_n 3, 1) := by decide +kernel
theorem d_X9_placesOver0_18 : decode cX9_placesOver0 18 = .ok (.iaload, 1) := by decide +kernel
theorem d_X9_placesOver0_19 : decode cX9_placesOver0 19 = .ok (.ifCond .le 10, 3) := by decide +kernel
theorem d_X9_placesOver0_22 : decode cX9_placesOver0 22 = .ok (.lload_n 1, 1) := by decide +kernel
theorem d_X9_placesOver0_23 : decode cX9_placesOver0 23 = .ok (.iload_n 3, 1) := by decide +kernel
theorem d_X9_placesOver0_24 : decode cX9_placesOver0 24 = .ok (.invokestatic 298, 3) := by decide +kernel
theorem d_X9_placesOver0_27 : decode cX9_placesOver0 27 = .ok (.lor, 1) := by decide +kernel
theorem d_X9_placesOver0_28 : decode cX9_placesOver0 28 = .ok (.lstore_n 1, 1) := by decide +kernel
theorem d_X9_placesOver0_29 : decode cX9_placesOver0 29 = .ok (.iinc 3 1, 3) := by decide +kernel
theorem d_X9_placesOver0_32 : decode cX9_placesOver0 32 = .ok (.goto (-28), 3) := by decide +kernel
theorem d_X9_placesOver0_35 : decode cX9_placesOver0 35 = .ok (.lload_n 1, 1) := by decide +kernel
theorem d_X9_placesOver0_36 : decode cX9_placesOver0 36 = .ok (.lreturn, 1) := by decide +kernel
noncomputable def F_X9_placesOver0_29 (p0 : Nat) (self4 : Int64 → Int32 → zMem → Option (Int64 × zMem)) (b29_L1 : Int64) (b29_L3 : Int32) (M : zMem) : Option (Int64 × zMem) :=
  self4 b29_L1 (b29_L3 + 1) M
noncomputable def F_X9_placesOver0_4 (p0 : Nat) (self4 : Int64 → Int32 → zMem → Option (Int64 × zMem)) (b4_L1 : Int64) (b4_L3 : Int32) (M : zMem) : Option (Int64 × zMem) :=
  if (nI 64) ≤ b4_L3 then
    some (b4_L1, M)
  else
    if (64 : Int32) ≤ b4_L3 then
      some (b4_L1, M)
    else
      gin b4_L3 64 <|
      if (M.1 p0 b4_L3.toNatClampNeg) ≤ 0 then
        F_X9_placesOver0_29 p0 self4 b4_L1 b4_L3 M
      else
        zb (F_X9_bit M b4_L3) fun v3 M2 =>
        zl (b4_L1 ||| v3) fun v4 =>
        F_X9_placesOver0_29 p0 self4 v4 b4_L3 M2
noncomputable def F_X9_placesOver0 (M : zMem) (p0 : Nat) : Option (Int64 × zMem) :=
  itF (fun _ _ _ => none) (F_X9_placesOver0_4 p0) zFuel (0 : Int64) (0 : Int32) M
def rm_X9_placesOver0 : Room := { frames := 3, cells := 0, slots := 0, locals := 100 }
set_option maxHeartbeats 4000000 in
set_option maxRecDepth 100000 in
theorem c_X9_placesOver0 (l : Launch) {G : zG} {ad : Nat → Nat} {n : Nat} (hA : zInj ad n) (M : zMem) (p0 : Nat) (hT_p0 : zT shX n p0 16) {r9 : Int64} {M9 : zMem} (hF : F_X9_placesOver0 M p0 = some (r9, M9)) : zM l yX9_placesOver0 cX9_placesOver0 4 (some .long) rm_X9_placesOver0 G shX ad n M [.ref (ad p0)] (some (.long r9)) M9 := by
  refine zM_of hA (by decide +kernel) (lv := [(0, .ref (ad p0))]) (Nat.le_of_ble_eq_true rfl) rfl (fun p e s m args below meth c A cx hr => ?_)
  have hb29 : ∀ (self4 : Int64 → Int32 → zMem → Option (Int64 × zMem)) (hs4 : ∀ (b4_L1 : Int64) (b4_L3 : Int32) (M : zMem), self4 b4_L1 b4_L3 M = some (r9, M9) → zJ p l e rm_X9_placesOver0 s m args below meth c G shX ad n A 4 (MQ below (zQ G shX ad n M9 (some (.long r9)) A) args s 0 0 A) 0 0 M 4 [(0, .ref (ad p0)), (1, .long b4_L1), (3, .int b4_L3)] []), ∀ (b29_L1 : Int64) (b29_L3 : Int32) (M : zMem), F_X9_placesOver0_29 p0 self4 b29_L1 b29_L3 M = some (r9, M9) → zJ p l e rm_X9_placesOver0 s m args below meth c G shX ad n A 4 (MQ below (zQ G shX ad n M9 (some (.long r9)) A) args s 0 0 A) 0 0 M 29 [(0, .ref (ad p0)), (1, .long b29_L1), (3, .int b29_L3)] [] := by
    intro self4 hs4 b29_L1 b29_L3 M hF
    unfold F_X9_placesOver0_29 at hF
    refine z_iinc cx 3 1 [(3, .int (b29_L3 + 1)), (0, .ref (ad p0)), (1, .long b29_L1)] d_X9_placesOver0_29 2 rfl ki_1 (by decide) rfl ?_
    refine z_goto cx 4 d_X9_placesOver0_32 (by decide) ?_
    exact z_lv [1, 2, 0] _ rfl (hs4 b29_L1 (b29_L3 + 1) M hF)
  have hL4 : ∀ (fuel : Nat), ∀ (b4_L1 : Int64) (b4_L3 : Int32) (M : zMem), itF (fun _ _ _ => none) (F_X9_placesOver0_4 p0) fuel b4_L1 b4_L3 M = some (r9, M9) → zJ p l e rm_X9_placesOver0 s m args below meth c G shX ad n A 4 (MQ below (zQ G shX ad n M9 (some (.long r9)) A) args s 0 0 A) 0 0 M 4 [(0, .ref (ad p0)), (1, .long b4_L1), (3, .int b4_L3)] [] := by
    intro fuel
    induction fuel with
    | zero => intro b4_L1 b4_L3 M hF; cases hF
    | succ fuel hs4 =>
      intro b4_L1 b4_L3 M hF
      have hF : F_X9_placesOver0_4 p0 (itF (fun _ _ _ => none) (F_X9_placesOver0_4 p0) fuel) b4_L1 b4_L3 M = some (r9, M9) := hF
      generalize itF (fun _ _ _ => none) (F_X9_placesOver0_4 p0) fuel = self4 at hs4 hF
      unfold F_X9_placesOver0_4 at hF
      refine z_iload_n cx d_X9_placesOver0_4 2 rfl ?_
      refine z_aload_n cx d_X9_placesOver0_5 0 rfl ?_
      refine z_alenI cx hT_p0 za_16 d_X9_placesOver0_6 ?_
      refine z_icmp_ge cx 35 d_X9_placesOver0_7 (by decide) hF (fun hF => ?_) (fun hF => ?_)
      · refine z_lload_n cx d_X9_placesOver0_35 1 rfl ?_
        exact z_lret cx hr hF d_X9_placesOver0_36
      refine z_iload_n cx d_X9_placesOver0_10 2 rfl ?_
      refine z_bipush (v := 64) cx d_X9_placesOver0_11 kb_64 ?_
      refine z_icmp_ge cx 35 d_X9_placesOver0_13 (by decide) hF (fun hF => ?_) (fun hF => ?_)
      · refine z_lload_n cx d_X9_placesOver0_35 1 rfl ?_
        exact z_lret cx hr hF d_X9_placesOver0_36
      refine z_aload_n cx d_X9_placesOver0_16 0 rfl ?_
      refine z_iload_n cx d_X9_placesOver0_17 2 rfl ?_
      obtain ⟨hi1, hF⟩ := gin_inv hF
      refine z_iald cx hT_p0 za_16 hi1 b4_L3.toNatClampNeg rfl d_X9_placesOver0_18 ?_
      refine z_if_le cx 29 d_X9_placesOver0_19 (by decide) hF (fun hF => ?_) (fun hF => ?_)
      · exact hb29 self4 hs4 b4_L1 b4_L3 M hF
      refine z_lload_n cx d_X9_placesOver0_22 1 rfl ?_
      refine z_iload_n cx d_X9_placesOver0_23 2 rfl ?_
      obtain ⟨v3, M2, hc, hF⟩ := zb_inv hF
      refine z_callS cx (As := [.int b4_L3]) (rest := [.long b4_L1]) (c_X9_bit l cx.2.2.2.1.1 M b4_L3  hc) cs_SunnyPans_298 ⟨rfl, rfl, Nat.le_of_ble_eq_true rfl, Nat.le_of_ble_eq_true rfl⟩ rfl rfl ⟨Nat.zero_le _, Nat.zero_le _⟩ (Nat.le_of_ble_eq_true rfl) d_X9_placesOver0_24 ?_
      refine z_lor cx d_X9_placesOver0_27 ?_
      refine z_nml hF (fun v4 hF => ?_)
      refine z_lstore_n cx 1 [(1, .long v4), (0, .ref (ad p0)), (3, .int b4_L3)] d_X9_placesOver0_28 rfl (by decide) rfl ?_
      exact z_lv [1, 0, 2] _ rfl (hb29 self4 hs4 v4 b4_L3 M2 hF)
  unfold F_X9_placesOver0 at hF
  refine z_lconst (v := 0) cx d_X9_placesOver0_0 (by decide +kernel) ?_
  refine z_lstore_n cx 1 [(1, .long (0 : Int64)), (0, .ref (ad p0))] d_X9_placesOver0_1 rfl (by decide) rfl ?_
  refine z_iconst (v := 0) cx d_X9_placesOver0_2 ki_0 ?_
  refine z_istore_n cx 3 [(3, .int (0 : Int32)), (1, .long (0 : Int64)), (0, .ref (ad p0))] d_X9_placesOver0_3 rfl (by decide) rfl ?_
  exact z_lv [2, 1, 0] _ rfl (hL4 zFuel (0 : Int64) (0 : Int32) M hF)
/-! SunnyPans$Pans.brinePlaces -/
set_option maxRecDepth 100000 in
theorem wd_990 : Cond.code yX9_placesOver0 cX9_placesOver0 4 (some .long) ∈ tbG := tw4 170 rfl rfl
set_option maxRecDepth 100000 in
theorem wd_988 : Cond.methodLinkNest "SunnyPans$Pans" 50 yX9_placesOver0 "SunnyPans" ∈ tbN := twn4 168 rfl rfl
theorem cn_Pans_50 : zCN "SunnyPans$Pans" 50 yX9_placesOver0 cX9_placesOver0 4 (some .long) 1 := ⟨wd_988, wd_101, wd_990, by decide +kernel⟩
set_option maxRecDepth 100000 in
theorem wd_989 : Cond.static yX9_placesOver0 ∈ tbG := tw4 169 rfl rfl
theorem d_X4_brinePlaces_0 : decode cX4_brinePlaces 0 = .ok (.aload_n 0, 1) := by decide +kernel
theorem d_X4_brinePlaces_1 : decode cX4_brinePlaces 1 = .ok (.getfield 9, 3) := by decide +kernel
theorem d_X4_brinePlaces_4 : decode cX4_brinePlaces 4 = .ok (.invokestatic 50, 3) := by decide +kernel
theorem d_X4_brinePlaces_7 : decode cX4_brinePlaces 7 = .ok (.lreturn, 1) := by decide +kernel
noncomputable def F_X4_brinePlaces (M : zMem) (t : Nat) : Option (Int64 × zMem) :=
  zb (F_X9_placesOver0 M (t + 1)) fun v2 M1 =>
  some (v2, M1)
def rm_X4_brinePlaces : Room := { frames := 4, cells := 0, slots := 0, locals := 123 }
set_option maxHeartbeats 4000000 in
set_option maxRecDepth 100000 in
theorem c_X4_brinePlaces (l : Launch) {G : zG} {ad : Nat → Nat} {n : Nat} (hA : zInj ad n) (M : zMem) (t : Nat) (hT_t : zT shX n t 5) {r9 : Int64} {M9 : zMem} (hF : F_X4_brinePlaces M t = some (r9, M9)) : zM l yX4_brinePlaces cX4_brinePlaces 1 (some .long) rm_X4_brinePlaces G shX ad n M [.ref (ad t)] (some (.long r9)) M9 := by
  refine zM_of hA (by decide +kernel) (lv := [(0, .ref (ad t))]) (Nat.le_of_ble_eq_true rfl) rfl (fun p e s m args below meth c A cx hr => ?_)
  unfold F_X4_brinePlaces at hF
  refine z_aload_n cx d_X4_brinePlaces_0 0 rfl ?_
  refine z_getR cx hT_t fg_Pans_9 (t + 1) rfl d_X4_brinePlaces_1 ?_
  obtain ⟨v2, M1, hc, hF⟩ := zb_inv hF
  refine z_callSN cx (As := [.ref (ad (t + 1))]) (rest := []) (c_X9_placesOver0 l cx.2.2.2.1.1 M (t + 1) (tfX_5_1 hT_t) hc) cn_Pans_50 wd_989 ⟨rfl, rfl, Nat.le_of_ble_eq_true rfl, Nat.le_of_ble_eq_true rfl⟩ rfl rfl ⟨Nat.zero_le _, Nat.zero_le _⟩ (Nat.le_of_ble_eq_true rfl) d_X4_brinePlaces_4 ?_
  exact z_lret cx hr hF d_X4_brinePlaces_7
/-! SunnyPans$Pans.saltPlaces -/
theorem d_X4_saltPlaces_0 : decode cX4_saltPlaces 0 = .ok (.aload_n 0, 1) := by decide +kernel
theorem d_X4_saltPlaces_1 : decode cX4_saltPlaces 1 = .ok (.getfield 15, 3) := by decide +kernel
theorem d_X4_saltPlaces_4 : decode cX4_saltPlaces 4 = .ok (.invokestatic 50, 3) := by decide +kernel
theorem d_X4_saltPlaces_7 : decode cX4_saltPlaces 7 = .ok (.lreturn, 1) := by decide +kernel
noncomputable def F_X4_saltPlaces (M : zMem) (t : Nat) : Option (Int64 × zMem) :=
  zb (F_X9_placesOver0 M (t + 2)) fun v2 M1 =>
  some (v2, M1)
def rm_X4_saltPlaces : Room := { frames := 4, cells := 0, slots := 0, locals := 123 }
set_option maxHeartbeats 4000000 in
set_option maxRecDepth 100000 in
theorem c_X4_saltPlaces (l : Launch) {G : zG} {ad : Nat → Nat} {n : Nat} (hA : zInj ad n) (M : zMem) (t : Nat) (hT_t : zT shX n t 5) {r9 : Int64} {M9 : zMem} (hF : F_X4_saltPlaces M t = some (r9, M9)) : zM l yX4_saltPlaces cX4_saltPlaces 1 (some .long) rm_X4_saltPlaces G shX ad n M [.ref (ad t)] (some (.long r9)) M9 := by
  refine zM_of hA (by decide +kernel) (lv := [(0, .ref (ad t))]) (Nat.le_of_ble_eq_true rfl) rfl (fun p e s m args below meth c A cx hr => ?_)
  unfold F_X4_saltPlaces at hF
  refine z_aload_n cx d_X4_saltPlaces_0 0 rfl ?_
  refine z_getR cx hT_t fg_Pans_15 (t + 2) rfl d_X4_saltPlaces_1 ?_
  obtain ⟨v2, M1, hc, hF⟩ := zb_inv hF
  refine z_callSN cx (As := [.ref (ad (t + 2))]) (rest := []) (c_X9_placesOver0 l cx.2.2.2.1.1 M (t + 2) (tfX_5_2 hT_t) hc) cn_Pans_50 wd_989 ⟨rfl, rfl, Nat.le_of_ble_eq_true rfl, Nat.le_of_ble_eq_true rfl⟩ rfl rfl ⟨Nat.zero_le _, Nat.zero_le _⟩ (Nat.le_of_ble_eq_true rfl) d_X4_saltPlaces_4 ?_
  exact z_lret cx hr hF d_X4_saltPlaces_7
/-! SunnyPans$Pans.heapPlaces -/
theorem d_X4_heapPlaces_0 : decode cX4_heapPlaces 0 = .ok (.aload_n 0, 1) := by decide +kernel
theorem d_X4_heapPlaces_1 : decode cX4_heapPlaces 1 = .ok (.getfield 18, 3) := by decide +kernel
theorem d_X4_heapPlaces_4 : decode cX4_heapPlaces 4 = .ok (.invokestatic 50, 3) := by decide +kernel
theorem d_X4_heapPlaces_7 : decode cX4_heapPlaces 7 = .ok (.lreturn, 1) := by decide +kernel
noncomputable def F_X4_heapPlaces (M : zMem) (t : Nat) : Option (Int64 × zMem) :=
  zb (F_X9_placesOver0 M (t + 3)) fun v2 M1 =>
  some (v2, M1)
def rm_X4_heapPlaces : Room := { frames := 4, cells := 0, slots := 0, locals := 123 }
set_option maxHeartbeats 4000000 in
set_option maxRecDepth 100000 in
theorem c_X4_heapPlaces (l : Launch) {G : zG} {ad : Nat → Nat} {n : Nat} (hA : zInj ad n) (M : zMem) (t : Nat) (hT_t : zT shX n t 5) {r9 : Int64} {M9 : zMem} (hF : F_X4_heapPlaces M t = some (r9, M9)) : zM l yX4_heapPlaces cX4_heapPlaces 1 (some .long) rm_X4_heapPlaces G shX ad n M [.ref (ad t)] (some (.long r9)) M9 := by
  refine zM_of hA (by decide +kernel) (lv := [(0, .ref (ad t))]) (Nat.le_of_ble_eq_true rfl) rfl (fun p e s m args below meth c A cx hr => ?_)
  unfold F_X4_heapPlaces at hF
  refine z_aload_n cx d_X4_heapPlaces_0 0 rfl ?_
  refine z_getR cx hT_t fg_Pans_18 (t + 3) rfl d_X4_heapPlaces_1 ?_
  obtain ⟨v2, M1, hc, hF⟩ := zb_inv hF
  refine z_callSN cx (As := [.ref (ad (t + 3))]) (rest := []) (c_X9_placesOver0 l cx.2.2.2.1.1 M (t + 3) (tfX_5_3 hT_t) hc) cn_Pans_50 wd_989 ⟨rfl, rfl, Nat.le_of_ble_eq_true rfl, Nat.le_of_ble_eq_true rfl⟩ rfl rfl ⟨Nat.zero_le _, Nat.zero_le _⟩ (Nat.le_of_ble_eq_true rfl) d_X4_heapPlaces_4 ?_
  exact z_lret cx hr hF d_X4_heapPlaces_7
/-! SunnyPans$Pans.dryPlaces -/
set_option maxRecDepth 100000 in
theorem wd_1005 : Cond.code yX4_brinePlaces cX4_brinePlaces 1 (some .long) ∈ tbG := tw4 185 rfl rfl
set_option maxRecDepth 100000 in
theorem wd_1002 : Cond.methodLink "SunnyPans$Pans" 54 yX4_brinePlaces ∈ tbG := tw4 182 rfl rfl
set_option maxRecDepth 100000 in
theorem wd_1003 : Cond.instanceMethod yX4_brinePlaces ∈ tbG := tw4 183 rfl rfl
set_option maxRecDepth 100000 in
theorem wd_1004 : Cond.selects "SunnyPans$Pans" yX4_brinePlaces yX4_brinePlaces ∈ tbG := tw4 184 rfl rfl
theorem cv_Pans_54 : zCV "SunnyPans$Pans" 54 "SunnyPans$Pans" yX4_brinePlaces cX4_brinePlaces 1 (some .long) 0 := zCV_of wd_1002 wd_1003 wd_1004 wd_104 wd_1005 (by decide +kernel)
set_option maxRecDepth 100000 in
theorem wd_987 : Cond.code yX4_heapPlaces cX4_heapPlaces 1 (some .long) ∈ tbG := tw4 167 rfl rfl
set_option maxRecDepth 100000 in
theorem wd_1006 : Cond.methodLink "SunnyPans$Pans" 58 yX4_heapPlaces ∈ tbG := tw4 186 rfl rfl
set_option maxRecDepth 100000 in
theorem wd_985 : Cond.instanceMethod yX4_heapPlaces ∈ tbG := tw4 165 rfl rfl
set_option maxRecDepth 100000 in
theorem wd_986 : Cond.selects "SunnyPans$Pans" yX4_heapPlaces yX4_heapPlaces ∈ tbG := tw4 166 rfl rfl
theorem cv_Pans_58 : zCV "SunnyPans$Pans" 58 "SunnyPans$Pans" yX4_heapPlaces cX4_heapPlaces 1 (some .long) 0 := zCV_of wd_1006 wd_985 wd_986 wd_104 wd_987 (by decide +kernel)
set_option maxRecDepth 100000 in
theorem wd_1007 : Cond.constantLong "SunnyPans$Pans" 61 (-1) ∈ tbG := tw4 187 rfl rfl
theorem d_X4_dryPlaces_0 : decode cX4_dryPlaces 0 = .ok (.aload_n 0, 1) := by decide +kernel
theorem d_X4_dryPlaces_1 : decode cX4_dryPlaces 1 = .ok (.invokevirtual 54, 3) := by decide +kernel
theorem d_X4_dryPlaces_4 : decode cX4_dryPlaces 4 = .ok (.aload_n 0, 1) := by decide +kernel
theorem d_X4_dryPlaces_5 : decode cX4_dryPlaces 5 = .ok (.invokevirtual 58, 3) := by decide +kernel
theorem d_X4_dryPlaces_8 : decode cX4_dryPlaces 8 = .ok (.lor, 1) := by decide +kernel
theorem d_X4_dryPlaces_9 : decode cX4_dryPlaces 9 = .ok (.ldc2_w 61, 3) := by decide +kernel
theorem d_X4_dryPlaces_12 : decode cX4_dryPlaces 12 = .ok (.lxor, 1) := by decide +kernel
theorem d_X4_dryPlaces_13 : decode cX4_dryPlaces 13 = .ok (.lreturn, 1) := by decide +kernel
noncomputable def F_X4_dryPlaces (M : zMem) (t : Nat) : Option (Int64 × zMem) :=
  zb (F_X4_brinePlaces M t) fun v2 M1 =>
  zb (F_X4_heapPlaces M1 t) fun v4 M3 =>
  some (((v2 ||| v4) ^^^ (-1 : Int64)), M3)
def rm_X4_dryPlaces : Room := { frames := 5, cells := 0, slots := 0, locals := 143 }
set_option maxHeartbeats 4000000 in
set_option maxRecDepth 100000 in
theorem c_X4_dryPlaces (l : Launch) {G : zG} {ad : Nat → Nat} {n : Nat} (hA : zInj ad n) (M : zMem) (t : Nat) (hT_t : zT shX n t 5) {r9 : Int64} {M9 : zMem} (hF : F_X4_dryPlaces M t = some (r9, M9)) : zM l yX4_dryPlaces cX4_dryPlaces 1 (some .long) rm_X4_dryPlaces G shX ad n M [.ref (ad t)] (some (.long r9)) M9 := by
  refine zM_of hA (by decide +kernel) (lv := [(0, .ref (ad t))]) (Nat.le_of_ble_eq_true rfl) rfl (fun p e s m args below meth c A cx hr => ?_)
  unfold F_X4_dryPlaces at hF
  refine z_aload_n cx d_X4_dryPlaces_0 0 rfl ?_
  obtain ⟨v2, M1, hc, hF⟩ := zb_inv hF
  refine z_callV cx (As := []) (rest := []) (c_X4_brinePlaces l cx.2.2.2.1.1 M t hT_t hc) hT_t zo_5 cv_Pans_54 ⟨rfl, rfl, Nat.le_of_ble_eq_true rfl, Nat.le_of_ble_eq_true rfl⟩ rfl rfl ⟨Nat.zero_le _, Nat.zero_le _⟩ (Nat.le_of_ble_eq_true rfl) d_X4_dryPlaces_1 ?_
  refine z_aload_n cx d_X4_dryPlaces_4 0 rfl ?_
  obtain ⟨v4, M3, hc, hF⟩ := zb_inv hF
  refine z_callV cx (As := []) (rest := [.long v2]) (c_X4_heapPlaces l cx.2.2.2.1.1 M1 t hT_t hc) hT_t zo_5 cv_Pans_58 ⟨rfl, rfl, Nat.le_of_ble_eq_true rfl, Nat.le_of_ble_eq_true rfl⟩ rfl rfl ⟨Nat.zero_le _, Nat.zero_le _⟩ (Nat.le_of_ble_eq_true rfl) d_X4_dryPlaces_5 ?_
  refine z_lor cx d_X4_dryPlaces_8 ?_
  refine z_ldc2 cx wd_1007 d_X4_dryPlaces_9 ?_
  refine z_lxor cx d_X4_dryPlaces_12 ?_
  exact z_lret cx hr hF d_X4_dryPlaces_13
/-! SunnyPans$Pans.freePlaces -/
set_option maxRecDepth 100000 in
theorem wd_1011 : Cond.code yX4_saltPlaces cX4_saltPlaces 1 (some .long) ∈ tbG := tw4 191 rfl rfl
set_option maxRecDepth 100000 in
theorem wd_1155 : Cond.methodLink "SunnyPans$Pans" 63 yX4_saltPlaces ∈ tbG := tw5 95 rfl rfl
set_option maxRecDepth 100000 in
theorem wd_1009 : Cond.instanceMethod yX4_saltPlaces ∈ tbG := tw4 189 rfl rfl
set_option maxRecDepth 100000 in
theorem wd_1010 : Cond.selects "SunnyPans$Pans" yX4_saltPlaces yX4_saltPlaces ∈ tbG := tw4 190 rfl rfl
theorem cv_Pans_63 : zCV "SunnyPans$Pans" 63 "SunnyPans$Pans" yX4_saltPlaces cX4_saltPlaces 1 (some .long) 0 := zCV_of wd_1155 wd_1009 wd_1010 wd_104 wd_1011 (by decide +kernel)
theorem d_X4_freePlaces_0 : decode cX4_freePlaces 0 = .ok (.aload_n 0, 1) := by decide +kernel
theorem d_X4_freePlaces_1 : decode cX4_freePlaces 1 = .ok (.invokevirtual 54, 3) := by decide +kernel
theorem d_X4_freePlaces_4 : decode cX4_freePlaces 4 = .ok (.aload_n 0, 1) := by decide +kernel
theorem d_X4_freePlaces_5 : decode cX4_freePlaces 5 = .ok (.invokevirtual 63, 3) := by decide +kernel
theorem d_X4_freePlaces_8 : decode cX4_freePlaces 8 = .ok (.lor, 1) := by decide +kernel
theorem d_X4_freePlaces_9 : decode cX4_freePlaces 9 = .ok (.aload_n 0, 1) := by decide +kernel
theorem d_X4_freePlaces_10 : decode cX4_freePlaces 10 = .ok (.invokevirtual 58, 3) := by decide +kernel
theorem d_X4_freePlaces_13 : decode cX4_freePlaces 13 = .ok (.lor, 1) := by decide +kernel
theorem d_X4_freePlaces_14 : decode cX4_freePlaces 14 = .ok (.ldc2_w 61, 3) := by decide +kernel
theorem d_X4_freePlaces_17 : decode cX4_freePlaces 17 = .ok (.lxor, 1) := by decide +kernel
theorem d_X4_freePlaces_18 : decode cX4_freePlaces 18 = .ok (.lreturn, 1) := by decide +kernel
noncomputable def F_X4_freePlaces (M : zMem) (t : Nat) : Option (Int64 × zMem) :=
  zb (F_X4_brinePlaces M t) fun v2 M1 =>
  zb (F_X4_saltPlaces M1 t) fun v4 M3 =>
  zb (F_X4_heapPlaces M3 t) fun v6 M5 =>
  some ((((v2 ||| v4) ||| v6) ^^^ (-1 : Int64)), M5)
def rm_X4_freePlaces : Room := { frames := 5, cells := 0, slots := 0, locals := 143 }
set_option maxHeartbeats 4000000 in
set_option maxRecDepth 100000 in
theorem c_X4_freePlaces (l : Launch) {G : zG} {ad : Nat → Nat} {n : Nat} (hA : zInj ad n) (M : zMem) (t : Nat) (hT_t : zT shX n t 5) {r9 : Int64} {M9 : zMem} (hF : F_X4_freePlaces M t = some (r9, M9)) : zM l yX4_freePlaces cX4_freePlaces 1 (some .long) rm_X4_freePlaces G shX ad n M [.ref (ad t)] (some (.long r9)) M9 := by
  refine zM_of hA (by decide +kernel) (lv := [(0, .ref (ad t))]) (Nat.le_of_ble_eq_true rfl) rfl (fun p e s m args below meth c A cx hr => ?_)
  unfold F_X4_freePlaces at hF
  refine z_aload_n cx d_X4_freePlaces_0 0 rfl ?_
  obtain ⟨v2, M1, hc, hF⟩ := zb_inv hF
  refine z_callV cx (As := []) (rest := []) (c_X4_brinePlaces l cx.2.2.2.1.1 M t hT_t hc) hT_t zo_5 cv_Pans_54 ⟨rfl, rfl, Nat.le_of_ble_eq_true rfl, Nat.le_of_ble_eq_true rfl⟩ rfl rfl ⟨Nat.zero_le _, Nat.zero_le _⟩ (Nat.le_of_ble_eq_true rfl) d_X4_freePlaces_1 ?_
  refine z_aload_n cx d_X4_freePlaces_4 0 rfl ?_
  obtain ⟨v4, M3, hc, hF⟩ := zb_inv hF
  refine z_callV cx (As := []) (rest := [.long v2]) (c_X4_saltPlaces l cx.2.2.2.1.1 M1 t hT_t hc) hT_t zo_5 cv_Pans_63 ⟨rfl, rfl, Nat.le_of_ble_eq_true rfl, Nat.le_of_ble_eq_true rfl⟩ rfl rfl ⟨Nat.zero_le _, Nat.zero_le _⟩ (Nat.le_of_ble_eq_true rfl) d_X4_freePlaces_5 ?_
  refine z_lor cx d_X4_freePlaces_8 ?_
  refine z_aload_n cx d_X4_freePlaces_9 0 rfl ?_
  obtain ⟨v6, M5, hc, hF⟩ := zb_inv hF
  refine z_callV cx (As := []) (rest := [.long (v2 ||| v4)]) (c_X4_heapPlaces l cx.2.2.2.1.1 M3 t hT_t hc) hT_t zo_5 cv_Pans_58 ⟨rfl, rfl, Nat.le_of_ble_eq_true rfl, Nat.le_of_ble_eq_true rfl⟩ rfl rfl ⟨Nat.zero_le _, Nat.zero_le _⟩ (Nat.le_of_ble_eq_true rfl) d_X4_freePlaces_10 ?_
  refine z_lor cx d_X4_freePlaces_13 ?_
  refine z_ldc2 cx wd_1007 d_X4_freePlaces_14 ?_
  refine z_lxor cx d_X4_freePlaces_17 ?_
  exact z_lret cx hr hF d_X4_freePlaces_18
/-! SunnyPans$Pans.canPour -/
theorem d_X4_canPour_0 : decode cX4_canPour 0 = .ok (.aload_n 0, 1) := by decide +kernel
theorem d_X4_canPour_1 : decode cX4_canPour 1 = .ok (.getfield 18, 3) := by decide +kernel
theorem d_X4_canPour_4 : decode cX4_canPour 4 = .ok (.iload_n 1, 1) := by decide +kernel
theorem d_X4_canPour_5 : decode cX4_canPour 5 = .ok (.iaload, 1) := by decide +kernel
theorem d_X4_canPour_6 : decode cX4_canPour 6 = .ok (.ifCond .ne 38, 3) := by decide +kernel
theorem d_X4_canPour_9 : decode cX4_canPour 9 = .ok (.aload_n 0, 1) := by decide +kernel
theorem d_X4_canPour_10 : decode cX4_canPour 10 = .ok (.getfield 9, 3) := by decide +kernel
theorem d_X4_canPour_13 : decode cX4_canPour 13 = .ok (.iload_n 1, 1) := by decide +kernel
theorem d_X4_canPour_14 : decode cX4_canPour 14 = .ok (.iaload, 1) := by decide +kernel
theorem d_X4_canPour_15 : decode cX4_canPour 15 = .ok (.iload_n 2, 1) := by decide +kernel
theorem d_X4_canPour_16 : decode cX4_canPour 16 = .ok (.iadd, 1) := by decide +kernel
theorem d_X4_canPour_17 : decode cX4_canPour 17 = .ok (.sipush 9999, 3) := by decide +kernel
theorem d_X4_canPour_20 : decode cX4_canPour 20 = .ok (.if_icmp .gt 24, 3) := by decide +kernel
theorem d_X4_canPour_23 : decode cX4_canPour 23 = .ok (.aload_n 0, 1) := by decide +kernel
theorem d_X4_canPour_24 : decode cX4_canPour 24 = .ok (.getfield 15, 3) := by decide +kernel
theorem d_X4_canPour_27 : decode cX4_canPour 27 = .ok (.iload_n 1, 1) := by decide +kernel
theorem d_X4_canPour_28 : decode cX4_canPour 28 = .ok (.iaload, 1) := by decide +kernel
theorem d_X4_canPour_29 : decode cX4_canPour 29 = .ok (.iload_n 2, 1) := by decide +kernel
theorem d_X4_canPour_30 : decode cX4_canPour 30 = .ok (.bipush 8, 2) := by decide +kernel
theorem d_X4_canPour_32 : decode cX4_canPour 32 = .ok (.idiv, 1) := by decide +kernel
theorem d_X4_canPour_33 : decode cX4_canPour 33 = .ok (.iadd, 1) := by decide +kernel
theorem d_X4_canPour_34 : decode cX4_canPour 34 = .ok (.sipush 9999, 3) := by decide +kernel
theorem d_X4_canPour_37 : decode cX4_canPour 37 = .ok (.if_icmp .gt 7, 3) := by decide +kernel
theorem d_X4_canPour_40 : decode cX4_canPour 40 = .ok (.iconst 1, 1) := by decide +kernel
theorem d_X4_canPour_41 : decode cX4_canPour 41 = .ok (.goto 4, 3) := by decide +kernel
theorem d_X4_canPour_44 : decode cX4_canPour 44 = .ok (.iconst 0, 1) := by decide +kernel
theorem d_X4_canPour_45 : decode cX4_canPour 45 = .ok (.ireturn, 1) := by decide +kernel
noncomputable def F_X4_canPour (M : zMem) (t : Nat) (p0 : Int32) (p1 : Int32) : Option (Int32 × zMem) :=
  gin p0 64 <|
  if (M.1 (t + 3) p0.toNatClampNeg) = 0 then
    if (9999 : Int32) < ((M.1 (t + 1) p0.toNatClampNeg) + p1) then
      some ((0 : Int32), M)
    else
      if (9999 : Int32) < ((M.1 (t + 2) p0.toNatClampNeg) + (p1 / (8 : Int32))) then
        some ((0 : Int32), M)
      else
        some ((1 : Int32), M)
  else
    some ((0 : Int32), M)
def rm_X4_canPour : Room := { frames := 2, cells := 0, slots := 0, locals := 80 }
set_option maxHeartbeats 4000000 in
set_option maxRecDepth 100000 in
theorem c_X4_canPour (l : Launch) {G : zG} {ad : Nat → Nat} {n : Nat} (hA : zInj ad n) (M : zMem) (t : Nat) (p0 : Int32) (p1 : Int32) (hT_t : zT shX n t 5) {r9 : Int32} {M9 : zMem} (hF : F_X4_canPour M t p0 p1 = some (r9, M9)) : zM l yX4_canPour cX4_canPour 3 (some .boolean) rm_X4_canPour G shX ad n M [.ref (ad t), .int p0, .int p1] (some (.int r9)) M9 := by
  refine zM_of hA (by decide +kernel) (lv := [(0, .ref (ad t)), (1, .int p0), (2, .int p1)]) (Nat.le_of_ble_eq_true rfl) rfl (fun p e s m args below meth c A cx hr => ?_)
  unfold F_X4_canPour at hF
  refine z_aload_n cx d_X4_canPour_0 0 rfl ?_
  refine z_getR cx hT_t fg_Pans_18 (t + 3) rfl d_X4_canPour_1 ?_
  refine z_iload_n cx d_X4_canPour_4 1 rfl ?_
  obtain ⟨hi1, hF⟩ := gin_inv hF
  refine z_iald cx (tfX_5_3 hT_t) za_16 hi1 p0.toNatClampNeg rfl d_X4_canPour_5 ?_
  refine z_if_ne cx 44 d_X4_canPour_6 (by decide) hF (fun hF => ?_) (fun hF => ?_)
  · refine z_iconst (v := 0) cx d_X4_canPour_44 ki_0 ?_
    exact z_iret cx hr nb0 hF d_X4_canPour_45
  refine z_aload_n cx d_X4_canPour_9 0 rfl ?_
  refine z_getR cx hT_t fg_Pans_9 (t + 1) rfl d_X4_canPour_10 ?_
  refine z_iload_n cx d_X4_canPour_13 1 rfl ?_
  refine z_iald cx (tfX_5_1 hT_t) za_16 hi1 p0.toNatClampNeg rfl d_X4_canPour_14 ?_
  refine z_iload_n cx d_X4_canPour_15 2 rfl ?_
  refine z_iadd cx d_X4_canPour_16 ?_
  refine z_sipush (v := 9999) cx d_X4_canPour_17 ks_9999 ?_
  refine z_icmp_gt cx 44 d_X4_canPour_20 (by decide) hF (fun hF => ?_) (fun hF => ?_)
  · refine z_iconst (v := 0) cx d_X4_canPour_44 ki_0 ?_
    exact z_iret cx hr nb0 hF d_X4_canPour_45
  refine z_aload_n cx d_X4_canPour_23 0 rfl ?_
  refine z_getR cx hT_t fg_Pans_15 (t + 2) rfl d_X4_canPour_24 ?_
  refine z_iload_n cx d_X4_canPour_27 1 rfl ?_
  refine z_iald cx (tfX_5_2 hT_t) za_16 hi1 p0.toNatClampNeg rfl d_X4_canPour_28 ?_
  refine z_iload_n cx d_X4_canPour_29 2 rfl ?_
  refine z_bipush (v := 8) cx d_X4_canPour_30 kb_8 ?_
  refine z_idiv cx d_X4_canPour_32 (by decide) ?_
  refine z_iadd cx d_X4_canPour_33 ?_
  refine z_sipush (v := 9999) cx d_X4_canPour_34 ks_9999 ?_
  refine z_icmp_gt cx 44 d_X4_canPour_37 (by decide) hF (fun hF => ?_) (fun hF => ?_)
  · refine z_iconst (v := 0) cx d_X4_canPour_44 ki_0 ?_
    exact z_iret cx hr nb0 hF d_X4_canPour_45
  refine z_iconst (v := 1) cx d_X4_canPour_40 ki_1 ?_
  refine z_goto cx 45 d_X4_canPour_41 (by decide) ?_
  exact z_iret cx hr nb1 hF d_X4_canPour_45
/-! SunnyPans$Pans.pour -/
set_option maxRecDepth 100000 in
theorem wd_908 : Cond.code yX4_canPour cX4_canPour 3 (some .boolean) ∈ tbG := tw4 88 rfl rfl
set_option maxRecDepth 100000 in
theorem wd_905 : Cond.methodLink "SunnyPans$Pans" 66 yX4_canPour ∈ tbG := tw4 85 rfl rfl
set_option maxRecDepth 100000 in
theorem wd_906 : Cond.instanceMethod yX4_canPour ∈ tbG := tw4 86 rfl rfl
set_option maxRecDepth 100000 in
theorem wd_907 : Cond.selects "SunnyPans$Pans" yX4_canPour yX4_canPour ∈ tbG := tw4 87 rfl rfl
theorem cv_Pans_66 : zCV "SunnyPans$Pans" 66 "SunnyPans$Pans" yX4_canPour cX4_canPour 3 (some .boolean) 2 := zCV_of wd_905 wd_906 wd_907 wd_104 wd_908 (by decide +kernel)
theorem d_X4_pour_0 : decode cX4_pour 0 = .ok (.aload_n 0, 1) := by decide +kernel
theorem d_X4_pour_1 : decode cX4_pour 1 = .ok (.iload_n 1, 1) := by decide +kernel
theorem d_X4_pour_2 : decode cX4_pour 2 = .ok (.iload_n 2, 1) := by decide +kernel
theorem d_X4_pour_3 : decode cX4_pour 3 = .ok (.invokevirtual 66, 3) := by decide +kernel
theorem d_X4_pour_6 : decode cX4_pour 6 = .ok (.ifCond .ne 5, 3) := by decide +kernel
theorem d_X4_pour_9 : decode cX4_pour 9 = .ok (.iconst 0, 1) := by decide +kernel
theorem d_X4_pour_10 : decode cX4_pour 10 = .ok (.ireturn, 1) := by decide +kernel
theorem d_X4_pour_11 : decode cX4_pour 11 = .ok (.aload_n 0, 1) := by decide +kernel
theorem d_X4_pour_12 : decode cX4_pour 12 = .ok (.getfield 9, 3) := by decide +kernel
theorem d_X4_pour_15 : decode cX4_pour 15 = .ok (.iload_n 1, 1) := by decide +kernel
theorem d_X4_pour_16 : decode cX4_pour 16 = .ok (.dup2, 1) := by decide +kernel
theorem d_X4_pour_17 : decode cX4_pour 17 = .ok (.iaload, 1) := by decide +kernel
theorem d_X4_pour_18 : decode cX4_pour 18 = .ok (.iload_n 2, 1) := by decide +kernel
theorem d_X4_pour_19 : decode cX4_pour 19 = .ok (.iadd, 1) := by decide +kernel
theorem d_X4_pour_20 : decode cX4_pour 20 = .ok (.iastore, 1) := by decide +kernel
theorem d_X4_pour_21 : decode cX4_pour 21 = .ok (.aload_n 0, 1) := by decide +kernel
theorem d_X4_pour_22 : decode cX4_pour 22 = .ok (.getfield 15, 3) := by decide +kernel
theorem d_X4_pour_25 : decode cX4_pour 25 = .ok (.iload_n 1, 1) := by decide +kernel
theorem d_X4_pour_26 : decode cX4_pour 26 = .ok (.dup2, 1) := by decide +kernel
theorem d_X4_pour_27 : decode cX4_pour 27 = .ok (.iaload, 1) := by decide +kernel
theorem d_X4_pour_28 : decode cX4_pour 28 = .ok (.iload_n 2, 1) := by decide +kernel
theorem d_X4_pour_29 : decode cX4_pour 29 = .ok (.bipush 8, 2) := by decide +kernel
theorem d_X4_pour_31 : decode cX4_pour 31 = .ok (.idiv, 1) := by decide +kernel
theorem d_X4_pour_32 : decode cX4_pour 32 = .ok (.iadd, 1) := by decide +kernel
theorem d_X4_pour_33 : decode cX4_pour 33 = .ok (.iastore, 1) := by decide +kernel
theorem d_X4_pour_34 : decode cX4_pour 34 = .ok (.iconst 1, 1) := by decide +kernel
theorem d_X4_pour_35 : decode cX4_pour 35 = .ok (.ireturn, 1) := by decide +kernel
noncomputable def F_X4_pour (M : zMem) (t : Nat) (p0 : Int32) (p1 : Int32) : Option (Int32 × zMem) :=
  zb (F_X4_canPour M t p0 p1) fun v2 M1 =>
  if v2 = 0 then
    some ((0 : Int32), M1)
  else
    gin p0 64 <|
    zl (zI M1 (t + 1) p0.toNatClampNeg ((M1.1 (t + 1) p0.toNatClampNeg) + p1)) fun M4 =>
    zl (zI M4 (t + 2) p0.toNatClampNeg ((M4.1 (t + 2) p0.toNatClampNeg) + (p1 / (8 : Int32)))) fun M5 =>
    some ((1 : Int32), M5)
def rm_X4_pour : Room := { frames := 3, cells := 0, slots := 0, locals := 102 }
set_option maxHeartbeats 4000000 in
set_option maxRecDepth 100000 in
theorem c_X4_pour (l : Launch) {G : zG} {ad : Nat → Nat} {n : Nat} (hA : zInj ad n) (M : zMem) (t : Nat) (p0 : Int32) (p1 : Int32) (hT_t : zT shX n t 5) {r9 : Int32} {M9 : zMem} (hF : F_X4_pour M t p0 p1 = some (r9, M9)) : zM l yX4_pour cX4_pour 3 (some .boolean) rm_X4_pour G shX ad n M [.ref (ad t), .int p0, .int p1] (some (.int r9)) M9 := by
  refine zM_of hA (by decide +kernel) (lv := [(0, .ref (ad t)), (1, .int p0), (2, .int p1)]) (Nat.le_of_ble_eq_true rfl) rfl (fun p e s m args below meth c A cx hr => ?_)
  unfold F_X4_pour at hF
  refine z_aload_n cx d_X4_pour_0 0 rfl ?_
  refine z_iload_n cx d_X4_pour_1 1 rfl ?_
  refine z_iload_n cx d_X4_pour_2 2 rfl ?_
  obtain ⟨v2, M1, hc, hF⟩ := zb_inv hF
  refine z_callV cx (As := [.int p0, .int p1]) (rest := []) (c_X4_canPour l cx.2.2.2.1.1 M t p0 p1 hT_t hc) hT_t zo_5 cv_Pans_66 ⟨rfl, rfl, Nat.le_of_ble_eq_true rfl, Nat.le_of_ble_eq_true rfl⟩ rfl rfl ⟨Nat.zero_le _, Nat.zero_le _⟩ (Nat.le_of_ble_eq_true rfl) d_X4_pour_3 ?_
  refine z_if_ne cx 11 d_X4_pour_6 (by decide) hF (fun hF => ?_) (fun hF => ?_)
  · refine z_aload_n cx d_X4_pour_11 0 rfl ?_
    refine z_getR cx hT_t fg_Pans_9 (t + 1) rfl d_X4_pour_12 ?_
    refine z_iload_n cx d_X4_pour_15 1 rfl ?_
    refine z_dup2 cx d_X4_pour_16 rfl rfl ?_
    obtain ⟨hi3, hF⟩ := gin_inv hF
    refine z_iald cx (tfX_5_1 hT_t) za_16 hi3 p0.toNatClampNeg rfl d_X4_pour_17 ?_
    refine z_iload_n cx d_X4_pour_18 2 rfl ?_
    refine z_iadd cx d_X4_pour_19 ?_
    refine z_iast cx (tfX_5_1 hT_t) za_16 hi3 p0.toNatClampNeg rfl d_X4_pour_20 ?_
    refine z_nmM hF (fun M4 hF => ?_)
    refine z_aload_n cx d_X4_pour_21 0 rfl ?_
    refine z_getR cx hT_t fg_Pans_15 (t + 2) rfl d_X4_pour_22 ?_
    refine z_iload_n cx d_X4_pour_25 1 rfl ?_
    refine z_dup2 cx d_X4_pour_26 rfl rfl ?_
    refine z_iald cx (tfX_5_2 hT_t) za_16 hi3 p0.toNatClampNeg rfl d_X4_pour_27 ?_
    refine z_iload_n cx d_X4_pour_28 2 rfl ?_
    refine z_bipush (v := 8) cx d_X4_pour_29 kb_8 ?_
    refine z_idiv cx d_X4_pour_31 (by decide) ?_
    refine z_iadd cx d_X4_pour_32 ?_
    refine z_iast cx (tfX_5_2 hT_t) za_16 hi3 p0.toNatClampNeg rfl d_X4_pour_33 ?_
    refine z_nmM hF (fun M5 hF => ?_)
    refine z_iconst (v := 1) cx d_X4_pour_34 ki_1 ?_
    exact z_iret cx hr nb1 hF d_X4_pour_35
  refine z_iconst (v := 0) cx d_X4_pour_9 ki_0 ?_
  exact z_iret cx hr nb0 hF d_X4_pour_10
/-! SunnyPans$Pans.canScrape -/
theorem d_X4_canScrape_0 : decode cX4_canScrape 0 = .ok (.iload_n 1, 1) := by decide +kernel
theorem d_X4_canScrape_1 : decode cX4_canScrape 1 = .ok (.iload_n 2, 1) := by decide +kernel
theorem d_X4_canScrape_2 : decode cX4_canScrape 2 = .ok (.if_icmp .eq 71, 3) := by decide +kernel
theorem d_X4_canScrape_5 : decode cX4_canScrape 5 = .ok (.aload_n 0, 1) := by decide +kernel
theorem d_X4_canScrape_6 : decode cX4_canScrape 6 = .ok (.getfield 9, 3) := by decide +kernel
theorem d_X4_canScrape_9 : decode cX4_canScrape 9 = .ok (.iload_n 1, 1) := by decide +kernel
theorem d_X4_canScrape_10 : decode cX4_canScrape 10 = .ok (.iaload, 1) := by decide +kernel
theorem d_X4_canScrape_11 : decode cX4_canScrape 11 = .ok (.ifCond .ne 62, 3) := by decide +kernel
theorem d_X4_canScrape_14 : decode cX4_canScrape 14 = .ok (.aload_n 0, 1) := by decide +kernel
theorem d_X4_canScrape_15 : decode cX4_canScrape 15 = .ok (.getfield 18, 3) := by decide +kernel
theorem d_X4_canScrape_18 : decode cX4_canScrape 18 = .ok (.iload_n 1, 1) := by decide +kernel
theorem d_X4_canScrape_19 : decode cX4_canScrape 19 = .ok (.iaload, 1) := by decide +kernel
theorem d_X4_canScrape_20 : decode cX4_canScrape 20 = .ok (.ifCond .ne 53, 3) := by decide +kernel
theorem d_X4_canScrape_23 : decode cX4_canScrape 23 = .ok (.aload_n 0, 1) := by decide +kernel
theorem d_X4_canScrape_24 : decode cX4_canScrape 24 = .ok (.getfield 15, 3) := by decide +kernel
theorem d_X4_canScrape_27 : decode cX4_canScrape 27 = .ok (.iload_n 1, 1) := by decide +kernel
theorem d_X4_canScrape_28 : decode cX4_canScrape 28 = .ok (.iaload, 1) := by decide +kernel
theorem d_X4_canScrape_29 : decode cX4_canScrape 29 = .ok (.ifCond .le 44, 3) := by decide +kernel
theorem d_X4_canScrape_32 : decode cX4_canScrape 32 = .ok (.aload_n 0, 1) := by decide +kernel
theorem d_X4_canScrape_33 : decode cX4_canScrape 33 = .ok (.getfield 9, 3) := by decide +kernel
theorem d_X4_canScrape_36 : decode cX4_canScrape 36 = .ok (.iload_n 2, 1) := by decide +kernel
theorem d_X4_canScrape_37 : decode cX4_canScrape 37 = .ok (.iaload, 1) := by decide +kernel
theorem d_X4_canScrape_38 : decode cX4_canScrape 38 = .ok (.ifCond .ne 35, 3) := by decide +kernel
theorem d_X4_canScrape_41 : decode cX4_canScrape 41 = .ok (.aload_n 0, 1) := by decide +kernel
theorem d_X4_canScrape_42 : decode cX4_canScrape 42 = .ok (.getfield 15, 3) := by decide +kernel
theorem d_X4_canScrape_45 : decode cX4_canScrape 45 = .ok (.iload_n 2, 1) := by decide +kernel
theorem d_X4_canScrape_46 : decode cX4_canScrape 46 = .ok (.iaload, 1) := by decide +kernel
theorem d_X4_canScrape_47 : decode cX4_canScrape 47 = .ok (.ifCond .ne 26, 3) := by decide +kernel
theorem d_X4_canScrape_50 : decode cX4_canScrape 50 = .ok (.aload_n 0, 1) := by decide +kernel
theorem d_X4_canScrape_51 : decode cX4_canScrape 51 = .ok (.getfield 18, 3) := by decide +kernel
theorem d_X4_canScrape_54 : decode cX4_canScrape 54 = .ok (.iload_n 2, 1) := by decide +kernel
theorem d_X4_canScrape_55 : decode cX4_canScrape 55 = .ok (.iaload, 1) := by decide +kernel
theorem d_X4_canScrape_56 : decode cX4_canScrape 56 = .ok (.aload_n 0, 1) := by decide +kernel
theorem d_X4_canScrape_57 : decode cX4_canScrape 57 = .ok (.getfield 15, 3) := by decide +kernel
theorem d_X4_canScrape_60 : decode cX4_canScrape 60 = .ok (.iload_n 1, 1) := by decide +kernel
theorem d_X4_canScrape_61 : decode cX4_canScrape 61 = .ok (.iaload, 1) := by decide +kernel
theorem d_X4_canScrape_62 : decode cX4_canScrape 62 = .ok (.iadd, 1) := by decide +kernel
theorem d_X4_canScrape_63 : decode cX4_canScrape 63 = .ok (.sipush 9999, 3) := by decide +kernel
theorem d_X4_canScrape_66 : decode cX4_canScrape 66 = .ok (.if_icmp .gt 7, 3) := by decide +kernel
theorem d_X4_canScrape_69 : decode cX4_canScrape 69 = .ok (.iconst 1, 1) := by decide +kernel
theorem d_X4_canScrape_70 : decode cX4_canScrape 70 = .ok (.goto 4, 3) := by decide +kernel
theorem d_X4_canScrape_73 : decode cX4_canScrape 73 = .ok (.iconst 0, 1) := by decide +kernel
theorem d_X4_canScrape_74 : decode cX4_canScrape 74 = .ok (.ireturn, 1) := by decide +kernel
noncomputable def F_X4_canScrape (M : zMem) (t : Nat) (p0 : Int32) (p1 : Int32) : Option (Int32 × zMem) :=
  if p0 = p1 then
    some ((0 : Int32), M)
  else
    gin p0 64 <|
    if (M.1 (t + 1) p0.toNatClampNeg) = 0 then
      if (M.1 (t + 3) p0.toNatClampNeg) = 0 then
        if (M.1 (t + 2) p0.toNatClampNeg) ≤ 0 then
          some ((0 : Int32), M)
        else
          gin p1 64 <|
          if (M.1 (t + 1) p1.toNatClampNeg) = 0 then
            if (M.1 (t + 2) p1.toNatClampNeg) = 0 then
              if (9999 : Int32) < ((M.1 (t + 3) p1.toNatClampNeg) + (M.1 (t + 2) p0.toNatClampNeg)) then
                some ((0 : Int32), M)
              else
                some ((1 : Int32), M)
            else
              some ((0 : Int32), M)
          else
            some ((0 : Int32), M)
      else
        some ((0 : Int32), M)
    else
      some ((0 : Int32), M)
def rm_X4_canScrape : Room := { frames := 2, cells := 0, slots := 0, locals := 80 }
set_option maxHeartbeats 4000000 in
set_option maxRecDepth 100000 in
theorem c_X4_canScrape (l : Launch) {G : zG} {ad : Nat → Nat} {n : Nat} (hA : zInj ad n) (M : zMem) (t : Nat) (p0 : Int32) (p1 : Int32) (hT_t : zT shX n t 5) {r9 : Int32} {M9 : zMem} (hF : F_X4_canScrape M t p0 p1 = some (r9, M9)) : zM l yX4_canScrape cX4_canScrape 3 (some .boolean) rm_X4_canScrape G shX ad n M [.ref (ad t), .int p0, .int p1] (some (.int r9)) M9 := by
  refine zM_of hA (by decide +kernel) (lv := [(0, .ref (ad t)), (1, .int p0), (2, .int p1)]) (Nat.le_of_ble_eq_true rfl) rfl (fun p e s m args below meth c A cx hr => ?_)
  unfold F_X4_canScrape at hF
  refine z_iload_n cx d_X4_canScrape_0 1 rfl ?_
  refine z_iload_n cx d_X4_canScrape_1 2 rfl ?_
  refine z_icmp_eq cx 73 d_X4_canScrape_2 (by decide) hF (fun hF => ?_) (fun hF => ?_)
  · refine z_iconst (v := 0) cx d_X4_canScrape_73 ki_0 ?_
    exact z_iret cx hr nb0 hF d_X4_canScrape_74
  refine z_aload_n cx d_X4_canScrape_5 0 rfl ?_
  refine z_getR cx hT_t fg_Pans_9 (t + 1) rfl d_X4_canScrape_6 ?_
  refine z_iload_n cx d_X4_canScrape_9 1 rfl ?_
  obtain ⟨hi1, hF⟩ := gin_inv hF
  refine z_iald cx (tfX_5_1 hT_t) za_16 hi1 p0.toNatClampNeg rfl d_X4_canScrape_10 ?_
  refine z_if_ne cx 73 d_X4_canScrape_11 (by decide) hF (fun hF => ?_) (fun hF => ?_)
  · refine z_iconst (v := 0) cx d_X4_canScrape_73 ki_0 ?_
    exact z_iret cx hr nb0 hF d_X4_canScrape_74
  refine z_aload_n cx d_X4_canScrape_14 0 rfl ?_
  refine z_getR cx hT_t fg_Pans_18 (t + 3) rfl d_X4_canScrape_15 ?_
  refine z_iload_n cx d_X4_canScrape_18 1 rfl ?_
  refine z_iald cx (tfX_5_3 hT_t) za_16 hi1 p0.toNatClampNeg rfl d_X4_canScrape_19 ?_
  refine z_if_ne cx 73 d_X4_canScrape_20 (by decide) hF (fun hF => ?_) (fun hF => ?_)
  · refine z_iconst (v := 0) cx d_X4_canScrape_73 ki_0 ?_
    exact z_iret cx hr nb0 hF d_X4_canScrape_74
  refine z_aload_n cx d_X4_canScrape_23 0 rfl ?_
  refine z_getR cx hT_t fg_Pans_15 (t + 2) rfl d_X4_canScrape_24 ?_
  refine z_iload_n cx d_X4_canScrape_27 1 rfl ?_
  refine z_iald cx (tfX_5_2 hT_t) za_16 hi1 p0.toNatClampNeg rfl d_X4_canScrape_28 ?_
  refine z_if_le cx 73 d_X4_canScrape_29 (by decide) hF (fun hF => ?_) (fun hF => ?_)
  · refine z_iconst (v := 0) cx d_X4_canScrape_73 ki_0 ?_
    exact z_iret cx hr nb0 hF d_X4_canScrape_74
  refine z_aload_n cx d_X4_canScrape_32 0 rfl ?_
  refine z_getR cx hT_t fg_Pans_9 (t + 1) rfl d_X4_canScrape_33 ?_
  refine z_iload_n cx d_X4_canScrape_36 2 rfl ?_
  obtain ⟨hi2, hF⟩ := gin_inv hF
  refine z_iald cx (tfX_5_1 hT_t) za_16 hi2 p1.toNatClampNeg rfl d_X4_canScrape_37 ?_
  refine z_if_ne cx 73 d_X4_canScrape_38 (by decide) hF (fun hF => ?_) (fun hF => ?_)
  · refine z_iconst (v := 0) cx d_X4_canScrape_73 ki_0 ?_
    exact z_iret cx hr nb0 hF d_X4_canScrape_74
  refine z_aload_n cx d_X4_canScrape_41 0 rfl ?_
  refine z_getR cx hT_t fg_Pans_15 (t + 2) rfl d_X4_canScrape_42 ?_
  refine z_iload_n cx d_X4_canScrape_45 2 rfl ?_
  refine z_iald cx (tfX_5_2 hT_t) za_16 hi2 p1.toNatClampNeg rfl d_X4_canScrape_46 ?_
  refine z_if_ne cx 73 d_X4_canScrape_47 (by decide) hF (fun hF => ?_) (fun hF => ?_)
  · refine z_iconst (v := 0) cx d_X4_canScrape_73 ki_0 ?_
    exact z_iret cx hr nb0 hF d_X4_canScrape_74
  refine z_aload_n cx d_X4_canScrape_50 0 rfl ?_
  refine z_getR cx hT_t fg_Pans_18 (t + 3) rfl d_X4_canScrape_51 ?_
  refine z_iload_n cx d_X4_canScrape_54 2 rfl ?_
  refine z_iald cx (tfX_5_3 hT_t) za_16 hi2 p1.toNatClampNeg rfl d_X4_canScrape_55 ?_
  refine z_aload_n cx d_X4_canScrape_56 0 rfl ?_
  refine z_getR cx hT_t fg_Pans_15 (t + 2) rfl d_X4_canScrape_57 ?_
  refine z_iload_n cx d_X4_canScrape_60 1 rfl ?_
  refine z_iald cx (tfX_5_2 hT_t) za_16 hi1 p0.toNatClampNeg rfl d_X4_canScrape_61 ?_
  refine z_iadd cx d_X4_canScrape_62 ?_
  refine z_sipush (v := 9999) cx d_X4_canScrape_63 ks_9999 ?_
  refine z_icmp_gt cx 73 d_X4_canScrape_66 (by decide) hF (fun hF => ?_) (fun hF => ?_)
  · refine z_iconst (v := 0) cx d_X4_canScrape_73 ki_0 ?_
    exact z_iret cx hr nb0 hF d_X4_canScrape_74
  refine z_iconst (v := 1) cx d_X4_canScrape_69 ki_1 ?_
  refine z_goto cx 74 d_X4_canScrape_70 (by decide) ?_
  exact z_iret cx hr nb1 hF d_X4_canScrape_74
/-! SunnyPans$Pans.scrape -/
set_option maxRecDepth 100000 in
theorem wd_916 : Cond.code yX4_canScrape cX4_canScrape 3 (some .boolean) ∈ tbG := tw4 96 rfl rfl
set_option maxRecDepth 100000 in
theorem wd_913 : Cond.methodLink "SunnyPans$Pans" 70 yX4_canScrape ∈ tbG := tw4 93 rfl rfl
set_option maxRecDepth 100000 in
theorem wd_914 : Cond.instanceMethod yX4_canScrape ∈ tbG := tw4 94 rfl rfl
set_option maxRecDepth 100000 in
theorem wd_915 : Cond.selects "SunnyPans$Pans" yX4_canScrape yX4_canScrape ∈ tbG := tw4 95 rfl rfl
theorem cv_Pans_70 : zCV "SunnyPans$Pans" 70 "SunnyPans$Pans" yX4_canScrape cX4_canScrape 3 (some .boolean) 2 := zCV_of wd_913 wd_914 wd_915 wd_104 wd_916 (by decide +kernel)
theorem d_X4_scrape_0 : decode cX4_scrape 0 = .ok (.aload_n 0, 1) := by decide +kernel
theorem d_X4_scrape_1 : decode cX4_scrape 1 = .ok (.iload_n 2, 1) := by decide +kernel
theorem d_X4_scrape_2 : decode cX4_scrape 2 = .ok (.iload_n 3, 1) := by decide +kernel
theorem d_X4_scrape_3 : decode cX4_scrape 3 = .ok (.invokevirtual 70, 3) := by decide +kernel
theorem d_X4_scrape_6 : decode cX4_scrape 6 = .ok (.ifCond .ne 5, 3) := by decide +kernel
theorem d_X4_scrape_9 : decode cX4_scrape 9 = .ok (.iconst 0, 1) := by decide +kernel
theorem d_X4_scrape_10 : decode cX4_scrape 10 = .ok (.ireturn, 1) := by decide +kernel
theorem d_X4_scrape_11 : decode cX4_scrape 11 = .ok (.aload_n 0, 1) := by decide +kernel
theorem d_X4_scrape_12 : decode cX4_scrape 12 = .ok (.getfield 18, 3) := by decide +kernel
theorem d_X4_scrape_15 : decode cX4_scrape 15 = .ok (.iload_n 3, 1) := by decide +kernel
theorem d_X4_scrape_16 : decode cX4_scrape 16 = .ok (.dup2, 1) := by decide +kernel
theorem d_X4_scrape_17 : decode cX4_scrape 17 = .ok (.iaload, 1) := by decide +kernel
theorem d_X4_scrape_18 : decode cX4_scrape 18 = .ok (.aload_n 0, 1) := by decide +kernel
theorem d_X4_scrape_19 : decode cX4_scrape 19 = .ok (.getfield 15, 3) := by decide +kernel
theorem d_X4_scrape_22 : decode cX4_scrape 22 = .ok (.iload_n 2, 1) := by decide +kernel
theorem d_X4_scrape_23 : decode cX4_scrape 23 = .ok (.iaload, 1) := by decide +kernel
theorem d_X4_scrape_24 : decode cX4_scrape 24 = .ok (.iadd, 1) := by decide +kernel
theorem d_X4_scrape_25 : decode cX4_scrape 25 = .ok (.iastore, 1) := by decide +kernel
theorem d_X4_scrape_26 : decode cX4_scrape 26 = .ok (.aload_n 0, 1) := by decide +kernel
theorem d_X4_scrape_27 : decode cX4_scrape 27 = .ok (.getfield 15, 3) := by decide +kernel
theorem d_X4_scrape_30 : decode cX4_scrape 30 = .ok (.iload_n 2, 1) := by decide +kernel
theorem d_X4_scrape_31 : decode cX4_scrape 31 = .ok (.iconst 0, 1) := by decide +kernel
theorem d_X4_scrape_32 : decode cX4_scrape 32 = .ok (.iastore, 1) := by decide +kernel
theorem d_X4_scrape_33 : decode cX4_scrape 33 = .ok (.aload_n 0, 1) := by decide +kernel
theorem d_X4_scrape_34 : decode cX4_scrape 34 = .ok (.aload_n 1, 1) := by decide +kernel
theorem d_X4_scrape_35 : decode cX4_scrape 35 = .ok (.invokevirtual 46, 3) := by decide +kernel
theorem d_X4_scrape_38 : decode cX4_scrape 38 = .ok (.iconst 1, 1) := by decide +kernel
theorem d_X4_scrape_39 : decode cX4_scrape 39 = .ok (.ireturn, 1) := by decide +kernel
noncomputable def F_X4_scrape (M : zMem) (t : Nat) (p0 : Nat) (p1 : Int32) (p2 : Int32) : Option (Int32 × zMem) :=
  zb (F_X4_canScrape M t p1 p2) fun v2 M1 =>
  if v2 = 0 then
    some ((0 : Int32), M1)
  else
    gin p2 64 <|
    gin p1 64 <|
    zl (zI M1 (t + 3) p2.toNatClampNeg ((M1.1 (t + 3) p2.toNatClampNeg) + (M1.1 (t + 2) p1.toNatClampNeg))) fun M5 =>
    zl (zI M5 (t + 2) p1.toNatClampNeg (0 : Int32)) fun M6 =>
    zbv (F_X4_learnShades M6 t p0) fun M7 =>
    some ((1 : Int32), M7)
def rm_X4_scrape : Room := { frames := 5, cells := 0, slots := 0, locals := 154 }
set_option maxHeartbeats 4000000 in
set_option maxRecDepth 100000 in
theorem c_X4_scrape (l : Launch) {G : zG} {ad : Nat → Nat} {n : Nat} (hA : zInj ad n) (M : zMem) (t : Nat) (p0 : Nat) (p1 : Int32) (p2 : Int32) (hT_t : zT shX n t 5) (hT_p0 : zT shX n p0 6) {r9 : Int32} {M9 : zMem} (hF : F_X4_scrape M t p0 p1 p2 = some (r9, M9)) : zM l yX4_scrape cX4_scrape 4 (some .boolean) rm_X4_scrape G shX ad n M [.ref (ad t), .ref (ad p0), .int p1, .int p2] (some (.int r9)) M9 := by
  refine zM_of hA (by decide +kernel) (lv := [(0, .ref (ad t)), (1, .ref (ad p0)), (2, .int p1), (3, .int p2)]) (Nat.le_of_ble_eq_true rfl) rfl (fun p e s m args below meth c A cx hr => ?_)
  unfold F_X4_scrape at hF
  refine z_aload_n cx d_X4_scrape_0 0 rfl ?_
  refine z_iload_n cx d_X4_scrape_1 2 rfl ?_
  refine z_iload_n cx d_X4_scrape_2 3 rfl ?_
  obtain ⟨v2, M1, hc, hF⟩ := zb_inv hF
  refine z_callV cx (As := [.int p1, .int p2]) (rest := []) (c_X4_canScrape l cx.2.2.2.1.1 M t p1 p2 hT_t hc) hT_t zo_5 cv_Pans_70 ⟨rfl, rfl, Nat.le_of_ble_eq_true rfl, Nat.le_of_ble_eq_true rfl⟩ rfl rfl ⟨Nat.zero_le _, Nat.zero_le _⟩ (Nat.le_of_ble_eq_true rfl) d_X4_scrape_3 ?_
  refine z_if_ne cx 11 d_X4_scrape_6 (by decide) hF (fun hF => ?_) (fun hF => ?_)
  · refine z_aload_n cx d_X4_scrape_11 0 rfl ?_
    refine z_getR cx hT_t fg_Pans_18 (t + 3) rfl d_X4_scrape_12 ?_
    refine z_iload_n cx d_X4_scrape_15 3 rfl ?_
    refine z_dup2 cx d_X4_scrape_16 rfl rfl ?_
    obtain ⟨hi3, hF⟩ := gin_inv hF
    refine z_iald cx (tfX_5_3 hT_t) za_16 hi3 p2.toNatClampNeg rfl d_X4_scrape_17 ?_
    refine z_aload_n cx d_X4_scrape_18 0 rfl ?_
    refine z_getR cx hT_t fg_Pans_15 (t + 2) rfl d_X4_scrape_19 ?_
    refine z_iload_n cx d_X4_scrape_22 2 rfl ?_
    obtain ⟨hi4, hF⟩ := gin_inv hF
    refine z_iald cx (tfX_5_2 hT_t) za_16 hi4 p1.toNatClampNeg rfl d_X4_scrape_23 ?_
    refine z_iadd cx d_X4_scrape_24 ?_
    refine z_iast cx (tfX_5_3 hT_t) za_16 hi3 p2.toNatClampNeg rfl d_X4_scrape_25 ?_
    refine z_nmM hF (fun M5 hF => ?_)
    refine z_aload_n cx d_X4_scrape_26 0 rfl ?_
    refine z_getR cx hT_t fg_Pans_15 (t + 2) rfl d_X4_scrape_27 ?_
    refine z_iload_n cx d_X4_scrape_30 2 rfl ?_
    refine z_iconst (v := 0) cx d_X4_scrape_31 ki_0 ?_
    refine z_iast cx (tfX_5_2 hT_t) za_16 hi4 p1.toNatClampNeg rfl d_X4_scrape_32 ?_
    refine z_nmM hF (fun M6 hF => ?_)
    refine z_aload_n cx d_X4_scrape_33 0 rfl ?_
    refine z_aload_n cx d_X4_scrape_34 1 rfl ?_
    obtain ⟨M7, hc, hF⟩ := zbv_inv hF
    refine z_callV cx (As := [.ref (ad p0)]) (rest := []) (c_X4_learnShades l cx.2.2.2.1.1 M6 t p0 hT_t hT_p0 hc) hT_t zo_5 cv_Pans_46 ⟨rfl, rfl, Nat.le_of_ble_eq_true rfl, Nat.le_of_ble_eq_true rfl⟩ rfl rfl ⟨Nat.zero_le _, Nat.zero_le _⟩ (Nat.le_of_ble_eq_true rfl) d_X4_scrape_35 ?_
    refine z_iconst (v := 1) cx d_X4_scrape_38 ki_1 ?_
    exact z_iret cx hr nb1 hF d_X4_scrape_39
  refine z_iconst (v := 0) cx d_X4_scrape_9 ki_0 ?_
  exact z_iret cx hr nb0 hF d_X4_scrape_10
/-! SunnyPans$Pans.haul -/
theorem d_X4_haul_0 : decode cX4_haul 0 = .ok (.aload_n 0, 1) := by decide +kernel
theorem d_X4_haul_1 : decode cX4_haul 1 = .ok (.getfield 18, 3) := by decide +kernel
theorem d_X4_haul_4 : decode cX4_haul 4 = .ok (.iload_n 2, 1) := by decide +kernel
theorem d_X4_haul_5 : decode cX4_haul 5 = .ok (.iaload, 1) := by decide +kernel
theorem d_X4_haul_6 : decode cX4_haul 6 = .ok (.ifCond .ne 5, 3) := by decide +kernel
theorem d_X4_haul_9 : decode cX4_haul 9 = .ok (.iconst 0, 1) := by decide +kernel
theorem d_X4_haul_10 : decode cX4_haul 10 = .ok (.ireturn, 1) := by decide +kernel
theorem d_X4_haul_11 : decode cX4_haul 11 = .ok (.aload_n 0, 1) := by decide +kernel
theorem d_X4_haul_12 : decode cX4_haul 12 = .ok (.dup, 1) := by decide +kernel
theorem d_X4_haul_13 : decode cX4_haul 13 = .ok (.getfield 31, 3) := by decide +kernel
theorem d_X4_haul_16 : decode cX4_haul 16 = .ok (.aload_n 0, 1) := by decide +kernel
theorem d_X4_haul_17 : decode cX4_haul 17 = .ok (.getfield 18, 3) := by decide +kernel
theorem d_X4_haul_20 : decode cX4_haul 20 = .ok (.iload_n 2, 1) := by decide +kernel
theorem d_X4_haul_21 : decode cX4_haul 21 = .ok (.iaload, 1) := by decide +kernel
theorem d_X4_haul_22 : decode cX4_haul 22 = .ok (.iadd, 1) := by decide +kernel
theorem d_X4_haul_23 : decode cX4_haul 23 = .ok (.putfield 31, 3) := by decide +kernel
theorem d_X4_haul_26 : decode cX4_haul 26 = .ok (.aload_n 0, 1) := by decide +kernel
theorem d_X4_haul_27 : decode cX4_haul 27 = .ok (.getfield 18, 3) := by decide +kernel
theorem d_X4_haul_30 : decode cX4_haul 30 = .ok (.iload_n 2, 1) := by decide +kernel
theorem d_X4_haul_31 : decode cX4_haul 31 = .ok (.iconst 0, 1) := by decide +kernel
theorem d_X4_haul_32 : decode cX4_haul 32 = .ok (.iastore, 1) := by decide +kernel
theorem d_X4_haul_33 : decode cX4_haul 33 = .ok (.aload_n 0, 1) := by decide +kernel
theorem d_X4_haul_34 : decode cX4_haul 34 = .ok (.aload_n 1, 1) := by decide +kernel
theorem d_X4_haul_35 : decode cX4_haul 35 = .ok (.invokevirtual 46, 3) := by decide +kernel
theorem d_X4_haul_38 : decode cX4_haul 38 = .ok (.iconst 1, 1) := by decide +kernel
theorem d_X4_haul_39 : decode cX4_haul 39 = .ok (.ireturn, 1) := by decide +kernel
noncomputable def F_X4_haul (M : zMem) (t : Nat) (p0 : Nat) (p1 : Int32) : Option (Int32 × zMem) :=
  gin p1 64 <|
  if (M.1 (t + 3) p1.toNatClampNeg) = 0 then
    some ((0 : Int32), M)
  else
    zl (zI M t 3 ((M.1 t 3) + (M.1 (t + 3) p1.toNatClampNeg))) fun M2 =>
    zl (zI M2 (t + 3) p1.toNatClampNeg (0 : Int32)) fun M3 =>
    zbv (F_X4_learnShades M3 t p0) fun M4 =>
    some ((1 : Int32), M4)
def rm_X4_haul : Room := { frames := 5, cells := 0, slots := 0, locals := 154 }
set_option maxHeartbeats 4000000 in
set_option maxRecDepth 100000 in
theorem c_X4_haul (l : Launch) {G : zG} {ad : Nat → Nat} {n : Nat} (hA : zInj ad n) (M : zMem) (t : Nat) (p0 : Nat) (p1 : Int32) (hT_t : zT shX n t 5) (hT_p0 : zT shX n p0 6) {r9 : Int32} {M9 : zMem} (hF : F_X4_haul M t p0 p1 = some (r9, M9)) : zM l yX4_haul cX4_haul 3 (some .boolean) rm_X4_haul G shX ad n M [.ref (ad t), .ref (ad p0), .int p1] (some (.int r9)) M9 := by
  refine zM_of hA (by decide +kernel) (lv := [(0, .ref (ad t)), (1, .ref (ad p0)), (2, .int p1)]) (Nat.le_of_ble_eq_true rfl) rfl (fun p e s m args below meth c A cx hr => ?_)
  unfold F_X4_haul at hF
  refine z_aload_n cx d_X4_haul_0 0 rfl ?_
  refine z_getR cx hT_t fg_Pans_18 (t + 3) rfl d_X4_haul_1 ?_
  refine z_iload_n cx d_X4_haul_4 2 rfl ?_
  obtain ⟨hi1, hF⟩ := gin_inv hF
  refine z_iald cx (tfX_5_3 hT_t) za_16 hi1 p1.toNatClampNeg rfl d_X4_haul_5 ?_
  refine z_if_ne cx 11 d_X4_haul_6 (by decide) hF (fun hF => ?_) (fun hF => ?_)
  · refine z_aload_n cx d_X4_haul_11 0 rfl ?_
    refine z_dup cx d_X4_haul_12 rfl ?_
    refine z_getI cx hT_t fg_Pans_31 d_X4_haul_13 ?_
    refine z_aload_n cx d_X4_haul_16 0 rfl ?_
    refine z_getR cx hT_t fg_Pans_18 (t + 3) rfl d_X4_haul_17 ?_
    refine z_iload_n cx d_X4_haul_20 2 rfl ?_
    refine z_iald cx (tfX_5_3 hT_t) za_16 hi1 p1.toNatClampNeg rfl d_X4_haul_21 ?_
    refine z_iadd cx d_X4_haul_22 ?_
    refine z_putI cx hT_t fp_Pans_31 d_X4_haul_23 ?_
    refine z_nmM hF (fun M2 hF => ?_)
    refine z_aload_n cx d_X4_haul_26 0 rfl ?_
    refine z_getR cx hT_t fg_Pans_18 (t + 3) rfl d_X4_haul_27 ?_
    refine z_iload_n cx d_X4_haul_30 2 rfl ?_
    refine z_iconst (v := 0) cx d_X4_haul_31 ki_0 ?_
    refine z_iast cx (tfX_5_3 hT_t) za_16 hi1 p1.toNatClampNeg rfl d_X4_haul_32 ?_
    refine z_nmM hF (fun M3 hF => ?_)
    refine z_aload_n cx d_X4_haul_33 0 rfl ?_
    refine z_aload_n cx d_X4_haul_34 1 rfl ?_
    obtain ⟨M4, hc, hF⟩ := zbv_inv hF
    refine z_callV cx (As := [.ref (ad p0)]) (rest := []) (c_X4_learnShades l cx.2.2.2.1.1 M3 t p0 hT_t hT_p0 hc) hT_t zo_5 cv_Pans_46 ⟨rfl, rfl, Nat.le_of_ble_eq_true rfl, Nat.le_of_ble_eq_true rfl⟩ rfl rfl ⟨Nat.zero_le _, Nat.zero_le _⟩ (Nat.le_of_ble_eq_true rfl) d_X4_haul_35 ?_
    refine z_iconst (v := 1) cx d_X4_haul_38 ki_1 ?_
    exact z_iret cx hr nb1 hF d_X4_haul_39
  refine z_iconst (v := 0) cx d_X4_haul_9 ki_0 ?_
  exact z_iret cx hr nb0 hF d_X4_haul_10
/-! SunnyPans$Pans.wet -/
set_option maxRecDepth 100000 in
theorem wd_329 : Cond.fieldLink "SunnyPans$Pans" 79 "SunnyPans$Plan" "places" "J" ∈ tbG := tw1 229 rfl rfl
theorem fg_Pans_79 : zGetL "SunnyPans$Pans" 79 5 6 3 := ⟨RX5, TX5, 9, rfl, by decide, uw_5, wd_329, fun _ _ _ _ _ _ => ⟨_, rfl, rfl⟩⟩
set_option maxRecDepth 100000 in
theorem wd_926 : Cond.methodLinkNest "SunnyPans$Pans" 83 yX9_has "SunnyPans" ∈ tbN := twn4 106 rfl rfl
theorem cn_Pans_83 : zCN "SunnyPans$Pans" 83 yX9_has cX9_has 3 (some .boolean) 2 := ⟨wd_926, wd_101, wd_737, by decide +kernel⟩
set_option maxRecDepth 100000 in
theorem wd_927 : Cond.methodLink "SunnyPans$Pans" 87 Lib.Math.min.name ∈ tbG := tw4 107 rfl rfl
set_option maxRecDepth 100000 in
theorem wd_925 : Cond.methodLink "SunnyPans$Pans" 73 Lib.Math.max.name ∈ tbG := tw4 105 rfl rfl
theorem d_X4_wet_0 : decode cX4_wet 0 = .ok (.iconst 0, 1) := by decide +kernel
theorem d_X4_wet_1 : decode cX4_wet 1 = .ok (.istore_n 3, 1) := by decide +kernel
theorem d_X4_wet_2 : decode cX4_wet 2 = .ok (.iload_n 3, 1) := by decide +kernel
theorem d_X4_wet_3 : decode cX4_wet 3 = .ok (.bipush 64, 2) := by decide +kernel
theorem d_X4_wet_5 : decode cX4_wet 5 = .ok (.if_icmp .ge 70, 3) := by decide +kernel
theorem d_X4_wet_8 : decode cX4_wet 8 = .ok (.aload_n 0, 1) := by decide +kernel
theorem d_X4_wet_9 : decode cX4_wet 9 = .ok (.getfield 18, 3) := by decide +kernel
theorem d_X4_wet_12 : decode cX4_wet 12 = .ok (.iload_n 3, 1) := by decide +kernel
theorem d_X4_wet_13 : decode cX4_wet 13 = .ok (.iaload, 1) := by decide +kernel
theorem d_X4_wet_14 : decode cX4_wet 14 = .ok (.ifCond .le 24, 3) := by decide +kernel
theorem d_X4_wet_17 : decode cX4_wet 17 = .ok (.aload_n 0, 1) := by decide +kernel
theorem d_X4_wet_18 : decode cX4_wet 18 = .ok (.getfield 18, 3) := by decide +kernel
theorem d_X4_wet_21 : decode cX4_wet 21 = .ok (.iload_n 3, 1) := by decide +kernel
theorem d_X4_wet_22 : decode cX4_wet 22 = .ok (.iconst 0, 1) := by decide +kernel
theorem d_X4_wet_23 : decode cX4_wet 23 = .ok (.aload_n 0, 1) := by decide +kernel
theorem d_X4_wet_24 : decode cX4_wet 24 = .ok (.getfield 18, 3) := by decide +kernel
theorem d_X4_wet_27 : decode cX4_wet 27 = .ok (.iload_n 3, 1) := by decide +kernel
theorem d_X4_wet_28 : decode cX4_wet 28 = .ok (.iaload, 1) := by decide +kernel
theorem d_X4_wet_29 : decode cX4_wet 29 = .ok (.iload_n 2, 1) := by decide +kernel
theorem d_X4_wet_30 : decode cX4_wet 30 = .ok (.isub, 1) := by decide +kernel
theorem d_X4_wet_31 : decode cX4_wet 31 = .ok (.invokestatic 73, 3) := by decide +kernel
theorem d_X4_wet_34 : decode cX4_wet 34 = .ok (.iastore, 1) := by decide +kernel
theorem d_X4_wet_35 : decode cX4_wet 35 = .ok (.goto 34, 3) := by decide +kernel
theorem d_X4_wet_38 : decode cX4_wet 38 = .ok (.aload_n 1, 1) := by decide +kernel
theorem d_X4_wet_39 : decode cX4_wet 39 = .ok (.getfield 79, 3) := by decide +kernel
theorem d_X4_wet_42 : decode cX4_wet 42 = .ok (.iload_n 3, 1) := by decide +kernel
theorem d_X4_wet_43 : decode cX4_wet 43 = .ok (.invokestatic 83, 3) := by decide +kernel
theorem d_X4_wet_46 : decode cX4_wet 46 = .ok (.ifCond .eq 23, 3) := by decide +kernel
theorem d_X4_wet_49 : decode cX4_wet 49 = .ok (.aload_n 0, 1) := by decide +kernel
theorem d_X4_wet_50 : decode cX4_wet 50 = .ok (.getfield 9, 3) := by decide +kernel
theorem d_X4_wet_53 : decode cX4_wet 53 = .ok (.iload_n 3, 1) := by decide +kernel
theorem d_X4_wet_54 : decode cX4_wet 54 = .ok (.sipush 9999, 3) := by decide +kernel
theorem d_X4_wet_57 : decode cX4_wet 57 = .ok (.aload_n 0, 1) := by decide +kernel
theorem d_X4_wet_58 : decode cX4_wet 58 = .ok (.getfield 9, 3) := by decide +kernel
theorem d_X4_wet_61 : decode cX4_wet 61 = .ok (.iload_n 3, 1) := by decide +kernel
theorem d_X4_wet_62 : decode cX4_wet 62 = .ok (.iaload, 1) := by decide +kernel
theorem d_X4_wet_63 : decode cX4_wet 63 = .ok (.iload_n 2, 1) := by decide +kernel
theorem d_X4_wet_64 : decode cX4_wet 64 = .ok (.iadd, 1) := by decide +kernel
theorem d_X4_wet_65 : decode cX4_wet 65 = .ok (.invokestatic 87, 3) := by decide +kernel
theorem d_X4_wet_68 : decode cX4_wet 68 = .ok (.iastore, 1) := by decide +kernel
theorem d_X4_wet_69 : decode cX4_wet 69 = .ok (.iinc 3 1, 3) := by decide +kernel
theorem d_X4_wet_72 : decode cX4_wet 72 = .ok (.goto (-70), 3) := by decide +kernel
theorem d_X4_wet_75 : decode cX4_wet 75 = .ok (.aload_n 0, 1) := by decide +kernel
theorem d_X4_wet_76 : decode cX4_wet 76 = .ok (.aload_n 1, 1) := by decide +kernel
theorem d_X4_wet_77 : decode cX4_wet 77 = .ok (.invokevirtual 46, 3) := by decide +kernel
theorem d_X4_wet_80 : decode cX4_wet 80 = .ok (.return_, 1) := by decide +kernel
noncomputable def F_X4_wet_69 (t : Nat) (p0 : Nat) (p1 : Int32) (self2 : Int32 → Int32 → zMem → Option (zMem)) (b69_L2 : Int32) (b69_L3 : Int32) (M : zMem) : Option (zMem) :=
  self2 b69_L2 (b69_L3 + 1) M
noncomputable def F_X4_wet_2 (t : Nat) (p0 : Nat) (p1 : Int32) (self2 : Int32 → Int32 → zMem → Option (zMem)) (b2_L2 : Int32) (b2_L3 : Int32) (M : zMem) : Option (zMem) :=
  if (64 : Int32) ≤ b2_L3 then
    zbv (F_X4_learnShades M t p0) fun M1 =>
    some M1
  else
    gin b2_L3 64 <|
    if (M.1 (t + 3) b2_L3.toNatClampNeg) ≤ 0 then
      zb (F_X9_has M (M.2.1 p0 3) b2_L3) fun v4 M3 =>
      if v4 = 0 then
        F_X4_wet_69 t p0 p1 self2 b2_L2 b2_L3 M3
      else
        zl (zI M3 (t + 1) b2_L3.toNatClampNeg (zmin (9999 : Int32) ((M3.1 (t + 1) b2_L3.toNatClampNeg) + b2_L2))) fun M5 =>
        F_X4_wet_69 t p0 p1 self2 b2_L2 b2_L3 M5
    else
      zl (zI M (t + 3) b2_L3.toNatClampNeg (zmax (0 : Int32) ((M.1 (t + 3) b2_L3.toNatClampNeg) - b2_L2))) fun M6 =>
      F_X4_wet_69 t p0 p1 self2 b2_L2 b2_L3 M6
noncomputable def F_X4_wet (M : zMem) (t : Nat) (p0 : Nat) (p1 : Int32) : Option (zMem) :=
  itF (fun _ _ _ => none) (F_X4_wet_2 t p0 p1) zFuel p1 (0 : Int32) M
def rm_X4_wet : Room := { frames := 5, cells := 0, slots := 0, locals := 154 }
set_option maxHeartbeats 4000000 in
set_option maxRecDepth 100000 in
theorem c_X4_wet (l : Launch) {G : zG} {ad : Nat → Nat} {n : Nat} (hA : zInj ad n) (M : zMem) (t : Nat) (p0 : Nat) (p1 : Int32) (hT_t : zT shX n t 5) (hT_p0 : zT shX n p0 6) {M9 : zMem} (hF : F_X4_wet M t p0 p1 = some M9) : zM l yX4_wet cX4_wet 4 none rm_X4_wet G shX ad n M [.ref (ad t), .ref (ad p0), .int p1] none M9 := by
  refine zM_of hA (by decide +kernel) (lv := [(0, .ref (ad t)), (1, .ref (ad p0)), (2, .int p1)]) (Nat.le_of_ble_eq_true rfl) rfl (fun p e s m args below meth c A cx hr => ?_)
  have hb69 : ∀ (self2 : Int32 → Int32 → zMem → Option (zMem)) (hs2 : ∀ (b2_L2 : Int32) (b2_L3 : Int32) (M : zMem), self2 b2_L2 b2_L3 M = some M9 → zJ p l e rm_X4_wet s m args below meth c G shX ad n A 4 (MQ below (zQ G shX ad n M9 none A) args s 0 0 A) 0 0 M 2 [(0, .ref (ad t)), (1, .ref (ad p0)), (2, .int b2_L2), (3, .int b2_L3)] []), ∀ (b69_L2 : Int32) (b69_L3 : Int32) (M : zMem), F_X4_wet_69 t p0 p1 self2 b69_L2 b69_L3 M = some M9 → zJ p l e rm_X4_wet s m args below meth c G shX ad n A 4 (MQ below (zQ G shX ad n M9 none A) args s 0 0 A) 0 0 M 69 [(0, .ref (ad t)), (1, .ref (ad p0)), (2, .int b69_L2), (3, .int b69_L3)] [] := by
    intro self2 hs2 b69_L2 b69_L3 M hF
    unfold F_X4_wet_69 at hF
    refine z_iinc cx 3 1 [(3, .int (b69_L3 + 1)), (0, .ref (ad t)), (1, .ref (ad p0)), (2, .int b69_L2)] d_X4_wet_69 3 rfl ki_1 (by decide) rfl ?_
    refine z_goto cx 2 d_X4_wet_72 (by decide) ?_
    exact z_lv [1, 2, 3, 0] _ rfl (hs2 b69_L2 (b69_L3 + 1) M hF)
  have hL2 : ∀ (fuel : Nat), ∀ (b2_L2 : Int32) (b2_L3 : Int32) (M : zMem), itF (fun _ _ _ => none) (F_X4_wet_2 t p0 p1) fuel b2_L2 b2_L3 M = some M9 → zJ p l e rm_X4_wet s m args below meth c G shX ad n A 4 (MQ below (zQ G shX ad n M9 none A) args s 0 0 A) 0 0 M 2 [(0, .ref (ad t)), (1, .ref (ad p0)), (2, .int b2_L2), (3, .int b2_L3)] [] := by
    intro fuel
    induction fuel with
    | zero => intro b2_L2 b2_L3 M hF; cases hF
    | succ fuel hs2 =>
      intro b2_L2 b2_L3 M hF
      have hF : F_X4_wet_2 t p0 p1 (itF (fun _ _ _ => none) (F_X4_wet_2 t p0 p1) fuel) b2_L2 b2_L3 M = some M9 := hF
      generalize itF (fun _ _ _ => none) (F_X4_wet_2 t p0 p1) fuel = self2 at hs2 hF
      unfold F_X4_wet_2 at hF
      refine z_iload_n cx d_X4_wet_2 3 rfl ?_
      refine z_bipush (v := 64) cx d_X4_wet_3 kb_64 ?_
      refine z_icmp_ge cx 75 d_X4_wet_5 (by decide) hF (fun hF => ?_) (fun hF => ?_)
      · refine z_aload_n cx d_X4_wet_75 0 rfl ?_
        refine z_aload_n cx d_X4_wet_76 1 rfl ?_
        obtain ⟨M1, hc, hF⟩ := zbv_inv hF
        refine z_callV cx (As := [.ref (ad p0)]) (rest := []) (c_X4_learnShades l cx.2.2.2.1.1 M t p0 hT_t hT_p0 hc) hT_t zo_5 cv_Pans_46 ⟨rfl, rfl, Nat.le_of_ble_eq_true rfl, Nat.le_of_ble_eq_true rfl⟩ rfl rfl ⟨Nat.zero_le _, Nat.zero_le _⟩ (Nat.le_of_ble_eq_true rfl) d_X4_wet_77 ?_
        exact z_vret cx hr hF d_X4_wet_80
      refine z_aload_n cx d_X4_wet_8 0 rfl ?_
      refine z_getR cx hT_t fg_Pans_18 (t + 3) rfl d_X4_wet_9 ?_
      refine z_iload_n cx d_X4_wet_12 3 rfl ?_
      obtain ⟨hi2, hF⟩ := gin_inv hF
      refine z_iald cx (tfX_5_3 hT_t) za_16 hi2 b2_L3.toNatClampNeg rfl d_X4_wet_13 ?_
      refine z_if_le cx 38 d_X4_wet_14 (by decide) hF (fun hF => ?_) (fun hF => ?_)
      · refine z_aload_n cx d_X4_wet_38 1 rfl ?_
        refine z_getL cx hT_p0 fg_Pans_79 d_X4_wet_39 ?_
        refine z_iload_n cx d_X4_wet_42 3 rfl ?_
        obtain ⟨v4, M3, hc, hF⟩ := zb_inv hF
        refine z_callSN cx (As := [.long (M.2.1 p0 3), .int b2_L3]) (rest := []) (c_X9_has l cx.2.2.2.1.1 M (M.2.1 p0 3) b2_L3  hc) cn_Pans_83 wd_736 ⟨rfl, rfl, Nat.le_of_ble_eq_true rfl, Nat.le_of_ble_eq_true rfl⟩ rfl rfl ⟨Nat.zero_le _, Nat.zero_le _⟩ (Nat.le_of_ble_eq_true rfl) d_X4_wet_43 ?_
        refine z_if_eq cx 69 d_X4_wet_46 (by decide) hF (fun hF => ?_) (fun hF => ?_)
        · exact hb69 self2 hs2 b2_L2 b2_L3 M3 hF
        refine z_aload_n cx d_X4_wet_49 0 rfl ?_
        refine z_getR cx hT_t fg_Pans_9 (t + 1) rfl d_X4_wet_50 ?_
        refine z_iload_n cx d_X4_wet_53 3 rfl ?_
        refine z_sipush (v := 9999) cx d_X4_wet_54 ks_9999 ?_
        refine z_aload_n cx d_X4_wet_57 0 rfl ?_
        refine z_getR cx hT_t fg_Pans_9 (t + 1) rfl d_X4_wet_58 ?_
        refine z_iload_n cx d_X4_wet_61 3 rfl ?_
        refine z_iald cx (tfX_5_1 hT_t) za_16 hi2 b2_L3.toNatClampNeg rfl d_X4_wet_62 ?_
        refine z_iload_n cx d_X4_wet_63 2 rfl ?_
        refine z_iadd cx d_X4_wet_64 ?_
        refine z_mmin cx ⟨wd_927, wd_602, wd_116, wd_603⟩ ⟨Nat.le_of_ble_eq_true rfl, Nat.le_of_ble_eq_true rfl, Nat.le_of_ble_eq_true rfl, Nat.le_of_ble_eq_true rfl⟩ d_X4_wet_65 ?_
        refine z_iast cx (tfX_5_1 hT_t) za_16 hi2 b2_L3.toNatClampNeg rfl d_X4_wet_68 ?_
        refine z_nmM hF (fun M5 hF => ?_)
        exact hb69 self2 hs2 b2_L2 b2_L3 M5 hF
      refine z_aload_n cx d_X4_wet_17 0 rfl ?_
      refine z_getR cx hT_t fg_Pans_18 (t + 3) rfl d_X4_wet_18 ?_
      refine z_iload_n cx d_X4_wet_21 3 rfl ?_
      refine z_iconst (v := 0) cx d_X4_wet_22 ki_0 ?_
      refine z_aload_n cx d_X4_wet_23 0 rfl ?_
      refine z_getR cx hT_t fg_Pans_18 (t + 3) rfl d_X4_wet_24 ?_
      refine z_iload_n cx d_X4_wet_27 3 rfl ?_
      refine z_iald cx (tfX_5_3 hT_t) za_16 hi2 b2_L3.toNatClampNeg rfl d_X4_wet_28 ?_
      refine z_iload_n cx d_X4_wet_29 2 rfl ?_
      refine z_isub cx d_X4_wet_30 ?_
      refine z_mmax cx ⟨wd_925, wd_605, wd_116, wd_606⟩ ⟨Nat.le_of_ble_eq_true rfl, Nat.le_of_ble_eq_true rfl, Nat.le_of_ble_eq_true rfl, Nat.le_of_ble_eq_true rfl⟩ d_X4_wet_31 ?_
      refine z_iast cx (tfX_5_3 hT_t) za_16 hi2 b2_L3.toNatClampNeg rfl d_X4_wet_34 ?_
      refine z_nmM hF (fun M6 hF => ?_)
      refine z_goto cx 69 d_X4_wet_35 (by decide) ?_
      exact hb69 self2 hs2 b2_L2 b2_L3 M6 hF
  unfold F_X4_wet at hF
  refine z_iconst (v := 0) cx d_X4_wet_0 ki_0 ?_
  refine z_istore_n cx 3 [(3, .int (0 : Int32)), (0, .ref (ad t)), (1, .ref (ad p0)), (2, .int p1)] d_X4_wet_1 rfl (by decide) rfl ?_
  exact z_lv [1, 2, 3, 0] _ rfl (hL2 zFuel p1 (0 : Int32) M hF)
