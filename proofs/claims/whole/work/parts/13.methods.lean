/-! SunnyPans.passHour -/
set_option maxRecDepth 100000 in
theorem wd_195 : Cond.fieldLink "SunnyPans" 171 "SunnyPans$Pans" "next" "I" ∈ tbG := tw1 95 rfl rfl
theorem fg_SunnyPans_171 : zGetI "SunnyPans" 171 4 5 5 := ⟨RX4, TX4, 7, rfl, by decide, uw_4, wd_195, fun _ _ _ _ _ _ => ⟨_, rfl, rfl⟩⟩
theorem fp_SunnyPans_171 : zPutI "SunnyPans" 171 4 5 5 := ⟨zc_4, fg_SunnyPans_171, ⟨RX4, TX4, 7, rfl, rfl, by decide +kernel⟩, fun _ _ _ _ _ _ _ => ⟨_, rfl, Nat.le_of_ble_eq_true rfl, rfl⟩⟩
set_option maxRecDepth 100000 in
theorem wd_193 : Cond.fieldLink "SunnyPans" 168 "SunnyPans$Pans" "day" "I" ∈ tbG := tw1 93 rfl rfl
theorem fg_SunnyPans_168 : zGetI "SunnyPans" 168 4 5 4 := ⟨RX4, TX4, 7, rfl, by decide, uw_4, wd_193, fun _ _ _ _ _ _ => ⟨_, rfl, rfl⟩⟩
theorem fp_SunnyPans_168 : zPutI "SunnyPans" 168 4 5 4 := ⟨zc_4, fg_SunnyPans_168, ⟨RX4, TX4, 7, rfl, rfl, by decide +kernel⟩, fun _ _ _ _ _ _ _ => ⟨_, rfl, Nat.le_of_ble_eq_true rfl, rfl⟩⟩
set_option maxRecDepth 100000 in
theorem wd_184 : Cond.fieldLink "SunnyPans" 174 "SunnyPans$Pans" "brine" "[I" ∈ tbG := tw1 84 rfl rfl
theorem fg_SunnyPans_174 : zGetR "SunnyPans" 174 4 5 0 1 := ⟨RX4, TX4, 7, rfl, by decide, uw_4, wd_184, fun _ _ _ _ _ _ => ⟨_, rfl, rfl⟩⟩
set_option maxRecDepth 100000 in
theorem wd_935 : Cond.code yX9_lossOf cX9_lossOf 7 (some .int) ∈ tbG := tw4 115 rfl rfl
set_option maxRecDepth 100000 in
theorem wd_932 : Cond.methodLink "SunnyPans" 326 yX9_lossOf ∈ tbG := tw4 112 rfl rfl
set_option maxRecDepth 100000 in
theorem wd_934 : Cond.instanceMethod yX9_lossOf ∈ tbG := tw4 114 rfl rfl
theorem wd_22 : Cond.selects "SunnyPans" yX9_lossOf yX9_lossOf ∈ tbG := tw 22 (by decide +kernel) rfl
theorem cv_SunnyPans_326 : zCV "SunnyPans" 326 "SunnyPans" yX9_lossOf cX9_lossOf 7 (some .int) 5 := zCV_of wd_932 wd_934 wd_22 wd_101 wd_935 (by decide +kernel)
theorem d_X9_passHour_0 : decode cX9_passHour 0 = .ok (.iconst 0, 1) := by decide +kernel
theorem d_X9_passHour_1 : decode cX9_passHour 1 = .ok (.istore_n 2, 1) := by decide +kernel
theorem d_X9_passHour_2 : decode cX9_passHour 2 = .ok (.iload_n 2, 1) := by decide +kernel
theorem d_X9_passHour_3 : decode cX9_passHour 3 = .ok (.bipush 64, 2) := by decide +kernel
theorem d_X9_passHour_5 : decode cX9_passHour 5 = .ok (.if_icmp .ge 38, 3) := by decide +kernel
theorem d_X9_passHour_8 : decode cX9_passHour 8 = .ok (.aload_n 1, 1) := by decide +kernel
theorem d_X9_passHour_9 : decode cX9_passHour 9 = .ok (.getfield 174, 3) := by decide +kernel
theorem d_X9_passHour_12 : decode cX9_passHour 12 = .ok (.iload_n 2, 1) := by decide +kernel
theorem d_X9_passHour_13 : decode cX9_passHour 13 = .ok (.dup2, 1) := by decide +kernel
theorem d_X9_passHour_14 : decode cX9_passHour 14 = .ok (.iaload, 1) := by decide +kernel
theorem d_X9_passHour_15 : decode cX9_passHour 15 = .ok (.aload_n 0, 1) := by decide +kernel
theorem d_X9_passHour_16 : decode cX9_passHour 16 = .ok (.aload_n 1, 1) := by decide +kernel
theorem d_X9_passHour_17 : decode cX9_passHour 17 = .ok (.iload_n 2, 1) := by decide +kernel
theorem d_X9_passHour_18 : decode cX9_passHour 18 = .ok (.aload_n 1, 1) := by decide +kernel
theorem d_X9_passHour_19 : decode cX9_passHour 19 = .ok (.getfield 174, 3) := by decide +kernel
theorem d_X9_passHour_22 : decode cX9_passHour 22 = .ok (.iload_n 2, 1) := by decide +kernel
theorem d_X9_passHour_23 : decode cX9_passHour 23 = .ok (.iaload, 1) := by decide +kernel
theorem d_X9_passHour_24 : decode cX9_passHour 24 = .ok (.aload_n 1, 1) := by decide +kernel
theorem d_X9_passHour_25 : decode cX9_passHour 25 = .ok (.getfield 171, 3) := by decide +kernel
theorem d_X9_passHour_28 : decode cX9_passHour 28 = .ok (.aload_n 1, 1) := by decide +kernel
theorem d_X9_passHour_29 : decode cX9_passHour 29 = .ok (.getfield 168, 3) := by decide +kernel
theorem d_X9_passHour_32 : decode cX9_passHour 32 = .ok (.invokevirtual 326, 3) := by decide +kernel
theorem d_X9_passHour_35 : decode cX9_passHour 35 = .ok (.isub, 1) := by decide +kernel
theorem d_X9_passHour_36 : decode cX9_passHour 36 = .ok (.iastore, 1) := by decide +kernel
theorem d_X9_passHour_37 : decode cX9_passHour 37 = .ok (.iinc 2 1, 3) := by decide +kernel
theorem d_X9_passHour_40 : decode cX9_passHour 40 = .ok (.goto (-38), 3) := by decide +kernel
theorem d_X9_passHour_43 : decode cX9_passHour 43 = .ok (.aload_n 1, 1) := by decide +kernel
theorem d_X9_passHour_44 : decode cX9_passHour 44 = .ok (.dup, 1) := by decide +kernel
theorem d_X9_passHour_45 : decode cX9_passHour 45 = .ok (.getfield 171, 3) := by decide +kernel
theorem d_X9_passHour_48 : decode cX9_passHour 48 = .ok (.iconst 1, 1) := by decide +kernel
theorem d_X9_passHour_49 : decode cX9_passHour 49 = .ok (.iadd, 1) := by decide +kernel
theorem d_X9_passHour_50 : decode cX9_passHour 50 = .ok (.putfield 171, 3) := by decide +kernel
theorem d_X9_passHour_53 : decode cX9_passHour 53 = .ok (.aload_n 1, 1) := by decide +kernel
theorem d_X9_passHour_54 : decode cX9_passHour 54 = .ok (.getfield 171, 3) := by decide +kernel
theorem d_X9_passHour_57 : decode cX9_passHour 57 = .ok (.aload_n 0, 1) := by decide +kernel
theorem d_X9_passHour_58 : decode cX9_passHour 58 = .ok (.getfield 62, 3) := by decide +kernel
theorem d_X9_passHour_61 : decode cX9_passHour 61 = .ok (.getfield 127, 3) := by decide +kernel
theorem d_X9_passHour_64 : decode cX9_passHour 64 = .ok (.if_icmp .lt 18, 3) := by decide +kernel
theorem d_X9_passHour_67 : decode cX9_passHour 67 = .ok (.aload_n 1, 1) := by decide +kernel
theorem d_X9_passHour_68 : decode cX9_passHour 68 = .ok (.iconst 0, 1) := by decide +kernel
theorem d_X9_passHour_69 : decode cX9_passHour 69 = .ok (.putfield 171, 3) := by decide +kernel
theorem d_X9_passHour_72 : decode cX9_passHour 72 = .ok (.aload_n 1, 1) := by decide +kernel
theorem d_X9_passHour_73 : decode cX9_passHour 73 = .ok (.dup, 1) := by decide +kernel
theorem d_X9_passHour_74 : decode cX9_passHour 74 = .ok (.getfield 168, 3) := by decide +kernel
theorem d_X9_passHour_77 : decode cX9_passHour 77 = .ok (.iconst 1, 1) := by decide +kernel
theorem d_X9_passHour_78 : decode cX9_passHour 78 = .ok (.iadd, 1) := by decide +kernel
theorem d_X9_passHour_79 : decode cX9_passHour 79 = .ok (.putfield 168, 3) := by decide +kernel
theorem d_X9_passHour_82 : decode cX9_passHour 82 = .ok (.return_, 1) := by decide +kernel
noncomputable def F_X9_passHour_2 (p0 : Nat) (self2 : Int32 → zMem → Option (zMem)) (b2_L2 : Int32) (M : zMem) : Option (zMem) :=
  if (64 : Int32) ≤ b2_L2 then
    zl (zI M p0 5 ((M.1 p0 5) + (1 : Int32))) fun M1 =>
    gd (shX (M1.2.2 0 8) == 6) <|
    if (M1.1 p0 5) < (M1.1 (M1.2.2 0 8) 2) then
      some M1
    else
      zl (zI M1 p0 5 (0 : Int32)) fun M3 =>
      zl (zI M3 p0 4 ((M3.1 p0 4) + (1 : Int32))) fun M4 =>
      some M4
  else
    gin b2_L2 64 <|
    zb (F_X9_lossOf M p0 b2_L2 (M.1 (p0 + 1) b2_L2.toNatClampNeg) (M.1 p0 5) (M.1 p0 4)) fun v7 M6 =>
    zl (zI M6 (p0 + 1) b2_L2.toNatClampNeg ((M.1 (p0 + 1) b2_L2.toNatClampNeg) - v7)) fun M8 =>
    self2 (b2_L2 + 1) M8
noncomputable def F_X9_passHour (M : zMem) (p0 : Nat) : Option (zMem) :=
  itF (fun _ _ => none) (F_X9_passHour_2 p0) zFuel (0 : Int32) M
def rm_X9_passHour : Room := { frames := 6, cells := 0, slots := 0, locals := 158 }
set_option maxHeartbeats 4000000 in
set_option maxRecDepth 100000 in
theorem c_X9_passHour (l : Launch) {G : zG} {ad : Nat → Nat} {n : Nat} (hA : zInj ad n) (M : zMem) (p0 : Nat) (hT : zT shX n 0 10) (hT_p0 : zT shX n p0 5) {M9 : zMem} (hF : F_X9_passHour M p0 = some M9) : zM l yX9_passHour cX9_passHour 3 none rm_X9_passHour G shX ad n M [.ref (ad 0), .ref (ad p0)] none M9 := by
  refine zM_of hA (by decide +kernel) (lv := [(0, .ref (ad 0)), (1, .ref (ad p0))]) (Nat.le_of_ble_eq_true rfl) rfl (fun p e s m args below meth c A cx hr => ?_)
  have hL2 : ∀ (fuel : Nat), ∀ (b2_L2 : Int32) (M : zMem), itF (fun _ _ => none) (F_X9_passHour_2 p0) fuel b2_L2 M = some M9 → zJ p l e rm_X9_passHour s m args below meth c G shX ad n A 3 (MQ below (zQ G shX ad n M9 none A) args s 0 0 A) 0 0 M 2 [(0, .ref (ad 0)), (1, .ref (ad p0)), (2, .int b2_L2)] [] := by
    intro fuel
    induction fuel with
    | zero => intro b2_L2 M hF; cases hF
    | succ fuel hs2 =>
      intro b2_L2 M hF
      have hF : F_X9_passHour_2 p0 (itF (fun _ _ => none) (F_X9_passHour_2 p0) fuel) b2_L2 M = some M9 := hF
      generalize itF (fun _ _ => none) (F_X9_passHour_2 p0) fuel = self2 at hs2 hF
      unfold F_X9_passHour_2 at hF
      refine z_iload_n cx d_X9_passHour_2 2 rfl ?_
      refine z_bipush (v := 64) cx d_X9_passHour_3 kb_64 ?_
      refine z_icmp_ge cx 43 d_X9_passHour_5 (by decide) hF (fun hF => ?_) (fun hF => ?_)
      · refine z_aload_n cx d_X9_passHour_43 1 rfl ?_
        refine z_dup cx d_X9_passHour_44 rfl ?_
        refine z_getI cx hT_p0 fg_SunnyPans_171 d_X9_passHour_45 ?_
        refine z_iconst (v := 1) cx d_X9_passHour_48 ki_1 ?_
        refine z_iadd cx d_X9_passHour_49 ?_
        refine z_putI cx hT_p0 fp_SunnyPans_171 d_X9_passHour_50 ?_
        refine z_nmM hF (fun M1 hF => ?_)
        refine z_aload_n cx d_X9_passHour_53 1 rfl ?_
        refine z_getI cx hT_p0 fg_SunnyPans_171 d_X9_passHour_54 ?_
        refine z_aload_n cx d_X9_passHour_57 0 rfl ?_
        obtain ⟨hg2, hF⟩ := gd_inv hF
        refine z_getD cx hT fg_SunnyPans_62 d_X9_passHour_58 ?_
        refine z_getI cx (td_6 hT hg2) fg_SunnyPans_127 d_X9_passHour_61 ?_
        refine z_icmp_lt cx 82 d_X9_passHour_64 (by decide) hF (fun hF => ?_) (fun hF => ?_)
        · exact z_vret cx hr hF d_X9_passHour_82
        refine z_aload_n cx d_X9_passHour_67 1 rfl ?_
        refine z_iconst (v := 0) cx d_X9_passHour_68 ki_0 ?_
        refine z_putI cx hT_p0 fp_SunnyPans_171 d_X9_passHour_69 ?_
        refine z_nmM hF (fun M3 hF => ?_)
        refine z_aload_n cx d_X9_passHour_72 1 rfl ?_
        refine z_dup cx d_X9_passHour_73 rfl ?_
        refine z_getI cx hT_p0 fg_SunnyPans_168 d_X9_passHour_74 ?_
        refine z_iconst (v := 1) cx d_X9_passHour_77 ki_1 ?_
        refine z_iadd cx d_X9_passHour_78 ?_
        refine z_putI cx hT_p0 fp_SunnyPans_168 d_X9_passHour_79 ?_
        refine z_nmM hF (fun M4 hF => ?_)
        exact z_vret cx hr hF d_X9_passHour_82
      refine z_aload_n cx d_X9_passHour_8 1 rfl ?_
      refine z_getR cx hT_p0 fg_SunnyPans_174 (p0 + 1) rfl d_X9_passHour_9 ?_
      refine z_iload_n cx d_X9_passHour_12 2 rfl ?_
      refine z_dup2 cx d_X9_passHour_13 rfl rfl ?_
      obtain ⟨hi5, hF⟩ := gin_inv hF
      refine z_iald cx (tfX_5_1 hT_p0) za_16 hi5 b2_L2.toNatClampNeg rfl d_X9_passHour_14 ?_
      refine z_aload_n cx d_X9_passHour_15 0 rfl ?_
      refine z_aload_n cx d_X9_passHour_16 1 rfl ?_
      refine z_iload_n cx d_X9_passHour_17 2 rfl ?_
      refine z_aload_n cx d_X9_passHour_18 1 rfl ?_
      refine z_getR cx hT_p0 fg_SunnyPans_174 (p0 + 1) rfl d_X9_passHour_19 ?_
      refine z_iload_n cx d_X9_passHour_22 2 rfl ?_
      refine z_iald cx (tfX_5_1 hT_p0) za_16 hi5 b2_L2.toNatClampNeg rfl d_X9_passHour_23 ?_
      refine z_aload_n cx d_X9_passHour_24 1 rfl ?_
      refine z_getI cx hT_p0 fg_SunnyPans_171 d_X9_passHour_25 ?_
      refine z_aload_n cx d_X9_passHour_28 1 rfl ?_
      refine z_getI cx hT_p0 fg_SunnyPans_168 d_X9_passHour_29 ?_
      obtain ⟨v7, M6, hc, hF⟩ := zb_inv hF
      refine z_callV cx (As := [.ref (ad p0), .int b2_L2, .int (M.1 (p0 + 1) b2_L2.toNatClampNeg), .int (M.1 p0 5), .int (M.1 p0 4)]) (rest := [.int (M.1 (p0 + 1) b2_L2.toNatClampNeg), .int b2_L2, .ref (ad (p0 + 1))]) (c_X9_lossOf l cx.2.2.2.1.1 M p0 b2_L2 (M.1 (p0 + 1) b2_L2.toNatClampNeg) (M.1 p0 5) (M.1 p0 4) hT hT_p0 hc) hT zo_10 cv_SunnyPans_326 ⟨rfl, rfl, Nat.le_of_ble_eq_true rfl, Nat.le_of_ble_eq_true rfl⟩ rfl rfl ⟨Nat.zero_le _, Nat.zero_le _⟩ (Nat.le_of_ble_eq_true rfl) d_X9_passHour_32 ?_
      refine z_isub cx d_X9_passHour_35 ?_
      refine z_iast cx (tfX_5_1 hT_p0) za_16 hi5 b2_L2.toNatClampNeg rfl d_X9_passHour_36 ?_
      refine z_nmM hF (fun M8 hF => ?_)
      refine z_iinc cx 2 1 [(2, .int (b2_L2 + 1)), (0, .ref (ad 0)), (1, .ref (ad p0))] d_X9_passHour_37 2 rfl ki_1 (by decide) rfl ?_
      refine z_goto cx 2 d_X9_passHour_40 (by decide) ?_
      exact z_lv [1, 2, 0] _ rfl (hs2 (b2_L2 + 1) M8 hF)
  unfold F_X9_passHour at hF
  refine z_iconst (v := 0) cx d_X9_passHour_0 ki_0 ?_
  refine z_istore_n cx 2 [(2, .int (0 : Int32)), (0, .ref (ad 0)), (1, .ref (ad p0))] d_X9_passHour_1 rfl (by decide) rfl ?_
  exact z_lv [1, 2, 0] _ rfl (hL2 zFuel (0 : Int32) M hF)
/-! SunnyPans.doStep -/
theorem ks_400 : (Int16.ofInt (400)).toInt32 = (400 : Int32) := by decide +kernel
set_option maxRecDepth 100000 in
theorem wd_931 : Cond.code yX9_passHour cX9_passHour 3 none ∈ tbG := tw4 111 rfl rfl
set_option maxRecDepth 100000 in
theorem wd_928 : Cond.methodLink "SunnyPans" 311 yX9_passHour ∈ tbG := tw4 108 rfl rfl
set_option maxRecDepth 100000 in
theorem wd_930 : Cond.instanceMethod yX9_passHour ∈ tbG := tw4 110 rfl rfl
theorem wd_21 : Cond.selects "SunnyPans" yX9_passHour yX9_passHour ∈ tbG := tw 21 (by decide +kernel) rfl
theorem cv_SunnyPans_311 : zCV "SunnyPans" 311 "SunnyPans" yX9_passHour cX9_passHour 3 none 1 := zCV_of wd_928 wd_930 wd_21 wd_101 wd_931 (by decide +kernel)
set_option maxRecDepth 100000 in
theorem wd_924 : Cond.code yX4_wet cX4_wet 4 none ∈ tbG := tw4 104 rfl rfl
set_option maxRecDepth 100000 in
theorem wd_921 : Cond.methodLink "SunnyPans" 461 yX4_wet ∈ tbG := tw4 101 rfl rfl
set_option maxRecDepth 100000 in
theorem wd_922 : Cond.instanceMethod yX4_wet ∈ tbG := tw4 102 rfl rfl
set_option maxRecDepth 100000 in
theorem wd_923 : Cond.selects "SunnyPans$Pans" yX4_wet yX4_wet ∈ tbG := tw4 103 rfl rfl
theorem cv_SunnyPans_461 : zCV "SunnyPans" 461 "SunnyPans$Pans" yX4_wet cX4_wet 4 none 2 := zCV_of wd_921 wd_922 wd_923 wd_104 wd_924 (by decide +kernel)
set_option maxRecDepth 100000 in
theorem wd_920 : Cond.code yX4_haul cX4_haul 3 (some .boolean) ∈ tbG := tw4 100 rfl rfl
set_option maxRecDepth 100000 in
theorem wd_917 : Cond.methodLink "SunnyPans" 402 yX4_haul ∈ tbG := tw4 97 rfl rfl
set_option maxRecDepth 100000 in
theorem wd_918 : Cond.instanceMethod yX4_haul ∈ tbG := tw4 98 rfl rfl
set_option maxRecDepth 100000 in
theorem wd_919 : Cond.selects "SunnyPans$Pans" yX4_haul yX4_haul ∈ tbG := tw4 99 rfl rfl
theorem cv_SunnyPans_402 : zCV "SunnyPans" 402 "SunnyPans$Pans" yX4_haul cX4_haul 3 (some .boolean) 2 := zCV_of wd_917 wd_918 wd_919 wd_104 wd_920 (by decide +kernel)
set_option maxRecDepth 100000 in
theorem wd_912 : Cond.code yX4_scrape cX4_scrape 4 (some .boolean) ∈ tbG := tw4 92 rfl rfl
set_option maxRecDepth 100000 in
theorem wd_909 : Cond.methodLink "SunnyPans" 457 yX4_scrape ∈ tbG := tw4 89 rfl rfl
set_option maxRecDepth 100000 in
theorem wd_910 : Cond.instanceMethod yX4_scrape ∈ tbG := tw4 90 rfl rfl
set_option maxRecDepth 100000 in
theorem wd_911 : Cond.selects "SunnyPans$Pans" yX4_scrape yX4_scrape ∈ tbG := tw4 91 rfl rfl
theorem cv_SunnyPans_457 : zCV "SunnyPans" 457 "SunnyPans$Pans" yX4_scrape cX4_scrape 4 (some .boolean) 3 := zCV_of wd_909 wd_910 wd_911 wd_104 wd_912 (by decide +kernel)
set_option maxRecDepth 100000 in
theorem wd_904 : Cond.code yX4_pour cX4_pour 3 (some .boolean) ∈ tbG := tw4 84 rfl rfl
set_option maxRecDepth 100000 in
theorem wd_901 : Cond.methodLink "SunnyPans" 399 yX4_pour ∈ tbG := tw4 81 rfl rfl
set_option maxRecDepth 100000 in
theorem wd_902 : Cond.instanceMethod yX4_pour ∈ tbG := tw4 82 rfl rfl
set_option maxRecDepth 100000 in
theorem wd_903 : Cond.selects "SunnyPans$Pans" yX4_pour yX4_pour ∈ tbG := tw4 83 rfl rfl
theorem cv_SunnyPans_399 : zCV "SunnyPans" 399 "SunnyPans$Pans" yX4_pour cX4_pour 3 (some .boolean) 2 := zCV_of wd_901 wd_902 wd_903 wd_104 wd_904 (by decide +kernel)
set_option maxRecDepth 100000 in
theorem wd_215 : Cond.fieldLink "SunnyPans" 159 "SunnyPans$Stand" "now" "LSunnyPans$Pans;" ∈ tbG := tw1 115 rfl rfl
theorem fg_SunnyPans_159 : zGetR "SunnyPans" 159 7 8 0 1 := ⟨RX7, TX7, 3, rfl, by decide, uw_7, wd_215, fun _ _ _ _ _ _ => ⟨_, rfl, rfl⟩⟩
theorem d_X9_doStep_0 : decode cX9_doStep 0 = .ok (.aload_n 0, 1) := by decide +kernel
theorem d_X9_doStep_1 : decode cX9_doStep 1 = .ok (.getfield 19, 3) := by decide +kernel
theorem d_X9_doStep_4 : decode cX9_doStep 4 = .ok (.getfield 159, 3) := by decide +kernel
theorem d_X9_doStep_7 : decode cX9_doStep 7 = .ok (.astore 5, 2) := by decide +kernel
theorem d_X9_doStep_9 : decode cX9_doStep 9 = .ok (.iload_n 1, 1) := by decide +kernel
theorem d_X9_doStep_10 : decode cX9_doStep 10 = .ok (.tableswitch 75 0 3 #[30, 39, 51, 62], 30) := by decide +kernel
theorem d_X9_doStep_40 : decode cX9_doStep 40 = .ok (.aload 5, 2) := by decide +kernel
theorem d_X9_doStep_42 : decode cX9_doStep 42 = .ok (.iload_n 2, 1) := by decide +kernel
theorem d_X9_doStep_43 : decode cX9_doStep 43 = .ok (.iload 4, 2) := by decide +kernel
theorem d_X9_doStep_45 : decode cX9_doStep 45 = .ok (.invokevirtual 399, 3) := by decide +kernel
theorem d_X9_doStep_48 : decode cX9_doStep 48 = .ok (.ireturn, 1) := by decide +kernel
theorem d_X9_doStep_49 : decode cX9_doStep 49 = .ok (.aload 5, 2) := by decide +kernel
theorem d_X9_doStep_51 : decode cX9_doStep 51 = .ok (.aload_n 0, 1) := by decide +kernel
theorem d_X9_doStep_52 : decode cX9_doStep 52 = .ok (.getfield 62, 3) := by decide +kernel
theorem d_X9_doStep_55 : decode cX9_doStep 55 = .ok (.iload_n 2, 1) := by decide +kernel
theorem d_X9_doStep_56 : decode cX9_doStep 56 = .ok (.iload_n 3, 1) := by decide +kernel
theorem d_X9_doStep_57 : decode cX9_doStep 57 = .ok (.invokevirtual 457, 3) := by decide +kernel
theorem d_X9_doStep_60 : decode cX9_doStep 60 = .ok (.ireturn, 1) := by decide +kernel
theorem d_X9_doStep_61 : decode cX9_doStep 61 = .ok (.aload 5, 2) := by decide +kernel
theorem d_X9_doStep_63 : decode cX9_doStep 63 = .ok (.aload_n 0, 1) := by decide +kernel
theorem d_X9_doStep_64 : decode cX9_doStep 64 = .ok (.getfield 62, 3) := by decide +kernel
theorem d_X9_doStep_67 : decode cX9_doStep 67 = .ok (.iload_n 2, 1) := by decide +kernel
theorem d_X9_doStep_68 : decode cX9_doStep 68 = .ok (.invokevirtual 402, 3) := by decide +kernel
theorem d_X9_doStep_71 : decode cX9_doStep 71 = .ok (.ireturn, 1) := by decide +kernel
theorem d_X9_doStep_72 : decode cX9_doStep 72 = .ok (.aload 5, 2) := by decide +kernel
theorem d_X9_doStep_74 : decode cX9_doStep 74 = .ok (.aload_n 0, 1) := by decide +kernel
theorem d_X9_doStep_75 : decode cX9_doStep 75 = .ok (.getfield 62, 3) := by decide +kernel
theorem d_X9_doStep_78 : decode cX9_doStep 78 = .ok (.iload 4, 2) := by decide +kernel
theorem d_X9_doStep_80 : decode cX9_doStep 80 = .ok (.invokevirtual 461, 3) := by decide +kernel
theorem d_X9_doStep_83 : decode cX9_doStep 83 = .ok (.iconst 1, 1) := by decide +kernel
theorem d_X9_doStep_84 : decode cX9_doStep 84 = .ok (.ireturn, 1) := by decide +kernel
theorem d_X9_doStep_85 : decode cX9_doStep 85 = .ok (.aload_n 0, 1) := by decide +kernel
theorem d_X9_doStep_86 : decode cX9_doStep 86 = .ok (.getfield 62, 3) := by decide +kernel
theorem d_X9_doStep_89 : decode cX9_doStep 89 = .ok (.getfield 127, 3) := by decide +kernel
theorem d_X9_doStep_92 : decode cX9_doStep 92 = .ok (.ifCond .eq 14, 3) := by decide +kernel
theorem d_X9_doStep_95 : decode cX9_doStep 95 = .ok (.aload 5, 2) := by decide +kernel
theorem d_X9_doStep_97 : decode cX9_doStep 97 = .ok (.getfield 168, 3) := by decide +kernel
theorem d_X9_doStep_100 : decode cX9_doStep 100 = .ok (.sipush 400, 3) := by decide +kernel
theorem d_X9_doStep_103 : decode cX9_doStep 103 = .ok (.if_icmp .lt 5, 3) := by decide +kernel
theorem d_X9_doStep_106 : decode cX9_doStep 106 = .ok (.iconst 0, 1) := by decide +kernel
theorem d_X9_doStep_107 : decode cX9_doStep 107 = .ok (.ireturn, 1) := by decide +kernel
theorem d_X9_doStep_108 : decode cX9_doStep 108 = .ok (.aload_n 0, 1) := by decide +kernel
theorem d_X9_doStep_109 : decode cX9_doStep 109 = .ok (.aload 5, 2) := by decide +kernel
theorem d_X9_doStep_111 : decode cX9_doStep 111 = .ok (.invokevirtual 311, 3) := by decide +kernel
theorem d_X9_doStep_114 : decode cX9_doStep 114 = .ok (.iconst 1, 1) := by decide +kernel
theorem d_X9_doStep_115 : decode cX9_doStep 115 = .ok (.ireturn, 1) := by decide +kernel
noncomputable def F_X9_doStep_85 (p0 : Int32) (p1 : Int32) (p2 : Int32) (p3 : Int32) (M : zMem) : Option (Int32 × zMem) :=
  gd (shX (M.2.2 0 8) == 6) <|
  if (M.1 (M.2.2 0 8) 2) = 0 then
    some ((0 : Int32), M)
  else
    if (M.1 4 4) < (400 : Int32) then
      zbv (F_X9_passHour M 4) fun M2 =>
      some ((1 : Int32), M2)
    else
      some ((0 : Int32), M)
noncomputable def F_X9_doStep_72 (p0 : Int32) (p1 : Int32) (p2 : Int32) (p3 : Int32) (b72_L4 : Int32) (M : zMem) : Option (Int32 × zMem) :=
  gd (shX (M.2.2 0 8) == 6) <|
  zbv (F_X4_wet M 4 (M.2.2 0 8) b72_L4) fun M4 =>
  some ((1 : Int32), M4)
noncomputable def F_X9_doStep_61 (p0 : Int32) (p1 : Int32) (p2 : Int32) (p3 : Int32) (b61_L2 : Int32) (M : zMem) : Option (Int32 × zMem) :=
  gd (shX (M.2.2 0 8) == 6) <|
  zb (F_X4_haul M 4 (M.2.2 0 8) b61_L2) fun v7 M6 =>
  gd (v7 == 0 || v7 == 1) <|
  some (v7, M6)
noncomputable def F_X9_doStep_49 (p0 : Int32) (p1 : Int32) (p2 : Int32) (p3 : Int32) (b49_L2 : Int32) (b49_L3 : Int32) (M : zMem) : Option (Int32 × zMem) :=
  gd (shX (M.2.2 0 8) == 6) <|
  zb (F_X4_scrape M 4 (M.2.2 0 8) b49_L2 b49_L3) fun v11 M10 =>
  gd (v11 == 0 || v11 == 1) <|
  some (v11, M10)
noncomputable def F_X9_doStep_40 (p0 : Int32) (p1 : Int32) (p2 : Int32) (p3 : Int32) (b40_L2 : Int32) (b40_L4 : Int32) (M : zMem) : Option (Int32 × zMem) :=
  zb (F_X4_pour M 4 b40_L2 b40_L4) fun v14 M13 =>
  gd (v14 == 0 || v14 == 1) <|
  some (v14, M13)
noncomputable def F_X9_doStep (M : zMem) (p0 : Int32) (p1 : Int32) (p2 : Int32) (p3 : Int32) : Option (Int32 × zMem) :=
  if p0 = 0 then
    F_X9_doStep_40 p0 p1 p2 p3 p1 p3 M
  else
  if p0 = 1 then
    F_X9_doStep_49 p0 p1 p2 p3 p1 p2 M
  else
  if p0 = 2 then
    F_X9_doStep_61 p0 p1 p2 p3 p1 M
  else
  if p0 = 3 then
    F_X9_doStep_72 p0 p1 p2 p3 p3 M
  else
  F_X9_doStep_85 p0 p1 p2 p3 M
def rm_X9_doStep : Room := { frames := 7, cells := 0, slots := 0, locals := 180 }
set_option maxHeartbeats 4000000 in
set_option maxRecDepth 100000 in
theorem c_X9_doStep (l : Launch) {G : zG} {ad : Nat → Nat} {n : Nat} (hA : zInj ad n) (M : zMem) (p0 : Int32) (p1 : Int32) (p2 : Int32) (p3 : Int32) (hT : zT shX n 0 10) {r9 : Int32} {M9 : zMem} (hF : F_X9_doStep M p0 p1 p2 p3 = some (r9, M9)) : zM l yX9_doStep cX9_doStep 6 (some .boolean) rm_X9_doStep G shX ad n M [.ref (ad 0), .int p0, .int p1, .int p2, .int p3] (some (.int r9)) M9 := by
  refine zM_of hA (by decide +kernel) (lv := [(0, .ref (ad 0)), (1, .int p0), (2, .int p1), (3, .int p2), (4, .int p3)]) (Nat.le_of_ble_eq_true rfl) rfl (fun p e s m args below meth c A cx hr => ?_)
  have hb85 : ∀ (M : zMem), F_X9_doStep_85 p0 p1 p2 p3 M = some (r9, M9) → zJ p l e rm_X9_doStep s m args below meth c G shX ad n A 6 (MQ below (zQ G shX ad n M9 (some (.int r9)) A) args s 0 0 A) 0 0 M 85 [(0, .ref (ad 0)), (5, .ref (ad 4))] [] := by
    intro M hF
    unfold F_X9_doStep_85 at hF
    refine z_aload_n cx d_X9_doStep_85 0 rfl ?_
    obtain ⟨hg1, hF⟩ := gd_inv hF
    refine z_getD cx hT fg_SunnyPans_62 d_X9_doStep_86 ?_
    refine z_getI cx (td_6 hT hg1) fg_SunnyPans_127 d_X9_doStep_89 ?_
    refine z_if_eq cx 106 d_X9_doStep_92 (by decide) hF (fun hF => ?_) (fun hF => ?_)
    · refine z_iconst (v := 0) cx d_X9_doStep_106 ki_0 ?_
      exact z_iret cx hr nb0 hF d_X9_doStep_107
    refine z_aload cx d_X9_doStep_95 1 rfl ?_
    refine z_getI cx (tfX_8_1 (tfX_10_3 hT)) fg_SunnyPans_168 d_X9_doStep_97 ?_
    refine z_sipush (v := 400) cx d_X9_doStep_100 ks_400 ?_
    refine z_icmp_lt cx 108 d_X9_doStep_103 (by decide) hF (fun hF => ?_) (fun hF => ?_)
    · refine z_aload_n cx d_X9_doStep_108 0 rfl ?_
      refine z_aload cx d_X9_doStep_109 1 rfl ?_
      obtain ⟨M2, hc, hF⟩ := zbv_inv hF
      refine z_callV cx (As := [.ref (ad 4)]) (rest := []) (c_X9_passHour l cx.2.2.2.1.1 M 4 hT (tfX_8_1 (tfX_10_3 hT)) hc) hT zo_10 cv_SunnyPans_311 ⟨rfl, rfl, Nat.le_of_ble_eq_true rfl, Nat.le_of_ble_eq_true rfl⟩ rfl rfl ⟨Nat.zero_le _, Nat.zero_le _⟩ (Nat.le_of_ble_eq_true rfl) d_X9_doStep_111 ?_
      refine z_iconst (v := 1) cx d_X9_doStep_114 ki_1 ?_
      exact z_iret cx hr nb1 hF d_X9_doStep_115
    refine z_iconst (v := 0) cx d_X9_doStep_106 ki_0 ?_
    exact z_iret cx hr nb0 hF d_X9_doStep_107
  have hb72 : ∀ (b72_L4 : Int32) (M : zMem), F_X9_doStep_72 p0 p1 p2 p3 b72_L4 M = some (r9, M9) → zJ p l e rm_X9_doStep s m args below meth c G shX ad n A 6 (MQ below (zQ G shX ad n M9 (some (.int r9)) A) args s 0 0 A) 0 0 M 72 [(0, .ref (ad 0)), (4, .int b72_L4), (5, .ref (ad 4))] [] := by
    intro b72_L4 M hF
    unfold F_X9_doStep_72 at hF
    refine z_aload cx d_X9_doStep_72 2 rfl ?_
    refine z_aload_n cx d_X9_doStep_74 0 rfl ?_
    obtain ⟨hg3, hF⟩ := gd_inv hF
    refine z_getD cx hT fg_SunnyPans_62 d_X9_doStep_75 ?_
    refine z_iload cx d_X9_doStep_78 1 rfl ?_
    obtain ⟨M4, hc, hF⟩ := zbv_inv hF
    refine z_callV cx (As := [.ref (ad (M.2.2 0 8)), .int b72_L4]) (rest := []) (c_X4_wet l cx.2.2.2.1.1 M 4 (M.2.2 0 8) b72_L4 (tfX_8_1 (tfX_10_3 hT)) (td_6 hT hg3) hc) (tfX_8_1 (tfX_10_3 hT)) zo_5 cv_SunnyPans_461 ⟨rfl, rfl, Nat.le_of_ble_eq_true rfl, Nat.le_of_ble_eq_true rfl⟩ rfl rfl ⟨Nat.zero_le _, Nat.zero_le _⟩ (Nat.le_of_ble_eq_true rfl) d_X9_doStep_80 ?_
    refine z_iconst (v := 1) cx d_X9_doStep_83 ki_1 ?_
    exact z_iret cx hr nb1 hF d_X9_doStep_84
  have hb61 : ∀ (b61_L2 : Int32) (M : zMem), F_X9_doStep_61 p0 p1 p2 p3 b61_L2 M = some (r9, M9) → zJ p l e rm_X9_doStep s m args below meth c G shX ad n A 6 (MQ below (zQ G shX ad n M9 (some (.int r9)) A) args s 0 0 A) 0 0 M 61 [(0, .ref (ad 0)), (2, .int b61_L2), (5, .ref (ad 4))] [] := by
    intro b61_L2 M hF
    unfold F_X9_doStep_61 at hF
    refine z_aload cx d_X9_doStep_61 2 rfl ?_
    refine z_aload_n cx d_X9_doStep_63 0 rfl ?_
    obtain ⟨hg5, hF⟩ := gd_inv hF
    refine z_getD cx hT fg_SunnyPans_62 d_X9_doStep_64 ?_
    refine z_iload_n cx d_X9_doStep_67 1 rfl ?_
    obtain ⟨v7, M6, hc, hF⟩ := zb_inv hF
    refine z_callV cx (As := [.ref (ad (M.2.2 0 8)), .int b61_L2]) (rest := []) (c_X4_haul l cx.2.2.2.1.1 M 4 (M.2.2 0 8) b61_L2 (tfX_8_1 (tfX_10_3 hT)) (td_6 hT hg5) hc) (tfX_8_1 (tfX_10_3 hT)) zo_5 cv_SunnyPans_402 ⟨rfl, rfl, Nat.le_of_ble_eq_true rfl, Nat.le_of_ble_eq_true rfl⟩ rfl rfl ⟨Nat.zero_le _, Nat.zero_le _⟩ (Nat.le_of_ble_eq_true rfl) d_X9_doStep_68 ?_
    obtain ⟨hn8, hF⟩ := gd_inv hF
    exact z_iret cx hr (nbx hn8) hF d_X9_doStep_71
  have hb49 : ∀ (b49_L2 : Int32) (b49_L3 : Int32) (M : zMem), F_X9_doStep_49 p0 p1 p2 p3 b49_L2 b49_L3 M = some (r9, M9) → zJ p l e rm_X9_doStep s m args below meth c G shX ad n A 6 (MQ below (zQ G shX ad n M9 (some (.int r9)) A) args s 0 0 A) 0 0 M 49 [(0, .ref (ad 0)), (2, .int b49_L2), (3, .int b49_L3), (5, .ref (ad 4))] [] := by
    intro b49_L2 b49_L3 M hF
    unfold F_X9_doStep_49 at hF
    refine z_aload cx d_X9_doStep_49 3 rfl ?_
    refine z_aload_n cx d_X9_doStep_51 0 rfl ?_
    obtain ⟨hg9, hF⟩ := gd_inv hF
    refine z_getD cx hT fg_SunnyPans_62 d_X9_doStep_52 ?_
    refine z_iload_n cx d_X9_doStep_55 1 rfl ?_
    refine z_iload_n cx d_X9_doStep_56 2 rfl ?_
    obtain ⟨v11, M10, hc, hF⟩ := zb_inv hF
    refine z_callV cx (As := [.ref (ad (M.2.2 0 8)), .int b49_L2, .int b49_L3]) (rest := []) (c_X4_scrape l cx.2.2.2.1.1 M 4 (M.2.2 0 8) b49_L2 b49_L3 (tfX_8_1 (tfX_10_3 hT)) (td_6 hT hg9) hc) (tfX_8_1 (tfX_10_3 hT)) zo_5 cv_SunnyPans_457 ⟨rfl, rfl, Nat.le_of_ble_eq_true rfl, Nat.le_of_ble_eq_true rfl⟩ rfl rfl ⟨Nat.zero_le _, Nat.zero_le _⟩ (Nat.le_of_ble_eq_true rfl) d_X9_doStep_57 ?_
    obtain ⟨hn12, hF⟩ := gd_inv hF
    exact z_iret cx hr (nbx hn12) hF d_X9_doStep_60
  have hb40 : ∀ (b40_L2 : Int32) (b40_L4 : Int32) (M : zMem), F_X9_doStep_40 p0 p1 p2 p3 b40_L2 b40_L4 M = some (r9, M9) → zJ p l e rm_X9_doStep s m args below meth c G shX ad n A 6 (MQ below (zQ G shX ad n M9 (some (.int r9)) A) args s 0 0 A) 0 0 M 40 [(2, .int b40_L2), (4, .int b40_L4), (5, .ref (ad 4))] [] := by
    intro b40_L2 b40_L4 M hF
    unfold F_X9_doStep_40 at hF
    refine z_aload cx d_X9_doStep_40 2 rfl ?_
    refine z_iload_n cx d_X9_doStep_42 0 rfl ?_
    refine z_iload cx d_X9_doStep_43 1 rfl ?_
    obtain ⟨v14, M13, hc, hF⟩ := zb_inv hF
    refine z_callV cx (As := [.int b40_L2, .int b40_L4]) (rest := []) (c_X4_pour l cx.2.2.2.1.1 M 4 b40_L2 b40_L4 (tfX_8_1 (tfX_10_3 hT)) hc) (tfX_8_1 (tfX_10_3 hT)) zo_5 cv_SunnyPans_399 ⟨rfl, rfl, Nat.le_of_ble_eq_true rfl, Nat.le_of_ble_eq_true rfl⟩ rfl rfl ⟨Nat.zero_le _, Nat.zero_le _⟩ (Nat.le_of_ble_eq_true rfl) d_X9_doStep_45 ?_
    obtain ⟨hn15, hF⟩ := gd_inv hF
    exact z_iret cx hr (nbx hn15) hF d_X9_doStep_48
  unfold F_X9_doStep at hF
  refine z_aload_n cx d_X9_doStep_0 0 rfl ?_
  refine z_getR cx hT fg_SunnyPans_19 3 rfl d_X9_doStep_1 ?_
  refine z_getR cx (tfX_10_3 hT) fg_SunnyPans_159 4 rfl d_X9_doStep_4 ?_
  refine z_astore cx 5 [(5, .ref (ad 4)), (0, .ref (ad 0)), (1, .int p0), (2, .int p1), (3, .int p2), (4, .int p3)] d_X9_doStep_7 (by decide) rfl ?_
  refine z_iload_n cx d_X9_doStep_9 2 rfl ?_
  by_cases q0 : p0 = 0
  · rw [if_pos q0] at hF
    refine z_tabIn cx 40 d_X9_doStep_10 (by rw [q0]; decide +kernel) (by rw [q0]; decide +kernel) (by rw [q0]; rfl) (by decide) ?_
    exact z_lv [3, 5, 0] _ rfl (hb40 p1 p3 M hF)
  rw [if_neg q0] at hF
  by_cases q1 : p0 = 1
  · rw [if_pos q1] at hF
    refine z_tabIn cx 49 d_X9_doStep_10 (by rw [q1]; decide +kernel) (by rw [q1]; decide +kernel) (by rw [q1]; rfl) (by decide) ?_
    exact z_lv [1, 3, 4, 0] _ rfl (hb49 p1 p2 M hF)
  rw [if_neg q1] at hF
  by_cases q2 : p0 = 2
  · rw [if_pos q2] at hF
    refine z_tabIn cx 61 d_X9_doStep_10 (by rw [q2]; decide +kernel) (by rw [q2]; decide +kernel) (by rw [q2]; rfl) (by decide) ?_
    exact z_lv [1, 3, 0] _ rfl (hb61 p1 M hF)
  rw [if_neg q2] at hF
  by_cases q3 : p0 = 3
  · rw [if_pos q3] at hF
    refine z_tabIn cx 72 d_X9_doStep_10 (by rw [q3]; decide +kernel) (by rw [q3]; decide +kernel) (by rw [q3]; rfl) (by decide) ?_
    exact z_lv [1, 5, 0] _ rfl (hb72 p3 M hF)
  rw [if_neg q3] at hF
  refine z_tabOut cx 85 d_X9_doStep_10 (by have w0 := lv_neT q0 (a := 0) (by decide +kernel); have w1 := lv_neT q1 (a := 1) (by decide +kernel); have w2 := lv_neT q2 (a := 2) (by decide +kernel); have w3 := lv_neT q3 (a := 3) (by decide +kernel); omega) (by decide) ?_
  exact z_lv [1, 0] _ rfl (hb85 M hF)
/-! SunnyPans.doJob -/
theorem tfX_10_91 {n k : Nat} (h : zT shX n k 10) : zT shX n (k + 91) 3 := zT_off h (shX_f (by decide) (by decide +kernel)) (by decide) (by decide)
set_option maxRecDepth 100000 in
theorem wd_883 : Cond.constant "SunnyPans" 434 (1000000) ∈ tbG := tw4 63 rfl rfl
set_option maxRecDepth 100000 in
theorem wd_412 : Cond.fieldLink "SunnyPans" 30 "SunnyPans" "job" "LSunnyPans$Job;" ∈ tbG := tw2 72 rfl rfl
theorem fg_SunnyPans_30 : zGetR "SunnyPans" 30 9 10 3 91 := ⟨RX9, TX9, 19, rfl, by decide, uw_9, wd_412, fun _ _ _ _ _ _ => ⟨_, rfl, rfl⟩⟩
set_option maxRecDepth 100000 in
theorem wd_884 : Cond.methodLink "SunnyPans" 435 yX2_isAt ∈ tbG := tw4 64 rfl rfl
theorem cv_SunnyPans_435 : zCV "SunnyPans" 435 "SunnyPans$Job" yX2_isAt cX2_isAt 2 (some .boolean) 1 := zCV_of wd_884 wd_885 wd_886 wd_105 wd_887 (by decide +kernel)
set_option maxRecDepth 100000 in
theorem wd_234 : Cond.fieldLink "SunnyPans" 438 "SunnyPans$Job" "kind" "[I" ∈ tbG := tw1 134 rfl rfl
theorem fg_SunnyPans_438 : zGetR "SunnyPans" 438 2 3 0 1 := ⟨RX2, TX2, 9, rfl, by decide, uw_2, wd_234, fun _ _ _ _ _ _ => ⟨_, rfl, rfl⟩⟩
theorem ks_200 : (Int16.ofInt (200)).toInt32 = (200 : Int32) := by decide +kernel
set_option maxRecDepth 100000 in
theorem wd_236 : Cond.fieldLink "SunnyPans" 447 "SunnyPans$Job" "place" "[I" ∈ tbG := tw1 136 rfl rfl
theorem fg_SunnyPans_447 : zGetR "SunnyPans" 447 2 3 1 2 := ⟨RX2, TX2, 9, rfl, by decide, uw_2, wd_236, fun _ _ _ _ _ _ => ⟨_, rfl, rfl⟩⟩
set_option maxRecDepth 100000 in
theorem wd_238 : Cond.fieldLink "SunnyPans" 448 "SunnyPans$Job" "other" "[I" ∈ tbG := tw1 138 rfl rfl
theorem fg_SunnyPans_448 : zGetR "SunnyPans" 448 2 3 2 3 := ⟨RX2, TX2, 9, rfl, by decide, uw_2, wd_238, fun _ _ _ _ _ _ => ⟨_, rfl, rfl⟩⟩
set_option maxRecDepth 100000 in
theorem wd_240 : Cond.fieldLink "SunnyPans" 451 "SunnyPans$Job" "amount" "[I" ∈ tbG := tw1 140 rfl rfl
theorem fg_SunnyPans_451 : zGetR "SunnyPans" 451 2 3 3 4 := ⟨RX2, TX2, 9, rfl, by decide, uw_2, wd_240, fun _ _ _ _ _ _ => ⟨_, rfl, rfl⟩⟩
set_option maxRecDepth 100000 in
theorem wd_900 : Cond.code yX9_doStep cX9_doStep 6 (some .boolean) ∈ tbG := tw4 80 rfl rfl
set_option maxRecDepth 100000 in
theorem wd_897 : Cond.methodLink "SunnyPans" 453 yX9_doStep ∈ tbG := tw4 77 rfl rfl
set_option maxRecDepth 100000 in
theorem wd_899 : Cond.instanceMethod yX9_doStep ∈ tbG := tw4 79 rfl rfl
theorem wd_20 : Cond.selects "SunnyPans" yX9_doStep yX9_doStep ∈ tbG := tw 20 (by decide +kernel) rfl
theorem cv_SunnyPans_453 : zCV "SunnyPans" 453 "SunnyPans" yX9_doStep cX9_doStep 6 (some .boolean) 4 := zCV_of wd_897 wd_899 wd_20 wd_101 wd_900 (by decide +kernel)
set_option maxRecDepth 100000 in
theorem wd_896 : Cond.code yX2_behindAgain cX2_behindAgain 2 (some .int) ∈ tbG := tw4 76 rfl rfl
set_option maxRecDepth 100000 in
theorem wd_893 : Cond.methodLink "SunnyPans" 444 yX2_behindAgain ∈ tbG := tw4 73 rfl rfl
set_option maxRecDepth 100000 in
theorem wd_894 : Cond.instanceMethod yX2_behindAgain ∈ tbG := tw4 74 rfl rfl
set_option maxRecDepth 100000 in
theorem wd_895 : Cond.selects "SunnyPans$Job" yX2_behindAgain yX2_behindAgain ∈ tbG := tw4 75 rfl rfl
theorem cv_SunnyPans_444 : zCV "SunnyPans" 444 "SunnyPans$Job" yX2_behindAgain cX2_behindAgain 2 (some .int) 1 := zCV_of wd_893 wd_894 wd_895 wd_105 wd_896 (by decide +kernel)
set_option maxRecDepth 100000 in
theorem wd_891 : Cond.code yX2_behindClose cX2_behindClose 3 (some .int) ∈ tbG := tw4 71 rfl rfl
set_option maxRecDepth 100000 in
theorem wd_888 : Cond.methodLink "SunnyPans" 441 yX2_behindClose ∈ tbG := tw4 68 rfl rfl
set_option maxRecDepth 100000 in
theorem wd_889 : Cond.instanceMethod yX2_behindClose ∈ tbG := tw4 69 rfl rfl
set_option maxRecDepth 100000 in
theorem wd_890 : Cond.selects "SunnyPans$Job" yX2_behindClose yX2_behindClose ∈ tbG := tw4 70 rfl rfl
theorem cv_SunnyPans_441 : zCV "SunnyPans" 441 "SunnyPans$Job" yX2_behindClose cX2_behindClose 3 (some .int) 1 := zCV_of wd_888 wd_889 wd_890 wd_105 wd_891 (by decide +kernel)
theorem d_X9_doJob_0 : decode cX9_doJob 0 = .ok (.aload_n 0, 1) := by decide +kernel
theorem d_X9_doJob_1 : decode cX9_doJob 1 = .ok (.iconst 0, 1) := by decide +kernel
theorem d_X9_doJob_2 : decode cX9_doJob 2 = .ok (.putfield 124, 3) := by decide +kernel
theorem d_X9_doJob_5 : decode cX9_doJob 5 = .ok (.iconst 0, 1) := by decide +kernel
theorem d_X9_doJob_6 : decode cX9_doJob 6 = .ok (.istore_n 1, 1) := by decide +kernel
theorem d_X9_doJob_7 : decode cX9_doJob 7 = .ok (.iconst 0, 1) := by decide +kernel
theorem d_X9_doJob_8 : decode cX9_doJob 8 = .ok (.istore_n 2, 1) := by decide +kernel
theorem d_X9_doJob_9 : decode cX9_doJob 9 = .ok (.iconst 0, 1) := by decide +kernel
theorem d_X9_doJob_10 : decode cX9_doJob 10 = .ok (.istore_n 3, 1) := by decide +kernel
theorem d_X9_doJob_11 : decode cX9_doJob 11 = .ok (.iconst 0, 1) := by decide +kernel
theorem d_X9_doJob_12 : decode cX9_doJob 12 = .ok (.istore 4, 2) := by decide +kernel
theorem d_X9_doJob_14 : decode cX9_doJob 14 = .ok (.iload 4, 2) := by decide +kernel
theorem d_X9_doJob_16 : decode cX9_doJob 16 = .ok (.ldc_w 434, 3) := by decide +kernel
theorem d_X9_doJob_19 : decode cX9_doJob 19 = .ok (.if_icmp .ge 136, 3) := by decide +kernel
theorem d_X9_doJob_22 : decode cX9_doJob 22 = .ok (.aload_n 0, 1) := by decide +kernel
theorem d_X9_doJob_23 : decode cX9_doJob 23 = .ok (.getfield 30, 3) := by decide +kernel
theorem d_X9_doJob_26 : decode cX9_doJob 26 = .ok (.iload_n 3, 1) := by decide +kernel
theorem d_X9_doJob_27 : decode cX9_doJob 27 = .ok (.invokevirtual 435, 3) := by decide +kernel
theorem d_X9_doJob_30 : decode cX9_doJob 30 = .ok (.ifCond .eq 125, 3) := by decide +kernel
theorem d_X9_doJob_33 : decode cX9_doJob 33 = .ok (.aload_n 0, 1) := by decide +kernel
theorem d_X9_doJob_34 : decode cX9_doJob 34 = .ok (.getfield 30, 3) := by decide +kernel
theorem d_X9_doJob_37 : decode cX9_doJob 37 = .ok (.getfield 438, 3) := by decide +kernel
theorem d_X9_doJob_40 : decode cX9_doJob 40 = .ok (.iload_n 3, 1) := by decide +kernel
theorem d_X9_doJob_41 : decode cX9_doJob 41 = .ok (.iaload, 1) := by decide +kernel
theorem d_X9_doJob_42 : decode cX9_doJob 42 = .ok (.istore 5, 2) := by decide +kernel
theorem d_X9_doJob_44 : decode cX9_doJob 44 = .ok (.iload 5, 2) := by decide +kernel
theorem d_X9_doJob_46 : decode cX9_doJob 46 = .ok (.bipush 6, 2) := by decide +kernel
theorem d_X9_doJob_48 : decode cX9_doJob 48 = .ok (.if_icmp .ne 15, 3) := by decide +kernel
theorem d_X9_doJob_51 : decode cX9_doJob 51 = .ok (.aload_n 0, 1) := by decide +kernel
theorem d_X9_doJob_52 : decode cX9_doJob 52 = .ok (.getfield 30, 3) := by decide +kernel
theorem d_X9_doJob_55 : decode cX9_doJob 55 = .ok (.iload_n 3, 1) := by decide +kernel
theorem d_X9_doJob_56 : decode cX9_doJob 56 = .ok (.invokevirtual 441, 3) := by decide +kernel
theorem d_X9_doJob_59 : decode cX9_doJob 59 = .ok (.istore_n 3, 1) := by decide +kernel
theorem d_X9_doJob_60 : decode cX9_doJob 60 = .ok (.goto 89, 3) := by decide +kernel
theorem d_X9_doJob_63 : decode cX9_doJob 63 = .ok (.iload_n 2, 1) := by decide +kernel
theorem d_X9_doJob_64 : decode cX9_doJob 64 = .ok (.sipush 200, 3) := by decide +kernel
theorem d_X9_doJob_67 : decode cX9_doJob 67 = .ok (.if_icmp .lt 6, 3) := by decide +kernel
theorem d_X9_doJob_70 : decode cX9_doJob 70 = .ok (.goto 85, 3) := by decide +kernel
theorem d_X9_doJob_73 : decode cX9_doJob 73 = .ok (.iinc 2 1, 3) := by decide +kernel
theorem d_X9_doJob_76 : decode cX9_doJob 76 = .ok (.iload 5, 2) := by decide +kernel
theorem d_X9_doJob_78 : decode cX9_doJob 78 = .ok (.iconst 5, 1) := by decide +kernel
theorem d_X9_doJob_79 : decode cX9_doJob 79 = .ok (.if_icmp .ne 15, 3) := by decide +kernel
theorem d_X9_doJob_82 : decode cX9_doJob 82 = .ok (.aload_n 0, 1) := by decide +kernel
theorem d_X9_doJob_83 : decode cX9_doJob 83 = .ok (.getfield 30, 3) := by decide +kernel
theorem d_X9_doJob_86 : decode cX9_doJob 86 = .ok (.iload_n 3, 1) := by decide +kernel
theorem d_X9_doJob_87 : decode cX9_doJob 87 = .ok (.invokevirtual 444, 3) := by decide +kernel
theorem d_X9_doJob_90 : decode cX9_doJob 90 = .ok (.istore_n 3, 1) := by decide +kernel
theorem d_X9_doJob_91 : decode cX9_doJob 91 = .ok (.goto 58, 3) := by decide +kernel
theorem d_X9_doJob_94 : decode cX9_doJob 94 = .ok (.aload_n 0, 1) := by decide +kernel
theorem d_X9_doJob_95 : decode cX9_doJob 95 = .ok (.iload 5, 2) := by decide +kernel
theorem d_X9_doJob_97 : decode cX9_doJob 97 = .ok (.aload_n 0, 1) := by decide +kernel
theorem d_X9_doJob_98 : decode cX9_doJob 98 = .ok (.getfield 30, 3) := by decide +kernel
theorem d_X9_doJob_101 : decode cX9_doJob 101 = .ok (.getfield 447, 3) := by decide +kernel
theorem d_X9_doJob_104 : decode cX9_doJob 104 = .ok (.iload_n 3, 1) := by decide +kernel
theorem d_X9_doJob_105 : decode cX9_doJob 105 = .ok (.iaload, 1) := by decide +kernel
theorem d_X9_doJob_106 : decode cX9_doJob 106 = .ok (.aload_n 0, 1) := by decide +kernel
theorem d_X9_doJob_107 : decode cX9_doJob 107 = .ok (.getfield 30, 3) := by decide +kernel
theorem d_X9_doJob_110 : decode cX9_doJob 110 = .ok (.getfield 448, 3) := by decide +kernel
theorem d_X9_doJob_113 : decode cX9_doJob 113 = .ok (.iload_n 3, 1) := by decide +kernel
theorem d_X9_doJob_114 : decode cX9_doJob 114 = .ok (.iaload, 1) := by decide +kernel
theorem d_X9_doJob_115 : decode cX9_doJob 115 = .ok (.aload_n 0, 1) := by decide +kernel
theorem d_X9_doJob_116 : decode cX9_doJob 116 = .ok (.getfield 30, 3) := by decide +kernel
theorem d_X9_doJob_119 : decode cX9_doJob 119 = .ok (.getfield 451, 3) := by decide +kernel
theorem d_X9_doJob_122 : decode cX9_doJob 122 = .ok (.iload_n 3, 1) := by decide +kernel
theorem d_X9_doJob_123 : decode cX9_doJob 123 = .ok (.iaload, 1) := by decide +kernel
theorem d_X9_doJob_124 : decode cX9_doJob 124 = .ok (.invokevirtual 453, 3) := by decide +kernel
theorem d_X9_doJob_127 : decode cX9_doJob 127 = .ok (.ifCond .eq 9, 3) := by decide +kernel
theorem d_X9_doJob_130 : decode cX9_doJob 130 = .ok (.iinc 1 1, 3) := by decide +kernel
theorem d_X9_doJob_133 : decode cX9_doJob 133 = .ok (.goto 13, 3) := by decide +kernel
theorem d_X9_doJob_136 : decode cX9_doJob 136 = .ok (.aload_n 0, 1) := by decide +kernel
theorem d_X9_doJob_137 : decode cX9_doJob 137 = .ok (.dup, 1) := by decide +kernel
theorem d_X9_doJob_138 : decode cX9_doJob 138 = .ok (.getfield 124, 3) := by decide +kernel
theorem d_X9_doJob_141 : decode cX9_doJob 141 = .ok (.iconst 1, 1) := by decide +kernel
theorem d_X9_doJob_142 : decode cX9_doJob 142 = .ok (.iadd, 1) := by decide +kernel
theorem d_X9_doJob_143 : decode cX9_doJob 143 = .ok (.putfield 124, 3) := by decide +kernel
theorem d_X9_doJob_146 : decode cX9_doJob 146 = .ok (.iinc 3 1, 3) := by decide +kernel
theorem d_X9_doJob_149 : decode cX9_doJob 149 = .ok (.iinc 4 1, 3) := by decide +kernel
theorem d_X9_doJob_152 : decode cX9_doJob 152 = .ok (.goto (-138), 3) := by decide +kernel
theorem d_X9_doJob_155 : decode cX9_doJob 155 = .ok (.iload_n 1, 1) := by decide +kernel
theorem d_X9_doJob_156 : decode cX9_doJob 156 = .ok (.ireturn, 1) := by decide +kernel
noncomputable def F_X9_doJob_149 (self14 : Int32 → Int32 → Int32 → Int32 → zMem → Option (Int32 × zMem)) (b149_L1 : Int32) (b149_L2 : Int32) (b149_L3 : Int32) (b149_L4 : Int32) (M : zMem) : Option (Int32 × zMem) :=
  self14 b149_L1 b149_L2 b149_L3 (b149_L4 + 1) M
noncomputable def F_X9_doJob_146 (self14 : Int32 → Int32 → Int32 → Int32 → zMem → Option (Int32 × zMem)) (b146_L1 : Int32) (b146_L2 : Int32) (b146_L3 : Int32) (b146_L4 : Int32) (M : zMem) : Option (Int32 × zMem) :=
  F_X9_doJob_149 self14 b146_L1 b146_L2 (b146_L3 + 1) b146_L4 M
noncomputable def F_X9_doJob_14 (self14 : Int32 → Int32 → Int32 → Int32 → zMem → Option (Int32 × zMem)) (b14_L1 : Int32) (b14_L2 : Int32) (b14_L3 : Int32) (b14_L4 : Int32) (M : zMem) : Option (Int32 × zMem) :=
  if (1000000 : Int32) ≤ b14_L4 then
    some (b14_L1, M)
  else
    zb (F_X2_isAt M 91 b14_L3) fun v2 M1 =>
    if v2 = 0 then
      some (b14_L1, M1)
    else
      gin b14_L3 150 <|
      zl (M1.1 92 b14_L3.toNatClampNeg) fun v4 =>
      if v4 = (6 : Int32) then
        zb (F_X2_behindClose M1 91 b14_L3) fun v11 M10 =>
        F_X9_doJob_149 self14 b14_L1 b14_L2 v11 b14_L4 M10
      else
        if b14_L2 < (200 : Int32) then
          if v4 = (5 : Int32) then
            zb (F_X2_behindAgain M1 91 b14_L3) fun v9 M8 =>
            F_X9_doJob_149 self14 b14_L1 (b14_L2 + 1) v9 b14_L4 M8
          else
            zb (F_X9_doStep M1 v4 (M1.1 93 b14_L3.toNatClampNeg) (M1.1 94 b14_L3.toNatClampNeg) (M1.1 95 b14_L3.toNatClampNeg)) fun v6 M5 =>
            if v6 = 0 then
              zl (zI M5 0 15 ((M5.1 0 15) + (1 : Int32))) fun M7 =>
              F_X9_doJob_146 self14 b14_L1 (b14_L2 + 1) b14_L3 b14_L4 M7
            else
              F_X9_doJob_146 self14 (b14_L1 + 1) (b14_L2 + 1) b14_L3 b14_L4 M5
        else
          some (b14_L1, M1)
noncomputable def F_X9_doJob (M : zMem)  : Option (Int32 × zMem) :=
  zl (zI M 0 15 (0 : Int32)) fun M12 =>
  itF (fun _ _ _ _ _ => none) (F_X9_doJob_14) zFuel (0 : Int32) (0 : Int32) (0 : Int32) (0 : Int32) M12
def rm_X9_doJob : Room := { frames := 8, cells := 0, slots := 0, locals := 205 }
set_option maxHeartbeats 4000000 in
set_option maxRecDepth 100000 in
theorem c_X9_doJob (l : Launch) {G : zG} {ad : Nat → Nat} {n : Nat} (hA : zInj ad n) (M : zMem)  (hT : zT shX n 0 10) {r9 : Int32} {M9 : zMem} (hF : F_X9_doJob M  = some (r9, M9)) : zM l yX9_doJob cX9_doJob 6 (some .int) rm_X9_doJob G shX ad n M [.ref (ad 0)] (some (.int r9)) M9 := by
  refine zM_of hA (by decide +kernel) (lv := [(0, .ref (ad 0))]) (Nat.le_of_ble_eq_true rfl) rfl (fun p e s m args below meth c A cx hr => ?_)
  have hb149 : ∀ (self14 : Int32 → Int32 → Int32 → Int32 → zMem → Option (Int32 × zMem)) (hs14 : ∀ (b14_L1 : Int32) (b14_L2 : Int32) (b14_L3 : Int32) (b14_L4 : Int32) (M : zMem), self14 b14_L1 b14_L2 b14_L3 b14_L4 M = some (r9, M9) → zJ p l e rm_X9_doJob s m args below meth c G shX ad n A 6 (MQ below (zQ G shX ad n M9 (some (.int r9)) A) args s 0 0 A) 0 0 M 14 [(0, .ref (ad 0)), (1, .int b14_L1), (2, .int b14_L2), (3, .int b14_L3), (4, .int b14_L4)] []), ∀ (b149_L1 : Int32) (b149_L2 : Int32) (b149_L3 : Int32) (b149_L4 : Int32) (M : zMem), F_X9_doJob_149 self14 b149_L1 b149_L2 b149_L3 b149_L4 M = some (r9, M9) → zJ p l e rm_X9_doJob s m args below meth c G shX ad n A 6 (MQ below (zQ G shX ad n M9 (some (.int r9)) A) args s 0 0 A) 0 0 M 149 [(0, .ref (ad 0)), (1, .int b149_L1), (2, .int b149_L2), (3, .int b149_L3), (4, .int b149_L4)] [] := by
    intro self14 hs14 b149_L1 b149_L2 b149_L3 b149_L4 M hF
    unfold F_X9_doJob_149 at hF
    refine z_iinc cx 4 1 [(4, .int (b149_L4 + 1)), (0, .ref (ad 0)), (1, .int b149_L1), (2, .int b149_L2), (3, .int b149_L3)] d_X9_doJob_149 4 rfl ki_1 (by decide) rfl ?_
    refine z_goto cx 14 d_X9_doJob_152 (by decide) ?_
    exact z_lv [1, 2, 3, 4, 0] _ rfl (hs14 b149_L1 b149_L2 b149_L3 (b149_L4 + 1) M hF)
  have hb146 : ∀ (self14 : Int32 → Int32 → Int32 → Int32 → zMem → Option (Int32 × zMem)) (hs14 : ∀ (b14_L1 : Int32) (b14_L2 : Int32) (b14_L3 : Int32) (b14_L4 : Int32) (M : zMem), self14 b14_L1 b14_L2 b14_L3 b14_L4 M = some (r9, M9) → zJ p l e rm_X9_doJob s m args below meth c G shX ad n A 6 (MQ below (zQ G shX ad n M9 (some (.int r9)) A) args s 0 0 A) 0 0 M 14 [(0, .ref (ad 0)), (1, .int b14_L1), (2, .int b14_L2), (3, .int b14_L3), (4, .int b14_L4)] []), ∀ (b146_L1 : Int32) (b146_L2 : Int32) (b146_L3 : Int32) (b146_L4 : Int32) (M : zMem), F_X9_doJob_146 self14 b146_L1 b146_L2 b146_L3 b146_L4 M = some (r9, M9) → zJ p l e rm_X9_doJob s m args below meth c G shX ad n A 6 (MQ below (zQ G shX ad n M9 (some (.int r9)) A) args s 0 0 A) 0 0 M 146 [(0, .ref (ad 0)), (1, .int b146_L1), (2, .int b146_L2), (3, .int b146_L3), (4, .int b146_L4)] [] := by
    intro self14 hs14 b146_L1 b146_L2 b146_L3 b146_L4 M hF
    unfold F_X9_doJob_146 at hF
    refine z_iinc cx 3 1 [(3, .int (b146_L3 + 1)), (0, .ref (ad 0)), (1, .int b146_L1), (2, .int b146_L2), (4, .int b146_L4)] d_X9_doJob_146 3 rfl ki_1 (by decide) rfl ?_
    exact z_lv [1, 2, 3, 0, 4] _ rfl (hb149 self14 hs14 b146_L1 b146_L2 (b146_L3 + 1) b146_L4 M hF)
  have hL14 : ∀ (fuel : Nat), ∀ (b14_L1 : Int32) (b14_L2 : Int32) (b14_L3 : Int32) (b14_L4 : Int32) (M : zMem), itF (fun _ _ _ _ _ => none) (F_X9_doJob_14) fuel b14_L1 b14_L2 b14_L3 b14_L4 M = some (r9, M9) → zJ p l e rm_X9_doJob s m args below meth c G shX ad n A 6 (MQ below (zQ G shX ad n M9 (some (.int r9)) A) args s 0 0 A) 0 0 M 14 [(0, .ref (ad 0)), (1, .int b14_L1), (2, .int b14_L2), (3, .int b14_L3), (4, .int b14_L4)] [] := by
    intro fuel
    induction fuel with
    | zero => intro b14_L1 b14_L2 b14_L3 b14_L4 M hF; cases hF
    | succ fuel hs14 =>
      intro b14_L1 b14_L2 b14_L3 b14_L4 M hF
      have hF : F_X9_doJob_14 (itF (fun _ _ _ _ _ => none) (F_X9_doJob_14) fuel) b14_L1 b14_L2 b14_L3 b14_L4 M = some (r9, M9) := hF
      generalize itF (fun _ _ _ _ _ => none) (F_X9_doJob_14) fuel = self14 at hs14 hF
      unfold F_X9_doJob_14 at hF
      refine z_iload cx d_X9_doJob_14 4 rfl ?_
      refine z_ldcw cx wd_883 d_X9_doJob_16 ?_
      refine z_icmp_ge cx 155 d_X9_doJob_19 (by decide) hF (fun hF => ?_) (fun hF => ?_)
      · refine z_iload_n cx d_X9_doJob_155 1 rfl ?_
        exact z_iret cx hr rfl hF d_X9_doJob_156
      refine z_aload_n cx d_X9_doJob_22 0 rfl ?_
      refine z_getR cx hT fg_SunnyPans_30 91 rfl d_X9_doJob_23 ?_
      refine z_iload_n cx d_X9_doJob_26 3 rfl ?_
      obtain ⟨v2, M1, hc, hF⟩ := zb_inv hF
      refine z_callV cx (As := [.int b14_L3]) (rest := []) (c_X2_isAt l cx.2.2.2.1.1 M 91 b14_L3 (tfX_10_91 hT) hc) (tfX_10_91 hT) zo_3 cv_SunnyPans_435 ⟨rfl, rfl, Nat.le_of_ble_eq_true rfl, Nat.le_of_ble_eq_true rfl⟩ rfl rfl ⟨Nat.zero_le _, Nat.zero_le _⟩ (Nat.le_of_ble_eq_true rfl) d_X9_doJob_27 ?_
      refine z_if_eq cx 155 d_X9_doJob_30 (by decide) hF (fun hF => ?_) (fun hF => ?_)
      · refine z_iload_n cx d_X9_doJob_155 1 rfl ?_
        exact z_iret cx hr rfl hF d_X9_doJob_156
      refine z_aload_n cx d_X9_doJob_33 0 rfl ?_
      refine z_getR cx hT fg_SunnyPans_30 91 rfl d_X9_doJob_34 ?_
      refine z_getR cx (tfX_10_91 hT) fg_SunnyPans_438 92 rfl d_X9_doJob_37 ?_
      refine z_iload_n cx d_X9_doJob_40 3 rfl ?_
      obtain ⟨hi3, hF⟩ := gin_inv hF
      refine z_iald cx (tfX_3_1 (tfX_10_91 hT)) za_21 hi3 b14_L3.toNatClampNeg rfl d_X9_doJob_41 ?_
      refine z_nm hF (fun v4 hF => ?_)
      refine z_istore cx 5 [(5, .int v4), (0, .ref (ad 0)), (1, .int b14_L1), (2, .int b14_L2), (3, .int b14_L3), (4, .int b14_L4)] d_X9_doJob_42 (by decide) rfl ?_
      refine z_iload cx d_X9_doJob_44 0 rfl ?_
      refine z_bipush (v := 6) cx d_X9_doJob_46 kb_6 ?_
      refine z_icmp_ne cx 63 d_X9_doJob_48 (by decide) hF (fun hF => ?_) (fun hF => ?_)
      · refine z_iload_n cx d_X9_doJob_63 3 rfl ?_
        refine z_sipush (v := 200) cx d_X9_doJob_64 ks_200 ?_
        refine z_icmp_lt cx 73 d_X9_doJob_67 (by decide) hF (fun hF => ?_) (fun hF => ?_)
        · refine z_iinc cx 2 1 [(2, .int (b14_L2 + 1)), (5, .int v4), (0, .ref (ad 0)), (1, .int b14_L1), (3, .int b14_L3), (4, .int b14_L4)] d_X9_doJob_73 3 rfl ki_1 (by decide) rfl ?_
          refine z_iload cx d_X9_doJob_76 1 rfl ?_
          refine z_iconst (v := 5) cx d_X9_doJob_78 ki_5 ?_
          refine z_icmp_ne cx 94 d_X9_doJob_79 (by decide) hF (fun hF => ?_) (fun hF => ?_)
          · refine z_aload_n cx d_X9_doJob_94 2 rfl ?_
            refine z_iload cx d_X9_doJob_95 1 rfl ?_
            refine z_aload_n cx d_X9_doJob_97 2 rfl ?_
            refine z_getR cx hT fg_SunnyPans_30 91 rfl d_X9_doJob_98 ?_
            refine z_getR cx (tfX_10_91 hT) fg_SunnyPans_447 93 rfl d_X9_doJob_101 ?_
            refine z_iload_n cx d_X9_doJob_104 4 rfl ?_
            refine z_iald cx (tfX_3_2 (tfX_10_91 hT)) za_21 hi3 b14_L3.toNatClampNeg rfl d_X9_doJob_105 ?_
            refine z_aload_n cx d_X9_doJob_106 2 rfl ?_
            refine z_getR cx hT fg_SunnyPans_30 91 rfl d_X9_doJob_107 ?_
            refine z_getR cx (tfX_10_91 hT) fg_SunnyPans_448 94 rfl d_X9_doJob_110 ?_
            refine z_iload_n cx d_X9_doJob_113 4 rfl ?_
            refine z_iald cx (tfX_3_3 (tfX_10_91 hT)) za_21 hi3 b14_L3.toNatClampNeg rfl d_X9_doJob_114 ?_
            refine z_aload_n cx d_X9_doJob_115 2 rfl ?_
            refine z_getR cx hT fg_SunnyPans_30 91 rfl d_X9_doJob_116 ?_
            refine z_getR cx (tfX_10_91 hT) fg_SunnyPans_451 95 rfl d_X9_doJob_119 ?_
            refine z_iload_n cx d_X9_doJob_122 4 rfl ?_
            refine z_iald cx (tfX_3_4 (tfX_10_91 hT)) za_21 hi3 b14_L3.toNatClampNeg rfl d_X9_doJob_123 ?_
            obtain ⟨v6, M5, hc, hF⟩ := zb_inv hF
            refine z_callV cx (As := [.int v4, .int (M1.1 93 b14_L3.toNatClampNeg), .int (M1.1 94 b14_L3.toNatClampNeg), .int (M1.1 95 b14_L3.toNatClampNeg)]) (rest := []) (c_X9_doStep l cx.2.2.2.1.1 M1 v4 (M1.1 93 b14_L3.toNatClampNeg) (M1.1 94 b14_L3.toNatClampNeg) (M1.1 95 b14_L3.toNatClampNeg) hT hc) hT zo_10 cv_SunnyPans_453 ⟨rfl, rfl, Nat.le_of_ble_eq_true rfl, Nat.le_of_ble_eq_true rfl⟩ rfl rfl ⟨Nat.zero_le _, Nat.zero_le _⟩ (Nat.le_of_ble_eq_true rfl) d_X9_doJob_124 ?_
            refine z_if_eq cx 136 d_X9_doJob_127 (by decide) hF (fun hF => ?_) (fun hF => ?_)
            · refine z_aload_n cx d_X9_doJob_136 2 rfl ?_
              refine z_dup cx d_X9_doJob_137 rfl ?_
              refine z_getI cx hT fg_SunnyPans_124 d_X9_doJob_138 ?_
              refine z_iconst (v := 1) cx d_X9_doJob_141 ki_1 ?_
              refine z_iadd cx d_X9_doJob_142 ?_
              refine z_putI cx hT fp_SunnyPans_124 d_X9_doJob_143 ?_
              refine z_nmM hF (fun M7 hF => ?_)
              exact z_lv [2, 3, 0, 4, 5] _ rfl (hb146 self14 hs14 b14_L1 (b14_L2 + 1) b14_L3 b14_L4 M7 hF)
            refine z_iinc cx 1 1 [(1, .int (b14_L1 + 1)), (2, .int (b14_L2 + 1)), (5, .int v4), (0, .ref (ad 0)), (3, .int b14_L3), (4, .int b14_L4)] d_X9_doJob_130 3 rfl ki_1 (by decide) rfl ?_
            refine z_goto cx 146 d_X9_doJob_133 (by decide) ?_
            exact z_lv [3, 0, 1, 4, 5] _ rfl (hb146 self14 hs14 (b14_L1 + 1) (b14_L2 + 1) b14_L3 b14_L4 M5 hF)
          refine z_aload_n cx d_X9_doJob_82 2 rfl ?_
          refine z_getR cx hT fg_SunnyPans_30 91 rfl d_X9_doJob_83 ?_
          refine z_iload_n cx d_X9_doJob_86 4 rfl ?_
          obtain ⟨v9, M8, hc, hF⟩ := zb_inv hF
          refine z_callV cx (As := [.int b14_L3]) (rest := []) (c_X2_behindAgain l cx.2.2.2.1.1 M1 91 b14_L3 (tfX_10_91 hT) hc) (tfX_10_91 hT) zo_3 cv_SunnyPans_444 ⟨rfl, rfl, Nat.le_of_ble_eq_true rfl, Nat.le_of_ble_eq_true rfl⟩ rfl rfl ⟨Nat.zero_le _, Nat.zero_le _⟩ (Nat.le_of_ble_eq_true rfl) d_X9_doJob_87 ?_
          refine z_istore_n cx 3 [(3, .int v9), (2, .int (b14_L2 + 1)), (5, .int v4), (0, .ref (ad 0)), (1, .int b14_L1), (4, .int b14_L4)] d_X9_doJob_90 rfl (by decide) rfl ?_
          refine z_goto cx 149 d_X9_doJob_91 (by decide) ?_
          exact z_lv [3, 4, 1, 0, 5] _ rfl (hb149 self14 hs14 b14_L1 (b14_L2 + 1) v9 b14_L4 M8 hF)
        refine z_goto cx 155 d_X9_doJob_70 (by decide) ?_
        refine z_iload_n cx d_X9_doJob_155 2 rfl ?_
        exact z_iret cx hr rfl hF d_X9_doJob_156
      refine z_aload_n cx d_X9_doJob_51 1 rfl ?_
      refine z_getR cx hT fg_SunnyPans_30 91 rfl d_X9_doJob_52 ?_
      refine z_iload_n cx d_X9_doJob_55 4 rfl ?_
      obtain ⟨v11, M10, hc, hF⟩ := zb_inv hF
      refine z_callV cx (As := [.int b14_L3]) (rest := []) (c_X2_behindClose l cx.2.2.2.1.1 M1 91 b14_L3 (tfX_10_91 hT) hc) (tfX_10_91 hT) zo_3 cv_SunnyPans_441 ⟨rfl, rfl, Nat.le_of_ble_eq_true rfl, Nat.le_of_ble_eq_true rfl⟩ rfl rfl ⟨Nat.zero_le _, Nat.zero_le _⟩ (Nat.le_of_ble_eq_true rfl) d_X9_doJob_56 ?_
      refine z_istore_n cx 3 [(3, .int v11), (5, .int v4), (0, .ref (ad 0)), (1, .int b14_L1), (2, .int b14_L2), (4, .int b14_L4)] d_X9_doJob_59 rfl (by decide) rfl ?_
      refine z_goto cx 149 d_X9_doJob_60 (by decide) ?_
      exact z_lv [2, 3, 4, 0, 5] _ rfl (hb149 self14 hs14 b14_L1 b14_L2 v11 b14_L4 M10 hF)
  unfold F_X9_doJob at hF
  refine z_aload_n cx d_X9_doJob_0 0 rfl ?_
  refine z_iconst (v := 0) cx d_X9_doJob_1 ki_0 ?_
  refine z_putI cx hT fp_SunnyPans_124 d_X9_doJob_2 ?_
  refine z_nmM hF (fun M12 hF => ?_)
  refine z_iconst (v := 0) cx d_X9_doJob_5 ki_0 ?_
  refine z_istore_n cx 1 [(1, .int (0 : Int32)), (0, .ref (ad 0))] d_X9_doJob_6 rfl (by decide) rfl ?_
  refine z_iconst (v := 0) cx d_X9_doJob_7 ki_0 ?_
  refine z_istore_n cx 2 [(2, .int (0 : Int32)), (1, .int (0 : Int32)), (0, .ref (ad 0))] d_X9_doJob_8 rfl (by decide) rfl ?_
  refine z_iconst (v := 0) cx d_X9_doJob_9 ki_0 ?_
  refine z_istore_n cx 3 [(3, .int (0 : Int32)), (2, .int (0 : Int32)), (1, .int (0 : Int32)), (0, .ref (ad 0))] d_X9_doJob_10 rfl (by decide) rfl ?_
  refine z_iconst (v := 0) cx d_X9_doJob_11 ki_0 ?_
  refine z_istore cx 4 [(4, .int (0 : Int32)), (3, .int (0 : Int32)), (2, .int (0 : Int32)), (1, .int (0 : Int32)), (0, .ref (ad 0))] d_X9_doJob_12 (by decide) rfl ?_
  exact z_lv [4, 3, 2, 1, 0] _ rfl (hL14 zFuel (0 : Int32) (0 : Int32) (0 : Int32) (0 : Int32) M12 hF)
/-! SunnyPans.work -/
set_option maxRecDepth 100000 in
theorem wd_217 : Cond.fieldLink "SunnyPans" 131 "SunnyPans$Stand" "kept" "I" ∈ tbG := tw1 117 rfl rfl
theorem fg_SunnyPans_131 : zGetI "SunnyPans" 131 7 8 1 := ⟨RX7, TX7, 3, rfl, by decide, uw_7, wd_217, fun _ _ _ _ _ _ => ⟨_, rfl, rfl⟩⟩
set_option maxRecDepth 100000 in
theorem wd_840 : Cond.code yX2_read cX2_read 4 none ∈ tbG := tw4 20 rfl rfl
set_option maxRecDepth 100000 in
theorem wd_837 : Cond.methodLink "SunnyPans" 134 yX2_read ∈ tbG := tw4 17 rfl rfl
set_option maxRecDepth 100000 in
theorem wd_838 : Cond.instanceMethod yX2_read ∈ tbG := tw4 18 rfl rfl
set_option maxRecDepth 100000 in
theorem wd_839 : Cond.selects "SunnyPans$Job" yX2_read yX2_read ∈ tbG := tw4 19 rfl rfl
theorem cv_SunnyPans_134 : zCV "SunnyPans" 134 "SunnyPans$Job" yX2_read cX2_read 4 none 2 := zCV_of wd_837 wd_838 wd_839 wd_105 wd_840 (by decide +kernel)
set_option maxRecDepth 100000 in
theorem wd_878 : Cond.code yX7_keep cX7_keep 2 none ∈ tbG := tw4 58 rfl rfl
set_option maxRecDepth 100000 in
theorem wd_875 : Cond.methodLink "SunnyPans" 137 yX7_keep ∈ tbG := tw4 55 rfl rfl
set_option maxRecDepth 100000 in
theorem wd_876 : Cond.instanceMethod yX7_keep ∈ tbG := tw4 56 rfl rfl
set_option maxRecDepth 100000 in
theorem wd_877 : Cond.selects "SunnyPans$Stand" yX7_keep yX7_keep ∈ tbG := tw4 57 rfl rfl
theorem cv_SunnyPans_137 : zCV "SunnyPans" 137 "SunnyPans$Stand" yX7_keep cX7_keep 2 none 0 := zCV_of wd_875 wd_876 wd_877 wd_103 wd_878 (by decide +kernel)
set_option maxRecDepth 100000 in
theorem wd_882 : Cond.code yX9_doJob cX9_doJob 6 (some .int) ∈ tbG := tw4 62 rfl rfl
set_option maxRecDepth 100000 in
theorem wd_879 : Cond.methodLink "SunnyPans" 140 yX9_doJob ∈ tbG := tw4 59 rfl rfl
set_option maxRecDepth 100000 in
theorem wd_881 : Cond.instanceMethod yX9_doJob ∈ tbG := tw4 61 rfl rfl
theorem wd_19 : Cond.selects "SunnyPans" yX9_doJob yX9_doJob ∈ tbG := tw 19 (by decide +kernel) rfl
theorem cv_SunnyPans_140 : zCV "SunnyPans" 140 "SunnyPans" yX9_doJob cX9_doJob 6 (some .int) 0 := zCV_of wd_879 wd_881 wd_19 wd_101 wd_882 (by decide +kernel)
theorem kb_m20 : (Int8.ofInt (-20)).toInt32 = (-20 : Int32) := by decide +kernel
theorem d_X9_work_0 : decode cX9_work 0 = .ok (.aload_n 0, 1) := by decide +kernel
theorem d_X9_work_1 : decode cX9_work 1 = .ok (.iload_n 1, 1) := by decide +kernel
theorem d_X9_work_2 : decode cX9_work 2 = .ok (.sipush 150, 3) := by decide +kernel
theorem d_X9_work_5 : decode cX9_work 5 = .ok (.invokevirtual 97, 3) := by decide +kernel
theorem d_X9_work_8 : decode cX9_work 8 = .ok (.aload_n 0, 1) := by decide +kernel
theorem d_X9_work_9 : decode cX9_work 9 = .ok (.getfield 19, 3) := by decide +kernel
theorem d_X9_work_12 : decode cX9_work 12 = .ok (.getfield 131, 3) := by decide +kernel
theorem d_X9_work_15 : decode cX9_work 15 = .ok (.bipush 16, 2) := by decide +kernel
theorem d_X9_work_17 : decode cX9_work 17 = .ok (.if_icmp .lt 14, 3) := by decide +kernel
theorem d_X9_work_20 : decode cX9_work 20 = .ok (.aload_n 0, 1) := by decide +kernel
theorem d_X9_work_21 : decode cX9_work 21 = .ok (.getfield 10, 3) := by decide +kernel
theorem d_X9_work_24 : decode cX9_work 24 = .ok (.iconst 0, 1) := by decide +kernel
theorem d_X9_work_25 : decode cX9_work 25 = .ok (.invokevirtual 101, 3) := by decide +kernel
theorem d_X9_work_28 : decode cX9_work 28 = .ok (.bipush (-20), 2) := by decide +kernel
theorem d_X9_work_30 : decode cX9_work 30 = .ok (.ireturn, 1) := by decide +kernel
theorem d_X9_work_31 : decode cX9_work 31 = .ok (.aload_n 0, 1) := by decide +kernel
theorem d_X9_work_32 : decode cX9_work 32 = .ok (.getfield 10, 3) := by decide +kernel
theorem d_X9_work_35 : decode cX9_work 35 = .ok (.iload_n 1, 1) := by decide +kernel
theorem d_X9_work_36 : decode cX9_work 36 = .ok (.invokevirtual 101, 3) := by decide +kernel
theorem d_X9_work_39 : decode cX9_work 39 = .ok (.aload_n 0, 1) := by decide +kernel
theorem d_X9_work_40 : decode cX9_work 40 = .ok (.getfield 30, 3) := by decide +kernel
theorem d_X9_work_43 : decode cX9_work 43 = .ok (.aload_n 0, 1) := by decide +kernel
theorem d_X9_work_44 : decode cX9_work 44 = .ok (.getfield 10, 3) := by decide +kernel
theorem d_X9_work_47 : decode cX9_work 47 = .ok (.aload_n 0, 1) := by decide +kernel
theorem d_X9_work_48 : decode cX9_work 48 = .ok (.getfield 62, 3) := by decide +kernel
theorem d_X9_work_51 : decode cX9_work 51 = .ok (.invokevirtual 134, 3) := by decide +kernel
theorem d_X9_work_54 : decode cX9_work 54 = .ok (.aload_n 0, 1) := by decide +kernel
theorem d_X9_work_55 : decode cX9_work 55 = .ok (.getfield 10, 3) := by decide +kernel
theorem d_X9_work_58 : decode cX9_work 58 = .ok (.getfield 108, 3) := by decide +kernel
theorem d_X9_work_61 : decode cX9_work 61 = .ok (.ifCond .eq 14, 3) := by decide +kernel
theorem d_X9_work_64 : decode cX9_work 64 = .ok (.aload_n 0, 1) := by decide +kernel
theorem d_X9_work_65 : decode cX9_work 65 = .ok (.getfield 10, 3) := by decide +kernel
theorem d_X9_work_68 : decode cX9_work 68 = .ok (.getfield 108, 3) := by decide +kernel
theorem d_X9_work_71 : decode cX9_work 71 = .ok (.bipush 10, 2) := by decide +kernel
theorem d_X9_work_73 : decode cX9_work 73 = .ok (.isub, 1) := by decide +kernel
theorem d_X9_work_74 : decode cX9_work 74 = .ok (.ireturn, 1) := by decide +kernel
theorem d_X9_work_75 : decode cX9_work 75 = .ok (.aload_n 0, 1) := by decide +kernel
theorem d_X9_work_76 : decode cX9_work 76 = .ok (.getfield 19, 3) := by decide +kernel
theorem d_X9_work_79 : decode cX9_work 79 = .ok (.invokevirtual 137, 3) := by decide +kernel
theorem d_X9_work_82 : decode cX9_work 82 = .ok (.aload_n 0, 1) := by decide +kernel
theorem d_X9_work_83 : decode cX9_work 83 = .ok (.invokevirtual 140, 3) := by decide +kernel
theorem d_X9_work_86 : decode cX9_work 86 = .ok (.ireturn, 1) := by decide +kernel
noncomputable def F_X9_work (M : zMem) (p0 : Int32) : Option (Nat × Int32 × zMem) :=
  zbx (F_X9_needText M p0 (150 : Int32)) (g := zxp) fun _ M1 =>
  if (M1.1 3 1) < (16 : Int32) then
    zbv (F_X8_open M1 1 p0) fun M6 =>
    gd (shX (M6.2.2 0 8) == 6) <|
    zbv (F_X2_read M6 91 1 (M6.2.2 0 8)) fun M8 =>
    if (M8.1 1 2) = 0 then
      zbv (F_X7_keep M8 3) fun M9 =>
      zb (F_X9_doJob M9) fun v11 M10 =>
      some (0, v11, M10)
    else
      some (0, ((M8.1 1 2) - (10 : Int32)), M8)
  else
    zbv (F_X8_open M1 1 (0 : Int32)) fun M12 =>
    some (0, (-20 : Int32), M12)
def rm_X9_work : Room := { frames := 11, cells := 1, slots := 6, locals := 329 }
set_option maxHeartbeats 4000000 in
set_option maxRecDepth 100000 in
theorem c_X9_work (l : Launch) {G : zG} {ad : Nat → Nat} {n : Nat} (hA : zInj ad n) (M : zMem) (p0 : Int32) (hl : l.stackTraces = false) (hT : zT shX n 0 10) {k9 : Nat} {r9 : Int32} {M9 : zMem} (hF : F_X9_work M p0 = some (k9, r9, M9)) : zMX l yX9_work cX9_work 2 (some .int) rm_X9_work 1 6 G shX ad n M [.ref (ad 0), .int p0] k9 (some (.int r9)) M9 := by
  refine zM_ofX hA (by decide +kernel) (lv := [(0, .ref (ad 0)), (1, .int p0)]) (Nat.le_of_ble_eq_true rfl) rfl (fun p e s m args below meth c A cx hr ht => ?_)
  unfold F_X9_work at hF
  refine z_aload_n cx d_X9_work_0 0 rfl ?_
  refine z_iload_n cx d_X9_work_1 1 rfl ?_
  refine z_sipush (v := 150) cx d_X9_work_2 ks_150 ?_
  obtain ⟨k2, v3, M1, hc, hF, hX4⟩ := zbx_inv hF
  refine z_callVX cx ht (As := [.int p0, .int (150 : Int32)]) (rest := []) (c_X9_needText l cx.2.2.2.1.1 M p0 (150 : Int32) hl hT hc) (fun q => zxp_inv (hX4 q)) hT zo_10 cv_SunnyPans_97 ⟨rfl, rfl, Nat.le_of_ble_eq_true rfl, Nat.le_of_ble_eq_true rfl⟩ rfl rfl ⟨Nat.le_of_ble_eq_true rfl, Nat.le_of_ble_eq_true rfl⟩ ⟨Nat.le_of_ble_eq_true rfl, Nat.le_of_ble_eq_true rfl⟩ (Nat.le_of_ble_eq_true rfl) d_X9_work_5 (fun kq5 => ?_)
  have hF := hF kq5
  refine z_aload_n cx d_X9_work_8 0 rfl ?_
  refine z_getR cx hT fg_SunnyPans_19 3 rfl d_X9_work_9 ?_
  refine z_getI cx (tfX_10_3 hT) fg_SunnyPans_131 d_X9_work_12 ?_
  refine z_bipush (v := 16) cx d_X9_work_15 kb_16 ?_
  refine z_icmp_lt cx 31 d_X9_work_17 (by decide) hF (fun hF => ?_) (fun hF => ?_)
  · refine z_aload_n cx d_X9_work_31 0 rfl ?_
    refine z_getR cx hT fg_SunnyPans_10 1 rfl d_X9_work_32 ?_
    refine z_iload_n cx d_X9_work_35 1 rfl ?_
    obtain ⟨M6, hc, hF⟩ := zbv_inv hF
    refine z_callV cx (As := [.int p0]) (rest := []) (c_X8_open l cx.2.2.2.1.1 M1 1 p0 (tfX_10_1 hT) hc) (tfX_10_1 hT) zo_9 cv_SunnyPans_101 ⟨rfl, rfl, Nat.le_of_ble_eq_true rfl, Nat.le_of_ble_eq_true rfl⟩ rfl rfl ⟨Nat.le_of_ble_eq_true rfl, Nat.le_of_ble_eq_true rfl⟩ (Nat.le_of_ble_eq_true rfl) d_X9_work_36 ?_
    refine z_aload_n cx d_X9_work_39 0 rfl ?_
    refine z_getR cx hT fg_SunnyPans_30 91 rfl d_X9_work_40 ?_
    refine z_aload_n cx d_X9_work_43 0 rfl ?_
    refine z_getR cx hT fg_SunnyPans_10 1 rfl d_X9_work_44 ?_
    refine z_aload_n cx d_X9_work_47 0 rfl ?_
    obtain ⟨hg7, hF⟩ := gd_inv hF
    refine z_getD cx hT fg_SunnyPans_62 d_X9_work_48 ?_
    obtain ⟨M8, hc, hF⟩ := zbv_inv hF
    refine z_callV cx (As := [.ref (ad 1), .ref (ad (M6.2.2 0 8))]) (rest := []) (c_X2_read l cx.2.2.2.1.1 M6 91 1 (M6.2.2 0 8) (tfX_10_91 hT) (tfX_10_1 hT) (td_6 hT hg7) hc) (tfX_10_91 hT) zo_3 cv_SunnyPans_134 ⟨rfl, rfl, Nat.le_of_ble_eq_true rfl, Nat.le_of_ble_eq_true rfl⟩ rfl rfl ⟨Nat.le_of_ble_eq_true rfl, Nat.le_of_ble_eq_true rfl⟩ (Nat.le_of_ble_eq_true rfl) d_X9_work_51 ?_
    refine z_aload_n cx d_X9_work_54 0 rfl ?_
    refine z_getR cx hT fg_SunnyPans_10 1 rfl d_X9_work_55 ?_
    refine z_getI cx (tfX_10_1 hT) fg_SunnyPans_108 d_X9_work_58 ?_
    refine z_if_eq cx 75 d_X9_work_61 (by decide) hF (fun hF => ?_) (fun hF => ?_)
    · refine z_aload_n cx d_X9_work_75 0 rfl ?_
      refine z_getR cx hT fg_SunnyPans_19 3 rfl d_X9_work_76 ?_
      obtain ⟨M9, hc, hF⟩ := zbv_inv hF
      refine z_callV cx (As := []) (rest := []) (c_X7_keep l cx.2.2.2.1.1 M8 3 (tfX_10_3 hT) hc) (tfX_10_3 hT) zo_8 cv_SunnyPans_137 ⟨rfl, rfl, Nat.le_of_ble_eq_true rfl, Nat.le_of_ble_eq_true rfl⟩ rfl rfl ⟨Nat.le_of_ble_eq_true rfl, Nat.le_of_ble_eq_true rfl⟩ (Nat.le_of_ble_eq_true rfl) d_X9_work_79 ?_
      refine z_aload_n cx d_X9_work_82 0 rfl ?_
      obtain ⟨v11, M10, hc, hF⟩ := zb_inv hF
      refine z_callV cx (As := []) (rest := []) (c_X9_doJob l cx.2.2.2.1.1 M9 hT hc) hT zo_10 cv_SunnyPans_140 ⟨rfl, rfl, Nat.le_of_ble_eq_true rfl, Nat.le_of_ble_eq_true rfl⟩ rfl rfl ⟨Nat.le_of_ble_eq_true rfl, Nat.le_of_ble_eq_true rfl⟩ (Nat.le_of_ble_eq_true rfl) d_X9_work_83 ?_
      exact z_iretX cx hr rfl hF ⟨Nat.le_of_ble_eq_true rfl, Nat.le_of_ble_eq_true rfl⟩ d_X9_work_86
    refine z_aload_n cx d_X9_work_64 0 rfl ?_
    refine z_getR cx hT fg_SunnyPans_10 1 rfl d_X9_work_65 ?_
    refine z_getI cx (tfX_10_1 hT) fg_SunnyPans_108 d_X9_work_68 ?_
    refine z_bipush (v := 10) cx d_X9_work_71 kb_10 ?_
    refine z_isub cx d_X9_work_73 ?_
    exact z_iretX cx hr rfl hF ⟨Nat.le_of_ble_eq_true rfl, Nat.le_of_ble_eq_true rfl⟩ d_X9_work_74
  refine z_aload_n cx d_X9_work_20 0 rfl ?_
  refine z_getR cx hT fg_SunnyPans_10 1 rfl d_X9_work_21 ?_
  refine z_iconst (v := 0) cx d_X9_work_24 ki_0 ?_
  obtain ⟨M12, hc, hF⟩ := zbv_inv hF
  refine z_callV cx (As := [.int (0 : Int32)]) (rest := []) (c_X8_open l cx.2.2.2.1.1 M1 1 (0 : Int32) (tfX_10_1 hT) hc) (tfX_10_1 hT) zo_9 cv_SunnyPans_101 ⟨rfl, rfl, Nat.le_of_ble_eq_true rfl, Nat.le_of_ble_eq_true rfl⟩ rfl rfl ⟨Nat.le_of_ble_eq_true rfl, Nat.le_of_ble_eq_true rfl⟩ (Nat.le_of_ble_eq_true rfl) d_X9_work_25 ?_
  refine z_bipush (v := -20) cx d_X9_work_28 kb_m20 ?_
  exact z_iretX cx hr rfl hF ⟨Nat.le_of_ble_eq_true rfl, Nat.le_of_ble_eq_true rfl⟩ d_X9_work_30
/-! SunnyPans.book -/
set_option maxRecDepth 100000 in
theorem wd_422 : Cond.fieldLink "SunnyPans" 86 "SunnyPans" "spareNotes" "LSunnyPans$Book;" ∈ tbG := tw2 82 rfl rfl
theorem fg_SunnyPans_86 : zGetD "SunnyPans" 86 9 10 13 := ⟨RX9, TX9, 19, rfl, by decide, uw_9, wd_422, fun _ _ _ _ _ _ => ⟨_, rfl, rfl⟩⟩
set_option maxRecDepth 100000 in
theorem wd_961 : Cond.code yX1_read cX1_read 4 none ∈ tbG := tw4 141 rfl rfl
set_option maxRecDepth 100000 in
theorem wd_958 : Cond.methodLink "SunnyPans" 144 yX1_read ∈ tbG := tw4 138 rfl rfl
set_option maxRecDepth 100000 in
theorem wd_959 : Cond.instanceMethod yX1_read ∈ tbG := tw4 139 rfl rfl
set_option maxRecDepth 100000 in
theorem wd_960 : Cond.selects "SunnyPans$Book" yX1_read yX1_read ∈ tbG := tw4 140 rfl rfl
theorem cv_SunnyPans_144 : zCV "SunnyPans" 144 "SunnyPans$Book" yX1_read cX1_read 4 none 2 := zCV_of wd_958 wd_959 wd_960 wd_110 wd_961 (by decide +kernel)
theorem fp_SunnyPans_86 : zPutD "SunnyPans" 86 9 10 13 := ⟨zc_9, fg_SunnyPans_86, ⟨RX9, TX9, 19, "SunnyPans$Book", rfl, rfl, by decide +kernel⟩, fun _ _ _ _ _ _ _ => ⟨_, rfl, Nat.le_of_ble_eq_true rfl, rfl⟩⟩
theorem fp_SunnyPans_82 : zPutD "SunnyPans" 82 9 10 12 := ⟨zc_9, fg_SunnyPans_82, ⟨RX9, TX9, 19, "SunnyPans$Book", rfl, rfl, by decide +kernel⟩, fun _ _ _ _ _ _ _ => ⟨_, rfl, Nat.le_of_ble_eq_true rfl, rfl⟩⟩
set_option maxRecDepth 100000 in
theorem wd_397 : Cond.fieldLink "SunnyPans" 145 "SunnyPans$Book" "lines" "I" ∈ tbG := tw2 57 rfl rfl
theorem fg_SunnyPans_145 : zGetI "SunnyPans" 145 1 2 2 := ⟨RX1, TX1, 4, rfl, by decide, uw_1, wd_397, fun _ _ _ _ _ _ => ⟨_, rfl, rfl⟩⟩
theorem d_X9_book_0 : decode cX9_book 0 = .ok (.aload_n 0, 1) := by decide +kernel
theorem d_X9_book_1 : decode cX9_book 1 = .ok (.iload_n 1, 1) := by decide +kernel
theorem d_X9_book_2 : decode cX9_book 2 = .ok (.bipush 60, 2) := by decide +kernel
theorem d_X9_book_4 : decode cX9_book 4 = .ok (.invokevirtual 97, 3) := by decide +kernel
theorem d_X9_book_7 : decode cX9_book 7 = .ok (.aload_n 0, 1) := by decide +kernel
theorem d_X9_book_8 : decode cX9_book 8 = .ok (.getfield 10, 3) := by decide +kernel
theorem d_X9_book_11 : decode cX9_book 11 = .ok (.iload_n 1, 1) := by decide +kernel
theorem d_X9_book_12 : decode cX9_book 12 = .ok (.invokevirtual 101, 3) := by decide +kernel
theorem d_X9_book_15 : decode cX9_book 15 = .ok (.aload_n 0, 1) := by decide +kernel
theorem d_X9_book_16 : decode cX9_book 16 = .ok (.getfield 86, 3) := by decide +kernel
theorem d_X9_book_19 : decode cX9_book 19 = .ok (.aload_n 0, 1) := by decide +kernel
theorem d_X9_book_20 : decode cX9_book 20 = .ok (.getfield 10, 3) := by decide +kernel
theorem d_X9_book_23 : decode cX9_book 23 = .ok (.aload_n 0, 1) := by decide +kernel
theorem d_X9_book_24 : decode cX9_book 24 = .ok (.getfield 62, 3) := by decide +kernel
theorem d_X9_book_27 : decode cX9_book 27 = .ok (.invokevirtual 144, 3) := by decide +kernel
theorem d_X9_book_30 : decode cX9_book 30 = .ok (.aload_n 0, 1) := by decide +kernel
theorem d_X9_book_31 : decode cX9_book 31 = .ok (.getfield 10, 3) := by decide +kernel
theorem d_X9_book_34 : decode cX9_book 34 = .ok (.getfield 108, 3) := by decide +kernel
theorem d_X9_book_37 : decode cX9_book 37 = .ok (.ifCond .eq 14, 3) := by decide +kernel
theorem d_X9_book_40 : decode cX9_book 40 = .ok (.aload_n 0, 1) := by decide +kernel
theorem d_X9_book_41 : decode cX9_book 41 = .ok (.getfield 10, 3) := by decide +kernel
theorem d_X9_book_44 : decode cX9_book 44 = .ok (.getfield 108, 3) := by decide +kernel
theorem d_X9_book_47 : decode cX9_book 47 = .ok (.bipush 10, 2) := by decide +kernel
theorem d_X9_book_49 : decode cX9_book 49 = .ok (.isub, 1) := by decide +kernel
theorem d_X9_book_50 : decode cX9_book 50 = .ok (.ireturn, 1) := by decide +kernel
theorem d_X9_book_51 : decode cX9_book 51 = .ok (.aload_n 0, 1) := by decide +kernel
theorem d_X9_book_52 : decode cX9_book 52 = .ok (.getfield 86, 3) := by decide +kernel
theorem d_X9_book_55 : decode cX9_book 55 = .ok (.astore_n 2, 1) := by decide +kernel
theorem d_X9_book_56 : decode cX9_book 56 = .ok (.aload_n 0, 1) := by decide +kernel
theorem d_X9_book_57 : decode cX9_book 57 = .ok (.aload_n 0, 1) := by decide +kernel
theorem d_X9_book_58 : decode cX9_book 58 = .ok (.getfield 82, 3) := by decide +kernel
theorem d_X9_book_61 : decode cX9_book 61 = .ok (.putfield 86, 3) := by decide +kernel
theorem d_X9_book_64 : decode cX9_book 64 = .ok (.aload_n 0, 1) := by decide +kernel
theorem d_X9_book_65 : decode cX9_book 65 = .ok (.aload_n 2, 1) := by decide +kernel
theorem d_X9_book_66 : decode cX9_book 66 = .ok (.putfield 82, 3) := by decide +kernel
theorem d_X9_book_69 : decode cX9_book 69 = .ok (.aload_n 0, 1) := by decide +kernel
theorem d_X9_book_70 : decode cX9_book 70 = .ok (.getfield 82, 3) := by decide +kernel
theorem d_X9_book_73 : decode cX9_book 73 = .ok (.getfield 145, 3) := by decide +kernel
theorem d_X9_book_76 : decode cX9_book 76 = .ok (.ireturn, 1) := by decide +kernel
noncomputable def F_X9_book (M : zMem) (p0 : Int32) : Option (Nat × Int32 × zMem) :=
  zbx (F_X9_needText M p0 (60 : Int32)) (g := zxp) fun _ M1 =>
  zbv (F_X8_open M1 1 p0) fun M6 =>
  gd (shX (M6.2.2 0 13) == 2) <|
  gd (shX (M6.2.2 0 8) == 6) <|
  zbv (F_X1_read M6 (M6.2.2 0 13) 1 (M6.2.2 0 8)) fun M9 =>
  if (M9.1 1 2) = 0 then
    gd (shX (M9.2.2 0 13) == 2) <|
    gd (shX (M9.2.2 0 12) == 2) <|
    zl (zR M9 0 13 (M9.2.2 0 12)) fun M12 =>
    zl (zR M12 0 12 (M9.2.2 0 13)) fun M13 =>
    gd (shX (M13.2.2 0 12) == 2) <|
    some (0, (M13.1 (M13.2.2 0 12) 2), M13)
  else
    some (0, ((M9.1 1 2) - (10 : Int32)), M9)
def rm_X9_book : Room := { frames := 11, cells := 1, slots := 6, locals := 192 }
set_option maxHeartbeats 4000000 in
set_option maxRecDepth 100000 in
theorem c_X9_book (l : Launch) {G : zG} {ad : Nat → Nat} {n : Nat} (hA : zInj ad n) (M : zMem) (p0 : Int32) (hl : l.stackTraces = false) (hT : zT shX n 0 10) {k9 : Nat} {r9 : Int32} {M9 : zMem} (hF : F_X9_book M p0 = some (k9, r9, M9)) : zMX l yX9_book cX9_book 3 (some .int) rm_X9_book 1 6 G shX ad n M [.ref (ad 0), .int p0] k9 (some (.int r9)) M9 := by
  refine zM_ofX hA (by decide +kernel) (lv := [(0, .ref (ad 0)), (1, .int p0)]) (Nat.le_of_ble_eq_true rfl) rfl (fun p e s m args below meth c A cx hr ht => ?_)
  unfold F_X9_book at hF
  refine z_aload_n cx d_X9_book_0 0 rfl ?_
  refine z_iload_n cx d_X9_book_1 1 rfl ?_
  refine z_bipush (v := 60) cx d_X9_book_2 kb_60 ?_
  obtain ⟨k2, v3, M1, hc, hF, hX4⟩ := zbx_inv hF
  refine z_callVX cx ht (As := [.int p0, .int (60 : Int32)]) (rest := []) (c_X9_needText l cx.2.2.2.1.1 M p0 (60 : Int32) hl hT hc) (fun q => zxp_inv (hX4 q)) hT zo_10 cv_SunnyPans_97 ⟨rfl, rfl, Nat.le_of_ble_eq_true rfl, Nat.le_of_ble_eq_true rfl⟩ rfl rfl ⟨Nat.le_of_ble_eq_true rfl, Nat.le_of_ble_eq_true rfl⟩ ⟨Nat.le_of_ble_eq_true rfl, Nat.le_of_ble_eq_true rfl⟩ (Nat.le_of_ble_eq_true rfl) d_X9_book_4 (fun kq5 => ?_)
  have hF := hF kq5
  refine z_aload_n cx d_X9_book_7 0 rfl ?_
  refine z_getR cx hT fg_SunnyPans_10 1 rfl d_X9_book_8 ?_
  refine z_iload_n cx d_X9_book_11 1 rfl ?_
  obtain ⟨M6, hc, hF⟩ := zbv_inv hF
  refine z_callV cx (As := [.int p0]) (rest := []) (c_X8_open l cx.2.2.2.1.1 M1 1 p0 (tfX_10_1 hT) hc) (tfX_10_1 hT) zo_9 cv_SunnyPans_101 ⟨rfl, rfl, Nat.le_of_ble_eq_true rfl, Nat.le_of_ble_eq_true rfl⟩ rfl rfl ⟨Nat.le_of_ble_eq_true rfl, Nat.le_of_ble_eq_true rfl⟩ (Nat.le_of_ble_eq_true rfl) d_X9_book_12 ?_
  refine z_aload_n cx d_X9_book_15 0 rfl ?_
  obtain ⟨hg7, hF⟩ := gd_inv hF
  refine z_getD cx hT fg_SunnyPans_86 d_X9_book_16 ?_
  refine z_aload_n cx d_X9_book_19 0 rfl ?_
  refine z_getR cx hT fg_SunnyPans_10 1 rfl d_X9_book_20 ?_
  refine z_aload_n cx d_X9_book_23 0 rfl ?_
  obtain ⟨hg8, hF⟩ := gd_inv hF
  refine z_getD cx hT fg_SunnyPans_62 d_X9_book_24 ?_
  obtain ⟨M9, hc, hF⟩ := zbv_inv hF
  refine z_callV cx (As := [.ref (ad 1), .ref (ad (M6.2.2 0 8))]) (rest := []) (c_X1_read l cx.2.2.2.1.1 M6 (M6.2.2 0 13) 1 (M6.2.2 0 8) (td_2 hT hg7) (tfX_10_1 hT) (td_6 hT hg8) hc) (td_2 hT hg7) zo_2 cv_SunnyPans_144 ⟨rfl, rfl, Nat.le_of_ble_eq_true rfl, Nat.le_of_ble_eq_true rfl⟩ rfl rfl ⟨Nat.le_of_ble_eq_true rfl, Nat.le_of_ble_eq_true rfl⟩ (Nat.le_of_ble_eq_true rfl) d_X9_book_27 ?_
  refine z_aload_n cx d_X9_book_30 0 rfl ?_
  refine z_getR cx hT fg_SunnyPans_10 1 rfl d_X9_book_31 ?_
  refine z_getI cx (tfX_10_1 hT) fg_SunnyPans_108 d_X9_book_34 ?_
  refine z_if_eq cx 51 d_X9_book_37 (by decide) hF (fun hF => ?_) (fun hF => ?_)
  · refine z_aload_n cx d_X9_book_51 0 rfl ?_
    obtain ⟨hg10, hF⟩ := gd_inv hF
    refine z_getD cx hT fg_SunnyPans_86 d_X9_book_52 ?_
    refine z_astore_n cx 2 [(2, .ref (ad (M9.2.2 0 13))), (0, .ref (ad 0)), (1, .int p0)] d_X9_book_55 rfl (by decide) rfl ?_
    refine z_aload_n cx d_X9_book_56 1 rfl ?_
    refine z_aload_n cx d_X9_book_57 1 rfl ?_
    obtain ⟨hg11, hF⟩ := gd_inv hF
    refine z_getD cx hT fg_SunnyPans_82 d_X9_book_58 ?_
    refine z_putD cx hT fp_SunnyPans_86 d_X9_book_61 ?_
    refine z_nmM hF (fun M12 hF => ?_)
    refine z_aload_n cx d_X9_book_64 1 rfl ?_
    refine z_aload_n cx d_X9_book_65 0 rfl ?_
    refine z_putD cx hT fp_SunnyPans_82 d_X9_book_66 ?_
    refine z_nmM hF (fun M13 hF => ?_)
    refine z_aload_n cx d_X9_book_69 1 rfl ?_
    obtain ⟨hg14, hF⟩ := gd_inv hF
    refine z_getD cx hT fg_SunnyPans_82 d_X9_book_70 ?_
    refine z_getI cx (td_2 hT hg14) fg_SunnyPans_145 d_X9_book_73 ?_
    exact z_iretX cx hr rfl hF ⟨Nat.le_of_ble_eq_true rfl, Nat.le_of_ble_eq_true rfl⟩ d_X9_book_76
  refine z_aload_n cx d_X9_book_40 0 rfl ?_
  refine z_getR cx hT fg_SunnyPans_10 1 rfl d_X9_book_41 ?_
  refine z_getI cx (tfX_10_1 hT) fg_SunnyPans_108 d_X9_book_44 ?_
  refine z_bipush (v := 10) cx d_X9_book_47 kb_10 ?_
  refine z_isub cx d_X9_book_49 ?_
  exact z_iretX cx hr rfl hF ⟨Nat.le_of_ble_eq_true rfl, Nat.le_of_ble_eq_true rfl⟩ d_X9_book_50
/-! SunnyPans.fault -/
set_option maxRecDepth 100000 in
theorem wd_144 : Cond.fieldLink "SunnyPans" 148 "SunnyPans$Text" "faultPlace" "I" ∈ tbG := tw1 44 rfl rfl
theorem fg_SunnyPans_148 : zGetI "SunnyPans" 148 8 9 3 := ⟨RX8, TX8, 8, rfl, by decide, uw_8, wd_144, fun _ _ _ _ _ _ => ⟨_, rfl, rfl⟩⟩
theorem d_X9_fault_0 : decode cX9_fault 0 = .ok (.aload_n 0, 1) := by decide +kernel
theorem d_X9_fault_1 : decode cX9_fault 1 = .ok (.getfield 10, 3) := by decide +kernel
theorem d_X9_fault_4 : decode cX9_fault 4 = .ok (.getfield 148, 3) := by decide +kernel
theorem d_X9_fault_7 : decode cX9_fault 7 = .ok (.ireturn, 1) := by decide +kernel
noncomputable def F_X9_fault (M : zMem)  : Option (Int32 × zMem) :=
  some ((M.1 1 3), M)
def rm_X9_fault : Room := { frames := 2, cells := 0, slots := 0, locals := 80 }
set_option maxHeartbeats 4000000 in
set_option maxRecDepth 100000 in
theorem c_X9_fault (l : Launch) {G : zG} {ad : Nat → Nat} {n : Nat} (hA : zInj ad n) (M : zMem)  (hT : zT shX n 0 10) {r9 : Int32} {M9 : zMem} (hF : F_X9_fault M  = some (r9, M9)) : zM l yX9_fault cX9_fault 1 (some .int) rm_X9_fault G shX ad n M [.ref (ad 0)] (some (.int r9)) M9 := by
  refine zM_of hA (by decide +kernel) (lv := [(0, .ref (ad 0))]) (Nat.le_of_ble_eq_true rfl) rfl (fun p e s m args below meth c A cx hr => ?_)
  unfold F_X9_fault at hF
  refine z_aload_n cx d_X9_fault_0 0 rfl ?_
  refine z_getR cx hT fg_SunnyPans_10 1 rfl d_X9_fault_1 ?_
  refine z_getI cx (tfX_10_1 hT) fg_SunnyPans_148 d_X9_fault_4 ?_
  exact z_iret cx hr rfl hF d_X9_fault_7
/-! SunnyPans.undo -/
set_option maxRecDepth 100000 in
theorem wd_486 : Cond.code yX7_takeBack cX7_takeBack 2 (some .boolean) ∈ tbG := tw2 146 rfl rfl
set_option maxRecDepth 100000 in
theorem wd_483 : Cond.methodLink "SunnyPans" 151 yX7_takeBack ∈ tbG := tw2 143 rfl rfl
set_option maxRecDepth 100000 in
theorem wd_484 : Cond.instanceMethod yX7_takeBack ∈ tbG := tw2 144 rfl rfl
set_option maxRecDepth 100000 in
theorem wd_485 : Cond.selects "SunnyPans$Stand" yX7_takeBack yX7_takeBack ∈ tbG := tw2 145 rfl rfl
theorem cv_SunnyPans_151 : zCV "SunnyPans" 151 "SunnyPans$Stand" yX7_takeBack cX7_takeBack 2 (some .boolean) 0 := zCV_of wd_483 wd_484 wd_485 wd_103 wd_486 (by decide +kernel)
theorem d_X9_undo_0 : decode cX9_undo 0 = .ok (.aload_n 0, 1) := by decide +kernel
theorem d_X9_undo_1 : decode cX9_undo 1 = .ok (.getfield 19, 3) := by decide +kernel
theorem d_X9_undo_4 : decode cX9_undo 4 = .ok (.invokevirtual 151, 3) := by decide +kernel
theorem d_X9_undo_7 : decode cX9_undo 7 = .ok (.ifCond .ne 5, 3) := by decide +kernel
theorem d_X9_undo_10 : decode cX9_undo 10 = .ok (.iconst (-1), 1) := by decide +kernel
theorem d_X9_undo_11 : decode cX9_undo 11 = .ok (.ireturn, 1) := by decide +kernel
theorem d_X9_undo_12 : decode cX9_undo 12 = .ok (.aload_n 0, 1) := by decide +kernel
theorem d_X9_undo_13 : decode cX9_undo 13 = .ok (.iconst 0, 1) := by decide +kernel
theorem d_X9_undo_14 : decode cX9_undo 14 = .ok (.putfield 124, 3) := by decide +kernel
theorem d_X9_undo_17 : decode cX9_undo 17 = .ok (.aload_n 0, 1) := by decide +kernel
theorem d_X9_undo_18 : decode cX9_undo 18 = .ok (.getfield 19, 3) := by decide +kernel
theorem d_X9_undo_21 : decode cX9_undo 21 = .ok (.getfield 131, 3) := by decide +kernel
theorem d_X9_undo_24 : decode cX9_undo 24 = .ok (.ireturn, 1) := by decide +kernel
noncomputable def F_X9_undo (M : zMem)  : Option (Int32 × zMem) :=
  zb (F_X7_takeBack M 3) fun v2 M1 =>
  if v2 = 0 then
    some ((-1 : Int32), M1)
  else
    zl (zI M1 0 15 (0 : Int32)) fun M3 =>
    some ((M3.1 3 1), M3)
def rm_X9_undo : Room := { frames := 4, cells := 0, slots := 0, locals := 122 }
set_option maxHeartbeats 4000000 in
set_option maxRecDepth 100000 in
theorem c_X9_undo (l : Launch) {G : zG} {ad : Nat → Nat} {n : Nat} (hA : zInj ad n) (M : zMem)  (hT : zT shX n 0 10) {r9 : Int32} {M9 : zMem} (hF : F_X9_undo M  = some (r9, M9)) : zM l yX9_undo cX9_undo 1 (some .int) rm_X9_undo G shX ad n M [.ref (ad 0)] (some (.int r9)) M9 := by
  refine zM_of hA (by decide +kernel) (lv := [(0, .ref (ad 0))]) (Nat.le_of_ble_eq_true rfl) rfl (fun p e s m args below meth c A cx hr => ?_)
  unfold F_X9_undo at hF
  refine z_aload_n cx d_X9_undo_0 0 rfl ?_
  refine z_getR cx hT fg_SunnyPans_19 3 rfl d_X9_undo_1 ?_
  obtain ⟨v2, M1, hc, hF⟩ := zb_inv hF
  refine z_callV cx (As := []) (rest := []) (c_X7_takeBack l cx.2.2.2.1.1 M 3 (tfX_10_3 hT) hc) (tfX_10_3 hT) zo_8 cv_SunnyPans_151 ⟨rfl, rfl, Nat.le_of_ble_eq_true rfl, Nat.le_of_ble_eq_true rfl⟩ rfl rfl ⟨Nat.zero_le _, Nat.zero_le _⟩ (Nat.le_of_ble_eq_true rfl) d_X9_undo_4 ?_
  refine z_if_ne cx 12 d_X9_undo_7 (by decide) hF (fun hF => ?_) (fun hF => ?_)
  · refine z_aload_n cx d_X9_undo_12 0 rfl ?_
    refine z_iconst (v := 0) cx d_X9_undo_13 ki_0 ?_
    refine z_putI cx hT fp_SunnyPans_124 d_X9_undo_14 ?_
    refine z_nmM hF (fun M3 hF => ?_)
    refine z_aload_n cx d_X9_undo_17 0 rfl ?_
    refine z_getR cx hT fg_SunnyPans_19 3 rfl d_X9_undo_18 ?_
    refine z_getI cx (tfX_10_3 hT) fg_SunnyPans_131 d_X9_undo_21 ?_
    exact z_iret cx hr rfl hF d_X9_undo_24
  refine z_iconst (v := -1) cx d_X9_undo_10 ki_m1 ?_
  exact z_iret cx hr rfl hF d_X9_undo_11
/-! SunnyPans.sumOf -/
theorem d_X9_sumOf_0 : decode cX9_sumOf 0 = .ok (.iconst 0, 1) := by decide +kernel
theorem d_X9_sumOf_1 : decode cX9_sumOf 1 = .ok (.istore_n 1, 1) := by decide +kernel
theorem d_X9_sumOf_2 : decode cX9_sumOf 2 = .ok (.iconst 0, 1) := by decide +kernel
theorem d_X9_sumOf_3 : decode cX9_sumOf 3 = .ok (.istore_n 2, 1) := by decide +kernel
theorem d_X9_sumOf_4 : decode cX9_sumOf 4 = .ok (.iload_n 2, 1) := by decide +kernel
theorem d_X9_sumOf_5 : decode cX9_sumOf 5 = .ok (.aload_n 0, 1) := by decide +kernel
theorem d_X9_sumOf_6 : decode cX9_sumOf 6 = .ok (.arraylength, 1) := by decide +kernel
theorem d_X9_sumOf_7 : decode cX9_sumOf 7 = .ok (.if_icmp .ge 15, 3) := by decide +kernel
theorem d_X9_sumOf_10 : decode cX9_sumOf 10 = .ok (.iload_n 1, 1) := by decide +kernel
theorem d_X9_sumOf_11 : decode cX9_sumOf 11 = .ok (.aload_n 0, 1) := by decide +kernel
theorem d_X9_sumOf_12 : decode cX9_sumOf 12 = .ok (.iload_n 2, 1) := by decide +kernel
theorem d_X9_sumOf_13 : decode cX9_sumOf 13 = .ok (.iaload, 1) := by decide +kernel
theorem d_X9_sumOf_14 : decode cX9_sumOf 14 = .ok (.iadd, 1) := by decide +kernel
theorem d_X9_sumOf_15 : decode cX9_sumOf 15 = .ok (.istore_n 1, 1) := by decide +kernel
theorem d_X9_sumOf_16 : decode cX9_sumOf 16 = .ok (.iinc 2 1, 3) := by decide +kernel
theorem d_X9_sumOf_19 : decode cX9_sumOf 19 = .ok (.goto (-15), 3) := by decide +kernel
theorem d_X9_sumOf_22 : decode cX9_sumOf 22 = .ok (.iload_n 1, 1) := by decide +kernel
theorem d_X9_sumOf_23 : decode cX9_sumOf 23 = .ok (.ireturn, 1) := by decide +kernel
noncomputable def F_X9_sumOf_4 (p0 : Nat) (self4 : Int32 → Int32 → zMem → Option (Int32 × zMem)) (b4_L1 : Int32) (b4_L2 : Int32) (M : zMem) : Option (Int32 × zMem) :=
  if (nI 64) ≤ b4_L2 then
    some (b4_L1, M)
  else
    gin b4_L2 64 <|
    zl (b4_L1 + (M.1 p0 b4_L2.toNatClampNeg)) fun v2 =>
    self4 v2 (b4_L2 + 1) M
noncomputable def F_X9_sumOf (M : zMem) (p0 : Nat) : Option (Int32 × zMem) :=
  itF (fun _ _ _ => none) (F_X9_sumOf_4 p0) zFuel (0 : Int32) (0 : Int32) M
def rm_X9_sumOf : Room := { frames := 2, cells := 0, slots := 0, locals := 80 }
set_option maxHeartbeats 4000000 in
set_option maxRecDepth 100000 in
theorem c_X9_sumOf (l : Launch) {G : zG} {ad : Nat → Nat} {n : Nat} (hA : zInj ad n) (M : zMem) (p0 : Nat) (hT_p0 : zT shX n p0 16) {r9 : Int32} {M9 : zMem} (hF : F_X9_sumOf M p0 = some (r9, M9)) : zM l yX9_sumOf cX9_sumOf 3 (some .int) rm_X9_sumOf G shX ad n M [.ref (ad p0)] (some (.int r9)) M9 := by
  refine zM_of hA (by decide +kernel) (lv := [(0, .ref (ad p0))]) (Nat.le_of_ble_eq_true rfl) rfl (fun p e s m args below meth c A cx hr => ?_)
  have hL4 : ∀ (fuel : Nat), ∀ (b4_L1 : Int32) (b4_L2 : Int32) (M : zMem), itF (fun _ _ _ => none) (F_X9_sumOf_4 p0) fuel b4_L1 b4_L2 M = some (r9, M9) → zJ p l e rm_X9_sumOf s m args below meth c G shX ad n A 3 (MQ below (zQ G shX ad n M9 (some (.int r9)) A) args s 0 0 A) 0 0 M 4 [(0, .ref (ad p0)), (1, .int b4_L1), (2, .int b4_L2)] [] := by
    intro fuel
    induction fuel with
    | zero => intro b4_L1 b4_L2 M hF; cases hF
    | succ fuel hs4 =>
      intro b4_L1 b4_L2 M hF
      have hF : F_X9_sumOf_4 p0 (itF (fun _ _ _ => none) (F_X9_sumOf_4 p0) fuel) b4_L1 b4_L2 M = some (r9, M9) := hF
      generalize itF (fun _ _ _ => none) (F_X9_sumOf_4 p0) fuel = self4 at hs4 hF
      unfold F_X9_sumOf_4 at hF
      refine z_iload_n cx d_X9_sumOf_4 2 rfl ?_
      refine z_aload_n cx d_X9_sumOf_5 0 rfl ?_
      refine z_alenI cx hT_p0 za_16 d_X9_sumOf_6 ?_
      refine z_icmp_ge cx 22 d_X9_sumOf_7 (by decide) hF (fun hF => ?_) (fun hF => ?_)
      · refine z_iload_n cx d_X9_sumOf_22 1 rfl ?_
        exact z_iret cx hr rfl hF d_X9_sumOf_23
      refine z_iload_n cx d_X9_sumOf_10 1 rfl ?_
      refine z_aload_n cx d_X9_sumOf_11 0 rfl ?_
      refine z_iload_n cx d_X9_sumOf_12 2 rfl ?_
      obtain ⟨hi1, hF⟩ := gin_inv hF
      refine z_iald cx hT_p0 za_16 hi1 b4_L2.toNatClampNeg rfl d_X9_sumOf_13 ?_
      refine z_iadd cx d_X9_sumOf_14 ?_
      refine z_nm hF (fun v2 hF => ?_)
      refine z_istore_n cx 1 [(1, .int v2), (0, .ref (ad p0)), (2, .int b4_L2)] d_X9_sumOf_15 rfl (by decide) rfl ?_
      refine z_iinc cx 2 1 [(2, .int (b4_L2 + 1)), (1, .int v2), (0, .ref (ad p0))] d_X9_sumOf_16 2 rfl ki_1 (by decide) rfl ?_
      refine z_goto cx 4 d_X9_sumOf_19 (by decide) ?_
      exact z_lv [2, 1, 0] _ rfl (hs4 v2 (b4_L2 + 1) M hF)
  unfold F_X9_sumOf at hF
  refine z_iconst (v := 0) cx d_X9_sumOf_0 ki_0 ?_
  refine z_istore_n cx 1 [(1, .int (0 : Int32)), (0, .ref (ad p0))] d_X9_sumOf_1 rfl (by decide) rfl ?_
  refine z_iconst (v := 0) cx d_X9_sumOf_2 ki_0 ?_
  refine z_istore_n cx 2 [(2, .int (0 : Int32)), (1, .int (0 : Int32)), (0, .ref (ad p0))] d_X9_sumOf_3 rfl (by decide) rfl ?_
  exact z_lv [2, 1, 0] _ rfl (hL4 zFuel (0 : Int32) (0 : Int32) M hF)
/-! SunnyPans.told -/
set_option maxRecDepth 100000 in
theorem wd_328 : Cond.fieldLink "SunnyPans" 200 "SunnyPans$Plan" "places" "J" ∈ tbG := tw1 228 rfl rfl
theorem fg_SunnyPans_200 : zGetL "SunnyPans" 200 5 6 3 := ⟨RX5, TX5, 9, rfl, by decide, uw_5, wd_328, fun _ _ _ _ _ _ => ⟨_, rfl, rfl⟩⟩
set_option maxRecDepth 100000 in
theorem wd_1001 : Cond.code yX4_dryPlaces cX4_dryPlaces 1 (some .long) ∈ tbG := tw4 181 rfl rfl
set_option maxRecDepth 100000 in
theorem wd_998 : Cond.methodLink "SunnyPans" 204 yX4_dryPlaces ∈ tbG := tw4 178 rfl rfl
set_option maxRecDepth 100000 in
theorem wd_999 : Cond.instanceMethod yX4_dryPlaces ∈ tbG := tw4 179 rfl rfl
set_option maxRecDepth 100000 in
theorem wd_1000 : Cond.selects "SunnyPans$Pans" yX4_dryPlaces yX4_dryPlaces ∈ tbG := tw4 180 rfl rfl
theorem cv_SunnyPans_204 : zCV "SunnyPans" 204 "SunnyPans$Pans" yX4_dryPlaces cX4_dryPlaces 1 (some .long) 0 := zCV_of wd_998 wd_999 wd_1000 wd_104 wd_1001 (by decide +kernel)
set_option maxRecDepth 100000 in
theorem wd_1008 : Cond.methodLink "SunnyPans" 207 yX4_saltPlaces ∈ tbG := tw4 188 rfl rfl
theorem cv_SunnyPans_207 : zCV "SunnyPans" 207 "SunnyPans$Pans" yX4_saltPlaces cX4_saltPlaces 1 (some .long) 0 := zCV_of wd_1008 wd_1009 wd_1010 wd_104 wd_1011 (by decide +kernel)
set_option maxRecDepth 100000 in
theorem wd_992 : Cond.methodLink "SunnyPans" 194 yJ13_bitCount_95d88 ∈ tbG := tw4 172 rfl rfl
theorem cs_SunnyPans_194 : zCS "SunnyPans" 194 yJ13_bitCount_95d88 cJ13_bitCount_95d88 2 (some .int) 1 := zCS_of wd_992 wd_993 wd_122 wd_994 (by decide +kernel)
set_option maxRecDepth 100000 in
theorem wd_984 : Cond.methodLink "SunnyPans" 190 yX4_heapPlaces ∈ tbG := tw4 164 rfl rfl
theorem cv_SunnyPans_190 : zCV "SunnyPans" 190 "SunnyPans$Pans" yX4_heapPlaces cX4_heapPlaces 1 (some .long) 0 := zCV_of wd_984 wd_985 wd_986 wd_104 wd_987 (by decide +kernel)
set_option maxRecDepth 100000 in
theorem wd_191 : Cond.fieldLink "SunnyPans" 187 "SunnyPans$Pans" "store" "I" ∈ tbG := tw1 91 rfl rfl
theorem fg_SunnyPans_187 : zGetI "SunnyPans" 187 4 5 3 := ⟨RX4, TX4, 7, rfl, by decide, uw_4, wd_191, fun _ _ _ _ _ _ => ⟨_, rfl, rfl⟩⟩
set_option maxRecDepth 100000 in
theorem wd_189 : Cond.fieldLink "SunnyPans" 184 "SunnyPans$Pans" "grams" "[I" ∈ tbG := tw1 89 rfl rfl
theorem fg_SunnyPans_184 : zGetR "SunnyPans" 184 4 5 2 3 := ⟨RX4, TX4, 7, rfl, by decide, uw_4, wd_189, fun _ _ _ _ _ _ => ⟨_, rfl, rfl⟩⟩
set_option maxRecDepth 100000 in
theorem wd_983 : Cond.code yX9_sumOf cX9_sumOf 3 (some .int) ∈ tbG := tw4 163 rfl rfl
set_option maxRecDepth 100000 in
theorem wd_981 : Cond.methodLink "SunnyPans" 177 yX9_sumOf ∈ tbG := tw4 161 rfl rfl
set_option maxRecDepth 100000 in
theorem wd_982 : Cond.static yX9_sumOf ∈ tbG := tw4 162 rfl rfl
theorem cs_SunnyPans_177 : zCS "SunnyPans" 177 yX9_sumOf cX9_sumOf 3 (some .int) 1 := zCS_of wd_981 wd_982 wd_101 wd_983 (by decide +kernel)
set_option maxRecDepth 100000 in
theorem wd_322 : Cond.fieldLink "SunnyPans" 165 "SunnyPans$Plan" "high" "I" ∈ tbG := tw1 222 rfl rfl
theorem fg_SunnyPans_165 : zGetI "SunnyPans" 165 5 6 1 := ⟨RX5, TX5, 9, rfl, by decide, uw_5, wd_322, fun _ _ _ _ _ _ => ⟨_, rfl, rfl⟩⟩
set_option maxRecDepth 100000 in
theorem wd_318 : Cond.fieldLink "SunnyPans" 162 "SunnyPans$Plan" "wide" "I" ∈ tbG := tw1 218 rfl rfl
theorem fg_SunnyPans_162 : zGetI "SunnyPans" 162 5 6 0 := ⟨RX5, TX5, 9, rfl, by decide, uw_5, wd_318, fun _ _ _ _ _ _ => ⟨_, rfl, rfl⟩⟩
theorem kb_12 : (Int8.ofInt (12)).toInt32 = (12 : Int32) := by decide +kernel
theorem d_X9_told_0 : decode cX9_told 0 = .ok (.aload_n 0, 1) := by decide +kernel
theorem d_X9_told_1 : decode cX9_told 1 = .ok (.iload_n 1, 1) := by decide +kernel
theorem d_X9_told_2 : decode cX9_told 2 = .ok (.ifCond .lt 13, 3) := by decide +kernel
theorem d_X9_told_5 : decode cX9_told 5 = .ok (.iload_n 1, 1) := by decide +kernel
theorem d_X9_told_6 : decode cX9_told 6 = .ok (.bipush 12, 2) := by decide +kernel
theorem d_X9_told_8 : decode cX9_told 8 = .ok (.if_icmp .gt 7, 3) := by decide +kernel
theorem d_X9_told_11 : decode cX9_told 11 = .ok (.iconst 1, 1) := by decide +kernel
theorem d_X9_told_12 : decode cX9_told 12 = .ok (.goto 4, 3) := by decide +kernel
theorem d_X9_told_15 : decode cX9_told 15 = .ok (.iconst 0, 1) := by decide +kernel
theorem d_X9_told_16 : decode cX9_told 16 = .ok (.invokevirtual 155, 3) := by decide +kernel
theorem d_X9_told_19 : decode cX9_told 19 = .ok (.aload_n 0, 1) := by decide +kernel
theorem d_X9_told_20 : decode cX9_told 20 = .ok (.getfield 19, 3) := by decide +kernel
theorem d_X9_told_23 : decode cX9_told 23 = .ok (.getfield 159, 3) := by decide +kernel
theorem d_X9_told_26 : decode cX9_told 26 = .ok (.astore_n 2, 1) := by decide +kernel
theorem d_X9_told_27 : decode cX9_told 27 = .ok (.iload_n 1, 1) := by decide +kernel
theorem d_X9_told_28 : decode cX9_told 28 = .ok (.tableswitch 162 0 11 #[64, 72, 80, 88, 93, 112, 120, 128, 136, 141, 149, 154], 64) := by decide +kernel
theorem d_X9_told_92 : decode cX9_told 92 = .ok (.aload_n 0, 1) := by decide +kernel
theorem d_X9_told_93 : decode cX9_told 93 = .ok (.getfield 62, 3) := by decide +kernel
theorem d_X9_told_96 : decode cX9_told 96 = .ok (.getfield 162, 3) := by decide +kernel
theorem d_X9_told_99 : decode cX9_told 99 = .ok (.ireturn, 1) := by decide +kernel
theorem d_X9_told_100 : decode cX9_told 100 = .ok (.aload_n 0, 1) := by decide +kernel
theorem d_X9_told_101 : decode cX9_told 101 = .ok (.getfield 62, 3) := by decide +kernel
theorem d_X9_told_104 : decode cX9_told 104 = .ok (.getfield 165, 3) := by decide +kernel
theorem d_X9_told_107 : decode cX9_told 107 = .ok (.ireturn, 1) := by decide +kernel
theorem d_X9_told_108 : decode cX9_told 108 = .ok (.aload_n 0, 1) := by decide +kernel
theorem d_X9_told_109 : decode cX9_told 109 = .ok (.getfield 62, 3) := by decide +kernel
theorem d_X9_told_112 : decode cX9_told 112 = .ok (.getfield 127, 3) := by decide +kernel
theorem d_X9_told_115 : decode cX9_told 115 = .ok (.ireturn, 1) := by decide +kernel
theorem d_X9_told_116 : decode cX9_told 116 = .ok (.aload_n 2, 1) := by decide +kernel
theorem d_X9_told_117 : decode cX9_told 117 = .ok (.getfield 168, 3) := by decide +kernel
theorem d_X9_told_120 : decode cX9_told 120 = .ok (.ireturn, 1) := by decide +kernel
theorem d_X9_told_121 : decode cX9_told 121 = .ok (.aload_n 0, 1) := by decide +kernel
theorem d_X9_told_122 : decode cX9_told 122 = .ok (.getfield 62, 3) := by decide +kernel
theorem d_X9_told_125 : decode cX9_told 125 = .ok (.getfield 127, 3) := by decide +kernel
theorem d_X9_told_128 : decode cX9_told 128 = .ok (.ifCond .ne 7, 3) := by decide +kernel
theorem d_X9_told_131 : decode cX9_told 131 = .ok (.iconst (-1), 1) := by decide +kernel
theorem d_X9_told_132 : decode cX9_told 132 = .ok (.goto 7, 3) := by decide +kernel
theorem d_X9_told_135 : decode cX9_told 135 = .ok (.aload_n 2, 1) := by decide +kernel
theorem d_X9_told_136 : decode cX9_told 136 = .ok (.getfield 171, 3) := by decide +kernel
theorem d_X9_told_139 : decode cX9_told 139 = .ok (.ireturn, 1) := by decide +kernel
theorem d_X9_told_140 : decode cX9_told 140 = .ok (.aload_n 2, 1) := by decide +kernel
theorem d_X9_told_141 : decode cX9_told 141 = .ok (.getfield 174, 3) := by decide +kernel
theorem d_X9_told_144 : decode cX9_told 144 = .ok (.invokestatic 177, 3) := by decide +kernel
theorem d_X9_told_147 : decode cX9_told 147 = .ok (.ireturn, 1) := by decide +kernel
theorem d_X9_told_148 : decode cX9_told 148 = .ok (.aload_n 2, 1) := by decide +kernel
theorem d_X9_told_149 : decode cX9_told 149 = .ok (.getfield 181, 3) := by decide +kernel
theorem d_X9_told_152 : decode cX9_told 152 = .ok (.invokestatic 177, 3) := by decide +kernel
theorem d_X9_told_155 : decode cX9_told 155 = .ok (.ireturn, 1) := by decide +kernel
theorem d_X9_told_156 : decode cX9_told 156 = .ok (.aload_n 2, 1) := by decide +kernel
theorem d_X9_told_157 : decode cX9_told 157 = .ok (.getfield 184, 3) := by decide +kernel
theorem d_X9_told_160 : decode cX9_told 160 = .ok (.invokestatic 177, 3) := by decide +kernel
theorem d_X9_told_163 : decode cX9_told 163 = .ok (.ireturn, 1) := by decide +kernel
theorem d_X9_told_164 : decode cX9_told 164 = .ok (.aload_n 2, 1) := by decide +kernel
theorem d_X9_told_165 : decode cX9_told 165 = .ok (.getfield 187, 3) := by decide +kernel
theorem d_X9_told_168 : decode cX9_told 168 = .ok (.ireturn, 1) := by decide +kernel
theorem d_X9_told_169 : decode cX9_told 169 = .ok (.aload_n 0, 1) := by decide +kernel
theorem d_X9_told_170 : decode cX9_told 170 = .ok (.getfield 82, 3) := by decide +kernel
theorem d_X9_told_173 : decode cX9_told 173 = .ok (.getfield 145, 3) := by decide +kernel
theorem d_X9_told_176 : decode cX9_told 176 = .ok (.ireturn, 1) := by decide +kernel
theorem d_X9_told_177 : decode cX9_told 177 = .ok (.aload_n 0, 1) := by decide +kernel
theorem d_X9_told_178 : decode cX9_told 178 = .ok (.getfield 124, 3) := by decide +kernel
theorem d_X9_told_181 : decode cX9_told 181 = .ok (.ireturn, 1) := by decide +kernel
theorem d_X9_told_182 : decode cX9_told 182 = .ok (.aload_n 2, 1) := by decide +kernel
theorem d_X9_told_183 : decode cX9_told 183 = .ok (.invokevirtual 190, 3) := by decide +kernel
theorem d_X9_told_186 : decode cX9_told 186 = .ok (.invokestatic 194, 3) := by decide +kernel
theorem d_X9_told_189 : decode cX9_told 189 = .ok (.ireturn, 1) := by decide +kernel
theorem d_X9_told_190 : decode cX9_told 190 = .ok (.aload_n 0, 1) := by decide +kernel
theorem d_X9_told_191 : decode cX9_told 191 = .ok (.getfield 62, 3) := by decide +kernel
theorem d_X9_told_194 : decode cX9_told 194 = .ok (.getfield 200, 3) := by decide +kernel
theorem d_X9_told_197 : decode cX9_told 197 = .ok (.aload_n 2, 1) := by decide +kernel
theorem d_X9_told_198 : decode cX9_told 198 = .ok (.invokevirtual 204, 3) := by decide +kernel
theorem d_X9_told_201 : decode cX9_told 201 = .ok (.land, 1) := by decide +kernel
theorem d_X9_told_202 : decode cX9_told 202 = .ok (.aload_n 2, 1) := by decide +kernel
theorem d_X9_told_203 : decode cX9_told 203 = .ok (.invokevirtual 207, 3) := by decide +kernel
theorem d_X9_told_206 : decode cX9_told 206 = .ok (.land, 1) := by decide +kernel
theorem d_X9_told_207 : decode cX9_told 207 = .ok (.invokestatic 194, 3) := by decide +kernel
theorem d_X9_told_210 : decode cX9_told 210 = .ok (.ireturn, 1) := by decide +kernel
noncomputable def F_X9_told_190 (p0 : Int32) (M : zMem) : Option (Nat × Int32 × zMem) :=
  gd (shX (M.2.2 0 8) == 6) <|
  zb (F_X4_dryPlaces M 4) fun v3 M2 =>
  zb (F_X4_saltPlaces M2 4) fun v5 M4 =>
  zb (F_J13_bitCount_95d88 M4 (((M.2.1 (M.2.2 0 8) 3) &&& v3) &&& v5)) fun v7 M6 =>
  some (0, v7, M6)
noncomputable def F_X9_told_182 (p0 : Int32) (M : zMem) : Option (Nat × Int32 × zMem) :=
  zb (F_X4_heapPlaces M 4) fun v9 M8 =>
  zb (F_J13_bitCount_95d88 M8 v9) fun v11 M10 =>
  some (0, v11, M10)
noncomputable def F_X9_told_177 (p0 : Int32) (M : zMem) : Option (Nat × Int32 × zMem) :=
  some (0, (M.1 0 15), M)
noncomputable def F_X9_told_169 (p0 : Int32) (M : zMem) : Option (Nat × Int32 × zMem) :=
  gd (shX (M.2.2 0 12) == 2) <|
  some (0, (M.1 (M.2.2 0 12) 2), M)
noncomputable def F_X9_told_164 (p0 : Int32) (M : zMem) : Option (Nat × Int32 × zMem) :=
  some (0, (M.1 4 3), M)
noncomputable def F_X9_told_156 (p0 : Int32) (M : zMem) : Option (Nat × Int32 × zMem) :=
  zb (F_X9_sumOf M 7) fun v14 M13 =>
  some (0, v14, M13)
noncomputable def F_X9_told_148 (p0 : Int32) (M : zMem) : Option (Nat × Int32 × zMem) :=
  zb (F_X9_sumOf M 6) fun v16 M15 =>
  some (0, v16, M15)
noncomputable def F_X9_told_140 (p0 : Int32) (M : zMem) : Option (Nat × Int32 × zMem) :=
  zb (F_X9_sumOf M 5) fun v18 M17 =>
  some (0, v18, M17)
noncomputable def F_X9_told_121 (p0 : Int32) (M : zMem) : Option (Nat × Int32 × zMem) :=
  gd (shX (M.2.2 0 8) == 6) <|
  if (M.1 (M.2.2 0 8) 2) = 0 then
    some (0, (-1 : Int32), M)
  else
    some (0, (M.1 4 5), M)
noncomputable def F_X9_told_116 (p0 : Int32) (M : zMem) : Option (Nat × Int32 × zMem) :=
  some (0, (M.1 4 4), M)
noncomputable def F_X9_told_108 (p0 : Int32) (M : zMem) : Option (Nat × Int32 × zMem) :=
  gd (shX (M.2.2 0 8) == 6) <|
  some (0, (M.1 (M.2.2 0 8) 2), M)
noncomputable def F_X9_told_100 (p0 : Int32) (M : zMem) : Option (Nat × Int32 × zMem) :=
  gd (shX (M.2.2 0 8) == 6) <|
  some (0, (M.1 (M.2.2 0 8) 1), M)
noncomputable def F_X9_told_92 (p0 : Int32) (M : zMem) : Option (Nat × Int32 × zMem) :=
  gd (shX (M.2.2 0 8) == 6) <|
  some (0, (M.1 (M.2.2 0 8) 0), M)
noncomputable def F_X9_told_16 (p0 : Int32) (b16_L1 : Int32) (b16_S1 : Int32) (M : zMem) : Option (Nat × Int32 × zMem) :=
  zbx (F_X9_need M b16_S1) (g := zxp) fun _ M23 =>
  if b16_L1 = 0 then
    F_X9_told_92 p0 M23
  else
  if b16_L1 = 1 then
    F_X9_told_100 p0 M23
  else
  if b16_L1 = 2 then
    F_X9_told_108 p0 M23
  else
  if b16_L1 = 3 then
    F_X9_told_116 p0 M23
  else
  if b16_L1 = 4 then
    F_X9_told_121 p0 M23
  else
  if b16_L1 = 5 then
    F_X9_told_140 p0 M23
  else
  if b16_L1 = 6 then
    F_X9_told_148 p0 M23
  else
  if b16_L1 = 7 then
    F_X9_told_156 p0 M23
  else
  if b16_L1 = 8 then
    F_X9_told_164 p0 M23
  else
  if b16_L1 = 9 then
    F_X9_told_169 p0 M23
  else
  if b16_L1 = 10 then
    F_X9_told_177 p0 M23
  else
  if b16_L1 = 11 then
    F_X9_told_182 p0 M23
  else
  F_X9_told_190 p0 M23
noncomputable def F_X9_told_15 (p0 : Int32) (b15_L1 : Int32) (M : zMem) : Option (Nat × Int32 × zMem) :=
  F_X9_told_16 p0 b15_L1 (0 : Int32) M
noncomputable def F_X9_told (M : zMem) (p0 : Int32) : Option (Nat × Int32 × zMem) :=
  if p0 < 0 then
    F_X9_told_15 p0 p0 M
  else
    if (12 : Int32) < p0 then
      F_X9_told_15 p0 p0 M
    else
      F_X9_told_16 p0 p0 (1 : Int32) M
def rm_X9_told : Room := { frames := 10, cells := 1, slots := 6, locals := 163 }
set_option maxHeartbeats 4000000 in
set_option maxRecDepth 100000 in
theorem c_X9_told (l : Launch) {G : zG} {ad : Nat → Nat} {n : Nat} (hA : zInj ad n) (M : zMem) (p0 : Int32) (hl : l.stackTraces = false) (hT : zT shX n 0 10) {k9 : Nat} {r9 : Int32} {M9 : zMem} (hF : F_X9_told M p0 = some (k9, r9, M9)) : zMX l yX9_told cX9_told 3 (some .int) rm_X9_told 1 6 G shX ad n M [.ref (ad 0), .int p0] k9 (some (.int r9)) M9 := by
  refine zM_ofX hA (by decide +kernel) (lv := [(0, .ref (ad 0)), (1, .int p0)]) (Nat.le_of_ble_eq_true rfl) rfl (fun p e s m args below meth c A cx hr ht => ?_)
  have hb190 : ∀ (M : zMem), F_X9_told_190 p0 M = some (k9, r9, M9) → zJ p l e rm_X9_told s m args below meth c G shX ad n A 3 (vx_MQ below (zQX G shX ad n M9 k9 (some (.int r9)) A) (zXC G shX ad n M9 k9 A) args s 1 6 A) 1 6 M 190 [(0, .ref (ad 0)), (2, .ref (ad 4))] [] := by
    intro M hF
    unfold F_X9_told_190 at hF
    refine z_aload_n cx d_X9_told_190 0 rfl ?_
    obtain ⟨hg1, hF⟩ := gd_inv hF
    refine z_getD cx hT fg_SunnyPans_62 d_X9_told_191 ?_
    refine z_getL cx (td_6 hT hg1) fg_SunnyPans_200 d_X9_told_194 ?_
    refine z_aload_n cx d_X9_told_197 1 rfl ?_
    obtain ⟨v3, M2, hc, hF⟩ := zb_inv hF
    refine z_callV cx (As := []) (rest := [.long (M.2.1 (M.2.2 0 8) 3)]) (c_X4_dryPlaces l cx.2.2.2.1.1 M 4 (tfX_8_1 (tfX_10_3 hT)) hc) (tfX_8_1 (tfX_10_3 hT)) zo_5 cv_SunnyPans_204 ⟨rfl, rfl, Nat.le_of_ble_eq_true rfl, Nat.le_of_ble_eq_true rfl⟩ rfl rfl ⟨Nat.le_of_ble_eq_true rfl, Nat.le_of_ble_eq_true rfl⟩ (Nat.le_of_ble_eq_true rfl) d_X9_told_198 ?_
    refine z_land cx d_X9_told_201 ?_
    refine z_aload_n cx d_X9_told_202 1 rfl ?_
    obtain ⟨v5, M4, hc, hF⟩ := zb_inv hF
    refine z_callV cx (As := []) (rest := [.long ((M.2.1 (M.2.2 0 8) 3) &&& v3)]) (c_X4_saltPlaces l cx.2.2.2.1.1 M2 4 (tfX_8_1 (tfX_10_3 hT)) hc) (tfX_8_1 (tfX_10_3 hT)) zo_5 cv_SunnyPans_207 ⟨rfl, rfl, Nat.le_of_ble_eq_true rfl, Nat.le_of_ble_eq_true rfl⟩ rfl rfl ⟨Nat.le_of_ble_eq_true rfl, Nat.le_of_ble_eq_true rfl⟩ (Nat.le_of_ble_eq_true rfl) d_X9_told_203 ?_
    refine z_land cx d_X9_told_206 ?_
    obtain ⟨v7, M6, hc, hF⟩ := zb_inv hF
    refine z_callS cx (As := [.long (((M.2.1 (M.2.2 0 8) 3) &&& v3) &&& v5)]) (rest := []) (c_J13_bitCount_95d88 l cx.2.2.2.1.1 M4 (((M.2.1 (M.2.2 0 8) 3) &&& v3) &&& v5)  hc) cs_SunnyPans_194 ⟨rfl, rfl, Nat.le_of_ble_eq_true rfl, Nat.le_of_ble_eq_true rfl⟩ rfl rfl ⟨Nat.le_of_ble_eq_true rfl, Nat.le_of_ble_eq_true rfl⟩ (Nat.le_of_ble_eq_true rfl) d_X9_told_207 ?_
    exact z_iretX cx hr rfl hF ⟨Nat.le_of_ble_eq_true rfl, Nat.le_of_ble_eq_true rfl⟩ d_X9_told_210
  have hb182 : ∀ (M : zMem), F_X9_told_182 p0 M = some (k9, r9, M9) → zJ p l e rm_X9_told s m args below meth c G shX ad n A 3 (vx_MQ below (zQX G shX ad n M9 k9 (some (.int r9)) A) (zXC G shX ad n M9 k9 A) args s 1 6 A) 1 6 M 182 [(2, .ref (ad 4))] [] := by
    intro M hF
    unfold F_X9_told_182 at hF
    refine z_aload_n cx d_X9_told_182 0 rfl ?_
    obtain ⟨v9, M8, hc, hF⟩ := zb_inv hF
    refine z_callV cx (As := []) (rest := []) (c_X4_heapPlaces l cx.2.2.2.1.1 M 4 (tfX_8_1 (tfX_10_3 hT)) hc) (tfX_8_1 (tfX_10_3 hT)) zo_5 cv_SunnyPans_190 ⟨rfl, rfl, Nat.le_of_ble_eq_true rfl, Nat.le_of_ble_eq_true rfl⟩ rfl rfl ⟨Nat.le_of_ble_eq_true rfl, Nat.le_of_ble_eq_true rfl⟩ (Nat.le_of_ble_eq_true rfl) d_X9_told_183 ?_
    obtain ⟨v11, M10, hc, hF⟩ := zb_inv hF
    refine z_callS cx (As := [.long v9]) (rest := []) (c_J13_bitCount_95d88 l cx.2.2.2.1.1 M8 v9  hc) cs_SunnyPans_194 ⟨rfl, rfl, Nat.le_of_ble_eq_true rfl, Nat.le_of_ble_eq_true rfl⟩ rfl rfl ⟨Nat.le_of_ble_eq_true rfl, Nat.le_of_ble_eq_true rfl⟩ (Nat.le_of_ble_eq_true rfl) d_X9_told_186 ?_
    exact z_iretX cx hr rfl hF ⟨Nat.le_of_ble_eq_true rfl, Nat.le_of_ble_eq_true rfl⟩ d_X9_told_189
  have hb177 : ∀ (M : zMem), F_X9_told_177 p0 M = some (k9, r9, M9) → zJ p l e rm_X9_told s m args below meth c G shX ad n A 3 (vx_MQ below (zQX G shX ad n M9 k9 (some (.int r9)) A) (zXC G shX ad n M9 k9 A) args s 1 6 A) 1 6 M 177 [(0, .ref (ad 0))] [] := by
    intro M hF
    unfold F_X9_told_177 at hF
    refine z_aload_n cx d_X9_told_177 0 rfl ?_
    refine z_getI cx hT fg_SunnyPans_124 d_X9_told_178 ?_
    exact z_iretX cx hr rfl hF ⟨Nat.le_of_ble_eq_true rfl, Nat.le_of_ble_eq_true rfl⟩ d_X9_told_181
  have hb169 : ∀ (M : zMem), F_X9_told_169 p0 M = some (k9, r9, M9) → zJ p l e rm_X9_told s m args below meth c G shX ad n A 3 (vx_MQ below (zQX G shX ad n M9 k9 (some (.int r9)) A) (zXC G shX ad n M9 k9 A) args s 1 6 A) 1 6 M 169 [(0, .ref (ad 0))] [] := by
    intro M hF
    unfold F_X9_told_169 at hF
    refine z_aload_n cx d_X9_told_169 0 rfl ?_
    obtain ⟨hg12, hF⟩ := gd_inv hF
    refine z_getD cx hT fg_SunnyPans_82 d_X9_told_170 ?_
    refine z_getI cx (td_2 hT hg12) fg_SunnyPans_145 d_X9_told_173 ?_
    exact z_iretX cx hr rfl hF ⟨Nat.le_of_ble_eq_true rfl, Nat.le_of_ble_eq_true rfl⟩ d_X9_told_176
  have hb164 : ∀ (M : zMem), F_X9_told_164 p0 M = some (k9, r9, M9) → zJ p l e rm_X9_told s m args below meth c G shX ad n A 3 (vx_MQ below (zQX G shX ad n M9 k9 (some (.int r9)) A) (zXC G shX ad n M9 k9 A) args s 1 6 A) 1 6 M 164 [(2, .ref (ad 4))] [] := by
    intro M hF
    unfold F_X9_told_164 at hF
    refine z_aload_n cx d_X9_told_164 0 rfl ?_
    refine z_getI cx (tfX_8_1 (tfX_10_3 hT)) fg_SunnyPans_187 d_X9_told_165 ?_
    exact z_iretX cx hr rfl hF ⟨Nat.le_of_ble_eq_true rfl, Nat.le_of_ble_eq_true rfl⟩ d_X9_told_168
  have hb156 : ∀ (M : zMem), F_X9_told_156 p0 M = some (k9, r9, M9) → zJ p l e rm_X9_told s m args below meth c G shX ad n A 3 (vx_MQ below (zQX G shX ad n M9 k9 (some (.int r9)) A) (zXC G shX ad n M9 k9 A) args s 1 6 A) 1 6 M 156 [(2, .ref (ad 4))] [] := by
    intro M hF
    unfold F_X9_told_156 at hF
    refine z_aload_n cx d_X9_told_156 0 rfl ?_
    refine z_getR cx (tfX_8_1 (tfX_10_3 hT)) fg_SunnyPans_184 7 rfl d_X9_told_157 ?_
    obtain ⟨v14, M13, hc, hF⟩ := zb_inv hF
    refine z_callS cx (As := [.ref (ad 7)]) (rest := []) (c_X9_sumOf l cx.2.2.2.1.1 M 7 (tfX_5_3 (tfX_8_1 (tfX_10_3 hT))) hc) cs_SunnyPans_177 ⟨rfl, rfl, Nat.le_of_ble_eq_true rfl, Nat.le_of_ble_eq_true rfl⟩ rfl rfl ⟨Nat.le_of_ble_eq_true rfl, Nat.le_of_ble_eq_true rfl⟩ (Nat.le_of_ble_eq_true rfl) d_X9_told_160 ?_
    exact z_iretX cx hr rfl hF ⟨Nat.le_of_ble_eq_true rfl, Nat.le_of_ble_eq_true rfl⟩ d_X9_told_163
  have hb148 : ∀ (M : zMem), F_X9_told_148 p0 M = some (k9, r9, M9) → zJ p l e rm_X9_told s m args below meth c G shX ad n A 3 (vx_MQ below (zQX G shX ad n M9 k9 (some (.int r9)) A) (zXC G shX ad n M9 k9 A) args s 1 6 A) 1 6 M 148 [(2, .ref (ad 4))] [] := by
    intro M hF
    unfold F_X9_told_148 at hF
    refine z_aload_n cx d_X9_told_148 0 rfl ?_
    refine z_getR cx (tfX_8_1 (tfX_10_3 hT)) fg_SunnyPans_181 6 rfl d_X9_told_149 ?_
    obtain ⟨v16, M15, hc, hF⟩ := zb_inv hF
    refine z_callS cx (As := [.ref (ad 6)]) (rest := []) (c_X9_sumOf l cx.2.2.2.1.1 M 6 (tfX_5_2 (tfX_8_1 (tfX_10_3 hT))) hc) cs_SunnyPans_177 ⟨rfl, rfl, Nat.le_of_ble_eq_true rfl, Nat.le_of_ble_eq_true rfl⟩ rfl rfl ⟨Nat.le_of_ble_eq_true rfl, Nat.le_of_ble_eq_true rfl⟩ (Nat.le_of_ble_eq_true rfl) d_X9_told_152 ?_
    exact z_iretX cx hr rfl hF ⟨Nat.le_of_ble_eq_true rfl, Nat.le_of_ble_eq_true rfl⟩ d_X9_told_155
  have hb140 : ∀ (M : zMem), F_X9_told_140 p0 M = some (k9, r9, M9) → zJ p l e rm_X9_told s m args below meth c G shX ad n A 3 (vx_MQ below (zQX G shX ad n M9 k9 (some (.int r9)) A) (zXC G shX ad n M9 k9 A) args s 1 6 A) 1 6 M 140 [(2, .ref (ad 4))] [] := by
    intro M hF
    unfold F_X9_told_140 at hF
    refine z_aload_n cx d_X9_told_140 0 rfl ?_
    refine z_getR cx (tfX_8_1 (tfX_10_3 hT)) fg_SunnyPans_174 5 rfl d_X9_told_141 ?_
    obtain ⟨v18, M17, hc, hF⟩ := zb_inv hF
    refine z_callS cx (As := [.ref (ad 5)]) (rest := []) (c_X9_sumOf l cx.2.2.2.1.1 M 5 (tfX_5_1 (tfX_8_1 (tfX_10_3 hT))) hc) cs_SunnyPans_177 ⟨rfl, rfl, Nat.le_of_ble_eq_true rfl, Nat.le_of_ble_eq_true rfl⟩ rfl rfl ⟨Nat.le_of_ble_eq_true rfl, Nat.le_of_ble_eq_true rfl⟩ (Nat.le_of_ble_eq_true rfl) d_X9_told_144 ?_
    exact z_iretX cx hr rfl hF ⟨Nat.le_of_ble_eq_true rfl, Nat.le_of_ble_eq_true rfl⟩ d_X9_told_147
  have hb121 : ∀ (M : zMem), F_X9_told_121 p0 M = some (k9, r9, M9) → zJ p l e rm_X9_told s m args below meth c G shX ad n A 3 (vx_MQ below (zQX G shX ad n M9 k9 (some (.int r9)) A) (zXC G shX ad n M9 k9 A) args s 1 6 A) 1 6 M 121 [(0, .ref (ad 0)), (2, .ref (ad 4))] [] := by
    intro M hF
    unfold F_X9_told_121 at hF
    refine z_aload_n cx d_X9_told_121 0 rfl ?_
    obtain ⟨hg19, hF⟩ := gd_inv hF
    refine z_getD cx hT fg_SunnyPans_62 d_X9_told_122 ?_
    refine z_getI cx (td_6 hT hg19) fg_SunnyPans_127 d_X9_told_125 ?_
    refine z_if_ne cx 135 d_X9_told_128 (by decide) hF (fun hF => ?_) (fun hF => ?_)
    · refine z_aload_n cx d_X9_told_135 1 rfl ?_
      refine z_getI cx (tfX_8_1 (tfX_10_3 hT)) fg_SunnyPans_171 d_X9_told_136 ?_
      exact z_iretX cx hr rfl hF ⟨Nat.le_of_ble_eq_true rfl, Nat.le_of_ble_eq_true rfl⟩ d_X9_told_139
    refine z_iconst (v := -1) cx d_X9_told_131 ki_m1 ?_
    refine z_goto cx 139 d_X9_told_132 (by decide) ?_
    exact z_iretX cx hr rfl hF ⟨Nat.le_of_ble_eq_true rfl, Nat.le_of_ble_eq_true rfl⟩ d_X9_told_139
  have hb116 : ∀ (M : zMem), F_X9_told_116 p0 M = some (k9, r9, M9) → zJ p l e rm_X9_told s m args below meth c G shX ad n A 3 (vx_MQ below (zQX G shX ad n M9 k9 (some (.int r9)) A) (zXC G shX ad n M9 k9 A) args s 1 6 A) 1 6 M 116 [(2, .ref (ad 4))] [] := by
    intro M hF
    unfold F_X9_told_116 at hF
    refine z_aload_n cx d_X9_told_116 0 rfl ?_
    refine z_getI cx (tfX_8_1 (tfX_10_3 hT)) fg_SunnyPans_168 d_X9_told_117 ?_
    exact z_iretX cx hr rfl hF ⟨Nat.le_of_ble_eq_true rfl, Nat.le_of_ble_eq_true rfl⟩ d_X9_told_120
  have hb108 : ∀ (M : zMem), F_X9_told_108 p0 M = some (k9, r9, M9) → zJ p l e rm_X9_told s m args below meth c G shX ad n A 3 (vx_MQ below (zQX G shX ad n M9 k9 (some (.int r9)) A) (zXC G shX ad n M9 k9 A) args s 1 6 A) 1 6 M 108 [(0, .ref (ad 0))] [] := by
    intro M hF
    unfold F_X9_told_108 at hF
    refine z_aload_n cx d_X9_told_108 0 rfl ?_
    obtain ⟨hg20, hF⟩ := gd_inv hF
    refine z_getD cx hT fg_SunnyPans_62 d_X9_told_109 ?_
    refine z_getI cx (td_6 hT hg20) fg_SunnyPans_127 d_X9_told_112 ?_
    exact z_iretX cx hr rfl hF ⟨Nat.le_of_ble_eq_true rfl, Nat.le_of_ble_eq_true rfl⟩ d_X9_told_115
  have hb100 : ∀ (M : zMem), F_X9_told_100 p0 M = some (k9, r9, M9) → zJ p l e rm_X9_told s m args below meth c G shX ad n A 3 (vx_MQ below (zQX G shX ad n M9 k9 (some (.int r9)) A) (zXC G shX ad n M9 k9 A) args s 1 6 A) 1 6 M 100 [(0, .ref (ad 0))] [] := by
    intro M hF
    unfold F_X9_told_100 at hF
    refine z_aload_n cx d_X9_told_100 0 rfl ?_
    obtain ⟨hg21, hF⟩ := gd_inv hF
    refine z_getD cx hT fg_SunnyPans_62 d_X9_told_101 ?_
    refine z_getI cx (td_6 hT hg21) fg_SunnyPans_165 d_X9_told_104 ?_
    exact z_iretX cx hr rfl hF ⟨Nat.le_of_ble_eq_true rfl, Nat.le_of_ble_eq_true rfl⟩ d_X9_told_107
  have hb92 : ∀ (M : zMem), F_X9_told_92 p0 M = some (k9, r9, M9) → zJ p l e rm_X9_told s m args below meth c G shX ad n A 3 (vx_MQ below (zQX G shX ad n M9 k9 (some (.int r9)) A) (zXC G shX ad n M9 k9 A) args s 1 6 A) 1 6 M 92 [(0, .ref (ad 0))] [] := by
    intro M hF
    unfold F_X9_told_92 at hF
    refine z_aload_n cx d_X9_told_92 0 rfl ?_
    obtain ⟨hg22, hF⟩ := gd_inv hF
    refine z_getD cx hT fg_SunnyPans_62 d_X9_told_93 ?_
    refine z_getI cx (td_6 hT hg22) fg_SunnyPans_162 d_X9_told_96 ?_
    exact z_iretX cx hr rfl hF ⟨Nat.le_of_ble_eq_true rfl, Nat.le_of_ble_eq_true rfl⟩ d_X9_told_99
  have hb16 : ∀ (b16_L1 : Int32) (b16_S1 : Int32) (M : zMem), F_X9_told_16 p0 b16_L1 b16_S1 M = some (k9, r9, M9) → zJ p l e rm_X9_told s m args below meth c G shX ad n A 3 (vx_MQ below (zQX G shX ad n M9 k9 (some (.int r9)) A) (zXC G shX ad n M9 k9 A) args s 1 6 A) 0 0 M 16 [(0, .ref (ad 0)), (1, .int b16_L1)] [.int b16_S1, .ref (ad 0)] := by
    intro b16_L1 b16_S1 M hF
    unfold F_X9_told_16 at hF
    obtain ⟨k24, v25, M23, hc, hF, hX26⟩ := zbx_inv hF
    refine z_callVX cx ht (As := [.int b16_S1]) (rest := []) (c_X9_need l cx.2.2.2.1.1 M b16_S1 hl hT hc) (fun q => zxp_inv (hX26 q)) hT zo_10 cv_SunnyPans_155 ⟨rfl, rfl, Nat.le_of_ble_eq_true rfl, Nat.le_of_ble_eq_true rfl⟩ rfl rfl ⟨Nat.le_of_ble_eq_true rfl, Nat.le_of_ble_eq_true rfl⟩ ⟨Nat.le_of_ble_eq_true rfl, Nat.le_of_ble_eq_true rfl⟩ (Nat.le_of_ble_eq_true rfl) d_X9_told_16 (fun kq27 => ?_)
    have hF := hF kq27
    refine z_aload_n cx d_X9_told_19 0 rfl ?_
    refine z_getR cx hT fg_SunnyPans_19 3 rfl d_X9_told_20 ?_
    refine z_getR cx (tfX_10_3 hT) fg_SunnyPans_159 4 rfl d_X9_told_23 ?_
    refine z_astore_n cx 2 [(2, .ref (ad 4)), (0, .ref (ad 0)), (1, .int b16_L1)] d_X9_told_26 rfl (by decide) rfl ?_
    refine z_iload_n cx d_X9_told_27 2 rfl ?_
    by_cases q0 : b16_L1 = 0
    · rw [if_pos q0] at hF
      refine z_tabIn cx 92 d_X9_told_28 (by rw [q0]; decide +kernel) (by rw [q0]; decide +kernel) (by rw [q0]; rfl) (by decide) ?_
      exact z_lv [1] _ rfl (hb92 M23 hF)
    rw [if_neg q0] at hF
    by_cases q1 : b16_L1 = 1
    · rw [if_pos q1] at hF
      refine z_tabIn cx 100 d_X9_told_28 (by rw [q1]; decide +kernel) (by rw [q1]; decide +kernel) (by rw [q1]; rfl) (by decide) ?_
      exact z_lv [1] _ rfl (hb100 M23 hF)
    rw [if_neg q1] at hF
    by_cases q2 : b16_L1 = 2
    · rw [if_pos q2] at hF
      refine z_tabIn cx 108 d_X9_told_28 (by rw [q2]; decide +kernel) (by rw [q2]; decide +kernel) (by rw [q2]; rfl) (by decide) ?_
      exact z_lv [1] _ rfl (hb108 M23 hF)
    rw [if_neg q2] at hF
    by_cases q3 : b16_L1 = 3
    · rw [if_pos q3] at hF
      refine z_tabIn cx 116 d_X9_told_28 (by rw [q3]; decide +kernel) (by rw [q3]; decide +kernel) (by rw [q3]; rfl) (by decide) ?_
      exact z_lv [0] _ rfl (hb116 M23 hF)
    rw [if_neg q3] at hF
    by_cases q4 : b16_L1 = 4
    · rw [if_pos q4] at hF
      refine z_tabIn cx 121 d_X9_told_28 (by rw [q4]; decide +kernel) (by rw [q4]; decide +kernel) (by rw [q4]; rfl) (by decide) ?_
      exact z_lv [1, 0] _ rfl (hb121 M23 hF)
    rw [if_neg q4] at hF
    by_cases q5 : b16_L1 = 5
    · rw [if_pos q5] at hF
      refine z_tabIn cx 140 d_X9_told_28 (by rw [q5]; decide +kernel) (by rw [q5]; decide +kernel) (by rw [q5]; rfl) (by decide) ?_
      exact z_lv [0] _ rfl (hb140 M23 hF)
    rw [if_neg q5] at hF
    by_cases q6 : b16_L1 = 6
    · rw [if_pos q6] at hF
      refine z_tabIn cx 148 d_X9_told_28 (by rw [q6]; decide +kernel) (by rw [q6]; decide +kernel) (by rw [q6]; rfl) (by decide) ?_
      exact z_lv [0] _ rfl (hb148 M23 hF)
    rw [if_neg q6] at hF
    by_cases q7 : b16_L1 = 7
    · rw [if_pos q7] at hF
      refine z_tabIn cx 156 d_X9_told_28 (by rw [q7]; decide +kernel) (by rw [q7]; decide +kernel) (by rw [q7]; rfl) (by decide) ?_
      exact z_lv [0] _ rfl (hb156 M23 hF)
    rw [if_neg q7] at hF
    by_cases q8 : b16_L1 = 8
    · rw [if_pos q8] at hF
      refine z_tabIn cx 164 d_X9_told_28 (by rw [q8]; decide +kernel) (by rw [q8]; decide +kernel) (by rw [q8]; rfl) (by decide) ?_
      exact z_lv [0] _ rfl (hb164 M23 hF)
    rw [if_neg q8] at hF
    by_cases q9 : b16_L1 = 9
    · rw [if_pos q9] at hF
      refine z_tabIn cx 169 d_X9_told_28 (by rw [q9]; decide +kernel) (by rw [q9]; decide +kernel) (by rw [q9]; rfl) (by decide) ?_
      exact z_lv [1] _ rfl (hb169 M23 hF)
    rw [if_neg q9] at hF
    by_cases q10 : b16_L1 = 10
    · rw [if_pos q10] at hF
      refine z_tabIn cx 177 d_X9_told_28 (by rw [q10]; decide +kernel) (by rw [q10]; decide +kernel) (by rw [q10]; rfl) (by decide) ?_
      exact z_lv [1] _ rfl (hb177 M23 hF)
    rw [if_neg q10] at hF
    by_cases q11 : b16_L1 = 11
    · rw [if_pos q11] at hF
      refine z_tabIn cx 182 d_X9_told_28 (by rw [q11]; decide +kernel) (by rw [q11]; decide +kernel) (by rw [q11]; rfl) (by decide) ?_
      exact z_lv [0] _ rfl (hb182 M23 hF)
    rw [if_neg q11] at hF
    refine z_tabOut cx 190 d_X9_told_28 (by have w0 := lv_neT q0 (a := 0) (by decide +kernel); have w1 := lv_neT q1 (a := 1) (by decide +kernel); have w2 := lv_neT q2 (a := 2) (by decide +kernel); have w3 := lv_neT q3 (a := 3) (by decide +kernel); have w4 := lv_neT q4 (a := 4) (by decide +kernel); have w5 := lv_neT q5 (a := 5) (by decide +kernel); have w6 := lv_neT q6 (a := 6) (by decide +kernel); have w7 := lv_neT q7 (a := 7) (by decide +kernel); have w8 := lv_neT q8 (a := 8) (by decide +kernel); have w9 := lv_neT q9 (a := 9) (by decide +kernel); have w10 := lv_neT q10 (a := 10) (by decide +kernel); have w11 := lv_neT q11 (a := 11) (by decide +kernel); omega) (by decide) ?_
    exact z_lv [1, 0] _ rfl (hb190 M23 hF)
  have hb15 : ∀ (b15_L1 : Int32) (M : zMem), F_X9_told_15 p0 b15_L1 M = some (k9, r9, M9) → zJ p l e rm_X9_told s m args below meth c G shX ad n A 3 (vx_MQ below (zQX G shX ad n M9 k9 (some (.int r9)) A) (zXC G shX ad n M9 k9 A) args s 1 6 A) 0 0 M 15 [(0, .ref (ad 0)), (1, .int b15_L1)] [.ref (ad 0)] := by
    intro b15_L1 M hF
    unfold F_X9_told_15 at hF
    refine z_iconst (v := 0) cx d_X9_told_15 ki_0 ?_
    exact hb16 b15_L1 (0 : Int32) M hF
  unfold F_X9_told at hF
  refine z_aload_n cx d_X9_told_0 0 rfl ?_
  refine z_iload_n cx d_X9_told_1 1 rfl ?_
  refine z_if_lt cx 15 d_X9_told_2 (by decide) hF (fun hF => ?_) (fun hF => ?_)
  · exact hb15 p0 M hF
  refine z_iload_n cx d_X9_told_5 1 rfl ?_
  refine z_bipush (v := 12) cx d_X9_told_6 kb_12 ?_
  refine z_icmp_gt cx 15 d_X9_told_8 (by decide) hF (fun hF => ?_) (fun hF => ?_)
  · exact hb15 p0 M hF
  refine z_iconst (v := 1) cx d_X9_told_11 ki_1 ?_
  refine z_goto cx 16 d_X9_told_12 (by decide) ?_
  exact hb16 p0 (1 : Int32) M hF
/-! SunnyPans.needThing -/
set_option maxRecDepth 100000 in
theorem wd_425 : Cond.fieldLink "SunnyPans" 410 "SunnyPans" "refusedPlaces" "I" ∈ tbG := tw2 85 rfl rfl
theorem fg_SunnyPans_410 : zGetI "SunnyPans" 410 9 10 16 := ⟨RX9, TX9, 19, rfl, by decide, uw_9, wd_425, fun _ _ _ _ _ _ => ⟨_, rfl, rfl⟩⟩
theorem fp_SunnyPans_410 : zPutI "SunnyPans" 410 9 10 16 := ⟨zc_9, fg_SunnyPans_410, ⟨RX9, TX9, 19, rfl, rfl, by decide +kernel⟩, fun _ _ _ _ _ _ _ => ⟨_, rfl, Nat.le_of_ble_eq_true rfl, rfl⟩⟩
theorem d_X9_needThing_0 : decode cX9_needThing 0 = .ok (.iload_n 1, 1) := by decide +kernel
theorem d_X9_needThing_1 : decode cX9_needThing 1 = .ok (.ifCond .ne 24, 3) := by decide +kernel
theorem d_X9_needThing_4 : decode cX9_needThing 4 = .ok (.aload_n 0, 1) := by decide +kernel
theorem d_X9_needThing_5 : decode cX9_needThing 5 = .ok (.dup, 1) := by decide +kernel
theorem d_X9_needThing_6 : decode cX9_needThing 6 = .ok (.getfield 410, 3) := by decide +kernel
theorem d_X9_needThing_9 : decode cX9_needThing 9 = .ok (.iconst 1, 1) := by decide +kernel
theorem d_X9_needThing_10 : decode cX9_needThing 10 = .ok (.iadd, 1) := by decide +kernel
theorem d_X9_needThing_11 : decode cX9_needThing 11 = .ok (.putfield 410, 3) := by decide +kernel
theorem d_X9_needThing_14 : decode cX9_needThing 14 = .ok (.new 429, 3) := by decide +kernel
theorem d_X9_needThing_17 : decode cX9_needThing 17 = .ok (.dup, 1) := by decide +kernel
theorem d_X9_needThing_18 : decode cX9_needThing 18 = .ok (.ldc_w 431, 3) := by decide +kernel
theorem d_X9_needThing_21 : decode cX9_needThing 21 = .ok (.invokespecial 433, 3) := by decide +kernel
theorem d_X9_needThing_24 : decode cX9_needThing 24 = .ok (.athrow, 1) := by decide +kernel
theorem d_X9_needThing_25 : decode cX9_needThing 25 = .ok (.return_, 1) := by decide +kernel
noncomputable def F_X9_needThing (M : zMem) (p0 : Int32) : Option (Nat × Int32 × zMem) :=
  if p0 = 0 then
    zl (zI M 0 16 ((M.1 0 16) + (1 : Int32))) fun M1 =>
    some (2, 0, M1)
  else
    some (0, 0, M)
def rm_X9_needThing : Room := { frames := 9, cells := 1, slots := 6, locals := 140 }
set_option maxHeartbeats 4000000 in
set_option maxRecDepth 100000 in
theorem c_X9_needThing (l : Launch) {G : zG} {ad : Nat → Nat} {n : Nat} (hA : zInj ad n) (M : zMem) (p0 : Int32) (hl : l.stackTraces = false) (hT : zT shX n 0 10) {k9 : Nat} {r9 : Int32} {M9 : zMem} (hF : F_X9_needThing M p0 = some (k9, r9, M9)) : zMX l yX9_needThing cX9_needThing 2 none rm_X9_needThing 1 6 G shX ad n M [.ref (ad 0), .int p0] k9 none M9 := by
  refine zM_ofX hA (by decide +kernel) (lv := [(0, .ref (ad 0)), (1, .int p0)]) (Nat.le_of_ble_eq_true rfl) rfl (fun p e s m args below meth c A cx hr ht => ?_)
  unfold F_X9_needThing at hF
  refine z_iload_n cx d_X9_needThing_0 1 rfl ?_
  refine z_if_ne cx 25 d_X9_needThing_1 (by decide) hF (fun hF => ?_) (fun hF => ?_)
  · exact z_vretX cx hr hF ⟨Nat.le_of_ble_eq_true rfl, Nat.le_of_ble_eq_true rfl⟩ d_X9_needThing_25
  refine z_aload_n cx d_X9_needThing_4 0 rfl ?_
  refine z_dup cx d_X9_needThing_5 rfl ?_
  refine z_getI cx hT fg_SunnyPans_410 d_X9_needThing_6 ?_
  refine z_iconst (v := 1) cx d_X9_needThing_9 ki_1 ?_
  refine z_iadd cx d_X9_needThing_10 ?_
  refine z_putI cx hT fp_SunnyPans_410 d_X9_needThing_11 ?_
  refine z_nmM hF (fun M1 hF => ?_)
  exact z_throwSX cx ht hl (i := 19) (ix := 13) (rx := prog_28_method_4_code) (names := ["java/lang/RuntimeException", "java/lang/Exception"]) 2 (by decide) hF (by decide +kernel) (by decide +kernel) (by decide +kernel) (by decide +kernel) (by decide +kernel) (by decide +kernel) (by decide) zThN zThN2 d_X9_needThing_14 d_X9_needThing_17 d_X9_needThing_18 d_X9_needThing_21 d_X9_needThing_24 (Nat.le_of_ble_eq_true rfl) (Nat.le_of_ble_eq_true rfl) ⟨Nat.le_of_ble_eq_true rfl, Nat.le_of_ble_eq_true rfl⟩ ⟨Nat.le_of_ble_eq_true rfl, Nat.le_of_ble_eq_true rfl⟩
/-! SunnyPans.needPlace -/
set_option maxRecDepth 100000 in
theorem wd_1024 : Cond.methodLink "SunnyPans" 423 yX5_holds ∈ tbG := tw4 204 rfl rfl
theorem cv_SunnyPans_423 : zCV "SunnyPans" 423 "SunnyPans$Plan" yX5_holds cX5_holds 3 (some .boolean) 2 := zCV_of wd_1024 wd_767 wd_768 wd_108 wd_769 (by decide +kernel)
set_option maxRecDepth 100000 in
theorem wd_1028 : Cond.code yX9_needThing cX9_needThing 2 none ∈ tbG := tw4 208 rfl rfl
set_option maxRecDepth 100000 in
theorem wd_1025 : Cond.methodLink "SunnyPans" 426 yX9_needThing ∈ tbG := tw4 205 rfl rfl
set_option maxRecDepth 100000 in
theorem wd_1027 : Cond.instanceMethod yX9_needThing ∈ tbG := tw4 207 rfl rfl
theorem wd_25 : Cond.selects "SunnyPans" yX9_needThing yX9_needThing ∈ tbG := tw 25 (by decide +kernel) rfl
theorem cv_SunnyPans_426 : zCV "SunnyPans" 426 "SunnyPans" yX9_needThing cX9_needThing 2 none 1 := zCV_of wd_1025 wd_1027 wd_25 wd_101 wd_1028 (by decide +kernel)
theorem d_X9_needPlace_0 : decode cX9_needPlace 0 = .ok (.aload_n 0, 1) := by decide +kernel
theorem d_X9_needPlace_1 : decode cX9_needPlace 1 = .ok (.aload_n 0, 1) := by decide +kernel
theorem d_X9_needPlace_2 : decode cX9_needPlace 2 = .ok (.getfield 62, 3) := by decide +kernel
theorem d_X9_needPlace_5 : decode cX9_needPlace 5 = .ok (.iload_n 1, 1) := by decide +kernel
theorem d_X9_needPlace_6 : decode cX9_needPlace 6 = .ok (.iload_n 2, 1) := by decide +kernel
theorem d_X9_needPlace_7 : decode cX9_needPlace 7 = .ok (.invokevirtual 423, 3) := by decide +kernel
theorem d_X9_needPlace_10 : decode cX9_needPlace 10 = .ok (.invokevirtual 426, 3) := by decide +kernel
theorem d_X9_needPlace_13 : decode cX9_needPlace 13 = .ok (.return_, 1) := by decide +kernel
noncomputable def F_X9_needPlace (M : zMem) (p0 : Int32) (p1 : Int32) : Option (Nat × Int32 × zMem) :=
  gd (shX (M.2.2 0 8) == 6) <|
  zb (F_X5_holds M (M.2.2 0 8) p0 p1) fun v3 M2 =>
  zbx (F_X9_needThing M2 v3) (g := zxp) fun _ M4 =>
  some (0, 0, M4)
def rm_X9_needPlace : Room := { frames := 10, cells := 1, slots := 6, locals := 161 }
set_option maxHeartbeats 4000000 in
set_option maxRecDepth 100000 in
theorem c_X9_needPlace (l : Launch) {G : zG} {ad : Nat → Nat} {n : Nat} (hA : zInj ad n) (M : zMem) (p0 : Int32) (p1 : Int32) (hl : l.stackTraces = false) (hT : zT shX n 0 10) {k9 : Nat} {r9 : Int32} {M9 : zMem} (hF : F_X9_needPlace M p0 p1 = some (k9, r9, M9)) : zMX l yX9_needPlace cX9_needPlace 3 none rm_X9_needPlace 1 6 G shX ad n M [.ref (ad 0), .int p0, .int p1] k9 none M9 := by
  refine zM_ofX hA (by decide +kernel) (lv := [(0, .ref (ad 0)), (1, .int p0), (2, .int p1)]) (Nat.le_of_ble_eq_true rfl) rfl (fun p e s m args below meth c A cx hr ht => ?_)
  unfold F_X9_needPlace at hF
  refine z_aload_n cx d_X9_needPlace_0 0 rfl ?_
  refine z_aload_n cx d_X9_needPlace_1 0 rfl ?_
  obtain ⟨hg1, hF⟩ := gd_inv hF
  refine z_getD cx hT fg_SunnyPans_62 d_X9_needPlace_2 ?_
  refine z_iload_n cx d_X9_needPlace_5 1 rfl ?_
  refine z_iload_n cx d_X9_needPlace_6 2 rfl ?_
  obtain ⟨v3, M2, hc, hF⟩ := zb_inv hF
  refine z_callV cx (As := [.int p0, .int p1]) (rest := [.ref (ad 0)]) (c_X5_holds l cx.2.2.2.1.1 M (M.2.2 0 8) p0 p1 (td_6 hT hg1) hc) (td_6 hT hg1) zo_6 cv_SunnyPans_423 ⟨rfl, rfl, Nat.le_of_ble_eq_true rfl, Nat.le_of_ble_eq_true rfl⟩ rfl rfl ⟨Nat.le_of_ble_eq_true rfl, Nat.le_of_ble_eq_true rfl⟩ (Nat.le_of_ble_eq_true rfl) d_X9_needPlace_7 ?_
  obtain ⟨k5, v6, M4, hc, hF, hX7⟩ := zbx_inv hF
  refine z_callVX cx ht (As := [.int v3]) (rest := []) (c_X9_needThing l cx.2.2.2.1.1 M2 v3 hl hT hc) (fun q => zxp_inv (hX7 q)) hT zo_10 cv_SunnyPans_426 ⟨rfl, rfl, Nat.le_of_ble_eq_true rfl, Nat.le_of_ble_eq_true rfl⟩ rfl rfl ⟨Nat.le_of_ble_eq_true rfl, Nat.le_of_ble_eq_true rfl⟩ ⟨Nat.le_of_ble_eq_true rfl, Nat.le_of_ble_eq_true rfl⟩ (Nat.le_of_ble_eq_true rfl) d_X9_needPlace_10 (fun kq8 => ?_)
  have hF := hF kq8
  exact z_vretX cx hr hF ⟨Nat.le_of_ble_eq_true rfl, Nat.le_of_ble_eq_true rfl⟩ d_X9_needPlace_13
/-! SunnyPans.strengthOf -/
theorem d_X9_strengthOf_0 : decode cX9_strengthOf 0 = .ok (.iload_n 0, 1) := by decide +kernel
theorem d_X9_strengthOf_1 : decode cX9_strengthOf 1 = .ok (.iload_n 1, 1) := by decide +kernel
theorem d_X9_strengthOf_2 : decode cX9_strengthOf 2 = .ok (.iadd, 1) := by decide +kernel
theorem d_X9_strengthOf_3 : decode cX9_strengthOf 3 = .ok (.istore_n 2, 1) := by decide +kernel
theorem d_X9_strengthOf_4 : decode cX9_strengthOf 4 = .ok (.iload_n 2, 1) := by decide +kernel
theorem d_X9_strengthOf_5 : decode cX9_strengthOf 5 = .ok (.ifCond .le 13, 3) := by decide +kernel
theorem d_X9_strengthOf_8 : decode cX9_strengthOf 8 = .ok (.sipush 1000, 3) := by decide +kernel
theorem d_X9_strengthOf_11 : decode cX9_strengthOf 11 = .ok (.iload_n 0, 1) := by decide +kernel
theorem d_X9_strengthOf_12 : decode cX9_strengthOf 12 = .ok (.imul, 1) := by decide +kernel
theorem d_X9_strengthOf_13 : decode cX9_strengthOf 13 = .ok (.iload_n 2, 1) := by decide +kernel
theorem d_X9_strengthOf_14 : decode cX9_strengthOf 14 = .ok (.idiv, 1) := by decide +kernel
theorem d_X9_strengthOf_15 : decode cX9_strengthOf 15 = .ok (.goto 4, 3) := by decide +kernel
theorem d_X9_strengthOf_18 : decode cX9_strengthOf 18 = .ok (.iconst 0, 1) := by decide +kernel
theorem d_X9_strengthOf_19 : decode cX9_strengthOf 19 = .ok (.ireturn, 1) := by decide +kernel
noncomputable def F_X9_strengthOf (M : zMem) (p0 : Int32) (p1 : Int32) : Option (Int32 × zMem) :=
  zl (p0 + p1) fun v1 =>
  if v1 ≤ 0 then
    some ((0 : Int32), M)
  else
    gd (!(v1 == 0)) <|
    some ((((1000 : Int32) * p0) / v1), M)
def rm_X9_strengthOf : Room := { frames := 2, cells := 0, slots := 0, locals := 80 }
set_option maxHeartbeats 4000000 in
set_option maxRecDepth 100000 in
theorem c_X9_strengthOf (l : Launch) {G : zG} {ad : Nat → Nat} {n : Nat} (hA : zInj ad n) (M : zMem) (p0 : Int32) (p1 : Int32) {r9 : Int32} {M9 : zMem} (hF : F_X9_strengthOf M p0 p1 = some (r9, M9)) : zM l yX9_strengthOf cX9_strengthOf 3 (some .int) rm_X9_strengthOf G shX ad n M [.int p0, .int p1] (some (.int r9)) M9 := by
  refine zM_of hA (by decide +kernel) (lv := [(0, .int p0), (1, .int p1)]) (Nat.le_of_ble_eq_true rfl) rfl (fun p e s m args below meth c A cx hr => ?_)
  unfold F_X9_strengthOf at hF
  refine z_iload_n cx d_X9_strengthOf_0 0 rfl ?_
  refine z_iload_n cx d_X9_strengthOf_1 1 rfl ?_
  refine z_iadd cx d_X9_strengthOf_2 ?_
  refine z_nm hF (fun v1 hF => ?_)
  refine z_istore_n cx 2 [(2, .int v1), (0, .int p0), (1, .int p1)] d_X9_strengthOf_3 rfl (by decide) rfl ?_
  refine z_iload_n cx d_X9_strengthOf_4 0 rfl ?_
  refine z_if_le cx 18 d_X9_strengthOf_5 (by decide) hF (fun hF => ?_) (fun hF => ?_)
  · refine z_iconst (v := 0) cx d_X9_strengthOf_18 ki_0 ?_
    exact z_iret cx hr rfl hF d_X9_strengthOf_19
  refine z_sipush (v := 1000) cx d_X9_strengthOf_8 ks_1000 ?_
  refine z_iload_n cx d_X9_strengthOf_11 1 rfl ?_
  refine z_imul cx d_X9_strengthOf_12 ?_
  refine z_iload_n cx d_X9_strengthOf_13 0 rfl ?_
  obtain ⟨hz2, hF⟩ := gd_inv hF
  refine z_idiv cx d_X9_strengthOf_14 (zne hz2) ?_
  refine z_goto cx 19 d_X9_strengthOf_15 (by decide) ?_
  exact z_iret cx hr rfl hF d_X9_strengthOf_19
/-! SunnyPans.shadeNow -/
theorem d_X9_shadeNow_0 : decode cX9_shadeNow 0 = .ok (.aload_n 0, 1) := by decide +kernel
theorem d_X9_shadeNow_1 : decode cX9_shadeNow 1 = .ok (.getfield 19, 3) := by decide +kernel
theorem d_X9_shadeNow_4 : decode cX9_shadeNow 4 = .ok (.getfield 159, 3) := by decide +kernel
theorem d_X9_shadeNow_7 : decode cX9_shadeNow 7 = .ok (.iload_n 1, 1) := by decide +kernel
theorem d_X9_shadeNow_8 : decode cX9_shadeNow 8 = .ok (.invokevirtual 330, 3) := by decide +kernel
theorem d_X9_shadeNow_11 : decode cX9_shadeNow 11 = .ok (.lreturn, 1) := by decide +kernel
noncomputable def F_X9_shadeNow (M : zMem) (p0 : Int32) : Option (Int64 × zMem) :=
  zb (F_X4_shadeAt M 4 p0) fun v2 M1 =>
  some (v2, M1)
def rm_X9_shadeNow : Room := { frames := 3, cells := 0, slots := 0, locals := 101 }
set_option maxHeartbeats 4000000 in
set_option maxRecDepth 100000 in
theorem c_X9_shadeNow (l : Launch) {G : zG} {ad : Nat → Nat} {n : Nat} (hA : zInj ad n) (M : zMem) (p0 : Int32) (hT : zT shX n 0 10) {r9 : Int64} {M9 : zMem} (hF : F_X9_shadeNow M p0 = some (r9, M9)) : zM l yX9_shadeNow cX9_shadeNow 2 (some .long) rm_X9_shadeNow G shX ad n M [.ref (ad 0), .int p0] (some (.long r9)) M9 := by
  refine zM_of hA (by decide +kernel) (lv := [(0, .ref (ad 0)), (1, .int p0)]) (Nat.le_of_ble_eq_true rfl) rfl (fun p e s m args below meth c A cx hr => ?_)
  unfold F_X9_shadeNow at hF
  refine z_aload_n cx d_X9_shadeNow_0 0 rfl ?_
  refine z_getR cx hT fg_SunnyPans_19 3 rfl d_X9_shadeNow_1 ?_
  refine z_getR cx (tfX_10_3 hT) fg_SunnyPans_159 4 rfl d_X9_shadeNow_4 ?_
  refine z_iload_n cx d_X9_shadeNow_7 1 rfl ?_
  obtain ⟨v2, M1, hc, hF⟩ := zb_inv hF
  refine z_callV cx (As := [.int p0]) (rest := []) (c_X4_shadeAt l cx.2.2.2.1.1 M 4 p0 (tfX_8_1 (tfX_10_3 hT)) hc) (tfX_8_1 (tfX_10_3 hT)) zo_5 cv_SunnyPans_330 ⟨rfl, rfl, Nat.le_of_ble_eq_true rfl, Nat.le_of_ble_eq_true rfl⟩ rfl rfl ⟨Nat.zero_le _, Nat.zero_le _⟩ (Nat.le_of_ble_eq_true rfl) d_X9_shadeNow_8 ?_
  exact z_lret cx hr hF d_X9_shadeNow_11
/-! SunnyPans.sunOf -/
set_option maxRecDepth 100000 in
theorem wd_1057 : Cond.code yX9_shadeNow cX9_shadeNow 2 (some .long) ∈ tbG := tw4 237 rfl rfl
set_option maxRecDepth 100000 in
theorem wd_1054 : Cond.methodLink "SunnyPans" 227 yX9_shadeNow ∈ tbG := tw4 234 rfl rfl
set_option maxRecDepth 100000 in
theorem wd_1056 : Cond.instanceMethod yX9_shadeNow ∈ tbG := tw4 236 rfl rfl
theorem wd_27 : Cond.selects "SunnyPans" yX9_shadeNow yX9_shadeNow ∈ tbG := tw 27 (by decide +kernel) rfl
theorem cv_SunnyPans_227 : zCV "SunnyPans" 227 "SunnyPans" yX9_shadeNow cX9_shadeNow 2 (some .long) 1 := zCV_of wd_1054 wd_1056 wd_27 wd_101 wd_1057 (by decide +kernel)
theorem d_X9_sunOf_0 : decode cX9_sunOf 0 = .ok (.iconst 0, 1) := by decide +kernel
theorem d_X9_sunOf_1 : decode cX9_sunOf 1 = .ok (.istore_n 2, 1) := by decide +kernel
theorem d_X9_sunOf_2 : decode cX9_sunOf 2 = .ok (.iconst 0, 1) := by decide +kernel
theorem d_X9_sunOf_3 : decode cX9_sunOf 3 = .ok (.istore_n 3, 1) := by decide +kernel
theorem d_X9_sunOf_4 : decode cX9_sunOf 4 = .ok (.iload_n 3, 1) := by decide +kernel
theorem d_X9_sunOf_5 : decode cX9_sunOf 5 = .ok (.aload_n 0, 1) := by decide +kernel
theorem d_X9_sunOf_6 : decode cX9_sunOf 6 = .ok (.getfield 62, 3) := by decide +kernel
theorem d_X9_sunOf_9 : decode cX9_sunOf 9 = .ok (.getfield 127, 3) := by decide +kernel
theorem d_X9_sunOf_12 : decode cX9_sunOf 12 = .ok (.if_icmp .ge 29, 3) := by decide +kernel
theorem d_X9_sunOf_15 : decode cX9_sunOf 15 = .ok (.iload_n 2, 1) := by decide +kernel
theorem d_X9_sunOf_16 : decode cX9_sunOf 16 = .ok (.aload_n 0, 1) := by decide +kernel
theorem d_X9_sunOf_17 : decode cX9_sunOf 17 = .ok (.iload_n 3, 1) := by decide +kernel
theorem d_X9_sunOf_18 : decode cX9_sunOf 18 = .ok (.invokevirtual 227, 3) := by decide +kernel
theorem d_X9_sunOf_21 : decode cX9_sunOf 21 = .ok (.iload_n 1, 1) := by decide +kernel
theorem d_X9_sunOf_22 : decode cX9_sunOf 22 = .ok (.invokestatic 231, 3) := by decide +kernel
theorem d_X9_sunOf_25 : decode cX9_sunOf 25 = .ok (.ifCond .eq 7, 3) := by decide +kernel
theorem d_X9_sunOf_28 : decode cX9_sunOf 28 = .ok (.iconst 0, 1) := by decide +kernel
theorem d_X9_sunOf_29 : decode cX9_sunOf 29 = .ok (.goto 4, 3) := by decide +kernel
theorem d_X9_sunOf_32 : decode cX9_sunOf 32 = .ok (.iconst 1, 1) := by decide +kernel
theorem d_X9_sunOf_33 : decode cX9_sunOf 33 = .ok (.iadd, 1) := by decide +kernel
theorem d_X9_sunOf_34 : decode cX9_sunOf 34 = .ok (.istore_n 2, 1) := by decide +kernel
theorem d_X9_sunOf_35 : decode cX9_sunOf 35 = .ok (.iinc 3 1, 3) := by decide +kernel
theorem d_X9_sunOf_38 : decode cX9_sunOf 38 = .ok (.goto (-34), 3) := by decide +kernel
theorem d_X9_sunOf_41 : decode cX9_sunOf 41 = .ok (.iload_n 2, 1) := by decide +kernel
theorem d_X9_sunOf_42 : decode cX9_sunOf 42 = .ok (.ireturn, 1) := by decide +kernel
noncomputable def F_X9_sunOf_33 (p0 : Int32) (self4 : Int32 → Int32 → Int32 → zMem → Option (Int32 × zMem)) (b33_L1 : Int32) (b33_L3 : Int32) (b33_S0 : Int32) (b33_S1 : Int32) (M : zMem) : Option (Int32 × zMem) :=
  zl (b33_S0 + b33_S1) fun v1 =>
  self4 b33_L1 v1 (b33_L3 + 1) M
noncomputable def F_X9_sunOf_4 (p0 : Int32) (self4 : Int32 → Int32 → Int32 → zMem → Option (Int32 × zMem)) (b4_L1 : Int32) (b4_L2 : Int32) (b4_L3 : Int32) (M : zMem) : Option (Int32 × zMem) :=
  gd (shX (M.2.2 0 8) == 6) <|
  if (M.1 (M.2.2 0 8) 2) ≤ b4_L3 then
    some (b4_L2, M)
  else
    zb (F_X9_shadeNow M b4_L3) fun v4 M3 =>
    zb (F_X9_has M3 v4 b4_L1) fun v6 M5 =>
    if v6 = 0 then
      F_X9_sunOf_33 p0 self4 b4_L1 b4_L3 b4_L2 (1 : Int32) M5
    else
      F_X9_sunOf_33 p0 self4 b4_L1 b4_L3 b4_L2 (0 : Int32) M5
noncomputable def F_X9_sunOf (M : zMem) (p0 : Int32) : Option (Int32 × zMem) :=
  itF (fun _ _ _ _ => none) (F_X9_sunOf_4 p0) zFuel p0 (0 : Int32) (0 : Int32) M
def rm_X9_sunOf : Room := { frames := 4, cells := 0, slots := 0, locals := 122 }
set_option maxHeartbeats 4000000 in
set_option maxRecDepth 100000 in
theorem c_X9_sunOf (l : Launch) {G : zG} {ad : Nat → Nat} {n : Nat} (hA : zInj ad n) (M : zMem) (p0 : Int32) (hT : zT shX n 0 10) {r9 : Int32} {M9 : zMem} (hF : F_X9_sunOf M p0 = some (r9, M9)) : zM l yX9_sunOf cX9_sunOf 4 (some .int) rm_X9_sunOf G shX ad n M [.ref (ad 0), .int p0] (some (.int r9)) M9 := by
  refine zM_of hA (by decide +kernel) (lv := [(0, .ref (ad 0)), (1, .int p0)]) (Nat.le_of_ble_eq_true rfl) rfl (fun p e s m args below meth c A cx hr => ?_)
  have hb33 : ∀ (self4 : Int32 → Int32 → Int32 → zMem → Option (Int32 × zMem)) (hs4 : ∀ (b4_L1 : Int32) (b4_L2 : Int32) (b4_L3 : Int32) (M : zMem), self4 b4_L1 b4_L2 b4_L3 M = some (r9, M9) → zJ p l e rm_X9_sunOf s m args below meth c G shX ad n A 4 (MQ below (zQ G shX ad n M9 (some (.int r9)) A) args s 0 0 A) 0 0 M 4 [(0, .ref (ad 0)), (1, .int b4_L1), (2, .int b4_L2), (3, .int b4_L3)] []), ∀ (b33_L1 : Int32) (b33_L3 : Int32) (b33_S0 : Int32) (b33_S1 : Int32) (M : zMem), F_X9_sunOf_33 p0 self4 b33_L1 b33_L3 b33_S0 b33_S1 M = some (r9, M9) → zJ p l e rm_X9_sunOf s m args below meth c G shX ad n A 4 (MQ below (zQ G shX ad n M9 (some (.int r9)) A) args s 0 0 A) 0 0 M 33 [(0, .ref (ad 0)), (1, .int b33_L1), (3, .int b33_L3)] [.int b33_S1, .int b33_S0] := by
    intro self4 hs4 b33_L1 b33_L3 b33_S0 b33_S1 M hF
    unfold F_X9_sunOf_33 at hF
    refine z_iadd cx d_X9_sunOf_33 ?_
    refine z_nm hF (fun v1 hF => ?_)
    refine z_istore_n cx 2 [(2, .int v1), (0, .ref (ad 0)), (1, .int b33_L1), (3, .int b33_L3)] d_X9_sunOf_34 rfl (by decide) rfl ?_
    refine z_iinc cx 3 1 [(3, .int (b33_L3 + 1)), (2, .int v1), (0, .ref (ad 0)), (1, .int b33_L1)] d_X9_sunOf_35 3 rfl ki_1 (by decide) rfl ?_
    refine z_goto cx 4 d_X9_sunOf_38 (by decide) ?_
    exact z_lv [2, 3, 1, 0] _ rfl (hs4 b33_L1 v1 (b33_L3 + 1) M hF)
  have hL4 : ∀ (fuel : Nat), ∀ (b4_L1 : Int32) (b4_L2 : Int32) (b4_L3 : Int32) (M : zMem), itF (fun _ _ _ _ => none) (F_X9_sunOf_4 p0) fuel b4_L1 b4_L2 b4_L3 M = some (r9, M9) → zJ p l e rm_X9_sunOf s m args below meth c G shX ad n A 4 (MQ below (zQ G shX ad n M9 (some (.int r9)) A) args s 0 0 A) 0 0 M 4 [(0, .ref (ad 0)), (1, .int b4_L1), (2, .int b4_L2), (3, .int b4_L3)] [] := by
    intro fuel
    induction fuel with
    | zero => intro b4_L1 b4_L2 b4_L3 M hF; cases hF
    | succ fuel hs4 =>
      intro b4_L1 b4_L2 b4_L3 M hF
      have hF : F_X9_sunOf_4 p0 (itF (fun _ _ _ _ => none) (F_X9_sunOf_4 p0) fuel) b4_L1 b4_L2 b4_L3 M = some (r9, M9) := hF
      generalize itF (fun _ _ _ _ => none) (F_X9_sunOf_4 p0) fuel = self4 at hs4 hF
      unfold F_X9_sunOf_4 at hF
      refine z_iload_n cx d_X9_sunOf_4 3 rfl ?_
      refine z_aload_n cx d_X9_sunOf_5 0 rfl ?_
      obtain ⟨hg2, hF⟩ := gd_inv hF
      refine z_getD cx hT fg_SunnyPans_62 d_X9_sunOf_6 ?_
      refine z_getI cx (td_6 hT hg2) fg_SunnyPans_127 d_X9_sunOf_9 ?_
      refine z_icmp_ge cx 41 d_X9_sunOf_12 (by decide) hF (fun hF => ?_) (fun hF => ?_)
      · refine z_iload_n cx d_X9_sunOf_41 2 rfl ?_
        exact z_iret cx hr rfl hF d_X9_sunOf_42
      refine z_iload_n cx d_X9_sunOf_15 2 rfl ?_
      refine z_aload_n cx d_X9_sunOf_16 0 rfl ?_
      refine z_iload_n cx d_X9_sunOf_17 3 rfl ?_
      obtain ⟨v4, M3, hc, hF⟩ := zb_inv hF
      refine z_callV cx (As := [.int b4_L3]) (rest := [.int b4_L2]) (c_X9_shadeNow l cx.2.2.2.1.1 M b4_L3 hT hc) hT zo_10 cv_SunnyPans_227 ⟨rfl, rfl, Nat.le_of_ble_eq_true rfl, Nat.le_of_ble_eq_true rfl⟩ rfl rfl ⟨Nat.zero_le _, Nat.zero_le _⟩ (Nat.le_of_ble_eq_true rfl) d_X9_sunOf_18 ?_
      refine z_iload_n cx d_X9_sunOf_21 1 rfl ?_
      obtain ⟨v6, M5, hc, hF⟩ := zb_inv hF
      refine z_callS cx (As := [.long v4, .int b4_L1]) (rest := [.int b4_L2]) (c_X9_has l cx.2.2.2.1.1 M3 v4 b4_L1  hc) cs_SunnyPans_231 ⟨rfl, rfl, Nat.le_of_ble_eq_true rfl, Nat.le_of_ble_eq_true rfl⟩ rfl rfl ⟨Nat.zero_le _, Nat.zero_le _⟩ (Nat.le_of_ble_eq_true rfl) d_X9_sunOf_22 ?_
      refine z_if_eq cx 32 d_X9_sunOf_25 (by decide) hF (fun hF => ?_) (fun hF => ?_)
      · refine z_iconst (v := 1) cx d_X9_sunOf_32 ki_1 ?_
        exact z_lv [0, 1, 3] _ rfl (hb33 self4 hs4 b4_L1 b4_L3 b4_L2 (1 : Int32) M5 hF)
      refine z_iconst (v := 0) cx d_X9_sunOf_28 ki_0 ?_
      refine z_goto cx 33 d_X9_sunOf_29 (by decide) ?_
      exact z_lv [0, 1, 3] _ rfl (hb33 self4 hs4 b4_L1 b4_L3 b4_L2 (0 : Int32) M5 hF)
  unfold F_X9_sunOf at hF
  refine z_iconst (v := 0) cx d_X9_sunOf_0 ki_0 ?_
  refine z_istore_n cx 2 [(2, .int (0 : Int32)), (0, .ref (ad 0)), (1, .int p0)] d_X9_sunOf_1 rfl (by decide) rfl ?_
  refine z_iconst (v := 0) cx d_X9_sunOf_2 ki_0 ?_
  refine z_istore_n cx 3 [(3, .int (0 : Int32)), (2, .int (0 : Int32)), (0, .ref (ad 0)), (1, .int p0)] d_X9_sunOf_3 rfl (by decide) rfl ?_
  exact z_lv [2, 3, 1, 0] _ rfl (hL4 zFuel p0 (0 : Int32) (0 : Int32) M hF)
/-! SunnyPans.pan -/
set_option maxRecDepth 100000 in
theorem wd_1053 : Cond.code yX9_sunOf cX9_sunOf 4 (some .int) ∈ tbG := tw4 233 rfl rfl
set_option maxRecDepth 100000 in
theorem wd_1050 : Cond.methodLink "SunnyPans" 224 yX9_sunOf ∈ tbG := tw4 230 rfl rfl
set_option maxRecDepth 100000 in
theorem wd_1052 : Cond.instanceMethod yX9_sunOf ∈ tbG := tw4 232 rfl rfl
theorem wd_26 : Cond.selects "SunnyPans" yX9_sunOf yX9_sunOf ∈ tbG := tw 26 (by decide +kernel) rfl
theorem cv_SunnyPans_224 : zCV "SunnyPans" 224 "SunnyPans" yX9_sunOf cX9_sunOf 4 (some .int) 1 := zCV_of wd_1050 wd_1052 wd_26 wd_101 wd_1053 (by decide +kernel)
set_option maxRecDepth 100000 in
theorem wd_1049 : Cond.methodLink "SunnyPans" 220 yX9_heightOf ∈ tbG := tw4 229 rfl rfl
theorem cs_SunnyPans_220 : zCS "SunnyPans" 220 yX9_heightOf cX9_heightOf 1 (some .int) 1 := zCS_of wd_1049 wd_760 wd_101 wd_761 (by decide +kernel)
set_option maxRecDepth 100000 in
theorem wd_1048 : Cond.code yX9_strengthOf cX9_strengthOf 3 (some .int) ∈ tbG := tw4 228 rfl rfl
set_option maxRecDepth 100000 in
theorem wd_1046 : Cond.methodLink "SunnyPans" 217 yX9_strengthOf ∈ tbG := tw4 226 rfl rfl
set_option maxRecDepth 100000 in
theorem wd_1047 : Cond.static yX9_strengthOf ∈ tbG := tw4 227 rfl rfl
theorem cs_SunnyPans_217 : zCS "SunnyPans" 217 yX9_strengthOf cX9_strengthOf 3 (some .int) 2 := zCS_of wd_1046 wd_1047 wd_101 wd_1048 (by decide +kernel)
set_option maxRecDepth 100000 in
theorem wd_1045 : Cond.methodLink "SunnyPans" 213 yX9_placeOf ∈ tbG := tw4 225 rfl rfl
theorem cs_SunnyPans_213 : zCS "SunnyPans" 213 yX9_placeOf cX9_placeOf 2 (some .int) 2 := zCS_of wd_1045 wd_310 wd_101 wd_311 (by decide +kernel)
set_option maxRecDepth 100000 in
theorem wd_1023 : Cond.code yX9_needPlace cX9_needPlace 3 none ∈ tbG := tw4 203 rfl rfl
set_option maxRecDepth 100000 in
theorem wd_1020 : Cond.methodLink "SunnyPans" 210 yX9_needPlace ∈ tbG := tw4 200 rfl rfl
set_option maxRecDepth 100000 in
theorem wd_1022 : Cond.instanceMethod yX9_needPlace ∈ tbG := tw4 202 rfl rfl
theorem wd_24 : Cond.selects "SunnyPans" yX9_needPlace yX9_needPlace ∈ tbG := tw 24 (by decide +kernel) rfl
theorem cv_SunnyPans_210 : zCV "SunnyPans" 210 "SunnyPans" yX9_needPlace cX9_needPlace 3 none 2 := zCV_of wd_1020 wd_1022 wd_24 wd_101 wd_1023 (by decide +kernel)
theorem d_X9_pan_0 : decode cX9_pan 0 = .ok (.aload_n 0, 1) := by decide +kernel
theorem d_X9_pan_1 : decode cX9_pan 1 = .ok (.iload_n 1, 1) := by decide +kernel
theorem d_X9_pan_2 : decode cX9_pan 2 = .ok (.iload_n 2, 1) := by decide +kernel
theorem d_X9_pan_3 : decode cX9_pan 3 = .ok (.invokevirtual 210, 3) := by decide +kernel
theorem d_X9_pan_6 : decode cX9_pan 6 = .ok (.aload_n 0, 1) := by decide +kernel
theorem d_X9_pan_7 : decode cX9_pan 7 = .ok (.iload_n 3, 1) := by decide +kernel
theorem d_X9_pan_8 : decode cX9_pan 8 = .ok (.ifCond .lt 13, 3) := by decide +kernel
theorem d_X9_pan_11 : decode cX9_pan 11 = .ok (.iload_n 3, 1) := by decide +kernel
theorem d_X9_pan_12 : decode cX9_pan 12 = .ok (.bipush 6, 2) := by decide +kernel
theorem d_X9_pan_14 : decode cX9_pan 14 = .ok (.if_icmp .gt 7, 3) := by decide +kernel
theorem d_X9_pan_17 : decode cX9_pan 17 = .ok (.iconst 1, 1) := by decide +kernel
theorem d_X9_pan_18 : decode cX9_pan 18 = .ok (.goto 4, 3) := by decide +kernel
theorem d_X9_pan_21 : decode cX9_pan 21 = .ok (.iconst 0, 1) := by decide +kernel
theorem d_X9_pan_22 : decode cX9_pan 22 = .ok (.invokevirtual 155, 3) := by decide +kernel
theorem d_X9_pan_25 : decode cX9_pan 25 = .ok (.aload_n 0, 1) := by decide +kernel
theorem d_X9_pan_26 : decode cX9_pan 26 = .ok (.getfield 19, 3) := by decide +kernel
theorem d_X9_pan_29 : decode cX9_pan 29 = .ok (.getfield 159, 3) := by decide +kernel
theorem d_X9_pan_32 : decode cX9_pan 32 = .ok (.astore 4, 2) := by decide +kernel
theorem d_X9_pan_34 : decode cX9_pan 34 = .ok (.iload_n 1, 1) := by decide +kernel
theorem d_X9_pan_35 : decode cX9_pan 35 = .ok (.iload_n 2, 1) := by decide +kernel
theorem d_X9_pan_36 : decode cX9_pan 36 = .ok (.invokestatic 213, 3) := by decide +kernel
theorem d_X9_pan_39 : decode cX9_pan 39 = .ok (.istore 5, 2) := by decide +kernel
theorem d_X9_pan_41 : decode cX9_pan 41 = .ok (.iload_n 3, 1) := by decide +kernel
theorem d_X9_pan_42 : decode cX9_pan 42 = .ok (.tableswitch 104 0 5 #[38, 47, 56, 76, 85, 97], 38) := by decide +kernel
theorem d_X9_pan_80 : decode cX9_pan 80 = .ok (.aload 4, 2) := by decide +kernel
theorem d_X9_pan_82 : decode cX9_pan 82 = .ok (.getfield 174, 3) := by decide +kernel
theorem d_X9_pan_85 : decode cX9_pan 85 = .ok (.iload 5, 2) := by decide +kernel
theorem d_X9_pan_87 : decode cX9_pan 87 = .ok (.iaload, 1) := by decide +kernel
theorem d_X9_pan_88 : decode cX9_pan 88 = .ok (.ireturn, 1) := by decide +kernel
theorem d_X9_pan_89 : decode cX9_pan 89 = .ok (.aload 4, 2) := by decide +kernel
theorem d_X9_pan_91 : decode cX9_pan 91 = .ok (.getfield 181, 3) := by decide +kernel
theorem d_X9_pan_94 : decode cX9_pan 94 = .ok (.iload 5, 2) := by decide +kernel
theorem d_X9_pan_96 : decode cX9_pan 96 = .ok (.iaload, 1) := by decide +kernel
theorem d_X9_pan_97 : decode cX9_pan 97 = .ok (.ireturn, 1) := by decide +kernel
theorem d_X9_pan_98 : decode cX9_pan 98 = .ok (.aload 4, 2) := by decide +kernel
theorem d_X9_pan_100 : decode cX9_pan 100 = .ok (.getfield 181, 3) := by decide +kernel
theorem d_X9_pan_103 : decode cX9_pan 103 = .ok (.iload 5, 2) := by decide +kernel
theorem d_X9_pan_105 : decode cX9_pan 105 = .ok (.iaload, 1) := by decide +kernel
theorem d_X9_pan_106 : decode cX9_pan 106 = .ok (.aload 4, 2) := by decide +kernel
theorem d_X9_pan_108 : decode cX9_pan 108 = .ok (.getfield 174, 3) := by decide +kernel
theorem d_X9_pan_111 : decode cX9_pan 111 = .ok (.iload 5, 2) := by decide +kernel
theorem d_X9_pan_113 : decode cX9_pan 113 = .ok (.iaload, 1) := by decide +kernel
theorem d_X9_pan_114 : decode cX9_pan 114 = .ok (.invokestatic 217, 3) := by decide +kernel
theorem d_X9_pan_117 : decode cX9_pan 117 = .ok (.ireturn, 1) := by decide +kernel
theorem d_X9_pan_118 : decode cX9_pan 118 = .ok (.aload 4, 2) := by decide +kernel
theorem d_X9_pan_120 : decode cX9_pan 120 = .ok (.getfield 184, 3) := by decide +kernel
theorem d_X9_pan_123 : decode cX9_pan 123 = .ok (.iload 5, 2) := by decide +kernel
theorem d_X9_pan_125 : decode cX9_pan 125 = .ok (.iaload, 1) := by decide +kernel
theorem d_X9_pan_126 : decode cX9_pan 126 = .ok (.ireturn, 1) := by decide +kernel
theorem d_X9_pan_127 : decode cX9_pan 127 = .ok (.aload 4, 2) := by decide +kernel
theorem d_X9_pan_129 : decode cX9_pan 129 = .ok (.getfield 184, 3) := by decide +kernel
theorem d_X9_pan_132 : decode cX9_pan 132 = .ok (.iload 5, 2) := by decide +kernel
theorem d_X9_pan_134 : decode cX9_pan 134 = .ok (.iaload, 1) := by decide +kernel
theorem d_X9_pan_135 : decode cX9_pan 135 = .ok (.invokestatic 220, 3) := by decide +kernel
theorem d_X9_pan_138 : decode cX9_pan 138 = .ok (.ireturn, 1) := by decide +kernel
theorem d_X9_pan_139 : decode cX9_pan 139 = .ok (.aload_n 0, 1) := by decide +kernel
theorem d_X9_pan_140 : decode cX9_pan 140 = .ok (.iload 5, 2) := by decide +kernel
theorem d_X9_pan_142 : decode cX9_pan 142 = .ok (.invokevirtual 224, 3) := by decide +kernel
theorem d_X9_pan_145 : decode cX9_pan 145 = .ok (.ireturn, 1) := by decide +kernel
theorem d_X9_pan_146 : decode cX9_pan 146 = .ok (.aload_n 0, 1) := by decide +kernel
theorem d_X9_pan_147 : decode cX9_pan 147 = .ok (.getfield 62, 3) := by decide +kernel
theorem d_X9_pan_150 : decode cX9_pan 150 = .ok (.getfield 127, 3) := by decide +kernel
theorem d_X9_pan_153 : decode cX9_pan 153 = .ok (.ifCond .le 24, 3) := by decide +kernel
theorem d_X9_pan_156 : decode cX9_pan 156 = .ok (.aload_n 0, 1) := by decide +kernel
theorem d_X9_pan_157 : decode cX9_pan 157 = .ok (.aload 4, 2) := by decide +kernel
theorem d_X9_pan_159 : decode cX9_pan 159 = .ok (.getfield 171, 3) := by decide +kernel
theorem d_X9_pan_162 : decode cX9_pan 162 = .ok (.invokevirtual 227, 3) := by decide +kernel
theorem d_X9_pan_165 : decode cX9_pan 165 = .ok (.iload 5, 2) := by decide +kernel
theorem d_X9_pan_167 : decode cX9_pan 167 = .ok (.invokestatic 231, 3) := by decide +kernel
theorem d_X9_pan_170 : decode cX9_pan 170 = .ok (.ifCond .eq 7, 3) := by decide +kernel
theorem d_X9_pan_173 : decode cX9_pan 173 = .ok (.iconst 1, 1) := by decide +kernel
theorem d_X9_pan_174 : decode cX9_pan 174 = .ok (.goto 4, 3) := by decide +kernel
theorem d_X9_pan_177 : decode cX9_pan 177 = .ok (.iconst 0, 1) := by decide +kernel
theorem d_X9_pan_178 : decode cX9_pan 178 = .ok (.ireturn, 1) := by decide +kernel
noncomputable def F_X9_pan_146 (p0 : Int32) (p1 : Int32) (p2 : Int32) (b146_L5 : Int32) (M : zMem) : Option (Nat × Int32 × zMem) :=
  gd (shX (M.2.2 0 8) == 6) <|
  if (M.1 (M.2.2 0 8) 2) ≤ 0 then
    some (0, (0 : Int32), M)
  else
    zb (F_X9_shadeNow M (M.1 4 5)) fun v3 M2 =>
    zb (F_X9_has M2 v3 b146_L5) fun v5 M4 =>
    if v5 = 0 then
      some (0, (0 : Int32), M4)
    else
      some (0, (1 : Int32), M4)
noncomputable def F_X9_pan_139 (p0 : Int32) (p1 : Int32) (p2 : Int32) (b139_L5 : Int32) (M : zMem) : Option (Nat × Int32 × zMem) :=
  zb (F_X9_sunOf M b139_L5) fun v7 M6 =>
  some (0, v7, M6)
noncomputable def F_X9_pan_127 (p0 : Int32) (p1 : Int32) (p2 : Int32) (b127_L5 : Int32) (M : zMem) : Option (Nat × Int32 × zMem) :=
  gin b127_L5 64 <|
  zb (F_X9_heightOf M (M.1 7 b127_L5.toNatClampNeg)) fun v10 M9 =>
  some (0, v10, M9)
noncomputable def F_X9_pan_118 (p0 : Int32) (p1 : Int32) (p2 : Int32) (b118_L5 : Int32) (M : zMem) : Option (Nat × Int32 × zMem) :=
  gin b118_L5 64 <|
  some (0, (M.1 7 b118_L5.toNatClampNeg), M)
noncomputable def F_X9_pan_98 (p0 : Int32) (p1 : Int32) (p2 : Int32) (b98_L5 : Int32) (M : zMem) : Option (Nat × Int32 × zMem) :=
  gin b98_L5 64 <|
  zb (F_X9_strengthOf M (M.1 6 b98_L5.toNatClampNeg) (M.1 5 b98_L5.toNatClampNeg)) fun v14 M13 =>
  some (0, v14, M13)
noncomputable def F_X9_pan_89 (p0 : Int32) (p1 : Int32) (p2 : Int32) (b89_L5 : Int32) (M : zMem) : Option (Nat × Int32 × zMem) :=
  gin b89_L5 64 <|
  some (0, (M.1 6 b89_L5.toNatClampNeg), M)
noncomputable def F_X9_pan_80 (p0 : Int32) (p1 : Int32) (p2 : Int32) (b80_L5 : Int32) (M : zMem) : Option (Nat × Int32 × zMem) :=
  gin b80_L5 64 <|
  some (0, (M.1 5 b80_L5.toNatClampNeg), M)
noncomputable def F_X9_pan_22 (p0 : Int32) (p1 : Int32) (p2 : Int32) (b22_L1 : Int32) (b22_L2 : Int32) (b22_L3 : Int32) (b22_S1 : Int32) (M : zMem) : Option (Nat × Int32 × zMem) :=
  zbx (F_X9_need M b22_S1) (g := zxp) fun _ M17 =>
  zb (F_X9_placeOf M17 b22_L1 b22_L2) fun v23 M22 =>
  if b22_L3 = 0 then
    F_X9_pan_80 p0 p1 p2 v23 M22
  else
  if b22_L3 = 1 then
    F_X9_pan_89 p0 p1 p2 v23 M22
  else
  if b22_L3 = 2 then
    F_X9_pan_98 p0 p1 p2 v23 M22
  else
  if b22_L3 = 3 then
    F_X9_pan_118 p0 p1 p2 v23 M22
  else
  if b22_L3 = 4 then
    F_X9_pan_127 p0 p1 p2 v23 M22
  else
  if b22_L3 = 5 then
    F_X9_pan_139 p0 p1 p2 v23 M22
  else
  F_X9_pan_146 p0 p1 p2 v23 M22
noncomputable def F_X9_pan_21 (p0 : Int32) (p1 : Int32) (p2 : Int32) (b21_L1 : Int32) (b21_L2 : Int32) (b21_L3 : Int32) (M : zMem) : Option (Nat × Int32 × zMem) :=
  F_X9_pan_22 p0 p1 p2 b21_L1 b21_L2 b21_L3 (0 : Int32) M
noncomputable def F_X9_pan (M : zMem) (p0 : Int32) (p1 : Int32) (p2 : Int32) : Option (Nat × Int32 × zMem) :=
  zbx (F_X9_needPlace M p0 p1) (g := zxp) fun _ M24 =>
  if p2 < 0 then
    F_X9_pan_21 p0 p1 p2 p0 p1 p2 M24
  else
    if (6 : Int32) < p2 then
      F_X9_pan_21 p0 p1 p2 p0 p1 p2 M24
    else
      F_X9_pan_22 p0 p1 p2 p0 p1 p2 (1 : Int32) M24
def rm_X9_pan : Room := { frames := 11, cells := 2, slots := 12, locals := 183 }
set_option maxHeartbeats 4000000 in
set_option maxRecDepth 100000 in
theorem c_X9_pan (l : Launch) {G : zG} {ad : Nat → Nat} {n : Nat} (hA : zInj ad n) (M : zMem) (p0 : Int32) (p1 : Int32) (p2 : Int32) (hl : l.stackTraces = false) (hT : zT shX n 0 10) {k9 : Nat} {r9 : Int32} {M9 : zMem} (hF : F_X9_pan M p0 p1 p2 = some (k9, r9, M9)) : zMX l yX9_pan cX9_pan 6 (some .int) rm_X9_pan 2 12 G shX ad n M [.ref (ad 0), .int p0, .int p1, .int p2] k9 (some (.int r9)) M9 := by
  refine zM_ofX hA (by decide +kernel) (lv := [(0, .ref (ad 0)), (1, .int p0), (2, .int p1), (3, .int p2)]) (Nat.le_of_ble_eq_true rfl) rfl (fun p e s m args below meth c A cx hr ht => ?_)
  have hb146 : ∀ (b146_L5 : Int32) (M : zMem), F_X9_pan_146 p0 p1 p2 b146_L5 M = some (k9, r9, M9) → zJ p l e rm_X9_pan s m args below meth c G shX ad n A 6 (vx_MQ below (zQX G shX ad n M9 k9 (some (.int r9)) A) (zXC G shX ad n M9 k9 A) args s 2 12 A) 2 12 M 146 [(0, .ref (ad 0)), (4, .ref (ad 4)), (5, .int b146_L5)] [] := by
    intro b146_L5 M hF
    unfold F_X9_pan_146 at hF
    refine z_aload_n cx d_X9_pan_146 0 rfl ?_
    obtain ⟨hg1, hF⟩ := gd_inv hF
    refine z_getD cx hT fg_SunnyPans_62 d_X9_pan_147 ?_
    refine z_getI cx (td_6 hT hg1) fg_SunnyPans_127 d_X9_pan_150 ?_
    refine z_if_le cx 177 d_X9_pan_153 (by decide) hF (fun hF => ?_) (fun hF => ?_)
    · refine z_iconst (v := 0) cx d_X9_pan_177 ki_0 ?_
      exact z_iretX cx hr rfl hF ⟨Nat.le_of_ble_eq_true rfl, Nat.le_of_ble_eq_true rfl⟩ d_X9_pan_178
    refine z_aload_n cx d_X9_pan_156 0 rfl ?_
    refine z_aload cx d_X9_pan_157 1 rfl ?_
    refine z_getI cx (tfX_8_1 (tfX_10_3 hT)) fg_SunnyPans_171 d_X9_pan_159 ?_
    obtain ⟨v3, M2, hc, hF⟩ := zb_inv hF
    refine z_callV cx (As := [.int (M.1 4 5)]) (rest := []) (c_X9_shadeNow l cx.2.2.2.1.1 M (M.1 4 5) hT hc) hT zo_10 cv_SunnyPans_227 ⟨rfl, rfl, Nat.le_of_ble_eq_true rfl, Nat.le_of_ble_eq_true rfl⟩ rfl rfl ⟨Nat.le_of_ble_eq_true rfl, Nat.le_of_ble_eq_true rfl⟩ (Nat.le_of_ble_eq_true rfl) d_X9_pan_162 ?_
    refine z_iload cx d_X9_pan_165 2 rfl ?_
    obtain ⟨v5, M4, hc, hF⟩ := zb_inv hF
    refine z_callS cx (As := [.long v3, .int b146_L5]) (rest := []) (c_X9_has l cx.2.2.2.1.1 M2 v3 b146_L5  hc) cs_SunnyPans_231 ⟨rfl, rfl, Nat.le_of_ble_eq_true rfl, Nat.le_of_ble_eq_true rfl⟩ rfl rfl ⟨Nat.le_of_ble_eq_true rfl, Nat.le_of_ble_eq_true rfl⟩ (Nat.le_of_ble_eq_true rfl) d_X9_pan_167 ?_
    refine z_if_eq cx 177 d_X9_pan_170 (by decide) hF (fun hF => ?_) (fun hF => ?_)
    · refine z_iconst (v := 0) cx d_X9_pan_177 ki_0 ?_
      exact z_iretX cx hr rfl hF ⟨Nat.le_of_ble_eq_true rfl, Nat.le_of_ble_eq_true rfl⟩ d_X9_pan_178
    refine z_iconst (v := 1) cx d_X9_pan_173 ki_1 ?_
    refine z_goto cx 178 d_X9_pan_174 (by decide) ?_
    exact z_iretX cx hr rfl hF ⟨Nat.le_of_ble_eq_true rfl, Nat.le_of_ble_eq_true rfl⟩ d_X9_pan_178
  have hb139 : ∀ (b139_L5 : Int32) (M : zMem), F_X9_pan_139 p0 p1 p2 b139_L5 M = some (k9, r9, M9) → zJ p l e rm_X9_pan s m args below meth c G shX ad n A 6 (vx_MQ below (zQX G shX ad n M9 k9 (some (.int r9)) A) (zXC G shX ad n M9 k9 A) args s 2 12 A) 2 12 M 139 [(0, .ref (ad 0)), (5, .int b139_L5)] [] := by
    intro b139_L5 M hF
    unfold F_X9_pan_139 at hF
    refine z_aload_n cx d_X9_pan_139 0 rfl ?_
    refine z_iload cx d_X9_pan_140 1 rfl ?_
    obtain ⟨v7, M6, hc, hF⟩ := zb_inv hF
    refine z_callV cx (As := [.int b139_L5]) (rest := []) (c_X9_sunOf l cx.2.2.2.1.1 M b139_L5 hT hc) hT zo_10 cv_SunnyPans_224 ⟨rfl, rfl, Nat.le_of_ble_eq_true rfl, Nat.le_of_ble_eq_true rfl⟩ rfl rfl ⟨Nat.le_of_ble_eq_true rfl, Nat.le_of_ble_eq_true rfl⟩ (Nat.le_of_ble_eq_true rfl) d_X9_pan_142 ?_
    exact z_iretX cx hr rfl hF ⟨Nat.le_of_ble_eq_true rfl, Nat.le_of_ble_eq_true rfl⟩ d_X9_pan_145
  have hb127 : ∀ (b127_L5 : Int32) (M : zMem), F_X9_pan_127 p0 p1 p2 b127_L5 M = some (k9, r9, M9) → zJ p l e rm_X9_pan s m args below meth c G shX ad n A 6 (vx_MQ below (zQX G shX ad n M9 k9 (some (.int r9)) A) (zXC G shX ad n M9 k9 A) args s 2 12 A) 2 12 M 127 [(4, .ref (ad 4)), (5, .int b127_L5)] [] := by
    intro b127_L5 M hF
    unfold F_X9_pan_127 at hF
    refine z_aload cx d_X9_pan_127 0 rfl ?_
    refine z_getR cx (tfX_8_1 (tfX_10_3 hT)) fg_SunnyPans_184 7 rfl d_X9_pan_129 ?_
    refine z_iload cx d_X9_pan_132 1 rfl ?_
    obtain ⟨hi8, hF⟩ := gin_inv hF
    refine z_iald cx (tfX_5_3 (tfX_8_1 (tfX_10_3 hT))) za_16 hi8 b127_L5.toNatClampNeg rfl d_X9_pan_134 ?_
    obtain ⟨v10, M9, hc, hF⟩ := zb_inv hF
    refine z_callS cx (As := [.int (M.1 7 b127_L5.toNatClampNeg)]) (rest := []) (c_X9_heightOf l cx.2.2.2.1.1 M (M.1 7 b127_L5.toNatClampNeg)  hc) cs_SunnyPans_220 ⟨rfl, rfl, Nat.le_of_ble_eq_true rfl, Nat.le_of_ble_eq_true rfl⟩ rfl rfl ⟨Nat.le_of_ble_eq_true rfl, Nat.le_of_ble_eq_true rfl⟩ (Nat.le_of_ble_eq_true rfl) d_X9_pan_135 ?_
    exact z_iretX cx hr rfl hF ⟨Nat.le_of_ble_eq_true rfl, Nat.le_of_ble_eq_true rfl⟩ d_X9_pan_138
  have hb118 : ∀ (b118_L5 : Int32) (M : zMem), F_X9_pan_118 p0 p1 p2 b118_L5 M = some (k9, r9, M9) → zJ p l e rm_X9_pan s m args below meth c G shX ad n A 6 (vx_MQ below (zQX G shX ad n M9 k9 (some (.int r9)) A) (zXC G shX ad n M9 k9 A) args s 2 12 A) 2 12 M 118 [(4, .ref (ad 4)), (5, .int b118_L5)] [] := by
    intro b118_L5 M hF
    unfold F_X9_pan_118 at hF
    refine z_aload cx d_X9_pan_118 0 rfl ?_
    refine z_getR cx (tfX_8_1 (tfX_10_3 hT)) fg_SunnyPans_184 7 rfl d_X9_pan_120 ?_
    refine z_iload cx d_X9_pan_123 1 rfl ?_
    obtain ⟨hi11, hF⟩ := gin_inv hF
    refine z_iald cx (tfX_5_3 (tfX_8_1 (tfX_10_3 hT))) za_16 hi11 b118_L5.toNatClampNeg rfl d_X9_pan_125 ?_
    exact z_iretX cx hr rfl hF ⟨Nat.le_of_ble_eq_true rfl, Nat.le_of_ble_eq_true rfl⟩ d_X9_pan_126
  have hb98 : ∀ (b98_L5 : Int32) (M : zMem), F_X9_pan_98 p0 p1 p2 b98_L5 M = some (k9, r9, M9) → zJ p l e rm_X9_pan s m args below meth c G shX ad n A 6 (vx_MQ below (zQX G shX ad n M9 k9 (some (.int r9)) A) (zXC G shX ad n M9 k9 A) args s 2 12 A) 2 12 M 98 [(4, .ref (ad 4)), (5, .int b98_L5)] [] := by
    intro b98_L5 M hF
    unfold F_X9_pan_98 at hF
    refine z_aload cx d_X9_pan_98 0 rfl ?_
    refine z_getR cx (tfX_8_1 (tfX_10_3 hT)) fg_SunnyPans_181 6 rfl d_X9_pan_100 ?_
    refine z_iload cx d_X9_pan_103 1 rfl ?_
    obtain ⟨hi12, hF⟩ := gin_inv hF
    refine z_iald cx (tfX_5_2 (tfX_8_1 (tfX_10_3 hT))) za_16 hi12 b98_L5.toNatClampNeg rfl d_X9_pan_105 ?_
    refine z_aload cx d_X9_pan_106 0 rfl ?_
    refine z_getR cx (tfX_8_1 (tfX_10_3 hT)) fg_SunnyPans_174 5 rfl d_X9_pan_108 ?_
    refine z_iload cx d_X9_pan_111 1 rfl ?_
    refine z_iald cx (tfX_5_1 (tfX_8_1 (tfX_10_3 hT))) za_16 hi12 b98_L5.toNatClampNeg rfl d_X9_pan_113 ?_
    obtain ⟨v14, M13, hc, hF⟩ := zb_inv hF
    refine z_callS cx (As := [.int (M.1 6 b98_L5.toNatClampNeg), .int (M.1 5 b98_L5.toNatClampNeg)]) (rest := []) (c_X9_strengthOf l cx.2.2.2.1.1 M (M.1 6 b98_L5.toNatClampNeg) (M.1 5 b98_L5.toNatClampNeg)  hc) cs_SunnyPans_217 ⟨rfl, rfl, Nat.le_of_ble_eq_true rfl, Nat.le_of_ble_eq_true rfl⟩ rfl rfl ⟨Nat.le_of_ble_eq_true rfl, Nat.le_of_ble_eq_true rfl⟩ (Nat.le_of_ble_eq_true rfl) d_X9_pan_114 ?_
    exact z_iretX cx hr rfl hF ⟨Nat.le_of_ble_eq_true rfl, Nat.le_of_ble_eq_true rfl⟩ d_X9_pan_117
  have hb89 : ∀ (b89_L5 : Int32) (M : zMem), F_X9_pan_89 p0 p1 p2 b89_L5 M = some (k9, r9, M9) → zJ p l e rm_X9_pan s m args below meth c G shX ad n A 6 (vx_MQ below (zQX G shX ad n M9 k9 (some (.int r9)) A) (zXC G shX ad n M9 k9 A) args s 2 12 A) 2 12 M 89 [(4, .ref (ad 4)), (5, .int b89_L5)] [] := by
    intro b89_L5 M hF
    unfold F_X9_pan_89 at hF
    refine z_aload cx d_X9_pan_89 0 rfl ?_
    refine z_getR cx (tfX_8_1 (tfX_10_3 hT)) fg_SunnyPans_181 6 rfl d_X9_pan_91 ?_
    refine z_iload cx d_X9_pan_94 1 rfl ?_
    obtain ⟨hi15, hF⟩ := gin_inv hF
    refine z_iald cx (tfX_5_2 (tfX_8_1 (tfX_10_3 hT))) za_16 hi15 b89_L5.toNatClampNeg rfl d_X9_pan_96 ?_
    exact z_iretX cx hr rfl hF ⟨Nat.le_of_ble_eq_true rfl, Nat.le_of_ble_eq_true rfl⟩ d_X9_pan_97
  have hb80 : ∀ (b80_L5 : Int32) (M : zMem), F_X9_pan_80 p0 p1 p2 b80_L5 M = some (k9, r9, M9) → zJ p l e rm_X9_pan s m args below meth c G shX ad n A 6 (vx_MQ below (zQX G shX ad n M9 k9 (some (.int r9)) A) (zXC G shX ad n M9 k9 A) args s 2 12 A) 2 12 M 80 [(4, .ref (ad 4)), (5, .int b80_L5)] [] := by
    intro b80_L5 M hF
    unfold F_X9_pan_80 at hF
    refine z_aload cx d_X9_pan_80 0 rfl ?_
    refine z_getR cx (tfX_8_1 (tfX_10_3 hT)) fg_SunnyPans_174 5 rfl d_X9_pan_82 ?_
    refine z_iload cx d_X9_pan_85 1 rfl ?_
    obtain ⟨hi16, hF⟩ := gin_inv hF
    refine z_iald cx (tfX_5_1 (tfX_8_1 (tfX_10_3 hT))) za_16 hi16 b80_L5.toNatClampNeg rfl d_X9_pan_87 ?_
    exact z_iretX cx hr rfl hF ⟨Nat.le_of_ble_eq_true rfl, Nat.le_of_ble_eq_true rfl⟩ d_X9_pan_88
  have hb22 : ∀ (b22_L1 : Int32) (b22_L2 : Int32) (b22_L3 : Int32) (b22_S1 : Int32) (M : zMem), F_X9_pan_22 p0 p1 p2 b22_L1 b22_L2 b22_L3 b22_S1 M = some (k9, r9, M9) → zJ p l e rm_X9_pan s m args below meth c G shX ad n A 6 (vx_MQ below (zQX G shX ad n M9 k9 (some (.int r9)) A) (zXC G shX ad n M9 k9 A) args s 2 12 A) 1 6 M 22 [(0, .ref (ad 0)), (1, .int b22_L1), (2, .int b22_L2), (3, .int b22_L3)] [.int b22_S1, .ref (ad 0)] := by
    intro b22_L1 b22_L2 b22_L3 b22_S1 M hF
    unfold F_X9_pan_22 at hF
    obtain ⟨k18, v19, M17, hc, hF, hX20⟩ := zbx_inv hF
    refine z_callVX cx ht (As := [.int b22_S1]) (rest := []) (c_X9_need l cx.2.2.2.1.1 M b22_S1 hl hT hc) (fun q => zxp_inv (hX20 q)) hT zo_10 cv_SunnyPans_155 ⟨rfl, rfl, Nat.le_of_ble_eq_true rfl, Nat.le_of_ble_eq_true rfl⟩ rfl rfl ⟨Nat.le_of_ble_eq_true rfl, Nat.le_of_ble_eq_true rfl⟩ ⟨Nat.le_of_ble_eq_true rfl, Nat.le_of_ble_eq_true rfl⟩ (Nat.le_of_ble_eq_true rfl) d_X9_pan_22 (fun kq21 => ?_)
    have hF := hF kq21
    refine z_aload_n cx d_X9_pan_25 0 rfl ?_
    refine z_getR cx hT fg_SunnyPans_19 3 rfl d_X9_pan_26 ?_
    refine z_getR cx (tfX_10_3 hT) fg_SunnyPans_159 4 rfl d_X9_pan_29 ?_
    refine z_astore cx 4 [(4, .ref (ad 4)), (0, .ref (ad 0)), (1, .int b22_L1), (2, .int b22_L2), (3, .int b22_L3)] d_X9_pan_32 (by decide) rfl ?_
    refine z_iload_n cx d_X9_pan_34 2 rfl ?_
    refine z_iload_n cx d_X9_pan_35 3 rfl ?_
    obtain ⟨v23, M22, hc, hF⟩ := zb_inv hF
    refine z_callS cx (As := [.int b22_L1, .int b22_L2]) (rest := []) (c_X9_placeOf l cx.2.2.2.1.1 M17 b22_L1 b22_L2  hc) cs_SunnyPans_213 ⟨rfl, rfl, Nat.le_of_ble_eq_true rfl, Nat.le_of_ble_eq_true rfl⟩ rfl rfl ⟨Nat.le_of_ble_eq_true rfl, Nat.le_of_ble_eq_true rfl⟩ (Nat.le_of_ble_eq_true rfl) d_X9_pan_36 ?_
    refine z_istore cx 5 [(5, .int v23), (4, .ref (ad 4)), (0, .ref (ad 0)), (1, .int b22_L1), (2, .int b22_L2), (3, .int b22_L3)] d_X9_pan_39 (by decide) rfl ?_
    refine z_iload_n cx d_X9_pan_41 5 rfl ?_
    by_cases q0 : b22_L3 = 0
    · rw [if_pos q0] at hF
      refine z_tabIn cx 80 d_X9_pan_42 (by rw [q0]; decide +kernel) (by rw [q0]; decide +kernel) (by rw [q0]; rfl) (by decide) ?_
      exact z_lv [1, 0] _ rfl (hb80 v23 M22 hF)
    rw [if_neg q0] at hF
    by_cases q1 : b22_L3 = 1
    · rw [if_pos q1] at hF
      refine z_tabIn cx 89 d_X9_pan_42 (by rw [q1]; decide +kernel) (by rw [q1]; decide +kernel) (by rw [q1]; rfl) (by decide) ?_
      exact z_lv [1, 0] _ rfl (hb89 v23 M22 hF)
    rw [if_neg q1] at hF
    by_cases q2 : b22_L3 = 2
    · rw [if_pos q2] at hF
      refine z_tabIn cx 98 d_X9_pan_42 (by rw [q2]; decide +kernel) (by rw [q2]; decide +kernel) (by rw [q2]; rfl) (by decide) ?_
      exact z_lv [1, 0] _ rfl (hb98 v23 M22 hF)
    rw [if_neg q2] at hF
    by_cases q3 : b22_L3 = 3
    · rw [if_pos q3] at hF
      refine z_tabIn cx 118 d_X9_pan_42 (by rw [q3]; decide +kernel) (by rw [q3]; decide +kernel) (by rw [q3]; rfl) (by decide) ?_
      exact z_lv [1, 0] _ rfl (hb118 v23 M22 hF)
    rw [if_neg q3] at hF
    by_cases q4 : b22_L3 = 4
    · rw [if_pos q4] at hF
      refine z_tabIn cx 127 d_X9_pan_42 (by rw [q4]; decide +kernel) (by rw [q4]; decide +kernel) (by rw [q4]; rfl) (by decide) ?_
      exact z_lv [1, 0] _ rfl (hb127 v23 M22 hF)
    rw [if_neg q4] at hF
    by_cases q5 : b22_L3 = 5
    · rw [if_pos q5] at hF
      refine z_tabIn cx 139 d_X9_pan_42 (by rw [q5]; decide +kernel) (by rw [q5]; decide +kernel) (by rw [q5]; rfl) (by decide) ?_
      exact z_lv [2, 0] _ rfl (hb139 v23 M22 hF)
    rw [if_neg q5] at hF
    refine z_tabOut cx 146 d_X9_pan_42 (by have w0 := lv_neT q0 (a := 0) (by decide +kernel); have w1 := lv_neT q1 (a := 1) (by decide +kernel); have w2 := lv_neT q2 (a := 2) (by decide +kernel); have w3 := lv_neT q3 (a := 3) (by decide +kernel); have w4 := lv_neT q4 (a := 4) (by decide +kernel); have w5 := lv_neT q5 (a := 5) (by decide +kernel); omega) (by decide) ?_
    exact z_lv [2, 1, 0] _ rfl (hb146 v23 M22 hF)
  have hb21 : ∀ (b21_L1 : Int32) (b21_L2 : Int32) (b21_L3 : Int32) (M : zMem), F_X9_pan_21 p0 p1 p2 b21_L1 b21_L2 b21_L3 M = some (k9, r9, M9) → zJ p l e rm_X9_pan s m args below meth c G shX ad n A 6 (vx_MQ below (zQX G shX ad n M9 k9 (some (.int r9)) A) (zXC G shX ad n M9 k9 A) args s 2 12 A) 1 6 M 21 [(0, .ref (ad 0)), (1, .int b21_L1), (2, .int b21_L2), (3, .int b21_L3)] [.ref (ad 0)] := by
    intro b21_L1 b21_L2 b21_L3 M hF
    unfold F_X9_pan_21 at hF
    refine z_iconst (v := 0) cx d_X9_pan_21 ki_0 ?_
    exact hb22 b21_L1 b21_L2 b21_L3 (0 : Int32) M hF
  unfold F_X9_pan at hF
  refine z_aload_n cx d_X9_pan_0 0 rfl ?_
  refine z_iload_n cx d_X9_pan_1 1 rfl ?_
  refine z_iload_n cx d_X9_pan_2 2 rfl ?_
  obtain ⟨k25, v26, M24, hc, hF, hX27⟩ := zbx_inv hF
  refine z_callVX cx ht (As := [.int p0, .int p1]) (rest := []) (c_X9_needPlace l cx.2.2.2.1.1 M p0 p1 hl hT hc) (fun q => zxp_inv (hX27 q)) hT zo_10 cv_SunnyPans_210 ⟨rfl, rfl, Nat.le_of_ble_eq_true rfl, Nat.le_of_ble_eq_true rfl⟩ rfl rfl ⟨Nat.le_of_ble_eq_true rfl, Nat.le_of_ble_eq_true rfl⟩ ⟨Nat.le_of_ble_eq_true rfl, Nat.le_of_ble_eq_true rfl⟩ (Nat.le_of_ble_eq_true rfl) d_X9_pan_3 (fun kq28 => ?_)
  have hF := hF kq28
  refine z_aload_n cx d_X9_pan_6 0 rfl ?_
  refine z_iload_n cx d_X9_pan_7 3 rfl ?_
  refine z_if_lt cx 21 d_X9_pan_8 (by decide) hF (fun hF => ?_) (fun hF => ?_)
  · exact hb21 p0 p1 p2 M24 hF
  refine z_iload_n cx d_X9_pan_11 3 rfl ?_
  refine z_bipush (v := 6) cx d_X9_pan_12 kb_6 ?_
  refine z_icmp_gt cx 21 d_X9_pan_14 (by decide) hF (fun hF => ?_) (fun hF => ?_)
  · exact hb21 p0 p1 p2 M24 hF
  refine z_iconst (v := 1) cx d_X9_pan_17 ki_1 ?_
  refine z_goto cx 22 d_X9_pan_18 (by decide) ?_
  exact hb22 p0 p1 p2 (1 : Int32) M24 hF
/-! SunnyPans.needHour -/
set_option maxRecDepth 100000 in
theorem wd_1069 : Cond.methodLink "SunnyPans" 255 yX9_within ∈ tbG := tw5 9 rfl rfl
theorem cs_SunnyPans_255 : zCS "SunnyPans" 255 yX9_within cX9_within 3 (some .boolean) 3 := zCS_of wd_1069 wd_708 wd_101 wd_709 (by decide +kernel)
theorem d_X9_needHour_0 : decode cX9_needHour 0 = .ok (.aload_n 0, 1) := by decide +kernel
theorem d_X9_needHour_1 : decode cX9_needHour 1 = .ok (.iload_n 1, 1) := by decide +kernel
theorem d_X9_needHour_2 : decode cX9_needHour 2 = .ok (.iconst 0, 1) := by decide +kernel
theorem d_X9_needHour_3 : decode cX9_needHour 3 = .ok (.aload_n 0, 1) := by decide +kernel
theorem d_X9_needHour_4 : decode cX9_needHour 4 = .ok (.getfield 62, 3) := by decide +kernel
theorem d_X9_needHour_7 : decode cX9_needHour 7 = .ok (.getfield 127, 3) := by decide +kernel
theorem d_X9_needHour_10 : decode cX9_needHour 10 = .ok (.iconst 1, 1) := by decide +kernel
theorem d_X9_needHour_11 : decode cX9_needHour 11 = .ok (.isub, 1) := by decide +kernel
theorem d_X9_needHour_12 : decode cX9_needHour 12 = .ok (.invokestatic 255, 3) := by decide +kernel
theorem d_X9_needHour_15 : decode cX9_needHour 15 = .ok (.invokevirtual 426, 3) := by decide +kernel
theorem d_X9_needHour_18 : decode cX9_needHour 18 = .ok (.return_, 1) := by decide +kernel
noncomputable def F_X9_needHour (M : zMem) (p0 : Int32) : Option (Nat × Int32 × zMem) :=
  gd (shX (M.2.2 0 8) == 6) <|
  zb (F_X9_within M p0 (0 : Int32) ((M.1 (M.2.2 0 8) 2) - (1 : Int32))) fun v3 M2 =>
  zbx (F_X9_needThing M2 v3) (g := zxp) fun _ M4 =>
  some (0, 0, M4)
def rm_X9_needHour : Room := { frames := 10, cells := 1, slots := 6, locals := 161 }
set_option maxHeartbeats 4000000 in
set_option maxRecDepth 100000 in
theorem c_X9_needHour (l : Launch) {G : zG} {ad : Nat → Nat} {n : Nat} (hA : zInj ad n) (M : zMem) (p0 : Int32) (hl : l.stackTraces = false) (hT : zT shX n 0 10) {k9 : Nat} {r9 : Int32} {M9 : zMem} (hF : F_X9_needHour M p0 = some (k9, r9, M9)) : zMX l yX9_needHour cX9_needHour 2 none rm_X9_needHour 1 6 G shX ad n M [.ref (ad 0), .int p0] k9 none M9 := by
  refine zM_ofX hA (by decide +kernel) (lv := [(0, .ref (ad 0)), (1, .int p0)]) (Nat.le_of_ble_eq_true rfl) rfl (fun p e s m args below meth c A cx hr ht => ?_)
  unfold F_X9_needHour at hF
  refine z_aload_n cx d_X9_needHour_0 0 rfl ?_
  refine z_iload_n cx d_X9_needHour_1 1 rfl ?_
  refine z_iconst (v := 0) cx d_X9_needHour_2 ki_0 ?_
  refine z_aload_n cx d_X9_needHour_3 0 rfl ?_
  obtain ⟨hg1, hF⟩ := gd_inv hF
  refine z_getD cx hT fg_SunnyPans_62 d_X9_needHour_4 ?_
  refine z_getI cx (td_6 hT hg1) fg_SunnyPans_127 d_X9_needHour_7 ?_
  refine z_iconst (v := 1) cx d_X9_needHour_10 ki_1 ?_
  refine z_isub cx d_X9_needHour_11 ?_
  obtain ⟨v3, M2, hc, hF⟩ := zb_inv hF
  refine z_callS cx (As := [.int p0, .int (0 : Int32), .int ((M.1 (M.2.2 0 8) 2) - (1 : Int32))]) (rest := [.ref (ad 0)]) (c_X9_within l cx.2.2.2.1.1 M p0 (0 : Int32) ((M.1 (M.2.2 0 8) 2) - (1 : Int32))  hc) cs_SunnyPans_255 ⟨rfl, rfl, Nat.le_of_ble_eq_true rfl, Nat.le_of_ble_eq_true rfl⟩ rfl rfl ⟨Nat.le_of_ble_eq_true rfl, Nat.le_of_ble_eq_true rfl⟩ (Nat.le_of_ble_eq_true rfl) d_X9_needHour_12 ?_
  obtain ⟨k5, v6, M4, hc, hF, hX7⟩ := zbx_inv hF
  refine z_callVX cx ht (As := [.int v3]) (rest := []) (c_X9_needThing l cx.2.2.2.1.1 M2 v3 hl hT hc) (fun q => zxp_inv (hX7 q)) hT zo_10 cv_SunnyPans_426 ⟨rfl, rfl, Nat.le_of_ble_eq_true rfl, Nat.le_of_ble_eq_true rfl⟩ rfl rfl ⟨Nat.le_of_ble_eq_true rfl, Nat.le_of_ble_eq_true rfl⟩ ⟨Nat.le_of_ble_eq_true rfl, Nat.le_of_ble_eq_true rfl⟩ (Nat.le_of_ble_eq_true rfl) d_X9_needHour_15 (fun kq8 => ?_)
  have hF := hF kq8
  exact z_vretX cx hr hF ⟨Nat.le_of_ble_eq_true rfl, Nat.le_of_ble_eq_true rfl⟩ d_X9_needHour_18
/-! SunnyPans.hour -/
set_option maxRecDepth 100000 in
theorem wd_1068 : Cond.code yX9_needHour cX9_needHour 2 none ∈ tbG := tw5 8 rfl rfl
set_option maxRecDepth 100000 in
theorem wd_1065 : Cond.methodLink "SunnyPans" 235 yX9_needHour ∈ tbG := tw5 5 rfl rfl
set_option maxRecDepth 100000 in
theorem wd_1067 : Cond.instanceMethod yX9_needHour ∈ tbG := tw5 7 rfl rfl
theorem wd_28 : Cond.selects "SunnyPans" yX9_needHour yX9_needHour ∈ tbG := tw 28 (by decide +kernel) rfl
theorem cv_SunnyPans_235 : zCV "SunnyPans" 235 "SunnyPans" yX9_needHour cX9_needHour 2 none 1 := zCV_of wd_1065 wd_1067 wd_28 wd_101 wd_1068 (by decide +kernel)
theorem d_X9_hour_0 : decode cX9_hour 0 = .ok (.aload_n 0, 1) := by decide +kernel
theorem d_X9_hour_1 : decode cX9_hour 1 = .ok (.iload_n 1, 1) := by decide +kernel
theorem d_X9_hour_2 : decode cX9_hour 2 = .ok (.invokevirtual 235, 3) := by decide +kernel
theorem d_X9_hour_5 : decode cX9_hour 5 = .ok (.aload_n 0, 1) := by decide +kernel
theorem d_X9_hour_6 : decode cX9_hour 6 = .ok (.iload_n 2, 1) := by decide +kernel
theorem d_X9_hour_7 : decode cX9_hour 7 = .ok (.ifCond .lt 12, 3) := by decide +kernel
theorem d_X9_hour_10 : decode cX9_hour 10 = .ok (.iload_n 2, 1) := by decide +kernel
theorem d_X9_hour_11 : decode cX9_hour 11 = .ok (.iconst 2, 1) := by decide +kernel
theorem d_X9_hour_12 : decode cX9_hour 12 = .ok (.if_icmp .gt 7, 3) := by decide +kernel
theorem d_X9_hour_15 : decode cX9_hour 15 = .ok (.iconst 1, 1) := by decide +kernel
theorem d_X9_hour_16 : decode cX9_hour 16 = .ok (.goto 4, 3) := by decide +kernel
theorem d_X9_hour_19 : decode cX9_hour 19 = .ok (.iconst 0, 1) := by decide +kernel
theorem d_X9_hour_20 : decode cX9_hour 20 = .ok (.invokevirtual 155, 3) := by decide +kernel
theorem d_X9_hour_23 : decode cX9_hour 23 = .ok (.iload_n 2, 1) := by decide +kernel
theorem d_X9_hour_24 : decode cX9_hour 24 = .ok (.ifCond .ne 13, 3) := by decide +kernel
theorem d_X9_hour_27 : decode cX9_hour 27 = .ok (.aload_n 0, 1) := by decide +kernel
theorem d_X9_hour_28 : decode cX9_hour 28 = .ok (.getfield 62, 3) := by decide +kernel
theorem d_X9_hour_31 : decode cX9_hour 31 = .ok (.getfield 238, 3) := by decide +kernel
theorem d_X9_hour_34 : decode cX9_hour 34 = .ok (.iload_n 1, 1) := by decide +kernel
theorem d_X9_hour_35 : decode cX9_hour 35 = .ok (.iaload, 1) := by decide +kernel
theorem d_X9_hour_36 : decode cX9_hour 36 = .ok (.ireturn, 1) := by decide +kernel
theorem d_X9_hour_37 : decode cX9_hour 37 = .ok (.iload_n 2, 1) := by decide +kernel
theorem d_X9_hour_38 : decode cX9_hour 38 = .ok (.iconst 1, 1) := by decide +kernel
theorem d_X9_hour_39 : decode cX9_hour 39 = .ok (.if_icmp .ne 15, 3) := by decide +kernel
theorem d_X9_hour_42 : decode cX9_hour 42 = .ok (.aload_n 0, 1) := by decide +kernel
theorem d_X9_hour_43 : decode cX9_hour 43 = .ok (.getfield 62, 3) := by decide +kernel
theorem d_X9_hour_46 : decode cX9_hour 46 = .ok (.getfield 241, 3) := by decide +kernel
theorem d_X9_hour_49 : decode cX9_hour 49 = .ok (.iload_n 1, 1) := by decide +kernel
theorem d_X9_hour_50 : decode cX9_hour 50 = .ok (.iaload, 1) := by decide +kernel
theorem d_X9_hour_51 : decode cX9_hour 51 = .ok (.goto 11, 3) := by decide +kernel
theorem d_X9_hour_54 : decode cX9_hour 54 = .ok (.aload_n 0, 1) := by decide +kernel
theorem d_X9_hour_55 : decode cX9_hour 55 = .ok (.iload_n 1, 1) := by decide +kernel
theorem d_X9_hour_56 : decode cX9_hour 56 = .ok (.invokevirtual 227, 3) := by decide +kernel
theorem d_X9_hour_59 : decode cX9_hour 59 = .ok (.invokestatic 194, 3) := by decide +kernel
theorem d_X9_hour_62 : decode cX9_hour 62 = .ok (.ireturn, 1) := by decide +kernel
noncomputable def F_X9_hour_20 (p0 : Int32) (p1 : Int32) (b20_L1 : Int32) (b20_L2 : Int32) (b20_S1 : Int32) (M : zMem) : Option (Nat × Int32 × zMem) :=
  zbx (F_X9_need M b20_S1) (g := zxp) fun _ M1 =>
  if b20_L2 = 0 then
    gd (shX (M1.2.2 0 8) == 6) <|
    gin b20_L1 10 <|
    some (0, (M1.1 ((M1.2.2 0 8) + 1) b20_L1.toNatClampNeg), M1)
  else
    if b20_L2 = (1 : Int32) then
      gd (shX (M1.2.2 0 8) == 6) <|
      gin b20_L1 10 <|
      some (0, (M1.1 ((M1.2.2 0 8) + 2) b20_L1.toNatClampNeg), M1)
    else
      zb (F_X9_shadeNow M1 b20_L1) fun v7 M6 =>
      zb (F_J13_bitCount_95d88 M6 v7) fun v9 M8 =>
      some (0, v9, M8)
noncomputable def F_X9_hour_19 (p0 : Int32) (p1 : Int32) (b19_L1 : Int32) (b19_L2 : Int32) (M : zMem) : Option (Nat × Int32 × zMem) :=
  F_X9_hour_20 p0 p1 b19_L1 b19_L2 (0 : Int32) M
noncomputable def F_X9_hour (M : zMem) (p0 : Int32) (p1 : Int32) : Option (Nat × Int32 × zMem) :=
  zbx (F_X9_needHour M p0) (g := zxp) fun _ M14 =>
  if p1 < 0 then
    F_X9_hour_19 p0 p1 p0 p1 M14
  else
    if (2 : Int32) < p1 then
      F_X9_hour_19 p0 p1 p0 p1 M14
    else
      F_X9_hour_20 p0 p1 p0 p1 (1 : Int32) M14
def rm_X9_hour : Room := { frames := 11, cells := 2, slots := 12, locals := 182 }
set_option maxHeartbeats 4000000 in
set_option maxRecDepth 100000 in
theorem c_X9_hour (l : Launch) {G : zG} {ad : Nat → Nat} {n : Nat} (hA : zInj ad n) (M : zMem) (p0 : Int32) (p1 : Int32) (hl : l.stackTraces = false) (hT : zT shX n 0 10) {k9 : Nat} {r9 : Int32} {M9 : zMem} (hF : F_X9_hour M p0 p1 = some (k9, r9, M9)) : zMX l yX9_hour cX9_hour 3 (some .int) rm_X9_hour 2 12 G shX ad n M [.ref (ad 0), .int p0, .int p1] k9 (some (.int r9)) M9 := by
  refine zM_ofX hA (by decide +kernel) (lv := [(0, .ref (ad 0)), (1, .int p0), (2, .int p1)]) (Nat.le_of_ble_eq_true rfl) rfl (fun p e s m args below meth c A cx hr ht => ?_)
  have hb20 : ∀ (b20_L1 : Int32) (b20_L2 : Int32) (b20_S1 : Int32) (M : zMem), F_X9_hour_20 p0 p1 b20_L1 b20_L2 b20_S1 M = some (k9, r9, M9) → zJ p l e rm_X9_hour s m args below meth c G shX ad n A 3 (vx_MQ below (zQX G shX ad n M9 k9 (some (.int r9)) A) (zXC G shX ad n M9 k9 A) args s 2 12 A) 1 6 M 20 [(0, .ref (ad 0)), (1, .int b20_L1), (2, .int b20_L2)] [.int b20_S1, .ref (ad 0)] := by
    intro b20_L1 b20_L2 b20_S1 M hF
    unfold F_X9_hour_20 at hF
    obtain ⟨k2, v3, M1, hc, hF, hX4⟩ := zbx_inv hF
    refine z_callVX cx ht (As := [.int b20_S1]) (rest := []) (c_X9_need l cx.2.2.2.1.1 M b20_S1 hl hT hc) (fun q => zxp_inv (hX4 q)) hT zo_10 cv_SunnyPans_155 ⟨rfl, rfl, Nat.le_of_ble_eq_true rfl, Nat.le_of_ble_eq_true rfl⟩ rfl rfl ⟨Nat.le_of_ble_eq_true rfl, Nat.le_of_ble_eq_true rfl⟩ ⟨Nat.le_of_ble_eq_true rfl, Nat.le_of_ble_eq_true rfl⟩ (Nat.le_of_ble_eq_true rfl) d_X9_hour_20 (fun kq5 => ?_)
    have hF := hF kq5
    refine z_iload_n cx d_X9_hour_23 2 rfl ?_
    refine z_if_ne cx 37 d_X9_hour_24 (by decide) hF (fun hF => ?_) (fun hF => ?_)
    · refine z_iload_n cx d_X9_hour_37 2 rfl ?_
      refine z_iconst (v := 1) cx d_X9_hour_38 ki_1 ?_
      refine z_icmp_ne cx 54 d_X9_hour_39 (by decide) hF (fun hF => ?_) (fun hF => ?_)
      · refine z_aload_n cx d_X9_hour_54 0 rfl ?_
        refine z_iload_n cx d_X9_hour_55 1 rfl ?_
        obtain ⟨v7, M6, hc, hF⟩ := zb_inv hF
        refine z_callV cx (As := [.int b20_L1]) (rest := []) (c_X9_shadeNow l cx.2.2.2.1.1 M1 b20_L1 hT hc) hT zo_10 cv_SunnyPans_227 ⟨rfl, rfl, Nat.le_of_ble_eq_true rfl, Nat.le_of_ble_eq_true rfl⟩ rfl rfl ⟨Nat.le_of_ble_eq_true rfl, Nat.le_of_ble_eq_true rfl⟩ (Nat.le_of_ble_eq_true rfl) d_X9_hour_56 ?_
        obtain ⟨v9, M8, hc, hF⟩ := zb_inv hF
        refine z_callS cx (As := [.long v7]) (rest := []) (c_J13_bitCount_95d88 l cx.2.2.2.1.1 M6 v7  hc) cs_SunnyPans_194 ⟨rfl, rfl, Nat.le_of_ble_eq_true rfl, Nat.le_of_ble_eq_true rfl⟩ rfl rfl ⟨Nat.le_of_ble_eq_true rfl, Nat.le_of_ble_eq_true rfl⟩ (Nat.le_of_ble_eq_true rfl) d_X9_hour_59 ?_
        exact z_iretX cx hr rfl hF ⟨Nat.le_of_ble_eq_true rfl, Nat.le_of_ble_eq_true rfl⟩ d_X9_hour_62
      refine z_aload_n cx d_X9_hour_42 0 rfl ?_
      obtain ⟨hg10, hF⟩ := gd_inv hF
      refine z_getD cx hT fg_SunnyPans_62 d_X9_hour_43 ?_
      refine z_getR cx (td_6 hT hg10) fg_SunnyPans_241 ((M1.2.2 0 8) + 2) rfl d_X9_hour_46 ?_
      refine z_iload_n cx d_X9_hour_49 1 rfl ?_
      obtain ⟨hi11, hF⟩ := gin_inv hF
      refine z_iald cx (tfX_6_2 (td_6 hT hg10)) za_25 hi11 b20_L1.toNatClampNeg rfl d_X9_hour_50 ?_
      refine z_goto cx 62 d_X9_hour_51 (by decide) ?_
      exact z_iretX cx hr rfl hF ⟨Nat.le_of_ble_eq_true rfl, Nat.le_of_ble_eq_true rfl⟩ d_X9_hour_62
    refine z_aload_n cx d_X9_hour_27 0 rfl ?_
    obtain ⟨hg12, hF⟩ := gd_inv hF
    refine z_getD cx hT fg_SunnyPans_62 d_X9_hour_28 ?_
    refine z_getR cx (td_6 hT hg12) fg_SunnyPans_238 ((M1.2.2 0 8) + 1) rfl d_X9_hour_31 ?_
    refine z_iload_n cx d_X9_hour_34 1 rfl ?_
    obtain ⟨hi13, hF⟩ := gin_inv hF
    refine z_iald cx (tfX_6_1 (td_6 hT hg12)) za_25 hi13 b20_L1.toNatClampNeg rfl d_X9_hour_35 ?_
    exact z_iretX cx hr rfl hF ⟨Nat.le_of_ble_eq_true rfl, Nat.le_of_ble_eq_true rfl⟩ d_X9_hour_36
  have hb19 : ∀ (b19_L1 : Int32) (b19_L2 : Int32) (M : zMem), F_X9_hour_19 p0 p1 b19_L1 b19_L2 M = some (k9, r9, M9) → zJ p l e rm_X9_hour s m args below meth c G shX ad n A 3 (vx_MQ below (zQX G shX ad n M9 k9 (some (.int r9)) A) (zXC G shX ad n M9 k9 A) args s 2 12 A) 1 6 M 19 [(0, .ref (ad 0)), (1, .int b19_L1), (2, .int b19_L2)] [.ref (ad 0)] := by
    intro b19_L1 b19_L2 M hF
    unfold F_X9_hour_19 at hF
    refine z_iconst (v := 0) cx d_X9_hour_19 ki_0 ?_
    exact hb20 b19_L1 b19_L2 (0 : Int32) M hF
  unfold F_X9_hour at hF
  refine z_aload_n cx d_X9_hour_0 0 rfl ?_
  refine z_iload_n cx d_X9_hour_1 1 rfl ?_
  obtain ⟨k15, v16, M14, hc, hF, hX17⟩ := zbx_inv hF
  refine z_callVX cx ht (As := [.int p0]) (rest := []) (c_X9_needHour l cx.2.2.2.1.1 M p0 hl hT hc) (fun q => zxp_inv (hX17 q)) hT zo_10 cv_SunnyPans_235 ⟨rfl, rfl, Nat.le_of_ble_eq_true rfl, Nat.le_of_ble_eq_true rfl⟩ rfl rfl ⟨Nat.le_of_ble_eq_true rfl, Nat.le_of_ble_eq_true rfl⟩ ⟨Nat.le_of_ble_eq_true rfl, Nat.le_of_ble_eq_true rfl⟩ (Nat.le_of_ble_eq_true rfl) d_X9_hour_2 (fun kq18 => ?_)
  have hF := hF kq18
  refine z_aload_n cx d_X9_hour_5 0 rfl ?_
  refine z_iload_n cx d_X9_hour_6 2 rfl ?_
  refine z_if_lt cx 19 d_X9_hour_7 (by decide) hF (fun hF => ?_) (fun hF => ?_)
  · exact hb19 p0 p1 M14 hF
  refine z_iload_n cx d_X9_hour_10 2 rfl ?_
  refine z_iconst (v := 2) cx d_X9_hour_11 ki_2 ?_
  refine z_icmp_gt cx 19 d_X9_hour_12 (by decide) hF (fun hF => ?_) (fun hF => ?_)
  · exact hb19 p0 p1 M14 hF
  refine z_iconst (v := 1) cx d_X9_hour_15 ki_1 ?_
  refine z_goto cx 20 d_X9_hour_16 (by decide) ?_
  exact hb20 p0 p1 (1 : Int32) M14 hF
/-! SunnyPans.needRow -/
theorem d_X9_needRow_0 : decode cX9_needRow 0 = .ok (.aload_n 0, 1) := by decide +kernel
theorem d_X9_needRow_1 : decode cX9_needRow 1 = .ok (.iload_n 1, 1) := by decide +kernel
theorem d_X9_needRow_2 : decode cX9_needRow 2 = .ok (.iconst 0, 1) := by decide +kernel
theorem d_X9_needRow_3 : decode cX9_needRow 3 = .ok (.aload_n 0, 1) := by decide +kernel
theorem d_X9_needRow_4 : decode cX9_needRow 4 = .ok (.getfield 62, 3) := by decide +kernel
theorem d_X9_needRow_7 : decode cX9_needRow 7 = .ok (.getfield 165, 3) := by decide +kernel
theorem d_X9_needRow_10 : decode cX9_needRow 10 = .ok (.iconst 1, 1) := by decide +kernel
theorem d_X9_needRow_11 : decode cX9_needRow 11 = .ok (.isub, 1) := by decide +kernel
theorem d_X9_needRow_12 : decode cX9_needRow 12 = .ok (.invokestatic 255, 3) := by decide +kernel
theorem d_X9_needRow_15 : decode cX9_needRow 15 = .ok (.invokevirtual 426, 3) := by decide +kernel
theorem d_X9_needRow_18 : decode cX9_needRow 18 = .ok (.return_, 1) := by decide +kernel
noncomputable def F_X9_needRow (M : zMem) (p0 : Int32) : Option (Nat × Int32 × zMem) :=
  gd (shX (M.2.2 0 8) == 6) <|
  zb (F_X9_within M p0 (0 : Int32) ((M.1 (M.2.2 0 8) 1) - (1 : Int32))) fun v3 M2 =>
  zbx (F_X9_needThing M2 v3) (g := zxp) fun _ M4 =>
  some (0, 0, M4)
def rm_X9_needRow : Room := { frames := 10, cells := 1, slots := 6, locals := 161 }
set_option maxHeartbeats 4000000 in
set_option maxRecDepth 100000 in
theorem c_X9_needRow (l : Launch) {G : zG} {ad : Nat → Nat} {n : Nat} (hA : zInj ad n) (M : zMem) (p0 : Int32) (hl : l.stackTraces = false) (hT : zT shX n 0 10) {k9 : Nat} {r9 : Int32} {M9 : zMem} (hF : F_X9_needRow M p0 = some (k9, r9, M9)) : zMX l yX9_needRow cX9_needRow 2 none rm_X9_needRow 1 6 G shX ad n M [.ref (ad 0), .int p0] k9 none M9 := by
  refine zM_ofX hA (by decide +kernel) (lv := [(0, .ref (ad 0)), (1, .int p0)]) (Nat.le_of_ble_eq_true rfl) rfl (fun p e s m args below meth c A cx hr ht => ?_)
  unfold F_X9_needRow at hF
  refine z_aload_n cx d_X9_needRow_0 0 rfl ?_
  refine z_iload_n cx d_X9_needRow_1 1 rfl ?_
  refine z_iconst (v := 0) cx d_X9_needRow_2 ki_0 ?_
  refine z_aload_n cx d_X9_needRow_3 0 rfl ?_
  obtain ⟨hg1, hF⟩ := gd_inv hF
  refine z_getD cx hT fg_SunnyPans_62 d_X9_needRow_4 ?_
  refine z_getI cx (td_6 hT hg1) fg_SunnyPans_165 d_X9_needRow_7 ?_
  refine z_iconst (v := 1) cx d_X9_needRow_10 ki_1 ?_
  refine z_isub cx d_X9_needRow_11 ?_
  obtain ⟨v3, M2, hc, hF⟩ := zb_inv hF
  refine z_callS cx (As := [.int p0, .int (0 : Int32), .int ((M.1 (M.2.2 0 8) 1) - (1 : Int32))]) (rest := [.ref (ad 0)]) (c_X9_within l cx.2.2.2.1.1 M p0 (0 : Int32) ((M.1 (M.2.2 0 8) 1) - (1 : Int32))  hc) cs_SunnyPans_255 ⟨rfl, rfl, Nat.le_of_ble_eq_true rfl, Nat.le_of_ble_eq_true rfl⟩ rfl rfl ⟨Nat.le_of_ble_eq_true rfl, Nat.le_of_ble_eq_true rfl⟩ (Nat.le_of_ble_eq_true rfl) d_X9_needRow_12 ?_
  obtain ⟨k5, v6, M4, hc, hF, hX7⟩ := zbx_inv hF
  refine z_callVX cx ht (As := [.int v3]) (rest := []) (c_X9_needThing l cx.2.2.2.1.1 M2 v3 hl hT hc) (fun q => zxp_inv (hX7 q)) hT zo_10 cv_SunnyPans_426 ⟨rfl, rfl, Nat.le_of_ble_eq_true rfl, Nat.le_of_ble_eq_true rfl⟩ rfl rfl ⟨Nat.le_of_ble_eq_true rfl, Nat.le_of_ble_eq_true rfl⟩ ⟨Nat.le_of_ble_eq_true rfl, Nat.le_of_ble_eq_true rfl⟩ (Nat.le_of_ble_eq_true rfl) d_X9_needRow_15 (fun kq8 => ?_)
  have hF := hF kq8
  exact z_vretX cx hr hF ⟨Nat.le_of_ble_eq_true rfl, Nat.le_of_ble_eq_true rfl⟩ d_X9_needRow_18
/-! SunnyPans.rowOf -/
set_option maxRecDepth 100000 in
theorem wd_1084 : Cond.constantLong "SunnyPans" 465 (255) ∈ tbG := tw5 24 rfl rfl
theorem d_X9_rowOf_0 : decode cX9_rowOf 0 = .ok (.lload_n 0, 1) := by decide +kernel
theorem d_X9_rowOf_1 : decode cX9_rowOf 1 = .ok (.iload_n 2, 1) := by decide +kernel
theorem d_X9_rowOf_2 : decode cX9_rowOf 2 = .ok (.bipush 8, 2) := by decide +kernel
theorem d_X9_rowOf_4 : decode cX9_rowOf 4 = .ok (.imul, 1) := by decide +kernel
theorem d_X9_rowOf_5 : decode cX9_rowOf 5 = .ok (.lushr, 1) := by decide +kernel
theorem d_X9_rowOf_6 : decode cX9_rowOf 6 = .ok (.ldc2_w 465, 3) := by decide +kernel
theorem d_X9_rowOf_9 : decode cX9_rowOf 9 = .ok (.land, 1) := by decide +kernel
theorem d_X9_rowOf_10 : decode cX9_rowOf 10 = .ok (.l2i, 1) := by decide +kernel
theorem d_X9_rowOf_11 : decode cX9_rowOf 11 = .ok (.ireturn, 1) := by decide +kernel
noncomputable def F_X9_rowOf (M : zMem) (p0 : Int64) (p1 : Int32) : Option (Int32 × zMem) :=
  some (((p0.toUInt64 >>> ((p1 * (8 : Int32)).toInt64.toUInt64 &&& Int64.toUInt64 63)).toInt64 &&& (255 : Int64)).toInt32, M)
def rm_X9_rowOf : Room := { frames := 2, cells := 0, slots := 0, locals := 80 }
set_option maxHeartbeats 4000000 in
set_option maxRecDepth 100000 in
theorem c_X9_rowOf (l : Launch) {G : zG} {ad : Nat → Nat} {n : Nat} (hA : zInj ad n) (M : zMem) (p0 : Int64) (p1 : Int32) {r9 : Int32} {M9 : zMem} (hF : F_X9_rowOf M p0 p1 = some (r9, M9)) : zM l yX9_rowOf cX9_rowOf 3 (some .int) rm_X9_rowOf G shX ad n M [.long p0, .int p1] (some (.int r9)) M9 := by
  refine zM_of hA (by decide +kernel) (lv := [(0, .long p0), (2, .int p1)]) (Nat.le_of_ble_eq_true rfl) rfl (fun p e s m args below meth c A cx hr => ?_)
  unfold F_X9_rowOf at hF
  refine z_lload_n cx d_X9_rowOf_0 0 rfl ?_
  refine z_iload_n cx d_X9_rowOf_1 1 rfl ?_
  refine z_bipush (v := 8) cx d_X9_rowOf_2 kb_8 ?_
  refine z_imul cx d_X9_rowOf_4 ?_
  refine z_lushr cx d_X9_rowOf_5 ?_
  refine z_ldc2 cx wd_1084 d_X9_rowOf_6 ?_
  refine z_land cx d_X9_rowOf_9 ?_
  refine z_l2i cx d_X9_rowOf_10 ?_
  exact z_iret cx hr rfl hF d_X9_rowOf_11
/-! SunnyPans.shade -/
set_option maxRecDepth 100000 in
theorem wd_1080 : Cond.code yX9_needRow cX9_needRow 2 none ∈ tbG := tw5 20 rfl rfl
set_option maxRecDepth 100000 in
theorem wd_1077 : Cond.methodLink "SunnyPans" 244 yX9_needRow ∈ tbG := tw5 17 rfl rfl
set_option maxRecDepth 100000 in
theorem wd_1079 : Cond.instanceMethod yX9_needRow ∈ tbG := tw5 19 rfl rfl
theorem wd_29 : Cond.selects "SunnyPans" yX9_needRow yX9_needRow ∈ tbG := tw 29 (by decide +kernel) rfl
theorem cv_SunnyPans_244 : zCV "SunnyPans" 244 "SunnyPans" yX9_needRow cX9_needRow 2 none 1 := zCV_of wd_1077 wd_1079 wd_29 wd_101 wd_1080 (by decide +kernel)
set_option maxRecDepth 100000 in
theorem wd_1083 : Cond.code yX9_rowOf cX9_rowOf 3 (some .int) ∈ tbG := tw5 23 rfl rfl
set_option maxRecDepth 100000 in
theorem wd_1081 : Cond.methodLink "SunnyPans" 247 yX9_rowOf ∈ tbG := tw5 21 rfl rfl
set_option maxRecDepth 100000 in
theorem wd_1082 : Cond.static yX9_rowOf ∈ tbG := tw5 22 rfl rfl
theorem cs_SunnyPans_247 : zCS "SunnyPans" 247 yX9_rowOf cX9_rowOf 3 (some .int) 2 := zCS_of wd_1081 wd_1082 wd_101 wd_1083 (by decide +kernel)
theorem d_X9_shade_0 : decode cX9_shade 0 = .ok (.aload_n 0, 1) := by decide +kernel
theorem d_X9_shade_1 : decode cX9_shade 1 = .ok (.iload_n 1, 1) := by decide +kernel
theorem d_X9_shade_2 : decode cX9_shade 2 = .ok (.invokevirtual 235, 3) := by decide +kernel
theorem d_X9_shade_5 : decode cX9_shade 5 = .ok (.aload_n 0, 1) := by decide +kernel
theorem d_X9_shade_6 : decode cX9_shade 6 = .ok (.iload_n 2, 1) := by decide +kernel
theorem d_X9_shade_7 : decode cX9_shade 7 = .ok (.invokevirtual 244, 3) := by decide +kernel
theorem d_X9_shade_10 : decode cX9_shade 10 = .ok (.aload_n 0, 1) := by decide +kernel
theorem d_X9_shade_11 : decode cX9_shade 11 = .ok (.iload_n 1, 1) := by decide +kernel
theorem d_X9_shade_12 : decode cX9_shade 12 = .ok (.invokevirtual 227, 3) := by decide +kernel
theorem d_X9_shade_15 : decode cX9_shade 15 = .ok (.iload_n 2, 1) := by decide +kernel
theorem d_X9_shade_16 : decode cX9_shade 16 = .ok (.invokestatic 247, 3) := by decide +kernel
theorem d_X9_shade_19 : decode cX9_shade 19 = .ok (.ireturn, 1) := by decide +kernel
noncomputable def F_X9_shade (M : zMem) (p0 : Int32) (p1 : Int32) : Option (Nat × Int32 × zMem) :=
  zbx (F_X9_needHour M p0) (g := zxp) fun _ M1 =>
  zbx (F_X9_needRow M1 p1) (g := zxp) fun _ M6 =>
  zb (F_X9_shadeNow M6 p0) fun v12 M11 =>
  zb (F_X9_rowOf M11 v12 p1) fun v14 M13 =>
  some (0, v14, M13)
def rm_X9_shade : Room := { frames := 11, cells := 2, slots := 12, locals := 182 }
set_option maxHeartbeats 4000000 in
set_option maxRecDepth 100000 in
theorem c_X9_shade (l : Launch) {G : zG} {ad : Nat → Nat} {n : Nat} (hA : zInj ad n) (M : zMem) (p0 : Int32) (p1 : Int32) (hl : l.stackTraces = false) (hT : zT shX n 0 10) {k9 : Nat} {r9 : Int32} {M9 : zMem} (hF : F_X9_shade M p0 p1 = some (k9, r9, M9)) : zMX l yX9_shade cX9_shade 3 (some .int) rm_X9_shade 2 12 G shX ad n M [.ref (ad 0), .int p0, .int p1] k9 (some (.int r9)) M9 := by
  refine zM_ofX hA (by decide +kernel) (lv := [(0, .ref (ad 0)), (1, .int p0), (2, .int p1)]) (Nat.le_of_ble_eq_true rfl) rfl (fun p e s m args below meth c A cx hr ht => ?_)
  unfold F_X9_shade at hF
  refine z_aload_n cx d_X9_shade_0 0 rfl ?_
  refine z_iload_n cx d_X9_shade_1 1 rfl ?_
  obtain ⟨k2, v3, M1, hc, hF, hX4⟩ := zbx_inv hF
  refine z_callVX cx ht (As := [.int p0]) (rest := []) (c_X9_needHour l cx.2.2.2.1.1 M p0 hl hT hc) (fun q => zxp_inv (hX4 q)) hT zo_10 cv_SunnyPans_235 ⟨rfl, rfl, Nat.le_of_ble_eq_true rfl, Nat.le_of_ble_eq_true rfl⟩ rfl rfl ⟨Nat.le_of_ble_eq_true rfl, Nat.le_of_ble_eq_true rfl⟩ ⟨Nat.le_of_ble_eq_true rfl, Nat.le_of_ble_eq_true rfl⟩ (Nat.le_of_ble_eq_true rfl) d_X9_shade_2 (fun kq5 => ?_)
  have hF := hF kq5
  refine z_aload_n cx d_X9_shade_5 0 rfl ?_
  refine z_iload_n cx d_X9_shade_6 2 rfl ?_
  obtain ⟨k7, v8, M6, hc, hF, hX9⟩ := zbx_inv hF
  refine z_callVX cx ht (As := [.int p1]) (rest := []) (c_X9_needRow l cx.2.2.2.1.1 M1 p1 hl hT hc) (fun q => zxp_inv (hX9 q)) hT zo_10 cv_SunnyPans_244 ⟨rfl, rfl, Nat.le_of_ble_eq_true rfl, Nat.le_of_ble_eq_true rfl⟩ rfl rfl ⟨Nat.le_of_ble_eq_true rfl, Nat.le_of_ble_eq_true rfl⟩ ⟨Nat.le_of_ble_eq_true rfl, Nat.le_of_ble_eq_true rfl⟩ (Nat.le_of_ble_eq_true rfl) d_X9_shade_7 (fun kq10 => ?_)
  have hF := hF kq10
  refine z_aload_n cx d_X9_shade_10 0 rfl ?_
  refine z_iload_n cx d_X9_shade_11 1 rfl ?_
  obtain ⟨v12, M11, hc, hF⟩ := zb_inv hF
  refine z_callV cx (As := [.int p0]) (rest := []) (c_X9_shadeNow l cx.2.2.2.1.1 M6 p0 hT hc) hT zo_10 cv_SunnyPans_227 ⟨rfl, rfl, Nat.le_of_ble_eq_true rfl, Nat.le_of_ble_eq_true rfl⟩ rfl rfl ⟨Nat.le_of_ble_eq_true rfl, Nat.le_of_ble_eq_true rfl⟩ (Nat.le_of_ble_eq_true rfl) d_X9_shade_12 ?_
  refine z_iload_n cx d_X9_shade_15 2 rfl ?_
  obtain ⟨v14, M13, hc, hF⟩ := zb_inv hF
  refine z_callS cx (As := [.long v12, .int p1]) (rest := []) (c_X9_rowOf l cx.2.2.2.1.1 M11 v12 p1  hc) cs_SunnyPans_247 ⟨rfl, rfl, Nat.le_of_ble_eq_true rfl, Nat.le_of_ble_eq_true rfl⟩ rfl rfl ⟨Nat.le_of_ble_eq_true rfl, Nat.le_of_ble_eq_true rfl⟩ (Nat.le_of_ble_eq_true rfl) d_X9_shade_16 ?_
  exact z_iretX cx hr rfl hF ⟨Nat.le_of_ble_eq_true rfl, Nat.le_of_ble_eq_true rfl⟩ d_X9_shade_19
/-! SunnyPans.dries -/
theorem d_X9_dries_0 : decode cX9_dries 0 = .ok (.aload_n 0, 1) := by decide +kernel
theorem d_X9_dries_1 : decode cX9_dries 1 = .ok (.iload_n 1, 1) := by decide +kernel
theorem d_X9_dries_2 : decode cX9_dries 2 = .ok (.iload_n 2, 1) := by decide +kernel
theorem d_X9_dries_3 : decode cX9_dries 3 = .ok (.invokevirtual 210, 3) := by decide +kernel
theorem d_X9_dries_6 : decode cX9_dries 6 = .ok (.aload_n 0, 1) := by decide +kernel
theorem d_X9_dries_7 : decode cX9_dries 7 = .ok (.iload_n 3, 1) := by decide +kernel
theorem d_X9_dries_8 : decode cX9_dries 8 = .ok (.invokevirtual 235, 3) := by decide +kernel
theorem d_X9_dries_11 : decode cX9_dries 11 = .ok (.aload_n 0, 1) := by decide +kernel
theorem d_X9_dries_12 : decode cX9_dries 12 = .ok (.getfield 19, 3) := by decide +kernel
theorem d_X9_dries_15 : decode cX9_dries 15 = .ok (.getfield 159, 3) := by decide +kernel
theorem d_X9_dries_18 : decode cX9_dries 18 = .ok (.astore 4, 2) := by decide +kernel
theorem d_X9_dries_20 : decode cX9_dries 20 = .ok (.iload_n 1, 1) := by decide +kernel
theorem d_X9_dries_21 : decode cX9_dries 21 = .ok (.iload_n 2, 1) := by decide +kernel
theorem d_X9_dries_22 : decode cX9_dries 22 = .ok (.invokestatic 213, 3) := by decide +kernel
theorem d_X9_dries_25 : decode cX9_dries 25 = .ok (.istore 5, 2) := by decide +kernel
theorem d_X9_dries_27 : decode cX9_dries 27 = .ok (.aload_n 0, 1) := by decide +kernel
theorem d_X9_dries_28 : decode cX9_dries 28 = .ok (.getfield 62, 3) := by decide +kernel
theorem d_X9_dries_31 : decode cX9_dries 31 = .ok (.getfield 241, 3) := by decide +kernel
theorem d_X9_dries_34 : decode cX9_dries 34 = .ok (.iload_n 3, 1) := by decide +kernel
theorem d_X9_dries_35 : decode cX9_dries 35 = .ok (.iaload, 1) := by decide +kernel
theorem d_X9_dries_36 : decode cX9_dries 36 = .ok (.istore 6, 2) := by decide +kernel
theorem d_X9_dries_38 : decode cX9_dries 38 = .ok (.aload_n 0, 1) := by decide +kernel
theorem d_X9_dries_39 : decode cX9_dries 39 = .ok (.getfield 72, 3) := by decide +kernel
theorem d_X9_dries_42 : decode cX9_dries 42 = .ok (.aload 4, 2) := by decide +kernel
theorem d_X9_dries_44 : decode cX9_dries 44 = .ok (.getfield 174, 3) := by decide +kernel
theorem d_X9_dries_47 : decode cX9_dries 47 = .ok (.iload 5, 2) := by decide +kernel
theorem d_X9_dries_49 : decode cX9_dries 49 = .ok (.iaload, 1) := by decide +kernel
theorem d_X9_dries_50 : decode cX9_dries 50 = .ok (.aload 4, 2) := by decide +kernel
theorem d_X9_dries_52 : decode cX9_dries 52 = .ok (.getfield 181, 3) := by decide +kernel
theorem d_X9_dries_55 : decode cX9_dries 55 = .ok (.iload 5, 2) := by decide +kernel
theorem d_X9_dries_57 : decode cX9_dries 57 = .ok (.iaload, 1) := by decide +kernel
theorem d_X9_dries_58 : decode cX9_dries 58 = .ok (.iload 6, 2) := by decide +kernel
theorem d_X9_dries_60 : decode cX9_dries 60 = .ok (.aload_n 0, 1) := by decide +kernel
theorem d_X9_dries_61 : decode cX9_dries 61 = .ok (.getfield 62, 3) := by decide +kernel
theorem d_X9_dries_64 : decode cX9_dries 64 = .ok (.getfield 238, 3) := by decide +kernel
theorem d_X9_dries_67 : decode cX9_dries 67 = .ok (.iload_n 3, 1) := by decide +kernel
theorem d_X9_dries_68 : decode cX9_dries 68 = .ok (.iaload, 1) := by decide +kernel
theorem d_X9_dries_69 : decode cX9_dries 69 = .ok (.iload_n 3, 1) := by decide +kernel
theorem d_X9_dries_70 : decode cX9_dries 70 = .ok (.aload 4, 2) := by decide +kernel
theorem d_X9_dries_72 : decode cX9_dries 72 = .ok (.getfield 168, 3) := by decide +kernel
theorem d_X9_dries_75 : decode cX9_dries 75 = .ok (.iload 5, 2) := by decide +kernel
theorem d_X9_dries_77 : decode cX9_dries 77 = .ok (.invokevirtual 251, 3) := by decide +kernel
theorem d_X9_dries_80 : decode cX9_dries 80 = .ok (.ireturn, 1) := by decide +kernel
noncomputable def F_X9_dries (M : zMem) (p0 : Int32) (p1 : Int32) (p2 : Int32) : Option (Nat × Int32 × zMem) :=
  zbx (F_X9_needPlace M p0 p1) (g := zxp) fun _ M1 =>
  zbx (F_X9_needHour M1 p2) (g := zxp) fun _ M6 =>
  zb (F_X9_placeOf M6 p0 p1) fun v12 M11 =>
  gd (shX (M11.2.2 0 8) == 6) <|
  gin p2 10 <|
  zl (M11.1 ((M11.2.2 0 8) + 2) p2.toNatClampNeg) fun v15 =>
  gd (shX (M11.2.2 0 10) == 4) <|
  gin v12 64 <|
  zb (F_X3_rate M11 (M11.2.2 0 10) (M11.1 5 v12.toNatClampNeg) (M11.1 6 v12.toNatClampNeg) v15 (M11.1 ((M11.2.2 0 8) + 1) p2.toNatClampNeg) p2 (M11.1 4 4) v12) fun v19 M18 =>
  some (0, v19, M18)
def rm_X9_dries : Room := { frames := 11, cells := 2, slots := 12, locals := 183 }
set_option maxHeartbeats 4000000 in
set_option maxRecDepth 100000 in
theorem c_X9_dries (l : Launch) {G : zG} {ad : Nat → Nat} {n : Nat} (hA : zInj ad n) (M : zMem) (p0 : Int32) (p1 : Int32) (p2 : Int32) (hl : l.stackTraces = false) (hT : zT shX n 0 10) {k9 : Nat} {r9 : Int32} {M9 : zMem} (hF : F_X9_dries M p0 p1 p2 = some (k9, r9, M9)) : zMX l yX9_dries cX9_dries 7 (some .int) rm_X9_dries 2 12 G shX ad n M [.ref (ad 0), .int p0, .int p1, .int p2] k9 (some (.int r9)) M9 := by
  refine zM_ofX hA (by decide +kernel) (lv := [(0, .ref (ad 0)), (1, .int p0), (2, .int p1), (3, .int p2)]) (Nat.le_of_ble_eq_true rfl) rfl (fun p e s m args below meth c A cx hr ht => ?_)
  unfold F_X9_dries at hF
  refine z_aload_n cx d_X9_dries_0 0 rfl ?_
  refine z_iload_n cx d_X9_dries_1 1 rfl ?_
  refine z_iload_n cx d_X9_dries_2 2 rfl ?_
  obtain ⟨k2, v3, M1, hc, hF, hX4⟩ := zbx_inv hF
  refine z_callVX cx ht (As := [.int p0, .int p1]) (rest := []) (c_X9_needPlace l cx.2.2.2.1.1 M p0 p1 hl hT hc) (fun q => zxp_inv (hX4 q)) hT zo_10 cv_SunnyPans_210 ⟨rfl, rfl, Nat.le_of_ble_eq_true rfl, Nat.le_of_ble_eq_true rfl⟩ rfl rfl ⟨Nat.le_of_ble_eq_true rfl, Nat.le_of_ble_eq_true rfl⟩ ⟨Nat.le_of_ble_eq_true rfl, Nat.le_of_ble_eq_true rfl⟩ (Nat.le_of_ble_eq_true rfl) d_X9_dries_3 (fun kq5 => ?_)
  have hF := hF kq5
  refine z_aload_n cx d_X9_dries_6 0 rfl ?_
  refine z_iload_n cx d_X9_dries_7 3 rfl ?_
  obtain ⟨k7, v8, M6, hc, hF, hX9⟩ := zbx_inv hF
  refine z_callVX cx ht (As := [.int p2]) (rest := []) (c_X9_needHour l cx.2.2.2.1.1 M1 p2 hl hT hc) (fun q => zxp_inv (hX9 q)) hT zo_10 cv_SunnyPans_235 ⟨rfl, rfl, Nat.le_of_ble_eq_true rfl, Nat.le_of_ble_eq_true rfl⟩ rfl rfl ⟨Nat.le_of_ble_eq_true rfl, Nat.le_of_ble_eq_true rfl⟩ ⟨Nat.le_of_ble_eq_true rfl, Nat.le_of_ble_eq_true rfl⟩ (Nat.le_of_ble_eq_true rfl) d_X9_dries_8 (fun kq10 => ?_)
  have hF := hF kq10
  refine z_aload_n cx d_X9_dries_11 0 rfl ?_
  refine z_getR cx hT fg_SunnyPans_19 3 rfl d_X9_dries_12 ?_
  refine z_getR cx (tfX_10_3 hT) fg_SunnyPans_159 4 rfl d_X9_dries_15 ?_
  refine z_astore cx 4 [(4, .ref (ad 4)), (0, .ref (ad 0)), (1, .int p0), (2, .int p1), (3, .int p2)] d_X9_dries_18 (by decide) rfl ?_
  refine z_iload_n cx d_X9_dries_20 2 rfl ?_
  refine z_iload_n cx d_X9_dries_21 3 rfl ?_
  obtain ⟨v12, M11, hc, hF⟩ := zb_inv hF
  refine z_callS cx (As := [.int p0, .int p1]) (rest := []) (c_X9_placeOf l cx.2.2.2.1.1 M6 p0 p1  hc) cs_SunnyPans_213 ⟨rfl, rfl, Nat.le_of_ble_eq_true rfl, Nat.le_of_ble_eq_true rfl⟩ rfl rfl ⟨Nat.le_of_ble_eq_true rfl, Nat.le_of_ble_eq_true rfl⟩ (Nat.le_of_ble_eq_true rfl) d_X9_dries_22 ?_
  refine z_istore cx 5 [(5, .int v12), (4, .ref (ad 4)), (0, .ref (ad 0)), (1, .int p0), (2, .int p1), (3, .int p2)] d_X9_dries_25 (by decide) rfl ?_
  refine z_aload_n cx d_X9_dries_27 2 rfl ?_
  obtain ⟨hg13, hF⟩ := gd_inv hF
  refine z_getD cx hT fg_SunnyPans_62 d_X9_dries_28 ?_
  refine z_getR cx (td_6 hT hg13) fg_SunnyPans_241 ((M11.2.2 0 8) + 2) rfl d_X9_dries_31 ?_
  refine z_iload_n cx d_X9_dries_34 5 rfl ?_
  obtain ⟨hi14, hF⟩ := gin_inv hF
  refine z_iald cx (tfX_6_2 (td_6 hT hg13)) za_25 hi14 p2.toNatClampNeg rfl d_X9_dries_35 ?_
  refine z_nm hF (fun v15 hF => ?_)
  refine z_istore cx 6 [(6, .int v15), (5, .int v12), (4, .ref (ad 4)), (0, .ref (ad 0)), (1, .int p0), (2, .int p1), (3, .int p2)] d_X9_dries_36 (by decide) rfl ?_
  refine z_aload_n cx d_X9_dries_38 3 rfl ?_
  obtain ⟨hg16, hF⟩ := gd_inv hF
  refine z_getD cx hT fg_SunnyPans_72 d_X9_dries_39 ?_
  refine z_aload cx d_X9_dries_42 2 rfl ?_
  refine z_getR cx (tfX_8_1 (tfX_10_3 hT)) fg_SunnyPans_174 5 rfl d_X9_dries_44 ?_
  refine z_iload cx d_X9_dries_47 1 rfl ?_
  obtain ⟨hi17, hF⟩ := gin_inv hF
  refine z_iald cx (tfX_5_1 (tfX_8_1 (tfX_10_3 hT))) za_16 hi17 v12.toNatClampNeg rfl d_X9_dries_49 ?_
  refine z_aload cx d_X9_dries_50 2 rfl ?_
  refine z_getR cx (tfX_8_1 (tfX_10_3 hT)) fg_SunnyPans_181 6 rfl d_X9_dries_52 ?_
  refine z_iload cx d_X9_dries_55 1 rfl ?_
  refine z_iald cx (tfX_5_2 (tfX_8_1 (tfX_10_3 hT))) za_16 hi17 v12.toNatClampNeg rfl d_X9_dries_57 ?_
  refine z_iload cx d_X9_dries_58 0 rfl ?_
  refine z_aload_n cx d_X9_dries_60 3 rfl ?_
  refine z_getD cx hT fg_SunnyPans_62 d_X9_dries_61 ?_
  refine z_getR cx (td_6 hT hg13) fg_SunnyPans_238 ((M11.2.2 0 8) + 1) rfl d_X9_dries_64 ?_
  refine z_iload_n cx d_X9_dries_67 6 rfl ?_
  refine z_iald cx (tfX_6_1 (td_6 hT hg13)) za_25 hi14 p2.toNatClampNeg rfl d_X9_dries_68 ?_
  refine z_iload_n cx d_X9_dries_69 6 rfl ?_
  refine z_aload cx d_X9_dries_70 2 rfl ?_
  refine z_getI cx (tfX_8_1 (tfX_10_3 hT)) fg_SunnyPans_168 d_X9_dries_72 ?_
  refine z_iload cx d_X9_dries_75 1 rfl ?_
  obtain ⟨v19, M18, hc, hF⟩ := zb_inv hF
  refine z_callV cx (As := [.int (M11.1 5 v12.toNatClampNeg), .int (M11.1 6 v12.toNatClampNeg), .int v15, .int (M11.1 ((M11.2.2 0 8) + 1) p2.toNatClampNeg), .int p2, .int (M11.1 4 4), .int v12]) (rest := []) (c_X3_rate l cx.2.2.2.1.1 M11 (M11.2.2 0 10) (M11.1 5 v12.toNatClampNeg) (M11.1 6 v12.toNatClampNeg) v15 (M11.1 ((M11.2.2 0 8) + 1) p2.toNatClampNeg) p2 (M11.1 4 4) v12 (td_4 hT hg16) hc) (td_4 hT hg16) zo_4 cv_SunnyPans_251 ⟨rfl, rfl, Nat.le_of_ble_eq_true rfl, Nat.le_of_ble_eq_true rfl⟩ rfl rfl ⟨Nat.le_of_ble_eq_true rfl, Nat.le_of_ble_eq_true rfl⟩ (Nat.le_of_ble_eq_true rfl) d_X9_dries_77 ?_
  exact z_iretX cx hr rfl hF ⟨Nat.le_of_ble_eq_true rfl, Nat.le_of_ble_eq_true rfl⟩ d_X9_dries_80
/-! SunnyPans.would -/
theorem d_X9_would_0 : decode cX9_would 0 = .ok (.aload_n 0, 1) := by decide +kernel
theorem d_X9_would_1 : decode cX9_would 1 = .ok (.iload_n 1, 1) := by decide +kernel
theorem d_X9_would_2 : decode cX9_would 2 = .ok (.iconst 0, 1) := by decide +kernel
theorem d_X9_would_3 : decode cX9_would 3 = .ok (.sipush 9999, 3) := by decide +kernel
theorem d_X9_would_6 : decode cX9_would 6 = .ok (.invokestatic 255, 3) := by decide +kernel
theorem d_X9_would_9 : decode cX9_would 9 = .ok (.ifCond .eq 18, 3) := by decide +kernel
theorem d_X9_would_12 : decode cX9_would 12 = .ok (.iload_n 2, 1) := by decide +kernel
theorem d_X9_would_13 : decode cX9_would 13 = .ok (.iconst 0, 1) := by decide +kernel
theorem d_X9_would_14 : decode cX9_would 14 = .ok (.sipush 9999, 3) := by decide +kernel
theorem d_X9_would_17 : decode cX9_would 17 = .ok (.invokestatic 255, 3) := by decide +kernel
theorem d_X9_would_20 : decode cX9_would 20 = .ok (.ifCond .eq 7, 3) := by decide +kernel
theorem d_X9_would_23 : decode cX9_would 23 = .ok (.iconst 1, 1) := by decide +kernel
theorem d_X9_would_24 : decode cX9_would 24 = .ok (.goto 4, 3) := by decide +kernel
theorem d_X9_would_27 : decode cX9_would 27 = .ok (.iconst 0, 1) := by decide +kernel
theorem d_X9_would_28 : decode cX9_would 28 = .ok (.invokevirtual 155, 3) := by decide +kernel
theorem d_X9_would_31 : decode cX9_would 31 = .ok (.aload_n 0, 1) := by decide +kernel
theorem d_X9_would_32 : decode cX9_would 32 = .ok (.iload_n 3, 1) := by decide +kernel
theorem d_X9_would_33 : decode cX9_would 33 = .ok (.iconst 0, 1) := by decide +kernel
theorem d_X9_would_34 : decode cX9_would 34 = .ok (.bipush 40, 2) := by decide +kernel
theorem d_X9_would_36 : decode cX9_would 36 = .ok (.invokestatic 255, 3) := by decide +kernel
theorem d_X9_would_39 : decode cX9_would 39 = .ok (.ifCond .eq 18, 3) := by decide +kernel
theorem d_X9_would_42 : decode cX9_would 42 = .ok (.iload 4, 2) := by decide +kernel
theorem d_X9_would_44 : decode cX9_would 44 = .ok (.iconst 0, 1) := by decide +kernel
theorem d_X9_would_45 : decode cX9_would 45 = .ok (.bipush 7, 2) := by decide +kernel
theorem d_X9_would_47 : decode cX9_would 47 = .ok (.invokestatic 255, 3) := by decide +kernel
theorem d_X9_would_50 : decode cX9_would 50 = .ok (.ifCond .eq 7, 3) := by decide +kernel
theorem d_X9_would_53 : decode cX9_would 53 = .ok (.iconst 1, 1) := by decide +kernel
theorem d_X9_would_54 : decode cX9_would 54 = .ok (.goto 4, 3) := by decide +kernel
theorem d_X9_would_57 : decode cX9_would 57 = .ok (.iconst 0, 1) := by decide +kernel
theorem d_X9_would_58 : decode cX9_would 58 = .ok (.invokevirtual 155, 3) := by decide +kernel
theorem d_X9_would_61 : decode cX9_would 61 = .ok (.aload_n 0, 1) := by decide +kernel
theorem d_X9_would_62 : decode cX9_would 62 = .ok (.iload 5, 2) := by decide +kernel
theorem d_X9_would_64 : decode cX9_would 64 = .ok (.iconst 0, 1) := by decide +kernel
theorem d_X9_would_65 : decode cX9_would 65 = .ok (.bipush 9, 2) := by decide +kernel
theorem d_X9_would_67 : decode cX9_would 67 = .ok (.invokestatic 255, 3) := by decide +kernel
theorem d_X9_would_70 : decode cX9_would 70 = .ok (.ifCond .eq 19, 3) := by decide +kernel
theorem d_X9_would_73 : decode cX9_would 73 = .ok (.iload 6, 2) := by decide +kernel
theorem d_X9_would_75 : decode cX9_would 75 = .ok (.iconst 0, 1) := by decide +kernel
theorem d_X9_would_76 : decode cX9_would 76 = .ok (.sipush 400, 3) := by decide +kernel
theorem d_X9_would_79 : decode cX9_would 79 = .ok (.invokestatic 255, 3) := by decide +kernel
theorem d_X9_would_82 : decode cX9_would 82 = .ok (.ifCond .eq 7, 3) := by decide +kernel
theorem d_X9_would_85 : decode cX9_would 85 = .ok (.iconst 1, 1) := by decide +kernel
theorem d_X9_would_86 : decode cX9_would 86 = .ok (.goto 4, 3) := by decide +kernel
theorem d_X9_would_89 : decode cX9_would 89 = .ok (.iconst 0, 1) := by decide +kernel
theorem d_X9_would_90 : decode cX9_would 90 = .ok (.invokevirtual 155, 3) := by decide +kernel
theorem d_X9_would_93 : decode cX9_would 93 = .ok (.aload_n 0, 1) := by decide +kernel
theorem d_X9_would_94 : decode cX9_would 94 = .ok (.iload 7, 2) := by decide +kernel
theorem d_X9_would_96 : decode cX9_would 96 = .ok (.iconst 0, 1) := by decide +kernel
theorem d_X9_would_97 : decode cX9_would 97 = .ok (.bipush 7, 2) := by decide +kernel
theorem d_X9_would_99 : decode cX9_would 99 = .ok (.invokestatic 255, 3) := by decide +kernel
theorem d_X9_would_102 : decode cX9_would 102 = .ok (.ifCond .eq 18, 3) := by decide +kernel
theorem d_X9_would_105 : decode cX9_would 105 = .ok (.iload 8, 2) := by decide +kernel
theorem d_X9_would_107 : decode cX9_would 107 = .ok (.iconst 0, 1) := by decide +kernel
theorem d_X9_would_108 : decode cX9_would 108 = .ok (.bipush 7, 2) := by decide +kernel
theorem d_X9_would_110 : decode cX9_would 110 = .ok (.invokestatic 255, 3) := by decide +kernel
theorem d_X9_would_113 : decode cX9_would 113 = .ok (.ifCond .eq 7, 3) := by decide +kernel
theorem d_X9_would_116 : decode cX9_would 116 = .ok (.iconst 1, 1) := by decide +kernel
theorem d_X9_would_117 : decode cX9_would 117 = .ok (.goto 4, 3) := by decide +kernel
theorem d_X9_would_120 : decode cX9_would 120 = .ok (.iconst 0, 1) := by decide +kernel
theorem d_X9_would_121 : decode cX9_would 121 = .ok (.invokevirtual 155, 3) := by decide +kernel
theorem d_X9_would_124 : decode cX9_would 124 = .ok (.aload_n 0, 1) := by decide +kernel
theorem d_X9_would_125 : decode cX9_would 125 = .ok (.getfield 72, 3) := by decide +kernel
theorem d_X9_would_128 : decode cX9_would 128 = .ok (.iload_n 1, 1) := by decide +kernel
theorem d_X9_would_129 : decode cX9_would 129 = .ok (.iload_n 2, 1) := by decide +kernel
theorem d_X9_would_130 : decode cX9_would 130 = .ok (.iload_n 3, 1) := by decide +kernel
theorem d_X9_would_131 : decode cX9_would 131 = .ok (.iload 4, 2) := by decide +kernel
theorem d_X9_would_133 : decode cX9_would 133 = .ok (.iload 5, 2) := by decide +kernel
theorem d_X9_would_135 : decode cX9_would 135 = .ok (.iload 6, 2) := by decide +kernel
theorem d_X9_would_137 : decode cX9_would 137 = .ok (.iload 7, 2) := by decide +kernel
theorem d_X9_would_139 : decode cX9_would 139 = .ok (.iload 8, 2) := by decide +kernel
theorem d_X9_would_141 : decode cX9_would 141 = .ok (.invokestatic 213, 3) := by decide +kernel
theorem d_X9_would_144 : decode cX9_would 144 = .ok (.invokevirtual 251, 3) := by decide +kernel
theorem d_X9_would_147 : decode cX9_would 147 = .ok (.ireturn, 1) := by decide +kernel
noncomputable def F_X9_would_121 (p0 : Int32) (p1 : Int32) (p2 : Int32) (p3 : Int32) (p4 : Int32) (p5 : Int32) (p6 : Int32) (p7 : Int32) (b121_L1 : Int32) (b121_L2 : Int32) (b121_L3 : Int32) (b121_L4 : Int32) (b121_L5 : Int32) (b121_L6 : Int32) (b121_L7 : Int32) (b121_L8 : Int32) (b121_S1 : Int32) (M : zMem) : Option (Nat × Int32 × zMem) :=
  zbx (F_X9_need M b121_S1) (g := zxp) fun _ M1 =>
  gd (shX (M1.2.2 0 10) == 4) <|
  zb (F_X9_placeOf M1 b121_L7 b121_L8) fun v8 M7 =>
  zb (F_X3_rate M7 (M1.2.2 0 10) b121_L1 b121_L2 b121_L3 b121_L4 b121_L5 b121_L6 v8) fun v10 M9 =>
  some (0, v10, M9)
noncomputable def F_X9_would_120 (p0 : Int32) (p1 : Int32) (p2 : Int32) (p3 : Int32) (p4 : Int32) (p5 : Int32) (p6 : Int32) (p7 : Int32) (b120_L1 : Int32) (b120_L2 : Int32) (b120_L3 : Int32) (b120_L4 : Int32) (b120_L5 : Int32) (b120_L6 : Int32) (b120_L7 : Int32) (b120_L8 : Int32) (M : zMem) : Option (Nat × Int32 × zMem) :=
  F_X9_would_121 p0 p1 p2 p3 p4 p5 p6 p7 b120_L1 b120_L2 b120_L3 b120_L4 b120_L5 b120_L6 b120_L7 b120_L8 (0 : Int32) M
noncomputable def F_X9_would_90 (p0 : Int32) (p1 : Int32) (p2 : Int32) (p3 : Int32) (p4 : Int32) (p5 : Int32) (p6 : Int32) (p7 : Int32) (b90_L1 : Int32) (b90_L2 : Int32) (b90_L3 : Int32) (b90_L4 : Int32) (b90_L5 : Int32) (b90_L6 : Int32) (b90_L7 : Int32) (b90_L8 : Int32) (b90_S1 : Int32) (M : zMem) : Option (Nat × Int32 × zMem) :=
  zbx (F_X9_need M b90_S1) (g := zxp) fun _ M11 =>
  zb (F_X9_within M11 b90_L7 (0 : Int32) (7 : Int32)) fun v17 M16 =>
  if v17 = 0 then
    F_X9_would_120 p0 p1 p2 p3 p4 p5 p6 p7 b90_L1 b90_L2 b90_L3 b90_L4 b90_L5 b90_L6 b90_L7 b90_L8 M16
  else
    zb (F_X9_within M16 b90_L8 (0 : Int32) (7 : Int32)) fun v19 M18 =>
    if v19 = 0 then
      F_X9_would_120 p0 p1 p2 p3 p4 p5 p6 p7 b90_L1 b90_L2 b90_L3 b90_L4 b90_L5 b90_L6 b90_L7 b90_L8 M18
    else
      F_X9_would_121 p0 p1 p2 p3 p4 p5 p6 p7 b90_L1 b90_L2 b90_L3 b90_L4 b90_L5 b90_L6 b90_L7 b90_L8 (1 : Int32) M18
noncomputable def F_X9_would_89 (p0 : Int32) (p1 : Int32) (p2 : Int32) (p3 : Int32) (p4 : Int32) (p5 : Int32) (p6 : Int32) (p7 : Int32) (b89_L1 : Int32) (b89_L2 : Int32) (b89_L3 : Int32) (b89_L4 : Int32) (b89_L5 : Int32) (b89_L6 : Int32) (b89_L7 : Int32) (b89_L8 : Int32) (M : zMem) : Option (Nat × Int32 × zMem) :=
  F_X9_would_90 p0 p1 p2 p3 p4 p5 p6 p7 b89_L1 b89_L2 b89_L3 b89_L4 b89_L5 b89_L6 b89_L7 b89_L8 (0 : Int32) M
noncomputable def F_X9_would_58 (p0 : Int32) (p1 : Int32) (p2 : Int32) (p3 : Int32) (p4 : Int32) (p5 : Int32) (p6 : Int32) (p7 : Int32) (b58_L1 : Int32) (b58_L2 : Int32) (b58_L3 : Int32) (b58_L4 : Int32) (b58_L5 : Int32) (b58_L6 : Int32) (b58_L7 : Int32) (b58_L8 : Int32) (b58_S1 : Int32) (M : zMem) : Option (Nat × Int32 × zMem) :=
  zbx (F_X9_need M b58_S1) (g := zxp) fun _ M20 =>
  zb (F_X9_within M20 b58_L5 (0 : Int32) (9 : Int32)) fun v26 M25 =>
  if v26 = 0 then
    F_X9_would_89 p0 p1 p2 p3 p4 p5 p6 p7 b58_L1 b58_L2 b58_L3 b58_L4 b58_L5 b58_L6 b58_L7 b58_L8 M25
  else
    zb (F_X9_within M25 b58_L6 (0 : Int32) (400 : Int32)) fun v28 M27 =>
    if v28 = 0 then
      F_X9_would_89 p0 p1 p2 p3 p4 p5 p6 p7 b58_L1 b58_L2 b58_L3 b58_L4 b58_L5 b58_L6 b58_L7 b58_L8 M27
    else
      F_X9_would_90 p0 p1 p2 p3 p4 p5 p6 p7 b58_L1 b58_L2 b58_L3 b58_L4 b58_L5 b58_L6 b58_L7 b58_L8 (1 : Int32) M27
noncomputable def F_X9_would_57 (p0 : Int32) (p1 : Int32) (p2 : Int32) (p3 : Int32) (p4 : Int32) (p5 : Int32) (p6 : Int32) (p7 : Int32) (b57_L1 : Int32) (b57_L2 : Int32) (b57_L3 : Int32) (b57_L4 : Int32) (b57_L5 : Int32) (b57_L6 : Int32) (b57_L7 : Int32) (b57_L8 : Int32) (M : zMem) : Option (Nat × Int32 × zMem) :=
  F_X9_would_58 p0 p1 p2 p3 p4 p5 p6 p7 b57_L1 b57_L2 b57_L3 b57_L4 b57_L5 b57_L6 b57_L7 b57_L8 (0 : Int32) M
noncomputable def F_X9_would_28 (p0 : Int32) (p1 : Int32) (p2 : Int32) (p3 : Int32) (p4 : Int32) (p5 : Int32) (p6 : Int32) (p7 : Int32) (b28_L1 : Int32) (b28_L2 : Int32) (b28_L3 : Int32) (b28_L4 : Int32) (b28_L5 : Int32) (b28_L6 : Int32) (b28_L7 : Int32) (b28_L8 : Int32) (b28_S1 : Int32) (M : zMem) : Option (Nat × Int32 × zMem) :=
  zbx (F_X9_need M b28_S1) (g := zxp) fun _ M29 =>
  zb (F_X9_within M29 b28_L3 (0 : Int32) (40 : Int32)) fun v35 M34 =>
  if v35 = 0 then
    F_X9_would_57 p0 p1 p2 p3 p4 p5 p6 p7 b28_L1 b28_L2 b28_L3 b28_L4 b28_L5 b28_L6 b28_L7 b28_L8 M34
  else
    zb (F_X9_within M34 b28_L4 (0 : Int32) (7 : Int32)) fun v37 M36 =>
    if v37 = 0 then
      F_X9_would_57 p0 p1 p2 p3 p4 p5 p6 p7 b28_L1 b28_L2 b28_L3 b28_L4 b28_L5 b28_L6 b28_L7 b28_L8 M36
    else
      F_X9_would_58 p0 p1 p2 p3 p4 p5 p6 p7 b28_L1 b28_L2 b28_L3 b28_L4 b28_L5 b28_L6 b28_L7 b28_L8 (1 : Int32) M36
noncomputable def F_X9_would_27 (p0 : Int32) (p1 : Int32) (p2 : Int32) (p3 : Int32) (p4 : Int32) (p5 : Int32) (p6 : Int32) (p7 : Int32) (b27_L1 : Int32) (b27_L2 : Int32) (b27_L3 : Int32) (b27_L4 : Int32) (b27_L5 : Int32) (b27_L6 : Int32) (b27_L7 : Int32) (b27_L8 : Int32) (M : zMem) : Option (Nat × Int32 × zMem) :=
  F_X9_would_28 p0 p1 p2 p3 p4 p5 p6 p7 b27_L1 b27_L2 b27_L3 b27_L4 b27_L5 b27_L6 b27_L7 b27_L8 (0 : Int32) M
noncomputable def F_X9_would (M : zMem) (p0 : Int32) (p1 : Int32) (p2 : Int32) (p3 : Int32) (p4 : Int32) (p5 : Int32) (p6 : Int32) (p7 : Int32) : Option (Nat × Int32 × zMem) :=
  zb (F_X9_within M p0 (0 : Int32) (9999 : Int32)) fun v39 M38 =>
  if v39 = 0 then
    F_X9_would_27 p0 p1 p2 p3 p4 p5 p6 p7 p0 p1 p2 p3 p4 p5 p6 p7 M38
  else
    zb (F_X9_within M38 p1 (0 : Int32) (9999 : Int32)) fun v41 M40 =>
    if v41 = 0 then
      F_X9_would_27 p0 p1 p2 p3 p4 p5 p6 p7 p0 p1 p2 p3 p4 p5 p6 p7 M40
    else
      F_X9_would_28 p0 p1 p2 p3 p4 p5 p6 p7 p0 p1 p2 p3 p4 p5 p6 p7 (1 : Int32) M40
def rm_X9_would : Room := { frames := 10, cells := 4, slots := 24, locals := 161 }
set_option maxHeartbeats 4000000 in
set_option maxRecDepth 100000 in
theorem c_X9_would (l : Launch) {G : zG} {ad : Nat → Nat} {n : Nat} (hA : zInj ad n) (M : zMem) (p0 : Int32) (p1 : Int32) (p2 : Int32) (p3 : Int32) (p4 : Int32) (p5 : Int32) (p6 : Int32) (p7 : Int32) (hl : l.stackTraces = false) (hT : zT shX n 0 10) {k9 : Nat} {r9 : Int32} {M9 : zMem} (hF : F_X9_would M p0 p1 p2 p3 p4 p5 p6 p7 = some (k9, r9, M9)) : zMX l yX9_would cX9_would 9 (some .int) rm_X9_would 4 24 G shX ad n M [.ref (ad 0), .int p0, .int p1, .int p2, .int p3, .int p4, .int p5, .int p6, .int p7] k9 (some (.int r9)) M9 := by
  refine zM_ofX hA (by decide +kernel) (lv := [(0, .ref (ad 0)), (1, .int p0), (2, .int p1), (3, .int p2), (4, .int p3), (5, .int p4), (6, .int p5), (7, .int p6), (8, .int p7)]) (Nat.le_of_ble_eq_true rfl) rfl (fun p e s m args below meth c A cx hr ht => ?_)
  have hb121 : ∀ (b121_L1 : Int32) (b121_L2 : Int32) (b121_L3 : Int32) (b121_L4 : Int32) (b121_L5 : Int32) (b121_L6 : Int32) (b121_L7 : Int32) (b121_L8 : Int32) (b121_S1 : Int32) (M : zMem), F_X9_would_121 p0 p1 p2 p3 p4 p5 p6 p7 b121_L1 b121_L2 b121_L3 b121_L4 b121_L5 b121_L6 b121_L7 b121_L8 b121_S1 M = some (k9, r9, M9) → zJ p l e rm_X9_would s m args below meth c G shX ad n A 9 (vx_MQ below (zQX G shX ad n M9 k9 (some (.int r9)) A) (zXC G shX ad n M9 k9 A) args s 4 24 A) 3 18 M 121 [(0, .ref (ad 0)), (1, .int b121_L1), (2, .int b121_L2), (3, .int b121_L3), (4, .int b121_L4), (5, .int b121_L5), (6, .int b121_L6), (7, .int b121_L7), (8, .int b121_L8)] [.int b121_S1, .ref (ad 0)] := by
    intro b121_L1 b121_L2 b121_L3 b121_L4 b121_L5 b121_L6 b121_L7 b121_L8 b121_S1 M hF
    unfold F_X9_would_121 at hF
    obtain ⟨k2, v3, M1, hc, hF, hX4⟩ := zbx_inv hF
    refine z_callVX cx ht (As := [.int b121_S1]) (rest := []) (c_X9_need l cx.2.2.2.1.1 M b121_S1 hl hT hc) (fun q => zxp_inv (hX4 q)) hT zo_10 cv_SunnyPans_155 ⟨rfl, rfl, Nat.le_of_ble_eq_true rfl, Nat.le_of_ble_eq_true rfl⟩ rfl rfl ⟨Nat.le_of_ble_eq_true rfl, Nat.le_of_ble_eq_true rfl⟩ ⟨Nat.le_of_ble_eq_true rfl, Nat.le_of_ble_eq_true rfl⟩ (Nat.le_of_ble_eq_true rfl) d_X9_would_121 (fun kq5 => ?_)
    have hF := hF kq5
    refine z_aload_n cx d_X9_would_124 0 rfl ?_
    obtain ⟨hg6, hF⟩ := gd_inv hF
    refine z_getD cx hT fg_SunnyPans_72 d_X9_would_125 ?_
    refine z_iload_n cx d_X9_would_128 1 rfl ?_
    refine z_iload_n cx d_X9_would_129 2 rfl ?_
    refine z_iload_n cx d_X9_would_130 3 rfl ?_
    refine z_iload cx d_X9_would_131 4 rfl ?_
    refine z_iload cx d_X9_would_133 5 rfl ?_
    refine z_iload cx d_X9_would_135 6 rfl ?_
    refine z_iload cx d_X9_would_137 7 rfl ?_
    refine z_iload cx d_X9_would_139 8 rfl ?_
    obtain ⟨v8, M7, hc, hF⟩ := zb_inv hF
    refine z_callS cx (As := [.int b121_L7, .int b121_L8]) (rest := [.int b121_L6, .int b121_L5, .int b121_L4, .int b121_L3, .int b121_L2, .int b121_L1, .ref (ad (M1.2.2 0 10))]) (c_X9_placeOf l cx.2.2.2.1.1 M1 b121_L7 b121_L8  hc) cs_SunnyPans_213 ⟨rfl, rfl, Nat.le_of_ble_eq_true rfl, Nat.le_of_ble_eq_true rfl⟩ rfl rfl ⟨Nat.le_of_ble_eq_true rfl, Nat.le_of_ble_eq_true rfl⟩ (Nat.le_of_ble_eq_true rfl) d_X9_would_141 ?_
    obtain ⟨v10, M9, hc, hF⟩ := zb_inv hF
    refine z_callV cx (As := [.int b121_L1, .int b121_L2, .int b121_L3, .int b121_L4, .int b121_L5, .int b121_L6, .int v8]) (rest := []) (c_X3_rate l cx.2.2.2.1.1 M7 (M1.2.2 0 10) b121_L1 b121_L2 b121_L3 b121_L4 b121_L5 b121_L6 v8 (td_4 hT hg6) hc) (td_4 hT hg6) zo_4 cv_SunnyPans_251 ⟨rfl, rfl, Nat.le_of_ble_eq_true rfl, Nat.le_of_ble_eq_true rfl⟩ rfl rfl ⟨Nat.le_of_ble_eq_true rfl, Nat.le_of_ble_eq_true rfl⟩ (Nat.le_of_ble_eq_true rfl) d_X9_would_144 ?_
    exact z_iretX cx hr rfl hF ⟨Nat.le_of_ble_eq_true rfl, Nat.le_of_ble_eq_true rfl⟩ d_X9_would_147
  have hb120 : ∀ (b120_L1 : Int32) (b120_L2 : Int32) (b120_L3 : Int32) (b120_L4 : Int32) (b120_L5 : Int32) (b120_L6 : Int32) (b120_L7 : Int32) (b120_L8 : Int32) (M : zMem), F_X9_would_120 p0 p1 p2 p3 p4 p5 p6 p7 b120_L1 b120_L2 b120_L3 b120_L4 b120_L5 b120_L6 b120_L7 b120_L8 M = some (k9, r9, M9) → zJ p l e rm_X9_would s m args below meth c G shX ad n A 9 (vx_MQ below (zQX G shX ad n M9 k9 (some (.int r9)) A) (zXC G shX ad n M9 k9 A) args s 4 24 A) 3 18 M 120 [(0, .ref (ad 0)), (1, .int b120_L1), (2, .int b120_L2), (3, .int b120_L3), (4, .int b120_L4), (5, .int b120_L5), (6, .int b120_L6), (7, .int b120_L7), (8, .int b120_L8)] [.ref (ad 0)] := by
    intro b120_L1 b120_L2 b120_L3 b120_L4 b120_L5 b120_L6 b120_L7 b120_L8 M hF
    unfold F_X9_would_120 at hF
    refine z_iconst (v := 0) cx d_X9_would_120 ki_0 ?_
    exact hb121 b120_L1 b120_L2 b120_L3 b120_L4 b120_L5 b120_L6 b120_L7 b120_L8 (0 : Int32) M hF
  have hb90 : ∀ (b90_L1 : Int32) (b90_L2 : Int32) (b90_L3 : Int32) (b90_L4 : Int32) (b90_L5 : Int32) (b90_L6 : Int32) (b90_L7 : Int32) (b90_L8 : Int32) (b90_S1 : Int32) (M : zMem), F_X9_would_90 p0 p1 p2 p3 p4 p5 p6 p7 b90_L1 b90_L2 b90_L3 b90_L4 b90_L5 b90_L6 b90_L7 b90_L8 b90_S1 M = some (k9, r9, M9) → zJ p l e rm_X9_would s m args below meth c G shX ad n A 9 (vx_MQ below (zQX G shX ad n M9 k9 (some (.int r9)) A) (zXC G shX ad n M9 k9 A) args s 4 24 A) 2 12 M 90 [(0, .ref (ad 0)), (1, .int b90_L1), (2, .int b90_L2), (3, .int b90_L3), (4, .int b90_L4), (5, .int b90_L5), (6, .int b90_L6), (7, .int b90_L7), (8, .int b90_L8)] [.int b90_S1, .ref (ad 0)] := by
    intro b90_L1 b90_L2 b90_L3 b90_L4 b90_L5 b90_L6 b90_L7 b90_L8 b90_S1 M hF
    unfold F_X9_would_90 at hF
    obtain ⟨k12, v13, M11, hc, hF, hX14⟩ := zbx_inv hF
    refine z_callVX cx ht (As := [.int b90_S1]) (rest := []) (c_X9_need l cx.2.2.2.1.1 M b90_S1 hl hT hc) (fun q => zxp_inv (hX14 q)) hT zo_10 cv_SunnyPans_155 ⟨rfl, rfl, Nat.le_of_ble_eq_true rfl, Nat.le_of_ble_eq_true rfl⟩ rfl rfl ⟨Nat.le_of_ble_eq_true rfl, Nat.le_of_ble_eq_true rfl⟩ ⟨Nat.le_of_ble_eq_true rfl, Nat.le_of_ble_eq_true rfl⟩ (Nat.le_of_ble_eq_true rfl) d_X9_would_90 (fun kq15 => ?_)
    have hF := hF kq15
    refine z_aload_n cx d_X9_would_93 0 rfl ?_
    refine z_iload cx d_X9_would_94 7 rfl ?_
    refine z_iconst (v := 0) cx d_X9_would_96 ki_0 ?_
    refine z_bipush (v := 7) cx d_X9_would_97 kb_7 ?_
    obtain ⟨v17, M16, hc, hF⟩ := zb_inv hF
    refine z_callS cx (As := [.int b90_L7, .int (0 : Int32), .int (7 : Int32)]) (rest := [.ref (ad 0)]) (c_X9_within l cx.2.2.2.1.1 M11 b90_L7 (0 : Int32) (7 : Int32)  hc) cs_SunnyPans_255 ⟨rfl, rfl, Nat.le_of_ble_eq_true rfl, Nat.le_of_ble_eq_true rfl⟩ rfl rfl ⟨Nat.le_of_ble_eq_true rfl, Nat.le_of_ble_eq_true rfl⟩ (Nat.le_of_ble_eq_true rfl) d_X9_would_99 ?_
    refine z_if_eq cx 120 d_X9_would_102 (by decide) hF (fun hF => ?_) (fun hF => ?_)
    · exact hb120 b90_L1 b90_L2 b90_L3 b90_L4 b90_L5 b90_L6 b90_L7 b90_L8 M16 hF
    refine z_iload cx d_X9_would_105 8 rfl ?_
    refine z_iconst (v := 0) cx d_X9_would_107 ki_0 ?_
    refine z_bipush (v := 7) cx d_X9_would_108 kb_7 ?_
    obtain ⟨v19, M18, hc, hF⟩ := zb_inv hF
    refine z_callS cx (As := [.int b90_L8, .int (0 : Int32), .int (7 : Int32)]) (rest := [.ref (ad 0)]) (c_X9_within l cx.2.2.2.1.1 M16 b90_L8 (0 : Int32) (7 : Int32)  hc) cs_SunnyPans_255 ⟨rfl, rfl, Nat.le_of_ble_eq_true rfl, Nat.le_of_ble_eq_true rfl⟩ rfl rfl ⟨Nat.le_of_ble_eq_true rfl, Nat.le_of_ble_eq_true rfl⟩ (Nat.le_of_ble_eq_true rfl) d_X9_would_110 ?_
    refine z_if_eq cx 120 d_X9_would_113 (by decide) hF (fun hF => ?_) (fun hF => ?_)
    · exact hb120 b90_L1 b90_L2 b90_L3 b90_L4 b90_L5 b90_L6 b90_L7 b90_L8 M18 hF
    refine z_iconst (v := 1) cx d_X9_would_116 ki_1 ?_
    refine z_goto cx 121 d_X9_would_117 (by decide) ?_
    exact hb121 b90_L1 b90_L2 b90_L3 b90_L4 b90_L5 b90_L6 b90_L7 b90_L8 (1 : Int32) M18 hF
  have hb89 : ∀ (b89_L1 : Int32) (b89_L2 : Int32) (b89_L3 : Int32) (b89_L4 : Int32) (b89_L5 : Int32) (b89_L6 : Int32) (b89_L7 : Int32) (b89_L8 : Int32) (M : zMem), F_X9_would_89 p0 p1 p2 p3 p4 p5 p6 p7 b89_L1 b89_L2 b89_L3 b89_L4 b89_L5 b89_L6 b89_L7 b89_L8 M = some (k9, r9, M9) → zJ p l e rm_X9_would s m args below meth c G shX ad n A 9 (vx_MQ below (zQX G shX ad n M9 k9 (some (.int r9)) A) (zXC G shX ad n M9 k9 A) args s 4 24 A) 2 12 M 89 [(0, .ref (ad 0)), (1, .int b89_L1), (2, .int b89_L2), (3, .int b89_L3), (4, .int b89_L4), (5, .int b89_L5), (6, .int b89_L6), (7, .int b89_L7), (8, .int b89_L8)] [.ref (ad 0)] := by
    intro b89_L1 b89_L2 b89_L3 b89_L4 b89_L5 b89_L6 b89_L7 b89_L8 M hF
    unfold F_X9_would_89 at hF
    refine z_iconst (v := 0) cx d_X9_would_89 ki_0 ?_
    exact hb90 b89_L1 b89_L2 b89_L3 b89_L4 b89_L5 b89_L6 b89_L7 b89_L8 (0 : Int32) M hF
  have hb58 : ∀ (b58_L1 : Int32) (b58_L2 : Int32) (b58_L3 : Int32) (b58_L4 : Int32) (b58_L5 : Int32) (b58_L6 : Int32) (b58_L7 : Int32) (b58_L8 : Int32) (b58_S1 : Int32) (M : zMem), F_X9_would_58 p0 p1 p2 p3 p4 p5 p6 p7 b58_L1 b58_L2 b58_L3 b58_L4 b58_L5 b58_L6 b58_L7 b58_L8 b58_S1 M = some (k9, r9, M9) → zJ p l e rm_X9_would s m args below meth c G shX ad n A 9 (vx_MQ below (zQX G shX ad n M9 k9 (some (.int r9)) A) (zXC G shX ad n M9 k9 A) args s 4 24 A) 1 6 M 58 [(0, .ref (ad 0)), (1, .int b58_L1), (2, .int b58_L2), (3, .int b58_L3), (4, .int b58_L4), (5, .int b58_L5), (6, .int b58_L6), (7, .int b58_L7), (8, .int b58_L8)] [.int b58_S1, .ref (ad 0)] := by
    intro b58_L1 b58_L2 b58_L3 b58_L4 b58_L5 b58_L6 b58_L7 b58_L8 b58_S1 M hF
    unfold F_X9_would_58 at hF
    obtain ⟨k21, v22, M20, hc, hF, hX23⟩ := zbx_inv hF
    refine z_callVX cx ht (As := [.int b58_S1]) (rest := []) (c_X9_need l cx.2.2.2.1.1 M b58_S1 hl hT hc) (fun q => zxp_inv (hX23 q)) hT zo_10 cv_SunnyPans_155 ⟨rfl, rfl, Nat.le_of_ble_eq_true rfl, Nat.le_of_ble_eq_true rfl⟩ rfl rfl ⟨Nat.le_of_ble_eq_true rfl, Nat.le_of_ble_eq_true rfl⟩ ⟨Nat.le_of_ble_eq_true rfl, Nat.le_of_ble_eq_true rfl⟩ (Nat.le_of_ble_eq_true rfl) d_X9_would_58 (fun kq24 => ?_)
    have hF := hF kq24
    refine z_aload_n cx d_X9_would_61 0 rfl ?_
    refine z_iload cx d_X9_would_62 5 rfl ?_
    refine z_iconst (v := 0) cx d_X9_would_64 ki_0 ?_
    refine z_bipush (v := 9) cx d_X9_would_65 kb_9 ?_
    obtain ⟨v26, M25, hc, hF⟩ := zb_inv hF
    refine z_callS cx (As := [.int b58_L5, .int (0 : Int32), .int (9 : Int32)]) (rest := [.ref (ad 0)]) (c_X9_within l cx.2.2.2.1.1 M20 b58_L5 (0 : Int32) (9 : Int32)  hc) cs_SunnyPans_255 ⟨rfl, rfl, Nat.le_of_ble_eq_true rfl, Nat.le_of_ble_eq_true rfl⟩ rfl rfl ⟨Nat.le_of_ble_eq_true rfl, Nat.le_of_ble_eq_true rfl⟩ (Nat.le_of_ble_eq_true rfl) d_X9_would_67 ?_
    refine z_if_eq cx 89 d_X9_would_70 (by decide) hF (fun hF => ?_) (fun hF => ?_)
    · exact hb89 b58_L1 b58_L2 b58_L3 b58_L4 b58_L5 b58_L6 b58_L7 b58_L8 M25 hF
    refine z_iload cx d_X9_would_73 6 rfl ?_
    refine z_iconst (v := 0) cx d_X9_would_75 ki_0 ?_
    refine z_sipush (v := 400) cx d_X9_would_76 ks_400 ?_
    obtain ⟨v28, M27, hc, hF⟩ := zb_inv hF
    refine z_callS cx (As := [.int b58_L6, .int (0 : Int32), .int (400 : Int32)]) (rest := [.ref (ad 0)]) (c_X9_within l cx.2.2.2.1.1 M25 b58_L6 (0 : Int32) (400 : Int32)  hc) cs_SunnyPans_255 ⟨rfl, rfl, Nat.le_of_ble_eq_true rfl, Nat.le_of_ble_eq_true rfl⟩ rfl rfl ⟨Nat.le_of_ble_eq_true rfl, Nat.le_of_ble_eq_true rfl⟩ (Nat.le_of_ble_eq_true rfl) d_X9_would_79 ?_
    refine z_if_eq cx 89 d_X9_would_82 (by decide) hF (fun hF => ?_) (fun hF => ?_)
    · exact hb89 b58_L1 b58_L2 b58_L3 b58_L4 b58_L5 b58_L6 b58_L7 b58_L8 M27 hF
    refine z_iconst (v := 1) cx d_X9_would_85 ki_1 ?_
    refine z_goto cx 90 d_X9_would_86 (by decide) ?_
    exact hb90 b58_L1 b58_L2 b58_L3 b58_L4 b58_L5 b58_L6 b58_L7 b58_L8 (1 : Int32) M27 hF
  have hb57 : ∀ (b57_L1 : Int32) (b57_L2 : Int32) (b57_L3 : Int32) (b57_L4 : Int32) (b57_L5 : Int32) (b57_L6 : Int32) (b57_L7 : Int32) (b57_L8 : Int32) (M : zMem), F_X9_would_57 p0 p1 p2 p3 p4 p5 p6 p7 b57_L1 b57_L2 b57_L3 b57_L4 b57_L5 b57_L6 b57_L7 b57_L8 M = some (k9, r9, M9) → zJ p l e rm_X9_would s m args below meth c G shX ad n A 9 (vx_MQ below (zQX G shX ad n M9 k9 (some (.int r9)) A) (zXC G shX ad n M9 k9 A) args s 4 24 A) 1 6 M 57 [(0, .ref (ad 0)), (1, .int b57_L1), (2, .int b57_L2), (3, .int b57_L3), (4, .int b57_L4), (5, .int b57_L5), (6, .int b57_L6), (7, .int b57_L7), (8, .int b57_L8)] [.ref (ad 0)] := by
    intro b57_L1 b57_L2 b57_L3 b57_L4 b57_L5 b57_L6 b57_L7 b57_L8 M hF
    unfold F_X9_would_57 at hF
    refine z_iconst (v := 0) cx d_X9_would_57 ki_0 ?_
    exact hb58 b57_L1 b57_L2 b57_L3 b57_L4 b57_L5 b57_L6 b57_L7 b57_L8 (0 : Int32) M hF
  have hb28 : ∀ (b28_L1 : Int32) (b28_L2 : Int32) (b28_L3 : Int32) (b28_L4 : Int32) (b28_L5 : Int32) (b28_L6 : Int32) (b28_L7 : Int32) (b28_L8 : Int32) (b28_S1 : Int32) (M : zMem), F_X9_would_28 p0 p1 p2 p3 p4 p5 p6 p7 b28_L1 b28_L2 b28_L3 b28_L4 b28_L5 b28_L6 b28_L7 b28_L8 b28_S1 M = some (k9, r9, M9) → zJ p l e rm_X9_would s m args below meth c G shX ad n A 9 (vx_MQ below (zQX G shX ad n M9 k9 (some (.int r9)) A) (zXC G shX ad n M9 k9 A) args s 4 24 A) 0 0 M 28 [(0, .ref (ad 0)), (1, .int b28_L1), (2, .int b28_L2), (3, .int b28_L3), (4, .int b28_L4), (5, .int b28_L5), (6, .int b28_L6), (7, .int b28_L7), (8, .int b28_L8)] [.int b28_S1, .ref (ad 0)] := by
    intro b28_L1 b28_L2 b28_L3 b28_L4 b28_L5 b28_L6 b28_L7 b28_L8 b28_S1 M hF
    unfold F_X9_would_28 at hF
    obtain ⟨k30, v31, M29, hc, hF, hX32⟩ := zbx_inv hF
    refine z_callVX cx ht (As := [.int b28_S1]) (rest := []) (c_X9_need l cx.2.2.2.1.1 M b28_S1 hl hT hc) (fun q => zxp_inv (hX32 q)) hT zo_10 cv_SunnyPans_155 ⟨rfl, rfl, Nat.le_of_ble_eq_true rfl, Nat.le_of_ble_eq_true rfl⟩ rfl rfl ⟨Nat.le_of_ble_eq_true rfl, Nat.le_of_ble_eq_true rfl⟩ ⟨Nat.le_of_ble_eq_true rfl, Nat.le_of_ble_eq_true rfl⟩ (Nat.le_of_ble_eq_true rfl) d_X9_would_28 (fun kq33 => ?_)
    have hF := hF kq33
    refine z_aload_n cx d_X9_would_31 0 rfl ?_
    refine z_iload_n cx d_X9_would_32 3 rfl ?_
    refine z_iconst (v := 0) cx d_X9_would_33 ki_0 ?_
    refine z_bipush (v := 40) cx d_X9_would_34 kb_40 ?_
    obtain ⟨v35, M34, hc, hF⟩ := zb_inv hF
    refine z_callS cx (As := [.int b28_L3, .int (0 : Int32), .int (40 : Int32)]) (rest := [.ref (ad 0)]) (c_X9_within l cx.2.2.2.1.1 M29 b28_L3 (0 : Int32) (40 : Int32)  hc) cs_SunnyPans_255 ⟨rfl, rfl, Nat.le_of_ble_eq_true rfl, Nat.le_of_ble_eq_true rfl⟩ rfl rfl ⟨Nat.le_of_ble_eq_true rfl, Nat.le_of_ble_eq_true rfl⟩ (Nat.le_of_ble_eq_true rfl) d_X9_would_36 ?_
    refine z_if_eq cx 57 d_X9_would_39 (by decide) hF (fun hF => ?_) (fun hF => ?_)
    · exact hb57 b28_L1 b28_L2 b28_L3 b28_L4 b28_L5 b28_L6 b28_L7 b28_L8 M34 hF
    refine z_iload cx d_X9_would_42 4 rfl ?_
    refine z_iconst (v := 0) cx d_X9_would_44 ki_0 ?_
    refine z_bipush (v := 7) cx d_X9_would_45 kb_7 ?_
    obtain ⟨v37, M36, hc, hF⟩ := zb_inv hF
    refine z_callS cx (As := [.int b28_L4, .int (0 : Int32), .int (7 : Int32)]) (rest := [.ref (ad 0)]) (c_X9_within l cx.2.2.2.1.1 M34 b28_L4 (0 : Int32) (7 : Int32)  hc) cs_SunnyPans_255 ⟨rfl, rfl, Nat.le_of_ble_eq_true rfl, Nat.le_of_ble_eq_true rfl⟩ rfl rfl ⟨Nat.le_of_ble_eq_true rfl, Nat.le_of_ble_eq_true rfl⟩ (Nat.le_of_ble_eq_true rfl) d_X9_would_47 ?_
    refine z_if_eq cx 57 d_X9_would_50 (by decide) hF (fun hF => ?_) (fun hF => ?_)
    · exact hb57 b28_L1 b28_L2 b28_L3 b28_L4 b28_L5 b28_L6 b28_L7 b28_L8 M36 hF
    refine z_iconst (v := 1) cx d_X9_would_53 ki_1 ?_
    refine z_goto cx 58 d_X9_would_54 (by decide) ?_
    exact hb58 b28_L1 b28_L2 b28_L3 b28_L4 b28_L5 b28_L6 b28_L7 b28_L8 (1 : Int32) M36 hF
  have hb27 : ∀ (b27_L1 : Int32) (b27_L2 : Int32) (b27_L3 : Int32) (b27_L4 : Int32) (b27_L5 : Int32) (b27_L6 : Int32) (b27_L7 : Int32) (b27_L8 : Int32) (M : zMem), F_X9_would_27 p0 p1 p2 p3 p4 p5 p6 p7 b27_L1 b27_L2 b27_L3 b27_L4 b27_L5 b27_L6 b27_L7 b27_L8 M = some (k9, r9, M9) → zJ p l e rm_X9_would s m args below meth c G shX ad n A 9 (vx_MQ below (zQX G shX ad n M9 k9 (some (.int r9)) A) (zXC G shX ad n M9 k9 A) args s 4 24 A) 0 0 M 27 [(0, .ref (ad 0)), (1, .int b27_L1), (2, .int b27_L2), (3, .int b27_L3), (4, .int b27_L4), (5, .int b27_L5), (6, .int b27_L6), (7, .int b27_L7), (8, .int b27_L8)] [.ref (ad 0)] := by
    intro b27_L1 b27_L2 b27_L3 b27_L4 b27_L5 b27_L6 b27_L7 b27_L8 M hF
    unfold F_X9_would_27 at hF
    refine z_iconst (v := 0) cx d_X9_would_27 ki_0 ?_
    exact hb28 b27_L1 b27_L2 b27_L3 b27_L4 b27_L5 b27_L6 b27_L7 b27_L8 (0 : Int32) M hF
  unfold F_X9_would at hF
  refine z_aload_n cx d_X9_would_0 0 rfl ?_
  refine z_iload_n cx d_X9_would_1 1 rfl ?_
  refine z_iconst (v := 0) cx d_X9_would_2 ki_0 ?_
  refine z_sipush (v := 9999) cx d_X9_would_3 ks_9999 ?_
  obtain ⟨v39, M38, hc, hF⟩ := zb_inv hF
  refine z_callS cx (As := [.int p0, .int (0 : Int32), .int (9999 : Int32)]) (rest := [.ref (ad 0)]) (c_X9_within l cx.2.2.2.1.1 M p0 (0 : Int32) (9999 : Int32)  hc) cs_SunnyPans_255 ⟨rfl, rfl, Nat.le_of_ble_eq_true rfl, Nat.le_of_ble_eq_true rfl⟩ rfl rfl ⟨Nat.le_of_ble_eq_true rfl, Nat.le_of_ble_eq_true rfl⟩ (Nat.le_of_ble_eq_true rfl) d_X9_would_6 ?_
  refine z_if_eq cx 27 d_X9_would_9 (by decide) hF (fun hF => ?_) (fun hF => ?_)
  · exact hb27 p0 p1 p2 p3 p4 p5 p6 p7 M38 hF
  refine z_iload_n cx d_X9_would_12 2 rfl ?_
  refine z_iconst (v := 0) cx d_X9_would_13 ki_0 ?_
  refine z_sipush (v := 9999) cx d_X9_would_14 ks_9999 ?_
  obtain ⟨v41, M40, hc, hF⟩ := zb_inv hF
  refine z_callS cx (As := [.int p1, .int (0 : Int32), .int (9999 : Int32)]) (rest := [.ref (ad 0)]) (c_X9_within l cx.2.2.2.1.1 M38 p1 (0 : Int32) (9999 : Int32)  hc) cs_SunnyPans_255 ⟨rfl, rfl, Nat.le_of_ble_eq_true rfl, Nat.le_of_ble_eq_true rfl⟩ rfl rfl ⟨Nat.le_of_ble_eq_true rfl, Nat.le_of_ble_eq_true rfl⟩ (Nat.le_of_ble_eq_true rfl) d_X9_would_17 ?_
  refine z_if_eq cx 27 d_X9_would_20 (by decide) hF (fun hF => ?_) (fun hF => ?_)
  · exact hb27 p0 p1 p2 p3 p4 p5 p6 p7 M40 hF
  refine z_iconst (v := 1) cx d_X9_would_23 ki_1 ?_
  refine z_goto cx 28 d_X9_would_24 (by decide) ?_
  exact hb28 p0 p1 p2 p3 p4 p5 p6 p7 (1 : Int32) M40 hF
/-! SunnyPans.strongest -/
theorem tfX_10_172 {n k : Nat} (h : zT shX n k 10) : zT shX n (k + 172) 1 := zT_off h (shX_f (by decide) (by decide +kernel)) (by decide) (by decide)
set_option maxRecDepth 100000 in
theorem wd_415 : Cond.fieldLink "SunnyPans" 51 "SunnyPans" "best" "LSunnyPans$Best;" ∈ tbG := tw2 75 rfl rfl
theorem fg_SunnyPans_51 : zGetR "SunnyPans" 51 9 10 6 172 := ⟨RX9, TX9, 19, rfl, by decide, uw_9, wd_415, fun _ _ _ _ _ _ => ⟨_, rfl, rfl⟩⟩
set_option maxRecDepth 100000 in
theorem wd_1136 : Cond.code yX0_placeOrAmount cX0_placeOrAmount 2 (some .int) ∈ tbG := tw5 76 rfl rfl
set_option maxRecDepth 100000 in
theorem wd_1133 : Cond.methodLink "SunnyPans" 263 yX0_placeOrAmount ∈ tbG := tw5 73 rfl rfl
set_option maxRecDepth 100000 in
theorem wd_1134 : Cond.instanceMethod yX0_placeOrAmount ∈ tbG := tw5 74 rfl rfl
set_option maxRecDepth 100000 in
theorem wd_1135 : Cond.selects "SunnyPans$Best" yX0_placeOrAmount yX0_placeOrAmount ∈ tbG := tw5 75 rfl rfl
set_option maxRecDepth 100000 in
theorem wd_107 : Cond.initialized "SunnyPans$Best" ∈ tbG := tw1 7 rfl rfl
theorem cv_SunnyPans_263 : zCV "SunnyPans" 263 "SunnyPans$Best" yX0_placeOrAmount cX0_placeOrAmount 2 (some .int) 1 := zCV_of wd_1133 wd_1134 wd_1135 wd_107 wd_1136 (by decide +kernel)
theorem zo_1 : zObj "SunnyPans$Best" 1 := ⟨0, (RX0, TX0, 2), rfl, rfl, fun _ _ _ _ _ _ => ⟨_, rfl⟩⟩
set_option maxRecDepth 100000 in
theorem wd_1200 : Cond.code yX0_offerMost cX0_offerMost 3 none ∈ tbG := tw5 140 rfl rfl
set_option maxRecDepth 100000 in
theorem wd_1197 : Cond.methodLink "SunnyPans" 260 yX0_offerMost ∈ tbG := tw5 137 rfl rfl
set_option maxRecDepth 100000 in
theorem wd_1198 : Cond.instanceMethod yX0_offerMost ∈ tbG := tw5 138 rfl rfl
set_option maxRecDepth 100000 in
theorem wd_1199 : Cond.selects "SunnyPans$Best" yX0_offerMost yX0_offerMost ∈ tbG := tw5 139 rfl rfl
theorem cv_SunnyPans_260 : zCV "SunnyPans" 260 "SunnyPans$Best" yX0_offerMost cX0_offerMost 3 none 2 := zCV_of wd_1197 wd_1198 wd_1199 wd_107 wd_1200 (by decide +kernel)
set_option maxRecDepth 100000 in
theorem wd_1128 : Cond.code yX0_clear cX0_clear 1 none ∈ tbG := tw5 68 rfl rfl
set_option maxRecDepth 100000 in
theorem wd_1125 : Cond.methodLink "SunnyPans" 259 yX0_clear ∈ tbG := tw5 65 rfl rfl
set_option maxRecDepth 100000 in
theorem wd_1126 : Cond.instanceMethod yX0_clear ∈ tbG := tw5 66 rfl rfl
set_option maxRecDepth 100000 in
theorem wd_1127 : Cond.selects "SunnyPans$Best" yX0_clear yX0_clear ∈ tbG := tw5 67 rfl rfl
theorem cv_SunnyPans_259 : zCV "SunnyPans" 259 "SunnyPans$Best" yX0_clear cX0_clear 1 none 0 := zCV_of wd_1125 wd_1126 wd_1127 wd_107 wd_1128 (by decide +kernel)
theorem d_X9_strongest_0 : decode cX9_strongest 0 = .ok (.aload_n 0, 1) := by decide +kernel
theorem d_X9_strongest_1 : decode cX9_strongest 1 = .ok (.iload_n 1, 1) := by decide +kernel
theorem d_X9_strongest_2 : decode cX9_strongest 2 = .ok (.ifCond .eq 8, 3) := by decide +kernel
theorem d_X9_strongest_5 : decode cX9_strongest 5 = .ok (.iload_n 1, 1) := by decide +kernel
theorem d_X9_strongest_6 : decode cX9_strongest 6 = .ok (.iconst 1, 1) := by decide +kernel
theorem d_X9_strongest_7 : decode cX9_strongest 7 = .ok (.if_icmp .ne 7, 3) := by decide +kernel
theorem d_X9_strongest_10 : decode cX9_strongest 10 = .ok (.iconst 1, 1) := by decide +kernel
theorem d_X9_strongest_11 : decode cX9_strongest 11 = .ok (.goto 4, 3) := by decide +kernel
theorem d_X9_strongest_14 : decode cX9_strongest 14 = .ok (.iconst 0, 1) := by decide +kernel
theorem d_X9_strongest_15 : decode cX9_strongest 15 = .ok (.invokevirtual 155, 3) := by decide +kernel
theorem d_X9_strongest_18 : decode cX9_strongest 18 = .ok (.aload_n 0, 1) := by decide +kernel
theorem d_X9_strongest_19 : decode cX9_strongest 19 = .ok (.getfield 19, 3) := by decide +kernel
theorem d_X9_strongest_22 : decode cX9_strongest 22 = .ok (.getfield 159, 3) := by decide +kernel
theorem d_X9_strongest_25 : decode cX9_strongest 25 = .ok (.astore_n 2, 1) := by decide +kernel
theorem d_X9_strongest_26 : decode cX9_strongest 26 = .ok (.aload_n 0, 1) := by decide +kernel
theorem d_X9_strongest_27 : decode cX9_strongest 27 = .ok (.getfield 51, 3) := by decide +kernel
theorem d_X9_strongest_30 : decode cX9_strongest 30 = .ok (.invokevirtual 259, 3) := by decide +kernel
theorem d_X9_strongest_33 : decode cX9_strongest 33 = .ok (.iconst 0, 1) := by decide +kernel
theorem d_X9_strongest_34 : decode cX9_strongest 34 = .ok (.istore_n 3, 1) := by decide +kernel
theorem d_X9_strongest_35 : decode cX9_strongest 35 = .ok (.iload_n 3, 1) := by decide +kernel
theorem d_X9_strongest_36 : decode cX9_strongest 36 = .ok (.bipush 64, 2) := by decide +kernel
theorem d_X9_strongest_38 : decode cX9_strongest 38 = .ok (.if_icmp .ge 41, 3) := by decide +kernel
theorem d_X9_strongest_41 : decode cX9_strongest 41 = .ok (.aload_n 2, 1) := by decide +kernel
theorem d_X9_strongest_42 : decode cX9_strongest 42 = .ok (.getfield 181, 3) := by decide +kernel
theorem d_X9_strongest_45 : decode cX9_strongest 45 = .ok (.iload_n 3, 1) := by decide +kernel
theorem d_X9_strongest_46 : decode cX9_strongest 46 = .ok (.iaload, 1) := by decide +kernel
theorem d_X9_strongest_47 : decode cX9_strongest 47 = .ok (.ifCond .le 26, 3) := by decide +kernel
theorem d_X9_strongest_50 : decode cX9_strongest 50 = .ok (.aload_n 0, 1) := by decide +kernel
theorem d_X9_strongest_51 : decode cX9_strongest 51 = .ok (.getfield 51, 3) := by decide +kernel
theorem d_X9_strongest_54 : decode cX9_strongest 54 = .ok (.iload_n 3, 1) := by decide +kernel
theorem d_X9_strongest_55 : decode cX9_strongest 55 = .ok (.aload_n 2, 1) := by decide +kernel
theorem d_X9_strongest_56 : decode cX9_strongest 56 = .ok (.getfield 181, 3) := by decide +kernel
theorem d_X9_strongest_59 : decode cX9_strongest 59 = .ok (.iload_n 3, 1) := by decide +kernel
theorem d_X9_strongest_60 : decode cX9_strongest 60 = .ok (.iaload, 1) := by decide +kernel
theorem d_X9_strongest_61 : decode cX9_strongest 61 = .ok (.aload_n 2, 1) := by decide +kernel
theorem d_X9_strongest_62 : decode cX9_strongest 62 = .ok (.getfield 174, 3) := by decide +kernel
theorem d_X9_strongest_65 : decode cX9_strongest 65 = .ok (.iload_n 3, 1) := by decide +kernel
theorem d_X9_strongest_66 : decode cX9_strongest 66 = .ok (.iaload, 1) := by decide +kernel
theorem d_X9_strongest_67 : decode cX9_strongest 67 = .ok (.invokestatic 217, 3) := by decide +kernel
theorem d_X9_strongest_70 : decode cX9_strongest 70 = .ok (.invokevirtual 260, 3) := by decide +kernel
theorem d_X9_strongest_73 : decode cX9_strongest 73 = .ok (.iinc 3 1, 3) := by decide +kernel
theorem d_X9_strongest_76 : decode cX9_strongest 76 = .ok (.goto (-41), 3) := by decide +kernel
theorem d_X9_strongest_79 : decode cX9_strongest 79 = .ok (.aload_n 0, 1) := by decide +kernel
theorem d_X9_strongest_80 : decode cX9_strongest 80 = .ok (.getfield 51, 3) := by decide +kernel
theorem d_X9_strongest_83 : decode cX9_strongest 83 = .ok (.iload_n 1, 1) := by decide +kernel
theorem d_X9_strongest_84 : decode cX9_strongest 84 = .ok (.invokevirtual 263, 3) := by decide +kernel
theorem d_X9_strongest_87 : decode cX9_strongest 87 = .ok (.ireturn, 1) := by decide +kernel
noncomputable def F_X9_strongest_73 (p0 : Int32) (self35 : Int32 → Int32 → zMem → Option (Nat × Int32 × zMem)) (b73_L1 : Int32) (b73_L3 : Int32) (M : zMem) : Option (Nat × Int32 × zMem) :=
  self35 b73_L1 (b73_L3 + 1) M
noncomputable def F_X9_strongest_35 (p0 : Int32) (self35 : Int32 → Int32 → zMem → Option (Nat × Int32 × zMem)) (b35_L1 : Int32) (b35_L3 : Int32) (M : zMem) : Option (Nat × Int32 × zMem) :=
  if (64 : Int32) ≤ b35_L3 then
    zb (F_X0_placeOrAmount M 172 b35_L1) fun v2 M1 =>
    some (0, v2, M1)
  else
    gin b35_L3 64 <|
    if (M.1 6 b35_L3.toNatClampNeg) ≤ 0 then
      F_X9_strongest_73 p0 self35 b35_L1 b35_L3 M
    else
      zb (F_X9_strengthOf M (M.1 6 b35_L3.toNatClampNeg) (M.1 5 b35_L3.toNatClampNeg)) fun v5 M4 =>
      zbv (F_X0_offerMost M4 172 b35_L3 v5) fun M6 =>
      F_X9_strongest_73 p0 self35 b35_L1 b35_L3 M6
noncomputable def F_X9_strongest_15 (p0 : Int32) (b15_L1 : Int32) (b15_S1 : Int32) (M : zMem) : Option (Nat × Int32 × zMem) :=
  zbx (F_X9_need M b15_S1) (g := zxp) fun _ M7 =>
  zbv (F_X0_clear M7 172) fun M12 =>
  itF (fun _ _ _ => none) (F_X9_strongest_35 p0) zFuel b15_L1 (0 : Int32) M12
noncomputable def F_X9_strongest (M : zMem) (p0 : Int32) : Option (Nat × Int32 × zMem) :=
  if p0 = 0 then
    F_X9_strongest_15 p0 p0 (1 : Int32) M
  else
    if p0 = (1 : Int32) then
      F_X9_strongest_15 p0 p0 (1 : Int32) M
    else
      F_X9_strongest_15 p0 p0 (0 : Int32) M
def rm_X9_strongest : Room := { frames := 10, cells := 1, slots := 6, locals := 161 }
set_option maxHeartbeats 4000000 in
set_option maxRecDepth 100000 in
theorem c_X9_strongest (l : Launch) {G : zG} {ad : Nat → Nat} {n : Nat} (hA : zInj ad n) (M : zMem) (p0 : Int32) (hl : l.stackTraces = false) (hT : zT shX n 0 10) {k9 : Nat} {r9 : Int32} {M9 : zMem} (hF : F_X9_strongest M p0 = some (k9, r9, M9)) : zMX l yX9_strongest cX9_strongest 4 (some .int) rm_X9_strongest 1 6 G shX ad n M [.ref (ad 0), .int p0] k9 (some (.int r9)) M9 := by
  refine zM_ofX hA (by decide +kernel) (lv := [(0, .ref (ad 0)), (1, .int p0)]) (Nat.le_of_ble_eq_true rfl) rfl (fun p e s m args below meth c A cx hr ht => ?_)
  have hb73 : ∀ (self35 : Int32 → Int32 → zMem → Option (Nat × Int32 × zMem)) (hs35 : ∀ (b35_L1 : Int32) (b35_L3 : Int32) (M : zMem), self35 b35_L1 b35_L3 M = some (k9, r9, M9) → zJ p l e rm_X9_strongest s m args below meth c G shX ad n A 4 (vx_MQ below (zQX G shX ad n M9 k9 (some (.int r9)) A) (zXC G shX ad n M9 k9 A) args s 1 6 A) 1 6 M 35 [(0, .ref (ad 0)), (1, .int b35_L1), (2, .ref (ad 4)), (3, .int b35_L3)] []), ∀ (b73_L1 : Int32) (b73_L3 : Int32) (M : zMem), F_X9_strongest_73 p0 self35 b73_L1 b73_L3 M = some (k9, r9, M9) → zJ p l e rm_X9_strongest s m args below meth c G shX ad n A 4 (vx_MQ below (zQX G shX ad n M9 k9 (some (.int r9)) A) (zXC G shX ad n M9 k9 A) args s 1 6 A) 1 6 M 73 [(0, .ref (ad 0)), (1, .int b73_L1), (2, .ref (ad 4)), (3, .int b73_L3)] [] := by
    intro self35 hs35 b73_L1 b73_L3 M hF
    unfold F_X9_strongest_73 at hF
    refine z_iinc cx 3 1 [(3, .int (b73_L3 + 1)), (0, .ref (ad 0)), (1, .int b73_L1), (2, .ref (ad 4))] d_X9_strongest_73 3 rfl ki_1 (by decide) rfl ?_
    refine z_goto cx 35 d_X9_strongest_76 (by decide) ?_
    exact z_lv [1, 2, 3, 0] _ rfl (hs35 b73_L1 (b73_L3 + 1) M hF)
  have hL35 : ∀ (fuel : Nat), ∀ (b35_L1 : Int32) (b35_L3 : Int32) (M : zMem), itF (fun _ _ _ => none) (F_X9_strongest_35 p0) fuel b35_L1 b35_L3 M = some (k9, r9, M9) → zJ p l e rm_X9_strongest s m args below meth c G shX ad n A 4 (vx_MQ below (zQX G shX ad n M9 k9 (some (.int r9)) A) (zXC G shX ad n M9 k9 A) args s 1 6 A) 1 6 M 35 [(0, .ref (ad 0)), (1, .int b35_L1), (2, .ref (ad 4)), (3, .int b35_L3)] [] := by
    intro fuel
    induction fuel with
    | zero => intro b35_L1 b35_L3 M hF; cases hF
    | succ fuel hs35 =>
      intro b35_L1 b35_L3 M hF
      have hF : F_X9_strongest_35 p0 (itF (fun _ _ _ => none) (F_X9_strongest_35 p0) fuel) b35_L1 b35_L3 M = some (k9, r9, M9) := hF
      generalize itF (fun _ _ _ => none) (F_X9_strongest_35 p0) fuel = self35 at hs35 hF
      unfold F_X9_strongest_35 at hF
      refine z_iload_n cx d_X9_strongest_35 3 rfl ?_
      refine z_bipush (v := 64) cx d_X9_strongest_36 kb_64 ?_
      refine z_icmp_ge cx 79 d_X9_strongest_38 (by decide) hF (fun hF => ?_) (fun hF => ?_)
      · refine z_aload_n cx d_X9_strongest_79 0 rfl ?_
        refine z_getR cx hT fg_SunnyPans_51 172 rfl d_X9_strongest_80 ?_
        refine z_iload_n cx d_X9_strongest_83 1 rfl ?_
        obtain ⟨v2, M1, hc, hF⟩ := zb_inv hF
        refine z_callV cx (As := [.int b35_L1]) (rest := []) (c_X0_placeOrAmount l cx.2.2.2.1.1 M 172 b35_L1 (tfX_10_172 hT) hc) (tfX_10_172 hT) zo_1 cv_SunnyPans_263 ⟨rfl, rfl, Nat.le_of_ble_eq_true rfl, Nat.le_of_ble_eq_true rfl⟩ rfl rfl ⟨Nat.le_of_ble_eq_true rfl, Nat.le_of_ble_eq_true rfl⟩ (Nat.le_of_ble_eq_true rfl) d_X9_strongest_84 ?_
        exact z_iretX cx hr rfl hF ⟨Nat.le_of_ble_eq_true rfl, Nat.le_of_ble_eq_true rfl⟩ d_X9_strongest_87
      refine z_aload_n cx d_X9_strongest_41 2 rfl ?_
      refine z_getR cx (tfX_8_1 (tfX_10_3 hT)) fg_SunnyPans_181 6 rfl d_X9_strongest_42 ?_
      refine z_iload_n cx d_X9_strongest_45 3 rfl ?_
      obtain ⟨hi3, hF⟩ := gin_inv hF
      refine z_iald cx (tfX_5_2 (tfX_8_1 (tfX_10_3 hT))) za_16 hi3 b35_L3.toNatClampNeg rfl d_X9_strongest_46 ?_
      refine z_if_le cx 73 d_X9_strongest_47 (by decide) hF (fun hF => ?_) (fun hF => ?_)
      · exact hb73 self35 hs35 b35_L1 b35_L3 M hF
      refine z_aload_n cx d_X9_strongest_50 0 rfl ?_
      refine z_getR cx hT fg_SunnyPans_51 172 rfl d_X9_strongest_51 ?_
      refine z_iload_n cx d_X9_strongest_54 3 rfl ?_
      refine z_aload_n cx d_X9_strongest_55 2 rfl ?_
      refine z_getR cx (tfX_8_1 (tfX_10_3 hT)) fg_SunnyPans_181 6 rfl d_X9_strongest_56 ?_
      refine z_iload_n cx d_X9_strongest_59 3 rfl ?_
      refine z_iald cx (tfX_5_2 (tfX_8_1 (tfX_10_3 hT))) za_16 hi3 b35_L3.toNatClampNeg rfl d_X9_strongest_60 ?_
      refine z_aload_n cx d_X9_strongest_61 2 rfl ?_
      refine z_getR cx (tfX_8_1 (tfX_10_3 hT)) fg_SunnyPans_174 5 rfl d_X9_strongest_62 ?_
      refine z_iload_n cx d_X9_strongest_65 3 rfl ?_
      refine z_iald cx (tfX_5_1 (tfX_8_1 (tfX_10_3 hT))) za_16 hi3 b35_L3.toNatClampNeg rfl d_X9_strongest_66 ?_
      obtain ⟨v5, M4, hc, hF⟩ := zb_inv hF
      refine z_callS cx (As := [.int (M.1 6 b35_L3.toNatClampNeg), .int (M.1 5 b35_L3.toNatClampNeg)]) (rest := [.int b35_L3, .ref (ad 172)]) (c_X9_strengthOf l cx.2.2.2.1.1 M (M.1 6 b35_L3.toNatClampNeg) (M.1 5 b35_L3.toNatClampNeg)  hc) cs_SunnyPans_217 ⟨rfl, rfl, Nat.le_of_ble_eq_true rfl, Nat.le_of_ble_eq_true rfl⟩ rfl rfl ⟨Nat.le_of_ble_eq_true rfl, Nat.le_of_ble_eq_true rfl⟩ (Nat.le_of_ble_eq_true rfl) d_X9_strongest_67 ?_
      obtain ⟨M6, hc, hF⟩ := zbv_inv hF
      refine z_callV cx (As := [.int b35_L3, .int v5]) (rest := []) (c_X0_offerMost l cx.2.2.2.1.1 M4 172 b35_L3 v5 (tfX_10_172 hT) hc) (tfX_10_172 hT) zo_1 cv_SunnyPans_260 ⟨rfl, rfl, Nat.le_of_ble_eq_true rfl, Nat.le_of_ble_eq_true rfl⟩ rfl rfl ⟨Nat.le_of_ble_eq_true rfl, Nat.le_of_ble_eq_true rfl⟩ (Nat.le_of_ble_eq_true rfl) d_X9_strongest_70 ?_
      exact hb73 self35 hs35 b35_L1 b35_L3 M6 hF
  have hb15 : ∀ (b15_L1 : Int32) (b15_S1 : Int32) (M : zMem), F_X9_strongest_15 p0 b15_L1 b15_S1 M = some (k9, r9, M9) → zJ p l e rm_X9_strongest s m args below meth c G shX ad n A 4 (vx_MQ below (zQX G shX ad n M9 k9 (some (.int r9)) A) (zXC G shX ad n M9 k9 A) args s 1 6 A) 0 0 M 15 [(0, .ref (ad 0)), (1, .int b15_L1)] [.int b15_S1, .ref (ad 0)] := by
    intro b15_L1 b15_S1 M hF
    unfold F_X9_strongest_15 at hF
    obtain ⟨k8, v9, M7, hc, hF, hX10⟩ := zbx_inv hF
    refine z_callVX cx ht (As := [.int b15_S1]) (rest := []) (c_X9_need l cx.2.2.2.1.1 M b15_S1 hl hT hc) (fun q => zxp_inv (hX10 q)) hT zo_10 cv_SunnyPans_155 ⟨rfl, rfl, Nat.le_of_ble_eq_true rfl, Nat.le_of_ble_eq_true rfl⟩ rfl rfl ⟨Nat.le_of_ble_eq_true rfl, Nat.le_of_ble_eq_true rfl⟩ ⟨Nat.le_of_ble_eq_true rfl, Nat.le_of_ble_eq_true rfl⟩ (Nat.le_of_ble_eq_true rfl) d_X9_strongest_15 (fun kq11 => ?_)
    have hF := hF kq11
    refine z_aload_n cx d_X9_strongest_18 0 rfl ?_
    refine z_getR cx hT fg_SunnyPans_19 3 rfl d_X9_strongest_19 ?_
    refine z_getR cx (tfX_10_3 hT) fg_SunnyPans_159 4 rfl d_X9_strongest_22 ?_
    refine z_astore_n cx 2 [(2, .ref (ad 4)), (0, .ref (ad 0)), (1, .int b15_L1)] d_X9_strongest_25 rfl (by decide) rfl ?_
    refine z_aload_n cx d_X9_strongest_26 1 rfl ?_
    refine z_getR cx hT fg_SunnyPans_51 172 rfl d_X9_strongest_27 ?_
    obtain ⟨M12, hc, hF⟩ := zbv_inv hF
    refine z_callV cx (As := []) (rest := []) (c_X0_clear l cx.2.2.2.1.1 M7 172 (tfX_10_172 hT) hc) (tfX_10_172 hT) zo_1 cv_SunnyPans_259 ⟨rfl, rfl, Nat.le_of_ble_eq_true rfl, Nat.le_of_ble_eq_true rfl⟩ rfl rfl ⟨Nat.le_of_ble_eq_true rfl, Nat.le_of_ble_eq_true rfl⟩ (Nat.le_of_ble_eq_true rfl) d_X9_strongest_30 ?_
    refine z_iconst (v := 0) cx d_X9_strongest_33 ki_0 ?_
    refine z_istore_n cx 3 [(3, .int (0 : Int32)), (2, .ref (ad 4)), (0, .ref (ad 0)), (1, .int b15_L1)] d_X9_strongest_34 rfl (by decide) rfl ?_
    exact z_lv [2, 3, 1, 0] _ rfl (hL35 zFuel b15_L1 (0 : Int32) M12 hF)
  unfold F_X9_strongest at hF
  refine z_aload_n cx d_X9_strongest_0 0 rfl ?_
  refine z_iload_n cx d_X9_strongest_1 1 rfl ?_
  refine z_if_eq cx 10 d_X9_strongest_2 (by decide) hF (fun hF => ?_) (fun hF => ?_)
  · refine z_iconst (v := 1) cx d_X9_strongest_10 ki_1 ?_
    refine z_goto cx 15 d_X9_strongest_11 (by decide) ?_
    exact hb15 p0 (1 : Int32) M hF
  refine z_iload_n cx d_X9_strongest_5 1 rfl ?_
  refine z_iconst (v := 1) cx d_X9_strongest_6 ki_1 ?_
  refine z_icmp_ne cx 14 d_X9_strongest_7 (by decide) hF (fun hF => ?_) (fun hF => ?_)
  · refine z_iconst (v := 0) cx d_X9_strongest_14 ki_0 ?_
    exact hb15 p0 (0 : Int32) M hF
  refine z_iconst (v := 1) cx d_X9_strongest_10 ki_1 ?_
  refine z_goto cx 15 d_X9_strongest_11 (by decide) ?_
  exact hb15 p0 (1 : Int32) M hF
/-! SunnyPans.greatest -/
theorem d_X9_greatest_0 : decode cX9_greatest 0 = .ok (.aload_n 0, 1) := by decide +kernel
theorem d_X9_greatest_1 : decode cX9_greatest 1 = .ok (.iload_n 1, 1) := by decide +kernel
theorem d_X9_greatest_2 : decode cX9_greatest 2 = .ok (.ifCond .eq 8, 3) := by decide +kernel
theorem d_X9_greatest_5 : decode cX9_greatest 5 = .ok (.iload_n 1, 1) := by decide +kernel
theorem d_X9_greatest_6 : decode cX9_greatest 6 = .ok (.iconst 1, 1) := by decide +kernel
theorem d_X9_greatest_7 : decode cX9_greatest 7 = .ok (.if_icmp .ne 7, 3) := by decide +kernel
theorem d_X9_greatest_10 : decode cX9_greatest 10 = .ok (.iconst 1, 1) := by decide +kernel
theorem d_X9_greatest_11 : decode cX9_greatest 11 = .ok (.goto 4, 3) := by decide +kernel
theorem d_X9_greatest_14 : decode cX9_greatest 14 = .ok (.iconst 0, 1) := by decide +kernel
theorem d_X9_greatest_15 : decode cX9_greatest 15 = .ok (.invokevirtual 155, 3) := by decide +kernel
theorem d_X9_greatest_18 : decode cX9_greatest 18 = .ok (.aload_n 0, 1) := by decide +kernel
theorem d_X9_greatest_19 : decode cX9_greatest 19 = .ok (.getfield 51, 3) := by decide +kernel
theorem d_X9_greatest_22 : decode cX9_greatest 22 = .ok (.invokevirtual 259, 3) := by decide +kernel
theorem d_X9_greatest_25 : decode cX9_greatest 25 = .ok (.iconst 0, 1) := by decide +kernel
theorem d_X9_greatest_26 : decode cX9_greatest 26 = .ok (.istore_n 2, 1) := by decide +kernel
theorem d_X9_greatest_27 : decode cX9_greatest 27 = .ok (.iload_n 2, 1) := by decide +kernel
theorem d_X9_greatest_28 : decode cX9_greatest 28 = .ok (.bipush 64, 2) := by decide +kernel
theorem d_X9_greatest_30 : decode cX9_greatest 30 = .ok (.if_icmp .ge 44, 3) := by decide +kernel
theorem d_X9_greatest_33 : decode cX9_greatest 33 = .ok (.aload_n 0, 1) := by decide +kernel
theorem d_X9_greatest_34 : decode cX9_greatest 34 = .ok (.getfield 19, 3) := by decide +kernel
theorem d_X9_greatest_37 : decode cX9_greatest 37 = .ok (.getfield 159, 3) := by decide +kernel
theorem d_X9_greatest_40 : decode cX9_greatest 40 = .ok (.getfield 184, 3) := by decide +kernel
theorem d_X9_greatest_43 : decode cX9_greatest 43 = .ok (.iload_n 2, 1) := by decide +kernel
theorem d_X9_greatest_44 : decode cX9_greatest 44 = .ok (.iaload, 1) := by decide +kernel
theorem d_X9_greatest_45 : decode cX9_greatest 45 = .ok (.ifCond .le 23, 3) := by decide +kernel
theorem d_X9_greatest_48 : decode cX9_greatest 48 = .ok (.aload_n 0, 1) := by decide +kernel
theorem d_X9_greatest_49 : decode cX9_greatest 49 = .ok (.getfield 51, 3) := by decide +kernel
theorem d_X9_greatest_52 : decode cX9_greatest 52 = .ok (.iload_n 2, 1) := by decide +kernel
theorem d_X9_greatest_53 : decode cX9_greatest 53 = .ok (.aload_n 0, 1) := by decide +kernel
theorem d_X9_greatest_54 : decode cX9_greatest 54 = .ok (.getfield 19, 3) := by decide +kernel
theorem d_X9_greatest_57 : decode cX9_greatest 57 = .ok (.getfield 159, 3) := by decide +kernel
theorem d_X9_greatest_60 : decode cX9_greatest 60 = .ok (.getfield 184, 3) := by decide +kernel
theorem d_X9_greatest_63 : decode cX9_greatest 63 = .ok (.iload_n 2, 1) := by decide +kernel
theorem d_X9_greatest_64 : decode cX9_greatest 64 = .ok (.iaload, 1) := by decide +kernel
theorem d_X9_greatest_65 : decode cX9_greatest 65 = .ok (.invokevirtual 260, 3) := by decide +kernel
theorem d_X9_greatest_68 : decode cX9_greatest 68 = .ok (.iinc 2 1, 3) := by decide +kernel
theorem d_X9_greatest_71 : decode cX9_greatest 71 = .ok (.goto (-44), 3) := by decide +kernel
theorem d_X9_greatest_74 : decode cX9_greatest 74 = .ok (.aload_n 0, 1) := by decide +kernel
theorem d_X9_greatest_75 : decode cX9_greatest 75 = .ok (.getfield 51, 3) := by decide +kernel
theorem d_X9_greatest_78 : decode cX9_greatest 78 = .ok (.iload_n 1, 1) := by decide +kernel
theorem d_X9_greatest_79 : decode cX9_greatest 79 = .ok (.invokevirtual 263, 3) := by decide +kernel
theorem d_X9_greatest_82 : decode cX9_greatest 82 = .ok (.ireturn, 1) := by decide +kernel
noncomputable def F_X9_greatest_68 (p0 : Int32) (self27 : Int32 → Int32 → zMem → Option (Nat × Int32 × zMem)) (b68_L1 : Int32) (b68_L2 : Int32) (M : zMem) : Option (Nat × Int32 × zMem) :=
  self27 b68_L1 (b68_L2 + 1) M
noncomputable def F_X9_greatest_27 (p0 : Int32) (self27 : Int32 → Int32 → zMem → Option (Nat × Int32 × zMem)) (b27_L1 : Int32) (b27_L2 : Int32) (M : zMem) : Option (Nat × Int32 × zMem) :=
  if (64 : Int32) ≤ b27_L2 then
    zb (F_X0_placeOrAmount M 172 b27_L1) fun v2 M1 =>
    some (0, v2, M1)
  else
    gin b27_L2 64 <|
    if (M.1 7 b27_L2.toNatClampNeg) ≤ 0 then
      F_X9_greatest_68 p0 self27 b27_L1 b27_L2 M
    else
      zbv (F_X0_offerMost M 172 b27_L2 (M.1 7 b27_L2.toNatClampNeg)) fun M4 =>
      F_X9_greatest_68 p0 self27 b27_L1 b27_L2 M4
noncomputable def F_X9_greatest_15 (p0 : Int32) (b15_L1 : Int32) (b15_S1 : Int32) (M : zMem) : Option (Nat × Int32 × zMem) :=
  zbx (F_X9_need M b15_S1) (g := zxp) fun _ M5 =>
  zbv (F_X0_clear M5 172) fun M10 =>
  itF (fun _ _ _ => none) (F_X9_greatest_27 p0) zFuel b15_L1 (0 : Int32) M10
noncomputable def F_X9_greatest (M : zMem) (p0 : Int32) : Option (Nat × Int32 × zMem) :=
  if p0 = 0 then
    F_X9_greatest_15 p0 p0 (1 : Int32) M
  else
    if p0 = (1 : Int32) then
      F_X9_greatest_15 p0 p0 (1 : Int32) M
    else
      F_X9_greatest_15 p0 p0 (0 : Int32) M
def rm_X9_greatest : Room := { frames := 10, cells := 1, slots := 6, locals := 161 }
set_option maxHeartbeats 4000000 in
set_option maxRecDepth 100000 in
theorem c_X9_greatest (l : Launch) {G : zG} {ad : Nat → Nat} {n : Nat} (hA : zInj ad n) (M : zMem) (p0 : Int32) (hl : l.stackTraces = false) (hT : zT shX n 0 10) {k9 : Nat} {r9 : Int32} {M9 : zMem} (hF : F_X9_greatest M p0 = some (k9, r9, M9)) : zMX l yX9_greatest cX9_greatest 3 (some .int) rm_X9_greatest 1 6 G shX ad n M [.ref (ad 0), .int p0] k9 (some (.int r9)) M9 := by
  refine zM_ofX hA (by decide +kernel) (lv := [(0, .ref (ad 0)), (1, .int p0)]) (Nat.le_of_ble_eq_true rfl) rfl (fun p e s m args below meth c A cx hr ht => ?_)
  have hb68 : ∀ (self27 : Int32 → Int32 → zMem → Option (Nat × Int32 × zMem)) (hs27 : ∀ (b27_L1 : Int32) (b27_L2 : Int32) (M : zMem), self27 b27_L1 b27_L2 M = some (k9, r9, M9) → zJ p l e rm_X9_greatest s m args below meth c G shX ad n A 3 (vx_MQ below (zQX G shX ad n M9 k9 (some (.int r9)) A) (zXC G shX ad n M9 k9 A) args s 1 6 A) 1 6 M 27 [(0, .ref (ad 0)), (1, .int b27_L1), (2, .int b27_L2)] []), ∀ (b68_L1 : Int32) (b68_L2 : Int32) (M : zMem), F_X9_greatest_68 p0 self27 b68_L1 b68_L2 M = some (k9, r9, M9) → zJ p l e rm_X9_greatest s m args below meth c G shX ad n A 3 (vx_MQ below (zQX G shX ad n M9 k9 (some (.int r9)) A) (zXC G shX ad n M9 k9 A) args s 1 6 A) 1 6 M 68 [(0, .ref (ad 0)), (1, .int b68_L1), (2, .int b68_L2)] [] := by
    intro self27 hs27 b68_L1 b68_L2 M hF
    unfold F_X9_greatest_68 at hF
    refine z_iinc cx 2 1 [(2, .int (b68_L2 + 1)), (0, .ref (ad 0)), (1, .int b68_L1)] d_X9_greatest_68 2 rfl ki_1 (by decide) rfl ?_
    refine z_goto cx 27 d_X9_greatest_71 (by decide) ?_
    exact z_lv [1, 2, 0] _ rfl (hs27 b68_L1 (b68_L2 + 1) M hF)
  have hL27 : ∀ (fuel : Nat), ∀ (b27_L1 : Int32) (b27_L2 : Int32) (M : zMem), itF (fun _ _ _ => none) (F_X9_greatest_27 p0) fuel b27_L1 b27_L2 M = some (k9, r9, M9) → zJ p l e rm_X9_greatest s m args below meth c G shX ad n A 3 (vx_MQ below (zQX G shX ad n M9 k9 (some (.int r9)) A) (zXC G shX ad n M9 k9 A) args s 1 6 A) 1 6 M 27 [(0, .ref (ad 0)), (1, .int b27_L1), (2, .int b27_L2)] [] := by
    intro fuel
    induction fuel with
    | zero => intro b27_L1 b27_L2 M hF; cases hF
    | succ fuel hs27 =>
      intro b27_L1 b27_L2 M hF
      have hF : F_X9_greatest_27 p0 (itF (fun _ _ _ => none) (F_X9_greatest_27 p0) fuel) b27_L1 b27_L2 M = some (k9, r9, M9) := hF
      generalize itF (fun _ _ _ => none) (F_X9_greatest_27 p0) fuel = self27 at hs27 hF
      unfold F_X9_greatest_27 at hF
      refine z_iload_n cx d_X9_greatest_27 2 rfl ?_
      refine z_bipush (v := 64) cx d_X9_greatest_28 kb_64 ?_
      refine z_icmp_ge cx 74 d_X9_greatest_30 (by decide) hF (fun hF => ?_) (fun hF => ?_)
      · refine z_aload_n cx d_X9_greatest_74 0 rfl ?_
        refine z_getR cx hT fg_SunnyPans_51 172 rfl d_X9_greatest_75 ?_
        refine z_iload_n cx d_X9_greatest_78 1 rfl ?_
        obtain ⟨v2, M1, hc, hF⟩ := zb_inv hF
        refine z_callV cx (As := [.int b27_L1]) (rest := []) (c_X0_placeOrAmount l cx.2.2.2.1.1 M 172 b27_L1 (tfX_10_172 hT) hc) (tfX_10_172 hT) zo_1 cv_SunnyPans_263 ⟨rfl, rfl, Nat.le_of_ble_eq_true rfl, Nat.le_of_ble_eq_true rfl⟩ rfl rfl ⟨Nat.le_of_ble_eq_true rfl, Nat.le_of_ble_eq_true rfl⟩ (Nat.le_of_ble_eq_true rfl) d_X9_greatest_79 ?_
        exact z_iretX cx hr rfl hF ⟨Nat.le_of_ble_eq_true rfl, Nat.le_of_ble_eq_true rfl⟩ d_X9_greatest_82
      refine z_aload_n cx d_X9_greatest_33 0 rfl ?_
      refine z_getR cx hT fg_SunnyPans_19 3 rfl d_X9_greatest_34 ?_
      refine z_getR cx (tfX_10_3 hT) fg_SunnyPans_159 4 rfl d_X9_greatest_37 ?_
      refine z_getR cx (tfX_8_1 (tfX_10_3 hT)) fg_SunnyPans_184 7 rfl d_X9_greatest_40 ?_
      refine z_iload_n cx d_X9_greatest_43 2 rfl ?_
      obtain ⟨hi3, hF⟩ := gin_inv hF
      refine z_iald cx (tfX_5_3 (tfX_8_1 (tfX_10_3 hT))) za_16 hi3 b27_L2.toNatClampNeg rfl d_X9_greatest_44 ?_
      refine z_if_le cx 68 d_X9_greatest_45 (by decide) hF (fun hF => ?_) (fun hF => ?_)
      · exact hb68 self27 hs27 b27_L1 b27_L2 M hF
      refine z_aload_n cx d_X9_greatest_48 0 rfl ?_
      refine z_getR cx hT fg_SunnyPans_51 172 rfl d_X9_greatest_49 ?_
      refine z_iload_n cx d_X9_greatest_52 2 rfl ?_
      refine z_aload_n cx d_X9_greatest_53 0 rfl ?_
      refine z_getR cx hT fg_SunnyPans_19 3 rfl d_X9_greatest_54 ?_
      refine z_getR cx (tfX_10_3 hT) fg_SunnyPans_159 4 rfl d_X9_greatest_57 ?_
      refine z_getR cx (tfX_8_1 (tfX_10_3 hT)) fg_SunnyPans_184 7 rfl d_X9_greatest_60 ?_
      refine z_iload_n cx d_X9_greatest_63 2 rfl ?_
      refine z_iald cx (tfX_5_3 (tfX_8_1 (tfX_10_3 hT))) za_16 hi3 b27_L2.toNatClampNeg rfl d_X9_greatest_64 ?_
      obtain ⟨M4, hc, hF⟩ := zbv_inv hF
      refine z_callV cx (As := [.int b27_L2, .int (M.1 7 b27_L2.toNatClampNeg)]) (rest := []) (c_X0_offerMost l cx.2.2.2.1.1 M 172 b27_L2 (M.1 7 b27_L2.toNatClampNeg) (tfX_10_172 hT) hc) (tfX_10_172 hT) zo_1 cv_SunnyPans_260 ⟨rfl, rfl, Nat.le_of_ble_eq_true rfl, Nat.le_of_ble_eq_true rfl⟩ rfl rfl ⟨Nat.le_of_ble_eq_true rfl, Nat.le_of_ble_eq_true rfl⟩ (Nat.le_of_ble_eq_true rfl) d_X9_greatest_65 ?_
      exact hb68 self27 hs27 b27_L1 b27_L2 M4 hF
  have hb15 : ∀ (b15_L1 : Int32) (b15_S1 : Int32) (M : zMem), F_X9_greatest_15 p0 b15_L1 b15_S1 M = some (k9, r9, M9) → zJ p l e rm_X9_greatest s m args below meth c G shX ad n A 3 (vx_MQ below (zQX G shX ad n M9 k9 (some (.int r9)) A) (zXC G shX ad n M9 k9 A) args s 1 6 A) 0 0 M 15 [(0, .ref (ad 0)), (1, .int b15_L1)] [.int b15_S1, .ref (ad 0)] := by
    intro b15_L1 b15_S1 M hF
    unfold F_X9_greatest_15 at hF
    obtain ⟨k6, v7, M5, hc, hF, hX8⟩ := zbx_inv hF
    refine z_callVX cx ht (As := [.int b15_S1]) (rest := []) (c_X9_need l cx.2.2.2.1.1 M b15_S1 hl hT hc) (fun q => zxp_inv (hX8 q)) hT zo_10 cv_SunnyPans_155 ⟨rfl, rfl, Nat.le_of_ble_eq_true rfl, Nat.le_of_ble_eq_true rfl⟩ rfl rfl ⟨Nat.le_of_ble_eq_true rfl, Nat.le_of_ble_eq_true rfl⟩ ⟨Nat.le_of_ble_eq_true rfl, Nat.le_of_ble_eq_true rfl⟩ (Nat.le_of_ble_eq_true rfl) d_X9_greatest_15 (fun kq9 => ?_)
    have hF := hF kq9
    refine z_aload_n cx d_X9_greatest_18 0 rfl ?_
    refine z_getR cx hT fg_SunnyPans_51 172 rfl d_X9_greatest_19 ?_
    obtain ⟨M10, hc, hF⟩ := zbv_inv hF
    refine z_callV cx (As := []) (rest := []) (c_X0_clear l cx.2.2.2.1.1 M5 172 (tfX_10_172 hT) hc) (tfX_10_172 hT) zo_1 cv_SunnyPans_259 ⟨rfl, rfl, Nat.le_of_ble_eq_true rfl, Nat.le_of_ble_eq_true rfl⟩ rfl rfl ⟨Nat.le_of_ble_eq_true rfl, Nat.le_of_ble_eq_true rfl⟩ (Nat.le_of_ble_eq_true rfl) d_X9_greatest_22 ?_
    refine z_iconst (v := 0) cx d_X9_greatest_25 ki_0 ?_
    refine z_istore_n cx 2 [(2, .int (0 : Int32)), (0, .ref (ad 0)), (1, .int b15_L1)] d_X9_greatest_26 rfl (by decide) rfl ?_
    exact z_lv [1, 2, 0] _ rfl (hL27 zFuel b15_L1 (0 : Int32) M10 hF)
  unfold F_X9_greatest at hF
  refine z_aload_n cx d_X9_greatest_0 0 rfl ?_
  refine z_iload_n cx d_X9_greatest_1 1 rfl ?_
  refine z_if_eq cx 10 d_X9_greatest_2 (by decide) hF (fun hF => ?_) (fun hF => ?_)
  · refine z_iconst (v := 1) cx d_X9_greatest_10 ki_1 ?_
    refine z_goto cx 15 d_X9_greatest_11 (by decide) ?_
    exact hb15 p0 (1 : Int32) M hF
  refine z_iload_n cx d_X9_greatest_5 1 rfl ?_
  refine z_iconst (v := 1) cx d_X9_greatest_6 ki_1 ?_
  refine z_icmp_ne cx 14 d_X9_greatest_7 (by decide) hF (fun hF => ?_) (fun hF => ?_)
  · refine z_iconst (v := 0) cx d_X9_greatest_14 ki_0 ?_
    exact hb15 p0 (0 : Int32) M hF
  refine z_iconst (v := 1) cx d_X9_greatest_10 ki_1 ?_
  refine z_goto cx 15 d_X9_greatest_11 (by decide) ?_
  exact hb15 p0 (1 : Int32) M hF
