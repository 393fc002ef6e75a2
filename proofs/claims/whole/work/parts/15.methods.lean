/-! SunnyPans.relief -/
set_option maxRecDepth 100000 in
theorem wd_1196 : Cond.code yX6_aloneBy cX6_aloneBy 6 (some .int) ∈ tbG := tw5 136 rfl rfl
set_option maxRecDepth 100000 in
theorem wd_1193 : Cond.methodLink "SunnyPans" 346 yX6_aloneBy ∈ tbG := tw5 133 rfl rfl
set_option maxRecDepth 100000 in
theorem wd_1194 : Cond.instanceMethod yX6_aloneBy ∈ tbG := tw5 134 rfl rfl
set_option maxRecDepth 100000 in
theorem wd_1195 : Cond.selects "SunnyPans$Shadows" yX6_aloneBy yX6_aloneBy ∈ tbG := tw5 135 rfl rfl
theorem cv_SunnyPans_346 : zCV "SunnyPans" 346 "SunnyPans$Shadows" yX6_aloneBy cX6_aloneBy 6 (some .int) 3 := zCV_of wd_1193 wd_1194 wd_1195 wd_106 wd_1196 (by decide +kernel)
set_option maxRecDepth 100000 in
theorem wd_1192 : Cond.code yX6_learnAlone cX6_learnAlone 11 none ∈ tbG := tw5 132 rfl rfl
set_option maxRecDepth 100000 in
theorem wd_1189 : Cond.methodLink "SunnyPans" 342 yX6_learnAlone ∈ tbG := tw5 129 rfl rfl
set_option maxRecDepth 100000 in
theorem wd_1190 : Cond.instanceMethod yX6_learnAlone ∈ tbG := tw5 130 rfl rfl
set_option maxRecDepth 100000 in
theorem wd_1191 : Cond.selects "SunnyPans$Shadows" yX6_learnAlone yX6_learnAlone ∈ tbG := tw5 131 rfl rfl
theorem cv_SunnyPans_342 : zCV "SunnyPans" 342 "SunnyPans$Shadows" yX6_learnAlone cX6_learnAlone 11 none 2 := zCV_of wd_1189 wd_1190 wd_1191 wd_106 wd_1192 (by decide +kernel)
theorem d_X9_relief_0 : decode cX9_relief 0 = .ok (.aload_n 0, 1) := by decide +kernel
theorem d_X9_relief_1 : decode cX9_relief 1 = .ok (.iload_n 1, 1) := by decide +kernel
theorem d_X9_relief_2 : decode cX9_relief 2 = .ok (.ifCond .eq 8, 3) := by decide +kernel
theorem d_X9_relief_5 : decode cX9_relief 5 = .ok (.iload_n 1, 1) := by decide +kernel
theorem d_X9_relief_6 : decode cX9_relief 6 = .ok (.iconst 1, 1) := by decide +kernel
theorem d_X9_relief_7 : decode cX9_relief 7 = .ok (.if_icmp .ne 7, 3) := by decide +kernel
theorem d_X9_relief_10 : decode cX9_relief 10 = .ok (.iconst 1, 1) := by decide +kernel
theorem d_X9_relief_11 : decode cX9_relief 11 = .ok (.goto 4, 3) := by decide +kernel
theorem d_X9_relief_14 : decode cX9_relief 14 = .ok (.iconst 0, 1) := by decide +kernel
theorem d_X9_relief_15 : decode cX9_relief 15 = .ok (.invokevirtual 155, 3) := by decide +kernel
theorem d_X9_relief_18 : decode cX9_relief 18 = .ok (.aload_n 0, 1) := by decide +kernel
theorem d_X9_relief_19 : decode cX9_relief 19 = .ok (.getfield 19, 3) := by decide +kernel
theorem d_X9_relief_22 : decode cX9_relief 22 = .ok (.getfield 159, 3) := by decide +kernel
theorem d_X9_relief_25 : decode cX9_relief 25 = .ok (.astore_n 2, 1) := by decide +kernel
theorem d_X9_relief_26 : decode cX9_relief 26 = .ok (.aload_n 0, 1) := by decide +kernel
theorem d_X9_relief_27 : decode cX9_relief 27 = .ok (.getfield 44, 3) := by decide +kernel
theorem d_X9_relief_30 : decode cX9_relief 30 = .ok (.aload_n 0, 1) := by decide +kernel
theorem d_X9_relief_31 : decode cX9_relief 31 = .ok (.getfield 62, 3) := by decide +kernel
theorem d_X9_relief_34 : decode cX9_relief 34 = .ok (.aload_n 2, 1) := by decide +kernel
theorem d_X9_relief_35 : decode cX9_relief 35 = .ok (.invokevirtual 342, 3) := by decide +kernel
theorem d_X9_relief_38 : decode cX9_relief 38 = .ok (.aload_n 0, 1) := by decide +kernel
theorem d_X9_relief_39 : decode cX9_relief 39 = .ok (.getfield 51, 3) := by decide +kernel
theorem d_X9_relief_42 : decode cX9_relief 42 = .ok (.invokevirtual 259, 3) := by decide +kernel
theorem d_X9_relief_45 : decode cX9_relief 45 = .ok (.iconst 0, 1) := by decide +kernel
theorem d_X9_relief_46 : decode cX9_relief 46 = .ok (.istore_n 3, 1) := by decide +kernel
theorem d_X9_relief_47 : decode cX9_relief 47 = .ok (.iload_n 3, 1) := by decide +kernel
theorem d_X9_relief_48 : decode cX9_relief 48 = .ok (.bipush 64, 2) := by decide +kernel
theorem d_X9_relief_50 : decode cX9_relief 50 = .ok (.if_icmp .ge 44, 3) := by decide +kernel
theorem d_X9_relief_53 : decode cX9_relief 53 = .ok (.aload_n 2, 1) := by decide +kernel
theorem d_X9_relief_54 : decode cX9_relief 54 = .ok (.getfield 184, 3) := by decide +kernel
theorem d_X9_relief_57 : decode cX9_relief 57 = .ok (.iload_n 3, 1) := by decide +kernel
theorem d_X9_relief_58 : decode cX9_relief 58 = .ok (.iaload, 1) := by decide +kernel
theorem d_X9_relief_59 : decode cX9_relief 59 = .ok (.ifCond .le 29, 3) := by decide +kernel
theorem d_X9_relief_62 : decode cX9_relief 62 = .ok (.aload_n 0, 1) := by decide +kernel
theorem d_X9_relief_63 : decode cX9_relief 63 = .ok (.getfield 51, 3) := by decide +kernel
theorem d_X9_relief_66 : decode cX9_relief 66 = .ok (.iload_n 3, 1) := by decide +kernel
theorem d_X9_relief_67 : decode cX9_relief 67 = .ok (.aload_n 0, 1) := by decide +kernel
theorem d_X9_relief_68 : decode cX9_relief 68 = .ok (.getfield 44, 3) := by decide +kernel
theorem d_X9_relief_71 : decode cX9_relief 71 = .ok (.aload_n 0, 1) := by decide +kernel
theorem d_X9_relief_72 : decode cX9_relief 72 = .ok (.getfield 62, 3) := by decide +kernel
theorem d_X9_relief_75 : decode cX9_relief 75 = .ok (.iload_n 3, 1) := by decide +kernel
theorem d_X9_relief_76 : decode cX9_relief 76 = .ok (.aload_n 2, 1) := by decide +kernel
theorem d_X9_relief_77 : decode cX9_relief 77 = .ok (.getfield 184, 3) := by decide +kernel
theorem d_X9_relief_80 : decode cX9_relief 80 = .ok (.iload_n 3, 1) := by decide +kernel
theorem d_X9_relief_81 : decode cX9_relief 81 = .ok (.iaload, 1) := by decide +kernel
theorem d_X9_relief_82 : decode cX9_relief 82 = .ok (.invokevirtual 346, 3) := by decide +kernel
theorem d_X9_relief_85 : decode cX9_relief 85 = .ok (.invokevirtual 260, 3) := by decide +kernel
theorem d_X9_relief_88 : decode cX9_relief 88 = .ok (.iinc 3 1, 3) := by decide +kernel
theorem d_X9_relief_91 : decode cX9_relief 91 = .ok (.goto (-44), 3) := by decide +kernel
theorem d_X9_relief_94 : decode cX9_relief 94 = .ok (.aload_n 0, 1) := by decide +kernel
theorem d_X9_relief_95 : decode cX9_relief 95 = .ok (.getfield 51, 3) := by decide +kernel
theorem d_X9_relief_98 : decode cX9_relief 98 = .ok (.iload_n 1, 1) := by decide +kernel
theorem d_X9_relief_99 : decode cX9_relief 99 = .ok (.invokevirtual 263, 3) := by decide +kernel
theorem d_X9_relief_102 : decode cX9_relief 102 = .ok (.ireturn, 1) := by decide +kernel
noncomputable def F_X9_relief_88 (p0 : Int32) (self47 : Int32 → Int32 → zMem → Option (Nat × Int32 × zMem)) (b88_L1 : Int32) (b88_L3 : Int32) (M : zMem) : Option (Nat × Int32 × zMem) :=
  self47 b88_L1 (b88_L3 + 1) M
noncomputable def F_X9_relief_47 (p0 : Int32) (self47 : Int32 → Int32 → zMem → Option (Nat × Int32 × zMem)) (b47_L1 : Int32) (b47_L3 : Int32) (M : zMem) : Option (Nat × Int32 × zMem) :=
  if (64 : Int32) ≤ b47_L3 then
    zb (F_X0_placeOrAmount M 172 b47_L1) fun v2 M1 =>
    some (0, v2, M1)
  else
    gin b47_L3 64 <|
    if (M.1 7 b47_L3.toNatClampNeg) ≤ 0 then
      F_X9_relief_88 p0 self47 b47_L1 b47_L3 M
    else
      gd (shX (M.2.2 0 8) == 6) <|
      zb (F_X6_aloneBy M 104 (M.2.2 0 8) b47_L3 (M.1 7 b47_L3.toNatClampNeg)) fun v6 M5 =>
      zbv (F_X0_offerMost M5 172 b47_L3 v6) fun M7 =>
      F_X9_relief_88 p0 self47 b47_L1 b47_L3 M7
noncomputable def F_X9_relief_15 (p0 : Int32) (b15_L1 : Int32) (b15_S1 : Int32) (M : zMem) : Option (Nat × Int32 × zMem) :=
  zbx (F_X9_need M b15_S1) (g := zxp) fun _ M8 =>
  gd (shX (M8.2.2 0 8) == 6) <|
  zbv (F_X6_learnAlone M8 104 (M8.2.2 0 8) 4) fun M14 =>
  zbv (F_X0_clear M14 172) fun M15 =>
  itF (fun _ _ _ => none) (F_X9_relief_47 p0) zFuel b15_L1 (0 : Int32) M15
noncomputable def F_X9_relief (M : zMem) (p0 : Int32) : Option (Nat × Int32 × zMem) :=
  if p0 = 0 then
    F_X9_relief_15 p0 p0 (1 : Int32) M
  else
    if p0 = (1 : Int32) then
      F_X9_relief_15 p0 p0 (1 : Int32) M
    else
      F_X9_relief_15 p0 p0 (0 : Int32) M
def rm_X9_relief : Room := { frames := 10, cells := 1, slots := 6, locals := 161 }
set_option maxHeartbeats 4000000 in
set_option maxRecDepth 100000 in
theorem c_X9_relief (l : Launch) {G : zG} {ad : Nat → Nat} {n : Nat} (hA : zInj ad n) (M : zMem) (p0 : Int32) (hl : l.stackTraces = false) (hT : zT shX n 0 10) {k9 : Nat} {r9 : Int32} {M9 : zMem} (hF : F_X9_relief M p0 = some (k9, r9, M9)) : zMX l yX9_relief cX9_relief 4 (some .int) rm_X9_relief 1 6 G shX ad n M [.ref (ad 0), .int p0] k9 (some (.int r9)) M9 := by
  refine zM_ofX hA (by decide +kernel) (lv := [(0, .ref (ad 0)), (1, .int p0)]) (Nat.le_of_ble_eq_true rfl) rfl (fun p e s m args below meth c A cx hr ht => ?_)
  have hb88 : ∀ (self47 : Int32 → Int32 → zMem → Option (Nat × Int32 × zMem)) (hs47 : ∀ (b47_L1 : Int32) (b47_L3 : Int32) (M : zMem), self47 b47_L1 b47_L3 M = some (k9, r9, M9) → zJ p l e rm_X9_relief s m args below meth c G shX ad n A 4 (vx_MQ below (zQX G shX ad n M9 k9 (some (.int r9)) A) (zXC G shX ad n M9 k9 A) args s 1 6 A) 1 6 M 47 [(0, .ref (ad 0)), (1, .int b47_L1), (2, .ref (ad 4)), (3, .int b47_L3)] []), ∀ (b88_L1 : Int32) (b88_L3 : Int32) (M : zMem), F_X9_relief_88 p0 self47 b88_L1 b88_L3 M = some (k9, r9, M9) → zJ p l e rm_X9_relief s m args below meth c G shX ad n A 4 (vx_MQ below (zQX G shX ad n M9 k9 (some (.int r9)) A) (zXC G shX ad n M9 k9 A) args s 1 6 A) 1 6 M 88 [(0, .ref (ad 0)), (1, .int b88_L1), (2, .ref (ad 4)), (3, .int b88_L3)] [] := by
    intro self47 hs47 b88_L1 b88_L3 M hF
    unfold F_X9_relief_88 at hF
    refine z_iinc cx 3 1 [(3, .int (b88_L3 + 1)), (0, .ref (ad 0)), (1, .int b88_L1), (2, .ref (ad 4))] d_X9_relief_88 3 rfl ki_1 (by decide) rfl ?_
    refine z_goto cx 47 d_X9_relief_91 (by decide) ?_
    exact z_lv [1, 2, 3, 0] _ rfl (hs47 b88_L1 (b88_L3 + 1) M hF)
  have hL47 : ∀ (fuel : Nat), ∀ (b47_L1 : Int32) (b47_L3 : Int32) (M : zMem), itF (fun _ _ _ => none) (F_X9_relief_47 p0) fuel b47_L1 b47_L3 M = some (k9, r9, M9) → zJ p l e rm_X9_relief s m args below meth c G shX ad n A 4 (vx_MQ below (zQX G shX ad n M9 k9 (some (.int r9)) A) (zXC G shX ad n M9 k9 A) args s 1 6 A) 1 6 M 47 [(0, .ref (ad 0)), (1, .int b47_L1), (2, .ref (ad 4)), (3, .int b47_L3)] [] := by
    intro fuel
    induction fuel with
    | zero => intro b47_L1 b47_L3 M hF; cases hF
    | succ fuel hs47 =>
      intro b47_L1 b47_L3 M hF
      have hF : F_X9_relief_47 p0 (itF (fun _ _ _ => none) (F_X9_relief_47 p0) fuel) b47_L1 b47_L3 M = some (k9, r9, M9) := hF
      generalize itF (fun _ _ _ => none) (F_X9_relief_47 p0) fuel = self47 at hs47 hF
      unfold F_X9_relief_47 at hF
      refine z_iload_n cx d_X9_relief_47 3 rfl ?_
      refine z_bipush (v := 64) cx d_X9_relief_48 kb_64 ?_
      refine z_icmp_ge cx 94 d_X9_relief_50 (by decide) hF (fun hF => ?_) (fun hF => ?_)
      · refine z_aload_n cx d_X9_relief_94 0 rfl ?_
        refine z_getR cx hT fg_SunnyPans_51 172 rfl d_X9_relief_95 ?_
        refine z_iload_n cx d_X9_relief_98 1 rfl ?_
        obtain ⟨v2, M1, hc, hF⟩ := zb_inv hF
        refine z_callV cx (As := [.int b47_L1]) (rest := []) (c_X0_placeOrAmount l cx.2.2.2.1.1 M 172 b47_L1 (tfX_10_172 hT) hc) (tfX_10_172 hT) zo_1 cv_SunnyPans_263 ⟨rfl, rfl, Nat.le_of_ble_eq_true rfl, Nat.le_of_ble_eq_true rfl⟩ rfl rfl ⟨Nat.le_of_ble_eq_true rfl, Nat.le_of_ble_eq_true rfl⟩ (Nat.le_of_ble_eq_true rfl) d_X9_relief_99 ?_
        exact z_iretX cx hr rfl hF ⟨Nat.le_of_ble_eq_true rfl, Nat.le_of_ble_eq_true rfl⟩ d_X9_relief_102
      refine z_aload_n cx d_X9_relief_53 2 rfl ?_
      refine z_getR cx (tfX_8_1 (tfX_10_3 hT)) fg_SunnyPans_184 7 rfl d_X9_relief_54 ?_
      refine z_iload_n cx d_X9_relief_57 3 rfl ?_
      obtain ⟨hi3, hF⟩ := gin_inv hF
      refine z_iald cx (tfX_5_3 (tfX_8_1 (tfX_10_3 hT))) za_16 hi3 b47_L3.toNatClampNeg rfl d_X9_relief_58 ?_
      refine z_if_le cx 88 d_X9_relief_59 (by decide) hF (fun hF => ?_) (fun hF => ?_)
      · exact hb88 self47 hs47 b47_L1 b47_L3 M hF
      refine z_aload_n cx d_X9_relief_62 0 rfl ?_
      refine z_getR cx hT fg_SunnyPans_51 172 rfl d_X9_relief_63 ?_
      refine z_iload_n cx d_X9_relief_66 3 rfl ?_
      refine z_aload_n cx d_X9_relief_67 0 rfl ?_
      refine z_getR cx hT fg_SunnyPans_44 104 rfl d_X9_relief_68 ?_
      refine z_aload_n cx d_X9_relief_71 0 rfl ?_
      obtain ⟨hg4, hF⟩ := gd_inv hF
      refine z_getD cx hT fg_SunnyPans_62 d_X9_relief_72 ?_
      refine z_iload_n cx d_X9_relief_75 3 rfl ?_
      refine z_aload_n cx d_X9_relief_76 2 rfl ?_
      refine z_getR cx (tfX_8_1 (tfX_10_3 hT)) fg_SunnyPans_184 7 rfl d_X9_relief_77 ?_
      refine z_iload_n cx d_X9_relief_80 3 rfl ?_
      refine z_iald cx (tfX_5_3 (tfX_8_1 (tfX_10_3 hT))) za_16 hi3 b47_L3.toNatClampNeg rfl d_X9_relief_81 ?_
      obtain ⟨v6, M5, hc, hF⟩ := zb_inv hF
      refine z_callV cx (As := [.ref (ad (M.2.2 0 8)), .int b47_L3, .int (M.1 7 b47_L3.toNatClampNeg)]) (rest := [.int b47_L3, .ref (ad 172)]) (c_X6_aloneBy l cx.2.2.2.1.1 M 104 (M.2.2 0 8) b47_L3 (M.1 7 b47_L3.toNatClampNeg) (tfX_10_104 hT) (td_6 hT hg4) hc) (tfX_10_104 hT) zo_7 cv_SunnyPans_346 ⟨rfl, rfl, Nat.le_of_ble_eq_true rfl, Nat.le_of_ble_eq_true rfl⟩ rfl rfl ⟨Nat.le_of_ble_eq_true rfl, Nat.le_of_ble_eq_true rfl⟩ (Nat.le_of_ble_eq_true rfl) d_X9_relief_82 ?_
      obtain ⟨M7, hc, hF⟩ := zbv_inv hF
      refine z_callV cx (As := [.int b47_L3, .int v6]) (rest := []) (c_X0_offerMost l cx.2.2.2.1.1 M5 172 b47_L3 v6 (tfX_10_172 hT) hc) (tfX_10_172 hT) zo_1 cv_SunnyPans_260 ⟨rfl, rfl, Nat.le_of_ble_eq_true rfl, Nat.le_of_ble_eq_true rfl⟩ rfl rfl ⟨Nat.le_of_ble_eq_true rfl, Nat.le_of_ble_eq_true rfl⟩ (Nat.le_of_ble_eq_true rfl) d_X9_relief_85 ?_
      exact hb88 self47 hs47 b47_L1 b47_L3 M7 hF
  have hb15 : ∀ (b15_L1 : Int32) (b15_S1 : Int32) (M : zMem), F_X9_relief_15 p0 b15_L1 b15_S1 M = some (k9, r9, M9) → zJ p l e rm_X9_relief s m args below meth c G shX ad n A 4 (vx_MQ below (zQX G shX ad n M9 k9 (some (.int r9)) A) (zXC G shX ad n M9 k9 A) args s 1 6 A) 0 0 M 15 [(0, .ref (ad 0)), (1, .int b15_L1)] [.int b15_S1, .ref (ad 0)] := by
    intro b15_L1 b15_S1 M hF
    unfold F_X9_relief_15 at hF
    obtain ⟨k9, v10, M8, hc, hF, hX11⟩ := zbx_inv hF
    refine z_callVX cx ht (As := [.int b15_S1]) (rest := []) (c_X9_need l cx.2.2.2.1.1 M b15_S1 hl hT hc) (fun q => zxp_inv (hX11 q)) hT zo_10 cv_SunnyPans_155 ⟨rfl, rfl, Nat.le_of_ble_eq_true rfl, Nat.le_of_ble_eq_true rfl⟩ rfl rfl ⟨Nat.le_of_ble_eq_true rfl, Nat.le_of_ble_eq_true rfl⟩ ⟨Nat.le_of_ble_eq_true rfl, Nat.le_of_ble_eq_true rfl⟩ (Nat.le_of_ble_eq_true rfl) d_X9_relief_15 (fun kq12 => ?_)
    have hF := hF kq12
    refine z_aload_n cx d_X9_relief_18 0 rfl ?_
    refine z_getR cx hT fg_SunnyPans_19 3 rfl d_X9_relief_19 ?_
    refine z_getR cx (tfX_10_3 hT) fg_SunnyPans_159 4 rfl d_X9_relief_22 ?_
    refine z_astore_n cx 2 [(2, .ref (ad 4)), (0, .ref (ad 0)), (1, .int b15_L1)] d_X9_relief_25 rfl (by decide) rfl ?_
    refine z_aload_n cx d_X9_relief_26 1 rfl ?_
    refine z_getR cx hT fg_SunnyPans_44 104 rfl d_X9_relief_27 ?_
    refine z_aload_n cx d_X9_relief_30 1 rfl ?_
    obtain ⟨hg13, hF⟩ := gd_inv hF
    refine z_getD cx hT fg_SunnyPans_62 d_X9_relief_31 ?_
    refine z_aload_n cx d_X9_relief_34 0 rfl ?_
    obtain ⟨M14, hc, hF⟩ := zbv_inv hF
    refine z_callV cx (As := [.ref (ad (M8.2.2 0 8)), .ref (ad 4)]) (rest := []) (c_X6_learnAlone l cx.2.2.2.1.1 M8 104 (M8.2.2 0 8) 4 (tfX_10_104 hT) (td_6 hT hg13) (tfX_8_1 (tfX_10_3 hT)) hc) (tfX_10_104 hT) zo_7 cv_SunnyPans_342 ⟨rfl, rfl, Nat.le_of_ble_eq_true rfl, Nat.le_of_ble_eq_true rfl⟩ rfl rfl ⟨Nat.le_of_ble_eq_true rfl, Nat.le_of_ble_eq_true rfl⟩ (Nat.le_of_ble_eq_true rfl) d_X9_relief_35 ?_
    refine z_aload_n cx d_X9_relief_38 1 rfl ?_
    refine z_getR cx hT fg_SunnyPans_51 172 rfl d_X9_relief_39 ?_
    obtain ⟨M15, hc, hF⟩ := zbv_inv hF
    refine z_callV cx (As := []) (rest := []) (c_X0_clear l cx.2.2.2.1.1 M14 172 (tfX_10_172 hT) hc) (tfX_10_172 hT) zo_1 cv_SunnyPans_259 ⟨rfl, rfl, Nat.le_of_ble_eq_true rfl, Nat.le_of_ble_eq_true rfl⟩ rfl rfl ⟨Nat.le_of_ble_eq_true rfl, Nat.le_of_ble_eq_true rfl⟩ (Nat.le_of_ble_eq_true rfl) d_X9_relief_42 ?_
    refine z_iconst (v := 0) cx d_X9_relief_45 ki_0 ?_
    refine z_istore_n cx 3 [(3, .int (0 : Int32)), (2, .ref (ad 4)), (0, .ref (ad 0)), (1, .int b15_L1)] d_X9_relief_46 rfl (by decide) rfl ?_
    exact z_lv [2, 3, 1, 0] _ rfl (hL47 zFuel b15_L1 (0 : Int32) M15 hF)
  unfold F_X9_relief at hF
  refine z_aload_n cx d_X9_relief_0 0 rfl ?_
  refine z_iload_n cx d_X9_relief_1 1 rfl ?_
  refine z_if_eq cx 10 d_X9_relief_2 (by decide) hF (fun hF => ?_) (fun hF => ?_)
  · refine z_iconst (v := 1) cx d_X9_relief_10 ki_1 ?_
    refine z_goto cx 15 d_X9_relief_11 (by decide) ?_
    exact hb15 p0 (1 : Int32) M hF
  refine z_iload_n cx d_X9_relief_5 1 rfl ?_
  refine z_iconst (v := 1) cx d_X9_relief_6 ki_1 ?_
  refine z_icmp_ne cx 14 d_X9_relief_7 (by decide) hF (fun hF => ?_) (fun hF => ?_)
  · refine z_iconst (v := 0) cx d_X9_relief_14 ki_0 ?_
    exact hb15 p0 (0 : Int32) M hF
  refine z_iconst (v := 1) cx d_X9_relief_10 ki_1 ?_
  refine z_goto cx 15 d_X9_relief_11 (by decide) ?_
  exact hb15 p0 (1 : Int32) M hF
/-! SunnyPans.brineAfterDay -/
set_option maxRecDepth 100000 in
theorem wd_1233 : Cond.methodLink "SunnyPans" 379 yX6_addedAt ∈ tbG := tw5 173 rfl rfl
theorem cv_SunnyPans_379 : zCV "SunnyPans" 379 "SunnyPans$Shadows" yX6_addedAt cX6_addedAt 3 (some .long) 2 := zCV_of wd_1233 wd_1169 wd_1170 wd_106 wd_1171 (by decide +kernel)
theorem d_X9_brineAfterDay_0 : decode cX9_brineAfterDay 0 = .ok (.aload_n 0, 1) := by decide +kernel
theorem d_X9_brineAfterDay_1 : decode cX9_brineAfterDay 1 = .ok (.getfield 19, 3) := by decide +kernel
theorem d_X9_brineAfterDay_4 : decode cX9_brineAfterDay 4 = .ok (.getfield 159, 3) := by decide +kernel
theorem d_X9_brineAfterDay_7 : decode cX9_brineAfterDay 7 = .ok (.astore_n 3, 1) := by decide +kernel
theorem d_X9_brineAfterDay_8 : decode cX9_brineAfterDay 8 = .ok (.aload_n 3, 1) := by decide +kernel
theorem d_X9_brineAfterDay_9 : decode cX9_brineAfterDay 9 = .ok (.getfield 174, 3) := by decide +kernel
theorem d_X9_brineAfterDay_12 : decode cX9_brineAfterDay 12 = .ok (.iload_n 1, 1) := by decide +kernel
theorem d_X9_brineAfterDay_13 : decode cX9_brineAfterDay 13 = .ok (.iaload, 1) := by decide +kernel
theorem d_X9_brineAfterDay_14 : decode cX9_brineAfterDay 14 = .ok (.istore 4, 2) := by decide +kernel
theorem d_X9_brineAfterDay_16 : decode cX9_brineAfterDay 16 = .ok (.aload_n 3, 1) := by decide +kernel
theorem d_X9_brineAfterDay_17 : decode cX9_brineAfterDay 17 = .ok (.getfield 171, 3) := by decide +kernel
theorem d_X9_brineAfterDay_20 : decode cX9_brineAfterDay 20 = .ok (.istore 5, 2) := by decide +kernel
theorem d_X9_brineAfterDay_22 : decode cX9_brineAfterDay 22 = .ok (.aload_n 3, 1) := by decide +kernel
theorem d_X9_brineAfterDay_23 : decode cX9_brineAfterDay 23 = .ok (.getfield 168, 3) := by decide +kernel
theorem d_X9_brineAfterDay_26 : decode cX9_brineAfterDay 26 = .ok (.istore 6, 2) := by decide +kernel
theorem d_X9_brineAfterDay_28 : decode cX9_brineAfterDay 28 = .ok (.iconst 0, 1) := by decide +kernel
theorem d_X9_brineAfterDay_29 : decode cX9_brineAfterDay 29 = .ok (.istore 7, 2) := by decide +kernel
theorem d_X9_brineAfterDay_31 : decode cX9_brineAfterDay 31 = .ok (.iload 7, 2) := by decide +kernel
theorem d_X9_brineAfterDay_33 : decode cX9_brineAfterDay 33 = .ok (.aload_n 0, 1) := by decide +kernel
theorem d_X9_brineAfterDay_34 : decode cX9_brineAfterDay 34 = .ok (.getfield 62, 3) := by decide +kernel
theorem d_X9_brineAfterDay_37 : decode cX9_brineAfterDay 37 = .ok (.getfield 127, 3) := by decide +kernel
theorem d_X9_brineAfterDay_40 : decode cX9_brineAfterDay 40 = .ok (.if_icmp .ge 69, 3) := by decide +kernel
theorem d_X9_brineAfterDay_43 : decode cX9_brineAfterDay 43 = .ok (.iload 4, 2) := by decide +kernel
theorem d_X9_brineAfterDay_45 : decode cX9_brineAfterDay 45 = .ok (.ifCond .le 64, 3) := by decide +kernel
theorem d_X9_brineAfterDay_48 : decode cX9_brineAfterDay 48 = .ok (.aload_n 0, 1) := by decide +kernel
theorem d_X9_brineAfterDay_49 : decode cX9_brineAfterDay 49 = .ok (.getfield 44, 3) := by decide +kernel
theorem d_X9_brineAfterDay_52 : decode cX9_brineAfterDay 52 = .ok (.iload_n 2, 1) := by decide +kernel
theorem d_X9_brineAfterDay_53 : decode cX9_brineAfterDay 53 = .ok (.iload 5, 2) := by decide +kernel
theorem d_X9_brineAfterDay_55 : decode cX9_brineAfterDay 55 = .ok (.invokevirtual 379, 3) := by decide +kernel
theorem d_X9_brineAfterDay_58 : decode cX9_brineAfterDay 58 = .ok (.iload_n 1, 1) := by decide +kernel
theorem d_X9_brineAfterDay_59 : decode cX9_brineAfterDay 59 = .ok (.invokestatic 231, 3) := by decide +kernel
theorem d_X9_brineAfterDay_62 : decode cX9_brineAfterDay 62 = .ok (.ifCond .ne 20, 3) := by decide +kernel
theorem d_X9_brineAfterDay_65 : decode cX9_brineAfterDay 65 = .ok (.iload 4, 2) := by decide +kernel
theorem d_X9_brineAfterDay_67 : decode cX9_brineAfterDay 67 = .ok (.aload_n 0, 1) := by decide +kernel
theorem d_X9_brineAfterDay_68 : decode cX9_brineAfterDay 68 = .ok (.aload_n 3, 1) := by decide +kernel
theorem d_X9_brineAfterDay_69 : decode cX9_brineAfterDay 69 = .ok (.iload_n 1, 1) := by decide +kernel
theorem d_X9_brineAfterDay_70 : decode cX9_brineAfterDay 70 = .ok (.iload 4, 2) := by decide +kernel
theorem d_X9_brineAfterDay_72 : decode cX9_brineAfterDay 72 = .ok (.iload 5, 2) := by decide +kernel
theorem d_X9_brineAfterDay_74 : decode cX9_brineAfterDay 74 = .ok (.iload 6, 2) := by decide +kernel
theorem d_X9_brineAfterDay_76 : decode cX9_brineAfterDay 76 = .ok (.invokevirtual 326, 3) := by decide +kernel
theorem d_X9_brineAfterDay_79 : decode cX9_brineAfterDay 79 = .ok (.isub, 1) := by decide +kernel
theorem d_X9_brineAfterDay_80 : decode cX9_brineAfterDay 80 = .ok (.istore 4, 2) := by decide +kernel
theorem d_X9_brineAfterDay_82 : decode cX9_brineAfterDay 82 = .ok (.iinc 5 1, 3) := by decide +kernel
theorem d_X9_brineAfterDay_85 : decode cX9_brineAfterDay 85 = .ok (.iload 5, 2) := by decide +kernel
theorem d_X9_brineAfterDay_87 : decode cX9_brineAfterDay 87 = .ok (.aload_n 0, 1) := by decide +kernel
theorem d_X9_brineAfterDay_88 : decode cX9_brineAfterDay 88 = .ok (.getfield 62, 3) := by decide +kernel
theorem d_X9_brineAfterDay_91 : decode cX9_brineAfterDay 91 = .ok (.getfield 127, 3) := by decide +kernel
theorem d_X9_brineAfterDay_94 : decode cX9_brineAfterDay 94 = .ok (.if_icmp .lt 9, 3) := by decide +kernel
theorem d_X9_brineAfterDay_97 : decode cX9_brineAfterDay 97 = .ok (.iconst 0, 1) := by decide +kernel
theorem d_X9_brineAfterDay_98 : decode cX9_brineAfterDay 98 = .ok (.istore 5, 2) := by decide +kernel
theorem d_X9_brineAfterDay_100 : decode cX9_brineAfterDay 100 = .ok (.iinc 6 1, 3) := by decide +kernel
theorem d_X9_brineAfterDay_103 : decode cX9_brineAfterDay 103 = .ok (.iinc 7 1, 3) := by decide +kernel
theorem d_X9_brineAfterDay_106 : decode cX9_brineAfterDay 106 = .ok (.goto (-75), 3) := by decide +kernel
theorem d_X9_brineAfterDay_109 : decode cX9_brineAfterDay 109 = .ok (.iload 4, 2) := by decide +kernel
theorem d_X9_brineAfterDay_111 : decode cX9_brineAfterDay 111 = .ok (.ireturn, 1) := by decide +kernel
noncomputable def F_X9_brineAfterDay_103 (p0 : Int32) (p1 : Int32) (self31 : Int32 → Int32 → Int32 → Int32 → Int32 → Int32 → zMem → Option (Int32 × zMem)) (b103_L1 : Int32) (b103_L2 : Int32) (b103_L4 : Int32) (b103_L5 : Int32) (b103_L6 : Int32) (b103_L7 : Int32) (M : zMem) : Option (Int32 × zMem) :=
  self31 b103_L1 b103_L2 b103_L4 b103_L5 b103_L6 (b103_L7 + 1) M
noncomputable def F_X9_brineAfterDay_82 (p0 : Int32) (p1 : Int32) (self31 : Int32 → Int32 → Int32 → Int32 → Int32 → Int32 → zMem → Option (Int32 × zMem)) (b82_L1 : Int32) (b82_L2 : Int32) (b82_L4 : Int32) (b82_L5 : Int32) (b82_L6 : Int32) (b82_L7 : Int32) (M : zMem) : Option (Int32 × zMem) :=
  gd (shX (M.2.2 0 8) == 6) <|
  if (b82_L5 + 1) < (M.1 (M.2.2 0 8) 2) then
    F_X9_brineAfterDay_103 p0 p1 self31 b82_L1 b82_L2 b82_L4 (b82_L5 + 1) b82_L6 b82_L7 M
  else
    F_X9_brineAfterDay_103 p0 p1 self31 b82_L1 b82_L2 b82_L4 (0 : Int32) (b82_L6 + 1) b82_L7 M
noncomputable def F_X9_brineAfterDay_31 (p0 : Int32) (p1 : Int32) (self31 : Int32 → Int32 → Int32 → Int32 → Int32 → Int32 → zMem → Option (Int32 × zMem)) (b31_L1 : Int32) (b31_L2 : Int32) (b31_L4 : Int32) (b31_L5 : Int32) (b31_L6 : Int32) (b31_L7 : Int32) (M : zMem) : Option (Int32 × zMem) :=
  gd (shX (M.2.2 0 8) == 6) <|
  if (M.1 (M.2.2 0 8) 2) ≤ b31_L7 then
    some (b31_L4, M)
  else
    if b31_L4 ≤ 0 then
      some (b31_L4, M)
    else
      zb (F_X6_addedAt M 104 b31_L2 b31_L5) fun v4 M3 =>
      zb (F_X9_has M3 v4 b31_L1) fun v6 M5 =>
      if v6 = 0 then
        zb (F_X9_lossOf M5 4 b31_L1 b31_L4 b31_L5 b31_L6) fun v8 M7 =>
        zl (b31_L4 - v8) fun v9 =>
        F_X9_brineAfterDay_82 p0 p1 self31 b31_L1 b31_L2 v9 b31_L5 b31_L6 b31_L7 M7
      else
        F_X9_brineAfterDay_82 p0 p1 self31 b31_L1 b31_L2 b31_L4 b31_L5 b31_L6 b31_L7 M5
noncomputable def F_X9_brineAfterDay (M : zMem) (p0 : Int32) (p1 : Int32) : Option (Int32 × zMem) :=
  gin p0 64 <|
  zl (M.1 5 p0.toNatClampNeg) fun v11 =>
  zl (M.1 4 5) fun v12 =>
  zl (M.1 4 4) fun v13 =>
  itF (fun _ _ _ _ _ _ _ => none) (F_X9_brineAfterDay_31 p0 p1) zFuel p0 p1 v11 v12 v13 (0 : Int32) M
def rm_X9_brineAfterDay : Room := { frames := 6, cells := 0, slots := 0, locals := 158 }
set_option maxHeartbeats 4000000 in
set_option maxRecDepth 100000 in
theorem c_X9_brineAfterDay (l : Launch) {G : zG} {ad : Nat → Nat} {n : Nat} (hA : zInj ad n) (M : zMem) (p0 : Int32) (p1 : Int32) (hT : zT shX n 0 10) {r9 : Int32} {M9 : zMem} (hF : F_X9_brineAfterDay M p0 p1 = some (r9, M9)) : zM l yX9_brineAfterDay cX9_brineAfterDay 8 (some .int) rm_X9_brineAfterDay G shX ad n M [.ref (ad 0), .int p0, .int p1] (some (.int r9)) M9 := by
  refine zM_of hA (by decide +kernel) (lv := [(0, .ref (ad 0)), (1, .int p0), (2, .int p1)]) (Nat.le_of_ble_eq_true rfl) rfl (fun p e s m args below meth c A cx hr => ?_)
  have hb103 : ∀ (self31 : Int32 → Int32 → Int32 → Int32 → Int32 → Int32 → zMem → Option (Int32 × zMem)) (hs31 : ∀ (b31_L1 : Int32) (b31_L2 : Int32) (b31_L4 : Int32) (b31_L5 : Int32) (b31_L6 : Int32) (b31_L7 : Int32) (M : zMem), self31 b31_L1 b31_L2 b31_L4 b31_L5 b31_L6 b31_L7 M = some (r9, M9) → zJ p l e rm_X9_brineAfterDay s m args below meth c G shX ad n A 8 (MQ below (zQ G shX ad n M9 (some (.int r9)) A) args s 0 0 A) 0 0 M 31 [(0, .ref (ad 0)), (1, .int b31_L1), (2, .int b31_L2), (3, .ref (ad 4)), (4, .int b31_L4), (5, .int b31_L5), (6, .int b31_L6), (7, .int b31_L7)] []), ∀ (b103_L1 : Int32) (b103_L2 : Int32) (b103_L4 : Int32) (b103_L5 : Int32) (b103_L6 : Int32) (b103_L7 : Int32) (M : zMem), F_X9_brineAfterDay_103 p0 p1 self31 b103_L1 b103_L2 b103_L4 b103_L5 b103_L6 b103_L7 M = some (r9, M9) → zJ p l e rm_X9_brineAfterDay s m args below meth c G shX ad n A 8 (MQ below (zQ G shX ad n M9 (some (.int r9)) A) args s 0 0 A) 0 0 M 103 [(0, .ref (ad 0)), (1, .int b103_L1), (2, .int b103_L2), (3, .ref (ad 4)), (4, .int b103_L4), (5, .int b103_L5), (6, .int b103_L6), (7, .int b103_L7)] [] := by
    intro self31 hs31 b103_L1 b103_L2 b103_L4 b103_L5 b103_L6 b103_L7 M hF
    unfold F_X9_brineAfterDay_103 at hF
    refine z_iinc cx 7 1 [(7, .int (b103_L7 + 1)), (0, .ref (ad 0)), (1, .int b103_L1), (2, .int b103_L2), (3, .ref (ad 4)), (4, .int b103_L4), (5, .int b103_L5), (6, .int b103_L6)] d_X9_brineAfterDay_103 7 rfl ki_1 (by decide) rfl ?_
    refine z_goto cx 31 d_X9_brineAfterDay_106 (by decide) ?_
    exact z_lv [1, 2, 3, 4, 5, 6, 7, 0] _ rfl (hs31 b103_L1 b103_L2 b103_L4 b103_L5 b103_L6 (b103_L7 + 1) M hF)
  have hb82 : ∀ (self31 : Int32 → Int32 → Int32 → Int32 → Int32 → Int32 → zMem → Option (Int32 × zMem)) (hs31 : ∀ (b31_L1 : Int32) (b31_L2 : Int32) (b31_L4 : Int32) (b31_L5 : Int32) (b31_L6 : Int32) (b31_L7 : Int32) (M : zMem), self31 b31_L1 b31_L2 b31_L4 b31_L5 b31_L6 b31_L7 M = some (r9, M9) → zJ p l e rm_X9_brineAfterDay s m args below meth c G shX ad n A 8 (MQ below (zQ G shX ad n M9 (some (.int r9)) A) args s 0 0 A) 0 0 M 31 [(0, .ref (ad 0)), (1, .int b31_L1), (2, .int b31_L2), (3, .ref (ad 4)), (4, .int b31_L4), (5, .int b31_L5), (6, .int b31_L6), (7, .int b31_L7)] []), ∀ (b82_L1 : Int32) (b82_L2 : Int32) (b82_L4 : Int32) (b82_L5 : Int32) (b82_L6 : Int32) (b82_L7 : Int32) (M : zMem), F_X9_brineAfterDay_82 p0 p1 self31 b82_L1 b82_L2 b82_L4 b82_L5 b82_L6 b82_L7 M = some (r9, M9) → zJ p l e rm_X9_brineAfterDay s m args below meth c G shX ad n A 8 (MQ below (zQ G shX ad n M9 (some (.int r9)) A) args s 0 0 A) 0 0 M 82 [(0, .ref (ad 0)), (1, .int b82_L1), (2, .int b82_L2), (3, .ref (ad 4)), (4, .int b82_L4), (5, .int b82_L5), (6, .int b82_L6), (7, .int b82_L7)] [] := by
    intro self31 hs31 b82_L1 b82_L2 b82_L4 b82_L5 b82_L6 b82_L7 M hF
    unfold F_X9_brineAfterDay_82 at hF
    refine z_iinc cx 5 1 [(5, .int (b82_L5 + 1)), (0, .ref (ad 0)), (1, .int b82_L1), (2, .int b82_L2), (3, .ref (ad 4)), (4, .int b82_L4), (6, .int b82_L6), (7, .int b82_L7)] d_X9_brineAfterDay_82 5 rfl ki_1 (by decide) rfl ?_
    refine z_iload cx d_X9_brineAfterDay_85 0 rfl ?_
    refine z_aload_n cx d_X9_brineAfterDay_87 1 rfl ?_
    obtain ⟨hg1, hF⟩ := gd_inv hF
    refine z_getD cx hT fg_SunnyPans_62 d_X9_brineAfterDay_88 ?_
    refine z_getI cx (td_6 hT hg1) fg_SunnyPans_127 d_X9_brineAfterDay_91 ?_
    refine z_icmp_lt cx 103 d_X9_brineAfterDay_94 (by decide) hF (fun hF => ?_) (fun hF => ?_)
    · exact z_lv [1, 2, 3, 4, 5, 0, 6, 7] _ rfl (hb103 self31 hs31 b82_L1 b82_L2 b82_L4 (b82_L5 + 1) b82_L6 b82_L7 M hF)
    refine z_iconst (v := 0) cx d_X9_brineAfterDay_97 ki_0 ?_
    refine z_istore cx 5 [(5, .int (0 : Int32)), (0, .ref (ad 0)), (1, .int b82_L1), (2, .int b82_L2), (3, .ref (ad 4)), (4, .int b82_L4), (6, .int b82_L6), (7, .int b82_L7)] d_X9_brineAfterDay_98 (by decide) rfl ?_
    refine z_iinc cx 6 1 [(6, .int (b82_L6 + 1)), (5, .int (0 : Int32)), (0, .ref (ad 0)), (1, .int b82_L1), (2, .int b82_L2), (3, .ref (ad 4)), (4, .int b82_L4), (7, .int b82_L7)] d_X9_brineAfterDay_100 6 rfl ki_1 (by decide) rfl ?_
    exact z_lv [2, 3, 4, 5, 6, 1, 0, 7] _ rfl (hb103 self31 hs31 b82_L1 b82_L2 b82_L4 (0 : Int32) (b82_L6 + 1) b82_L7 M hF)
  have hL31 : ∀ (fuel : Nat), ∀ (b31_L1 : Int32) (b31_L2 : Int32) (b31_L4 : Int32) (b31_L5 : Int32) (b31_L6 : Int32) (b31_L7 : Int32) (M : zMem), itF (fun _ _ _ _ _ _ _ => none) (F_X9_brineAfterDay_31 p0 p1) fuel b31_L1 b31_L2 b31_L4 b31_L5 b31_L6 b31_L7 M = some (r9, M9) → zJ p l e rm_X9_brineAfterDay s m args below meth c G shX ad n A 8 (MQ below (zQ G shX ad n M9 (some (.int r9)) A) args s 0 0 A) 0 0 M 31 [(0, .ref (ad 0)), (1, .int b31_L1), (2, .int b31_L2), (3, .ref (ad 4)), (4, .int b31_L4), (5, .int b31_L5), (6, .int b31_L6), (7, .int b31_L7)] [] := by
    intro fuel
    induction fuel with
    | zero => intro b31_L1 b31_L2 b31_L4 b31_L5 b31_L6 b31_L7 M hF; cases hF
    | succ fuel hs31 =>
      intro b31_L1 b31_L2 b31_L4 b31_L5 b31_L6 b31_L7 M hF
      have hF : F_X9_brineAfterDay_31 p0 p1 (itF (fun _ _ _ _ _ _ _ => none) (F_X9_brineAfterDay_31 p0 p1) fuel) b31_L1 b31_L2 b31_L4 b31_L5 b31_L6 b31_L7 M = some (r9, M9) := hF
      generalize itF (fun _ _ _ _ _ _ _ => none) (F_X9_brineAfterDay_31 p0 p1) fuel = self31 at hs31 hF
      unfold F_X9_brineAfterDay_31 at hF
      refine z_iload cx d_X9_brineAfterDay_31 7 rfl ?_
      refine z_aload_n cx d_X9_brineAfterDay_33 0 rfl ?_
      obtain ⟨hg2, hF⟩ := gd_inv hF
      refine z_getD cx hT fg_SunnyPans_62 d_X9_brineAfterDay_34 ?_
      refine z_getI cx (td_6 hT hg2) fg_SunnyPans_127 d_X9_brineAfterDay_37 ?_
      refine z_icmp_ge cx 109 d_X9_brineAfterDay_40 (by decide) hF (fun hF => ?_) (fun hF => ?_)
      · refine z_iload cx d_X9_brineAfterDay_109 4 rfl ?_
        exact z_iret cx hr rfl hF d_X9_brineAfterDay_111
      refine z_iload cx d_X9_brineAfterDay_43 4 rfl ?_
      refine z_if_le cx 109 d_X9_brineAfterDay_45 (by decide) hF (fun hF => ?_) (fun hF => ?_)
      · refine z_iload cx d_X9_brineAfterDay_109 4 rfl ?_
        exact z_iret cx hr rfl hF d_X9_brineAfterDay_111
      refine z_aload_n cx d_X9_brineAfterDay_48 0 rfl ?_
      refine z_getR cx hT fg_SunnyPans_44 104 rfl d_X9_brineAfterDay_49 ?_
      refine z_iload_n cx d_X9_brineAfterDay_52 2 rfl ?_
      refine z_iload cx d_X9_brineAfterDay_53 5 rfl ?_
      obtain ⟨v4, M3, hc, hF⟩ := zb_inv hF
      refine z_callV cx (As := [.int b31_L2, .int b31_L5]) (rest := []) (c_X6_addedAt l cx.2.2.2.1.1 M 104 b31_L2 b31_L5 (tfX_10_104 hT) hc) (tfX_10_104 hT) zo_7 cv_SunnyPans_379 ⟨rfl, rfl, Nat.le_of_ble_eq_true rfl, Nat.le_of_ble_eq_true rfl⟩ rfl rfl ⟨Nat.zero_le _, Nat.zero_le _⟩ (Nat.le_of_ble_eq_true rfl) d_X9_brineAfterDay_55 ?_
      refine z_iload_n cx d_X9_brineAfterDay_58 1 rfl ?_
      obtain ⟨v6, M5, hc, hF⟩ := zb_inv hF
      refine z_callS cx (As := [.long v4, .int b31_L1]) (rest := []) (c_X9_has l cx.2.2.2.1.1 M3 v4 b31_L1  hc) cs_SunnyPans_231 ⟨rfl, rfl, Nat.le_of_ble_eq_true rfl, Nat.le_of_ble_eq_true rfl⟩ rfl rfl ⟨Nat.zero_le _, Nat.zero_le _⟩ (Nat.le_of_ble_eq_true rfl) d_X9_brineAfterDay_59 ?_
      refine z_if_ne cx 82 d_X9_brineAfterDay_62 (by decide) hF (fun hF => ?_) (fun hF => ?_)
      · exact hb82 self31 hs31 b31_L1 b31_L2 b31_L4 b31_L5 b31_L6 b31_L7 M5 hF
      refine z_iload cx d_X9_brineAfterDay_65 4 rfl ?_
      refine z_aload_n cx d_X9_brineAfterDay_67 0 rfl ?_
      refine z_aload_n cx d_X9_brineAfterDay_68 3 rfl ?_
      refine z_iload_n cx d_X9_brineAfterDay_69 1 rfl ?_
      refine z_iload cx d_X9_brineAfterDay_70 4 rfl ?_
      refine z_iload cx d_X9_brineAfterDay_72 5 rfl ?_
      refine z_iload cx d_X9_brineAfterDay_74 6 rfl ?_
      obtain ⟨v8, M7, hc, hF⟩ := zb_inv hF
      refine z_callV cx (As := [.ref (ad 4), .int b31_L1, .int b31_L4, .int b31_L5, .int b31_L6]) (rest := [.int b31_L4]) (c_X9_lossOf l cx.2.2.2.1.1 M5 4 b31_L1 b31_L4 b31_L5 b31_L6 hT (tfX_8_1 (tfX_10_3 hT)) hc) hT zo_10 cv_SunnyPans_326 ⟨rfl, rfl, Nat.le_of_ble_eq_true rfl, Nat.le_of_ble_eq_true rfl⟩ rfl rfl ⟨Nat.zero_le _, Nat.zero_le _⟩ (Nat.le_of_ble_eq_true rfl) d_X9_brineAfterDay_76 ?_
      refine z_isub cx d_X9_brineAfterDay_79 ?_
      refine z_nm hF (fun v9 hF => ?_)
      refine z_istore cx 4 [(4, .int v9), (0, .ref (ad 0)), (1, .int b31_L1), (2, .int b31_L2), (3, .ref (ad 4)), (5, .int b31_L5), (6, .int b31_L6), (7, .int b31_L7)] d_X9_brineAfterDay_80 (by decide) rfl ?_
      exact z_lv [1, 2, 3, 4, 0, 5, 6, 7] _ rfl (hb82 self31 hs31 b31_L1 b31_L2 v9 b31_L5 b31_L6 b31_L7 M7 hF)
  unfold F_X9_brineAfterDay at hF
  refine z_aload_n cx d_X9_brineAfterDay_0 0 rfl ?_
  refine z_getR cx hT fg_SunnyPans_19 3 rfl d_X9_brineAfterDay_1 ?_
  refine z_getR cx (tfX_10_3 hT) fg_SunnyPans_159 4 rfl d_X9_brineAfterDay_4 ?_
  refine z_astore_n cx 3 [(3, .ref (ad 4)), (0, .ref (ad 0)), (1, .int p0), (2, .int p1)] d_X9_brineAfterDay_7 rfl (by decide) rfl ?_
  refine z_aload_n cx d_X9_brineAfterDay_8 0 rfl ?_
  refine z_getR cx (tfX_8_1 (tfX_10_3 hT)) fg_SunnyPans_174 5 rfl d_X9_brineAfterDay_9 ?_
  refine z_iload_n cx d_X9_brineAfterDay_12 2 rfl ?_
  obtain ⟨hi10, hF⟩ := gin_inv hF
  refine z_iald cx (tfX_5_1 (tfX_8_1 (tfX_10_3 hT))) za_16 hi10 p0.toNatClampNeg rfl d_X9_brineAfterDay_13 ?_
  refine z_nm hF (fun v11 hF => ?_)
  refine z_istore cx 4 [(4, .int v11), (3, .ref (ad 4)), (0, .ref (ad 0)), (1, .int p0), (2, .int p1)] d_X9_brineAfterDay_14 (by decide) rfl ?_
  refine z_aload_n cx d_X9_brineAfterDay_16 1 rfl ?_
  refine z_getI cx (tfX_8_1 (tfX_10_3 hT)) fg_SunnyPans_171 d_X9_brineAfterDay_17 ?_
  refine z_nm hF (fun v12 hF => ?_)
  refine z_istore cx 5 [(5, .int v12), (4, .int v11), (3, .ref (ad 4)), (0, .ref (ad 0)), (1, .int p0), (2, .int p1)] d_X9_brineAfterDay_20 (by decide) rfl ?_
  refine z_aload_n cx d_X9_brineAfterDay_22 2 rfl ?_
  refine z_getI cx (tfX_8_1 (tfX_10_3 hT)) fg_SunnyPans_168 d_X9_brineAfterDay_23 ?_
  refine z_nm hF (fun v13 hF => ?_)
  refine z_istore cx 6 [(6, .int v13), (5, .int v12), (4, .int v11), (3, .ref (ad 4)), (0, .ref (ad 0)), (1, .int p0), (2, .int p1)] d_X9_brineAfterDay_26 (by decide) rfl ?_
  refine z_iconst (v := 0) cx d_X9_brineAfterDay_28 ki_0 ?_
  refine z_istore cx 7 [(7, .int (0 : Int32)), (6, .int v13), (5, .int v12), (4, .int v11), (3, .ref (ad 4)), (0, .ref (ad 0)), (1, .int p0), (2, .int p1)] d_X9_brineAfterDay_29 (by decide) rfl ?_
  exact z_lv [5, 6, 7, 4, 3, 2, 1, 0] _ rfl (hL31 zFuel p0 p1 v11 v12 v13 (0 : Int32) M hF)
/-! SunnyPans.linesRight -/
set_option maxRecDepth 100000 in
theorem wd_393 : Cond.fieldLink "SunnyPans" 372 "SunnyPans$Book" "place" "[I" ∈ tbG := tw2 53 rfl rfl
theorem fg_SunnyPans_372 : zGetR "SunnyPans" 372 1 2 0 1 := ⟨RX1, TX1, 4, rfl, by decide, uw_1, wd_393, fun _ _ _ _ _ _ => ⟨_, rfl, rfl⟩⟩
set_option maxRecDepth 100000 in
theorem wd_1232 : Cond.code yX9_brineAfterDay cX9_brineAfterDay 8 (some .int) ∈ tbG := tw5 172 rfl rfl
set_option maxRecDepth 100000 in
theorem wd_1229 : Cond.methodLink "SunnyPans" 375 yX9_brineAfterDay ∈ tbG := tw5 169 rfl rfl
set_option maxRecDepth 100000 in
theorem wd_1231 : Cond.instanceMethod yX9_brineAfterDay ∈ tbG := tw5 171 rfl rfl
theorem wd_34 : Cond.selects "SunnyPans" yX9_brineAfterDay yX9_brineAfterDay ∈ tbG := tw 34 (by decide +kernel) rfl
theorem cv_SunnyPans_375 : zCV "SunnyPans" 375 "SunnyPans" yX9_brineAfterDay cX9_brineAfterDay 8 (some .int) 2 := zCV_of wd_1229 wd_1231 wd_34 wd_101 wd_1232 (by decide +kernel)
set_option maxRecDepth 100000 in
theorem wd_395 : Cond.fieldLink "SunnyPans" 378 "SunnyPans$Book" "brine" "[I" ∈ tbG := tw2 55 rfl rfl
theorem fg_SunnyPans_378 : zGetR "SunnyPans" 378 1 2 1 2 := ⟨RX1, TX1, 4, rfl, by decide, uw_1, wd_395, fun _ _ _ _ _ _ => ⟨_, rfl, rfl⟩⟩
theorem d_X9_linesRight_0 : decode cX9_linesRight 0 = .ok (.iconst 0, 1) := by decide +kernel
theorem d_X9_linesRight_1 : decode cX9_linesRight 1 = .ok (.istore_n 2, 1) := by decide +kernel
theorem d_X9_linesRight_2 : decode cX9_linesRight 2 = .ok (.iload_n 2, 1) := by decide +kernel
theorem d_X9_linesRight_3 : decode cX9_linesRight 3 = .ok (.aload_n 0, 1) := by decide +kernel
theorem d_X9_linesRight_4 : decode cX9_linesRight 4 = .ok (.getfield 82, 3) := by decide +kernel
theorem d_X9_linesRight_7 : decode cX9_linesRight 7 = .ok (.getfield 145, 3) := by decide +kernel
theorem d_X9_linesRight_10 : decode cX9_linesRight 10 = .ok (.if_icmp .ge 43, 3) := by decide +kernel
theorem d_X9_linesRight_13 : decode cX9_linesRight 13 = .ok (.iload_n 2, 1) := by decide +kernel
theorem d_X9_linesRight_14 : decode cX9_linesRight 14 = .ok (.bipush 8, 2) := by decide +kernel
theorem d_X9_linesRight_16 : decode cX9_linesRight 16 = .ok (.if_icmp .ge 37, 3) := by decide +kernel
theorem d_X9_linesRight_19 : decode cX9_linesRight 19 = .ok (.aload_n 0, 1) := by decide +kernel
theorem d_X9_linesRight_20 : decode cX9_linesRight 20 = .ok (.aload_n 0, 1) := by decide +kernel
theorem d_X9_linesRight_21 : decode cX9_linesRight 21 = .ok (.getfield 82, 3) := by decide +kernel
theorem d_X9_linesRight_24 : decode cX9_linesRight 24 = .ok (.getfield 372, 3) := by decide +kernel
theorem d_X9_linesRight_27 : decode cX9_linesRight 27 = .ok (.iload_n 2, 1) := by decide +kernel
theorem d_X9_linesRight_28 : decode cX9_linesRight 28 = .ok (.iaload, 1) := by decide +kernel
theorem d_X9_linesRight_29 : decode cX9_linesRight 29 = .ok (.iload_n 1, 1) := by decide +kernel
theorem d_X9_linesRight_30 : decode cX9_linesRight 30 = .ok (.invokevirtual 375, 3) := by decide +kernel
theorem d_X9_linesRight_33 : decode cX9_linesRight 33 = .ok (.aload_n 0, 1) := by decide +kernel
theorem d_X9_linesRight_34 : decode cX9_linesRight 34 = .ok (.getfield 82, 3) := by decide +kernel
theorem d_X9_linesRight_37 : decode cX9_linesRight 37 = .ok (.getfield 378, 3) := by decide +kernel
theorem d_X9_linesRight_40 : decode cX9_linesRight 40 = .ok (.iload_n 2, 1) := by decide +kernel
theorem d_X9_linesRight_41 : decode cX9_linesRight 41 = .ok (.iaload, 1) := by decide +kernel
theorem d_X9_linesRight_42 : decode cX9_linesRight 42 = .ok (.if_icmp .eq 5, 3) := by decide +kernel
theorem d_X9_linesRight_45 : decode cX9_linesRight 45 = .ok (.iconst 0, 1) := by decide +kernel
theorem d_X9_linesRight_46 : decode cX9_linesRight 46 = .ok (.ireturn, 1) := by decide +kernel
theorem d_X9_linesRight_47 : decode cX9_linesRight 47 = .ok (.iinc 2 1, 3) := by decide +kernel
theorem d_X9_linesRight_50 : decode cX9_linesRight 50 = .ok (.goto (-48), 3) := by decide +kernel
theorem d_X9_linesRight_53 : decode cX9_linesRight 53 = .ok (.iconst 1, 1) := by decide +kernel
theorem d_X9_linesRight_54 : decode cX9_linesRight 54 = .ok (.ireturn, 1) := by decide +kernel
noncomputable def F_X9_linesRight_2 (p0 : Int32) (self2 : Int32 → Int32 → zMem → Option (Int32 × zMem)) (b2_L1 : Int32) (b2_L2 : Int32) (M : zMem) : Option (Int32 × zMem) :=
  gd (shX (M.2.2 0 12) == 2) <|
  if (M.1 (M.2.2 0 12) 2) ≤ b2_L2 then
    some ((1 : Int32), M)
  else
    if (8 : Int32) ≤ b2_L2 then
      some ((1 : Int32), M)
    else
      gin b2_L2 8 <|
      zb (F_X9_brineAfterDay M (M.1 ((M.2.2 0 12) + 1) b2_L2.toNatClampNeg) b2_L1) fun v4 M3 =>
      gd (shX (M3.2.2 0 12) == 2) <|
      if v4 = (M3.1 ((M3.2.2 0 12) + 2) b2_L2.toNatClampNeg) then
        self2 b2_L1 (b2_L2 + 1) M3
      else
        some ((0 : Int32), M3)
noncomputable def F_X9_linesRight (M : zMem) (p0 : Int32) : Option (Int32 × zMem) :=
  itF (fun _ _ _ => none) (F_X9_linesRight_2 p0) zFuel p0 (0 : Int32) M
def rm_X9_linesRight : Room := { frames := 7, cells := 0, slots := 0, locals := 185 }
set_option maxHeartbeats 4000000 in
set_option maxRecDepth 100000 in
theorem c_X9_linesRight (l : Launch) {G : zG} {ad : Nat → Nat} {n : Nat} (hA : zInj ad n) (M : zMem) (p0 : Int32) (hT : zT shX n 0 10) {r9 : Int32} {M9 : zMem} (hF : F_X9_linesRight M p0 = some (r9, M9)) : zM l yX9_linesRight cX9_linesRight 3 (some .boolean) rm_X9_linesRight G shX ad n M [.ref (ad 0), .int p0] (some (.int r9)) M9 := by
  refine zM_of hA (by decide +kernel) (lv := [(0, .ref (ad 0)), (1, .int p0)]) (Nat.le_of_ble_eq_true rfl) rfl (fun p e s m args below meth c A cx hr => ?_)
  have hL2 : ∀ (fuel : Nat), ∀ (b2_L1 : Int32) (b2_L2 : Int32) (M : zMem), itF (fun _ _ _ => none) (F_X9_linesRight_2 p0) fuel b2_L1 b2_L2 M = some (r9, M9) → zJ p l e rm_X9_linesRight s m args below meth c G shX ad n A 3 (MQ below (zQ G shX ad n M9 (some (.int r9)) A) args s 0 0 A) 0 0 M 2 [(0, .ref (ad 0)), (1, .int b2_L1), (2, .int b2_L2)] [] := by
    intro fuel
    induction fuel with
    | zero => intro b2_L1 b2_L2 M hF; cases hF
    | succ fuel hs2 =>
      intro b2_L1 b2_L2 M hF
      have hF : F_X9_linesRight_2 p0 (itF (fun _ _ _ => none) (F_X9_linesRight_2 p0) fuel) b2_L1 b2_L2 M = some (r9, M9) := hF
      generalize itF (fun _ _ _ => none) (F_X9_linesRight_2 p0) fuel = self2 at hs2 hF
      unfold F_X9_linesRight_2 at hF
      refine z_iload_n cx d_X9_linesRight_2 2 rfl ?_
      refine z_aload_n cx d_X9_linesRight_3 0 rfl ?_
      obtain ⟨hg1, hF⟩ := gd_inv hF
      refine z_getD cx hT fg_SunnyPans_82 d_X9_linesRight_4 ?_
      refine z_getI cx (td_2 hT hg1) fg_SunnyPans_145 d_X9_linesRight_7 ?_
      refine z_icmp_ge cx 53 d_X9_linesRight_10 (by decide) hF (fun hF => ?_) (fun hF => ?_)
      · refine z_iconst (v := 1) cx d_X9_linesRight_53 ki_1 ?_
        exact z_iret cx hr nb1 hF d_X9_linesRight_54
      refine z_iload_n cx d_X9_linesRight_13 2 rfl ?_
      refine z_bipush (v := 8) cx d_X9_linesRight_14 kb_8 ?_
      refine z_icmp_ge cx 53 d_X9_linesRight_16 (by decide) hF (fun hF => ?_) (fun hF => ?_)
      · refine z_iconst (v := 1) cx d_X9_linesRight_53 ki_1 ?_
        exact z_iret cx hr nb1 hF d_X9_linesRight_54
      refine z_aload_n cx d_X9_linesRight_19 0 rfl ?_
      refine z_aload_n cx d_X9_linesRight_20 0 rfl ?_
      refine z_getD cx hT fg_SunnyPans_82 d_X9_linesRight_21 ?_
      refine z_getR cx (td_2 hT hg1) fg_SunnyPans_372 ((M.2.2 0 12) + 1) rfl d_X9_linesRight_24 ?_
      refine z_iload_n cx d_X9_linesRight_27 2 rfl ?_
      obtain ⟨hi2, hF⟩ := gin_inv hF
      refine z_iald cx (tfX_2_1 (td_2 hT hg1)) za_26 hi2 b2_L2.toNatClampNeg rfl d_X9_linesRight_28 ?_
      refine z_iload_n cx d_X9_linesRight_29 1 rfl ?_
      obtain ⟨v4, M3, hc, hF⟩ := zb_inv hF
      refine z_callV cx (As := [.int (M.1 ((M.2.2 0 12) + 1) b2_L2.toNatClampNeg), .int b2_L1]) (rest := []) (c_X9_brineAfterDay l cx.2.2.2.1.1 M (M.1 ((M.2.2 0 12) + 1) b2_L2.toNatClampNeg) b2_L1 hT hc) hT zo_10 cv_SunnyPans_375 ⟨rfl, rfl, Nat.le_of_ble_eq_true rfl, Nat.le_of_ble_eq_true rfl⟩ rfl rfl ⟨Nat.zero_le _, Nat.zero_le _⟩ (Nat.le_of_ble_eq_true rfl) d_X9_linesRight_30 ?_
      refine z_aload_n cx d_X9_linesRight_33 0 rfl ?_
      obtain ⟨hg5, hF⟩ := gd_inv hF
      refine z_getD cx hT fg_SunnyPans_82 d_X9_linesRight_34 ?_
      refine z_getR cx (td_2 hT hg5) fg_SunnyPans_378 ((M3.2.2 0 12) + 2) rfl d_X9_linesRight_37 ?_
      refine z_iload_n cx d_X9_linesRight_40 2 rfl ?_
      refine z_iald cx (tfX_2_2 (td_2 hT hg5)) za_26 hi2 b2_L2.toNatClampNeg rfl d_X9_linesRight_41 ?_
      refine z_icmp_eq cx 47 d_X9_linesRight_42 (by decide) hF (fun hF => ?_) (fun hF => ?_)
      · refine z_iinc cx 2 1 [(2, .int (b2_L2 + 1)), (0, .ref (ad 0)), (1, .int b2_L1)] d_X9_linesRight_47 2 rfl ki_1 (by decide) rfl ?_
        refine z_goto cx 2 d_X9_linesRight_50 (by decide) ?_
        exact z_lv [1, 2, 0] _ rfl (hs2 b2_L1 (b2_L2 + 1) M3 hF)
      refine z_iconst (v := 0) cx d_X9_linesRight_45 ki_0 ?_
      exact z_iret cx hr nb0 hF d_X9_linesRight_46
  unfold F_X9_linesRight at hF
  refine z_iconst (v := 0) cx d_X9_linesRight_0 ki_0 ?_
  refine z_istore_n cx 2 [(2, .int (0 : Int32)), (0, .ref (ad 0)), (1, .int p0)] d_X9_linesRight_1 rfl (by decide) rfl ?_
  exact z_lv [1, 2, 0] _ rfl (hL2 zFuel p0 (0 : Int32) M hF)
/-! SunnyPans.fittingPlaces -/
set_option maxRecDepth 100000 in
theorem wd_1228 : Cond.code yX9_linesRight cX9_linesRight 3 (some .boolean) ∈ tbG := tw5 168 rfl rfl
set_option maxRecDepth 100000 in
theorem wd_1225 : Cond.methodLink "SunnyPans" 368 yX9_linesRight ∈ tbG := tw5 165 rfl rfl
set_option maxRecDepth 100000 in
theorem wd_1227 : Cond.instanceMethod yX9_linesRight ∈ tbG := tw5 167 rfl rfl
theorem wd_33 : Cond.selects "SunnyPans" yX9_linesRight yX9_linesRight ∈ tbG := tw 33 (by decide +kernel) rfl
theorem cv_SunnyPans_368 : zCV "SunnyPans" 368 "SunnyPans" yX9_linesRight cX9_linesRight 3 (some .boolean) 1 := zCV_of wd_1225 wd_1227 wd_33 wd_101 wd_1228 (by decide +kernel)
theorem d_X9_fittingPlaces_0 : decode cX9_fittingPlaces 0 = .ok (.aload_n 0, 1) := by decide +kernel
theorem d_X9_fittingPlaces_1 : decode cX9_fittingPlaces 1 = .ok (.iload_n 1, 1) := by decide +kernel
theorem d_X9_fittingPlaces_2 : decode cX9_fittingPlaces 2 = .ok (.invokevirtual 333, 3) := by decide +kernel
theorem d_X9_fittingPlaces_5 : decode cX9_fittingPlaces 5 = .ok (.lstore_n 2, 1) := by decide +kernel
theorem d_X9_fittingPlaces_6 : decode cX9_fittingPlaces 6 = .ok (.lconst 0, 1) := by decide +kernel
theorem d_X9_fittingPlaces_7 : decode cX9_fittingPlaces 7 = .ok (.lstore 4, 2) := by decide +kernel
theorem d_X9_fittingPlaces_9 : decode cX9_fittingPlaces 9 = .ok (.iconst 0, 1) := by decide +kernel
theorem d_X9_fittingPlaces_10 : decode cX9_fittingPlaces 10 = .ok (.istore 6, 2) := by decide +kernel
theorem d_X9_fittingPlaces_12 : decode cX9_fittingPlaces 12 = .ok (.iload 6, 2) := by decide +kernel
theorem d_X9_fittingPlaces_14 : decode cX9_fittingPlaces 14 = .ok (.bipush 64, 2) := by decide +kernel
theorem d_X9_fittingPlaces_16 : decode cX9_fittingPlaces 16 = .ok (.if_icmp .ge 37, 3) := by decide +kernel
theorem d_X9_fittingPlaces_19 : decode cX9_fittingPlaces 19 = .ok (.lload_n 2, 1) := by decide +kernel
theorem d_X9_fittingPlaces_20 : decode cX9_fittingPlaces 20 = .ok (.iload 6, 2) := by decide +kernel
theorem d_X9_fittingPlaces_22 : decode cX9_fittingPlaces 22 = .ok (.invokestatic 231, 3) := by decide +kernel
theorem d_X9_fittingPlaces_25 : decode cX9_fittingPlaces 25 = .ok (.ifCond .eq 22, 3) := by decide +kernel
theorem d_X9_fittingPlaces_28 : decode cX9_fittingPlaces 28 = .ok (.aload_n 0, 1) := by decide +kernel
theorem d_X9_fittingPlaces_29 : decode cX9_fittingPlaces 29 = .ok (.iload 6, 2) := by decide +kernel
theorem d_X9_fittingPlaces_31 : decode cX9_fittingPlaces 31 = .ok (.invokevirtual 368, 3) := by decide +kernel
theorem d_X9_fittingPlaces_34 : decode cX9_fittingPlaces 34 = .ok (.ifCond .eq 13, 3) := by decide +kernel
theorem d_X9_fittingPlaces_37 : decode cX9_fittingPlaces 37 = .ok (.lload 4, 2) := by decide +kernel
theorem d_X9_fittingPlaces_39 : decode cX9_fittingPlaces 39 = .ok (.iload 6, 2) := by decide +kernel
theorem d_X9_fittingPlaces_41 : decode cX9_fittingPlaces 41 = .ok (.invokestatic 298, 3) := by decide +kernel
theorem d_X9_fittingPlaces_44 : decode cX9_fittingPlaces 44 = .ok (.lor, 1) := by decide +kernel
theorem d_X9_fittingPlaces_45 : decode cX9_fittingPlaces 45 = .ok (.lstore 4, 2) := by decide +kernel
theorem d_X9_fittingPlaces_47 : decode cX9_fittingPlaces 47 = .ok (.iinc 6 1, 3) := by decide +kernel
theorem d_X9_fittingPlaces_50 : decode cX9_fittingPlaces 50 = .ok (.goto (-38), 3) := by decide +kernel
theorem d_X9_fittingPlaces_53 : decode cX9_fittingPlaces 53 = .ok (.lload 4, 2) := by decide +kernel
theorem d_X9_fittingPlaces_55 : decode cX9_fittingPlaces 55 = .ok (.lreturn, 1) := by decide +kernel
noncomputable def F_X9_fittingPlaces_47 (p0 : Int32) (self12 : Int64 → Int64 → Int32 → zMem → Option (Int64 × zMem)) (b47_L2 : Int64) (b47_L4 : Int64) (b47_L6 : Int32) (M : zMem) : Option (Int64 × zMem) :=
  self12 b47_L2 b47_L4 (b47_L6 + 1) M
noncomputable def F_X9_fittingPlaces_12 (p0 : Int32) (self12 : Int64 → Int64 → Int32 → zMem → Option (Int64 × zMem)) (b12_L2 : Int64) (b12_L4 : Int64) (b12_L6 : Int32) (M : zMem) : Option (Int64 × zMem) :=
  if (64 : Int32) ≤ b12_L6 then
    some (b12_L4, M)
  else
    zb (F_X9_has M b12_L2 b12_L6) fun v2 M1 =>
    if v2 = 0 then
      F_X9_fittingPlaces_47 p0 self12 b12_L2 b12_L4 b12_L6 M1
    else
      zb (F_X9_linesRight M1 b12_L6) fun v4 M3 =>
      if v4 = 0 then
        F_X9_fittingPlaces_47 p0 self12 b12_L2 b12_L4 b12_L6 M3
      else
        zb (F_X9_bit M3 b12_L6) fun v6 M5 =>
        zl (b12_L4 ||| v6) fun v7 =>
        F_X9_fittingPlaces_47 p0 self12 b12_L2 v7 b12_L6 M5
noncomputable def F_X9_fittingPlaces (M : zMem) (p0 : Int32) : Option (Int64 × zMem) :=
  zb (F_X9_layEverywhere M p0) fun v9 M8 =>
  itF (fun _ _ _ _ => none) (F_X9_fittingPlaces_12 p0) zFuel v9 (0 : Int64) (0 : Int32) M8
def rm_X9_fittingPlaces : Room := { frames := 8, cells := 0, slots := 0, locals := 207 }
set_option maxHeartbeats 4000000 in
set_option maxRecDepth 100000 in
theorem c_X9_fittingPlaces (l : Launch) {G : zG} {ad : Nat → Nat} {n : Nat} (hA : zInj ad n) (M : zMem) (p0 : Int32) (hT : zT shX n 0 10) {r9 : Int64} {M9 : zMem} (hF : F_X9_fittingPlaces M p0 = some (r9, M9)) : zM l yX9_fittingPlaces cX9_fittingPlaces 7 (some .long) rm_X9_fittingPlaces G shX ad n M [.ref (ad 0), .int p0] (some (.long r9)) M9 := by
  refine zM_of hA (by decide +kernel) (lv := [(0, .ref (ad 0)), (1, .int p0)]) (Nat.le_of_ble_eq_true rfl) rfl (fun p e s m args below meth c A cx hr => ?_)
  have hb47 : ∀ (self12 : Int64 → Int64 → Int32 → zMem → Option (Int64 × zMem)) (hs12 : ∀ (b12_L2 : Int64) (b12_L4 : Int64) (b12_L6 : Int32) (M : zMem), self12 b12_L2 b12_L4 b12_L6 M = some (r9, M9) → zJ p l e rm_X9_fittingPlaces s m args below meth c G shX ad n A 7 (MQ below (zQ G shX ad n M9 (some (.long r9)) A) args s 0 0 A) 0 0 M 12 [(0, .ref (ad 0)), (2, .long b12_L2), (4, .long b12_L4), (6, .int b12_L6)] []), ∀ (b47_L2 : Int64) (b47_L4 : Int64) (b47_L6 : Int32) (M : zMem), F_X9_fittingPlaces_47 p0 self12 b47_L2 b47_L4 b47_L6 M = some (r9, M9) → zJ p l e rm_X9_fittingPlaces s m args below meth c G shX ad n A 7 (MQ below (zQ G shX ad n M9 (some (.long r9)) A) args s 0 0 A) 0 0 M 47 [(0, .ref (ad 0)), (2, .long b47_L2), (4, .long b47_L4), (6, .int b47_L6)] [] := by
    intro self12 hs12 b47_L2 b47_L4 b47_L6 M hF
    unfold F_X9_fittingPlaces_47 at hF
    refine z_iinc cx 6 1 [(6, .int (b47_L6 + 1)), (0, .ref (ad 0)), (2, .long b47_L2), (4, .long b47_L4)] d_X9_fittingPlaces_47 3 rfl ki_1 (by decide) rfl ?_
    refine z_goto cx 12 d_X9_fittingPlaces_50 (by decide) ?_
    exact z_lv [1, 2, 3, 0] _ rfl (hs12 b47_L2 b47_L4 (b47_L6 + 1) M hF)
  have hL12 : ∀ (fuel : Nat), ∀ (b12_L2 : Int64) (b12_L4 : Int64) (b12_L6 : Int32) (M : zMem), itF (fun _ _ _ _ => none) (F_X9_fittingPlaces_12 p0) fuel b12_L2 b12_L4 b12_L6 M = some (r9, M9) → zJ p l e rm_X9_fittingPlaces s m args below meth c G shX ad n A 7 (MQ below (zQ G shX ad n M9 (some (.long r9)) A) args s 0 0 A) 0 0 M 12 [(0, .ref (ad 0)), (2, .long b12_L2), (4, .long b12_L4), (6, .int b12_L6)] [] := by
    intro fuel
    induction fuel with
    | zero => intro b12_L2 b12_L4 b12_L6 M hF; cases hF
    | succ fuel hs12 =>
      intro b12_L2 b12_L4 b12_L6 M hF
      have hF : F_X9_fittingPlaces_12 p0 (itF (fun _ _ _ _ => none) (F_X9_fittingPlaces_12 p0) fuel) b12_L2 b12_L4 b12_L6 M = some (r9, M9) := hF
      generalize itF (fun _ _ _ _ => none) (F_X9_fittingPlaces_12 p0) fuel = self12 at hs12 hF
      unfold F_X9_fittingPlaces_12 at hF
      refine z_iload cx d_X9_fittingPlaces_12 3 rfl ?_
      refine z_bipush (v := 64) cx d_X9_fittingPlaces_14 kb_64 ?_
      refine z_icmp_ge cx 53 d_X9_fittingPlaces_16 (by decide) hF (fun hF => ?_) (fun hF => ?_)
      · refine z_lload cx d_X9_fittingPlaces_53 2 rfl ?_
        exact z_lret cx hr hF d_X9_fittingPlaces_55
      refine z_lload_n cx d_X9_fittingPlaces_19 1 rfl ?_
      refine z_iload cx d_X9_fittingPlaces_20 3 rfl ?_
      obtain ⟨v2, M1, hc, hF⟩ := zb_inv hF
      refine z_callS cx (As := [.long b12_L2, .int b12_L6]) (rest := []) (c_X9_has l cx.2.2.2.1.1 M b12_L2 b12_L6  hc) cs_SunnyPans_231 ⟨rfl, rfl, Nat.le_of_ble_eq_true rfl, Nat.le_of_ble_eq_true rfl⟩ rfl rfl ⟨Nat.zero_le _, Nat.zero_le _⟩ (Nat.le_of_ble_eq_true rfl) d_X9_fittingPlaces_22 ?_
      refine z_if_eq cx 47 d_X9_fittingPlaces_25 (by decide) hF (fun hF => ?_) (fun hF => ?_)
      · exact hb47 self12 hs12 b12_L2 b12_L4 b12_L6 M1 hF
      refine z_aload_n cx d_X9_fittingPlaces_28 0 rfl ?_
      refine z_iload cx d_X9_fittingPlaces_29 3 rfl ?_
      obtain ⟨v4, M3, hc, hF⟩ := zb_inv hF
      refine z_callV cx (As := [.int b12_L6]) (rest := []) (c_X9_linesRight l cx.2.2.2.1.1 M1 b12_L6 hT hc) hT zo_10 cv_SunnyPans_368 ⟨rfl, rfl, Nat.le_of_ble_eq_true rfl, Nat.le_of_ble_eq_true rfl⟩ rfl rfl ⟨Nat.zero_le _, Nat.zero_le _⟩ (Nat.le_of_ble_eq_true rfl) d_X9_fittingPlaces_31 ?_
      refine z_if_eq cx 47 d_X9_fittingPlaces_34 (by decide) hF (fun hF => ?_) (fun hF => ?_)
      · exact hb47 self12 hs12 b12_L2 b12_L4 b12_L6 M3 hF
      refine z_lload cx d_X9_fittingPlaces_37 2 rfl ?_
      refine z_iload cx d_X9_fittingPlaces_39 3 rfl ?_
      obtain ⟨v6, M5, hc, hF⟩ := zb_inv hF
      refine z_callS cx (As := [.int b12_L6]) (rest := [.long b12_L4]) (c_X9_bit l cx.2.2.2.1.1 M3 b12_L6  hc) cs_SunnyPans_298 ⟨rfl, rfl, Nat.le_of_ble_eq_true rfl, Nat.le_of_ble_eq_true rfl⟩ rfl rfl ⟨Nat.zero_le _, Nat.zero_le _⟩ (Nat.le_of_ble_eq_true rfl) d_X9_fittingPlaces_41 ?_
      refine z_lor cx d_X9_fittingPlaces_44 ?_
      refine z_nml hF (fun v7 hF => ?_)
      refine z_lstore cx 4 [(4, .long v7), (0, .ref (ad 0)), (2, .long b12_L2), (6, .int b12_L6)] d_X9_fittingPlaces_45 (by decide) rfl ?_
      exact z_lv [1, 2, 0, 3] _ rfl (hb47 self12 hs12 b12_L2 v7 b12_L6 M5 hF)
  unfold F_X9_fittingPlaces at hF
  refine z_aload_n cx d_X9_fittingPlaces_0 0 rfl ?_
  refine z_iload_n cx d_X9_fittingPlaces_1 1 rfl ?_
  obtain ⟨v9, M8, hc, hF⟩ := zb_inv hF
  refine z_callV cx (As := [.int p0]) (rest := []) (c_X9_layEverywhere l cx.2.2.2.1.1 M p0 hT hc) hT zo_10 cv_SunnyPans_333 ⟨rfl, rfl, Nat.le_of_ble_eq_true rfl, Nat.le_of_ble_eq_true rfl⟩ rfl rfl ⟨Nat.zero_le _, Nat.zero_le _⟩ (Nat.le_of_ble_eq_true rfl) d_X9_fittingPlaces_2 ?_
  refine z_lstore_n cx 2 [(2, .long v9), (0, .ref (ad 0)), (1, .int p0)] d_X9_fittingPlaces_5 rfl (by decide) rfl ?_
  refine z_lconst (v := 0) cx d_X9_fittingPlaces_6 (by decide +kernel) ?_
  refine z_lstore cx 4 [(4, .long (0 : Int64)), (2, .long v9), (0, .ref (ad 0)), (1, .int p0)] d_X9_fittingPlaces_7 (by decide) rfl ?_
  refine z_iconst (v := 0) cx d_X9_fittingPlaces_9 ki_0 ?_
  refine z_istore cx 6 [(6, .int (0 : Int32)), (4, .long (0 : Int64)), (2, .long v9), (0, .ref (ad 0)), (1, .int p0)] d_X9_fittingPlaces_10 (by decide) rfl ?_
  exact z_lv [3, 2, 1, 0] _ rfl (hL12 zFuel v9 (0 : Int64) (0 : Int32) M8 hF)
/-! SunnyPans.fits -/
set_option maxRecDepth 100000 in
theorem wd_1224 : Cond.code yX9_fittingPlaces cX9_fittingPlaces 7 (some .long) ∈ tbG := tw5 164 rfl rfl
set_option maxRecDepth 100000 in
theorem wd_1221 : Cond.methodLink "SunnyPans" 350 yX9_fittingPlaces ∈ tbG := tw5 161 rfl rfl
set_option maxRecDepth 100000 in
theorem wd_1223 : Cond.instanceMethod yX9_fittingPlaces ∈ tbG := tw5 163 rfl rfl
theorem wd_32 : Cond.selects "SunnyPans" yX9_fittingPlaces yX9_fittingPlaces ∈ tbG := tw 32 (by decide +kernel) rfl
theorem cv_SunnyPans_350 : zCV "SunnyPans" 350 "SunnyPans" yX9_fittingPlaces cX9_fittingPlaces 7 (some .long) 1 := zCV_of wd_1221 wd_1223 wd_32 wd_101 wd_1224 (by decide +kernel)
theorem d_X9_fits_0 : decode cX9_fits 0 = .ok (.aload_n 0, 1) := by decide +kernel
theorem d_X9_fits_1 : decode cX9_fits 1 = .ok (.iload_n 1, 1) := by decide +kernel
theorem d_X9_fits_2 : decode cX9_fits 2 = .ok (.iconst 1, 1) := by decide +kernel
theorem d_X9_fits_3 : decode cX9_fits 3 = .ok (.sipush 999, 3) := by decide +kernel
theorem d_X9_fits_6 : decode cX9_fits 6 = .ok (.invokestatic 255, 3) := by decide +kernel
theorem d_X9_fits_9 : decode cX9_fits 9 = .ok (.ifCond .eq 16, 3) := by decide +kernel
theorem d_X9_fits_12 : decode cX9_fits 12 = .ok (.iload_n 2, 1) := by decide +kernel
theorem d_X9_fits_13 : decode cX9_fits 13 = .ok (.iconst 0, 1) := by decide +kernel
theorem d_X9_fits_14 : decode cX9_fits 14 = .ok (.iconst 1, 1) := by decide +kernel
theorem d_X9_fits_15 : decode cX9_fits 15 = .ok (.invokestatic 255, 3) := by decide +kernel
theorem d_X9_fits_18 : decode cX9_fits 18 = .ok (.ifCond .eq 7, 3) := by decide +kernel
theorem d_X9_fits_21 : decode cX9_fits 21 = .ok (.iconst 1, 1) := by decide +kernel
theorem d_X9_fits_22 : decode cX9_fits 22 = .ok (.goto 4, 3) := by decide +kernel
theorem d_X9_fits_25 : decode cX9_fits 25 = .ok (.iconst 0, 1) := by decide +kernel
theorem d_X9_fits_26 : decode cX9_fits 26 = .ok (.invokevirtual 155, 3) := by decide +kernel
theorem d_X9_fits_29 : decode cX9_fits 29 = .ok (.aload_n 0, 1) := by decide +kernel
theorem d_X9_fits_30 : decode cX9_fits 30 = .ok (.iload_n 1, 1) := by decide +kernel
theorem d_X9_fits_31 : decode cX9_fits 31 = .ok (.invokevirtual 350, 3) := by decide +kernel
theorem d_X9_fits_34 : decode cX9_fits 34 = .ok (.lstore_n 3, 1) := by decide +kernel
theorem d_X9_fits_35 : decode cX9_fits 35 = .ok (.iload_n 2, 1) := by decide +kernel
theorem d_X9_fits_36 : decode cX9_fits 36 = .ok (.ifCond .ne 8, 3) := by decide +kernel
theorem d_X9_fits_39 : decode cX9_fits 39 = .ok (.lload_n 3, 1) := by decide +kernel
theorem d_X9_fits_40 : decode cX9_fits 40 = .ok (.invokestatic 194, 3) := by decide +kernel
theorem d_X9_fits_43 : decode cX9_fits 43 = .ok (.ireturn, 1) := by decide +kernel
theorem d_X9_fits_44 : decode cX9_fits 44 = .ok (.aload_n 0, 1) := by decide +kernel
theorem d_X9_fits_45 : decode cX9_fits 45 = .ok (.getfield 51, 3) := by decide +kernel
theorem d_X9_fits_48 : decode cX9_fits 48 = .ok (.invokevirtual 259, 3) := by decide +kernel
theorem d_X9_fits_51 : decode cX9_fits 51 = .ok (.iconst 0, 1) := by decide +kernel
theorem d_X9_fits_52 : decode cX9_fits 52 = .ok (.istore 5, 2) := by decide +kernel
theorem d_X9_fits_54 : decode cX9_fits 54 = .ok (.iload 5, 2) := by decide +kernel
theorem d_X9_fits_56 : decode cX9_fits 56 = .ok (.bipush 64, 2) := by decide +kernel
theorem d_X9_fits_58 : decode cX9_fits 58 = .ok (.if_icmp .ge 39, 3) := by decide +kernel
theorem d_X9_fits_61 : decode cX9_fits 61 = .ok (.aload_n 0, 1) := by decide +kernel
theorem d_X9_fits_62 : decode cX9_fits 62 = .ok (.getfield 51, 3) := by decide +kernel
theorem d_X9_fits_65 : decode cX9_fits 65 = .ok (.getfield 320, 3) := by decide +kernel
theorem d_X9_fits_68 : decode cX9_fits 68 = .ok (.iconst (-1), 1) := by decide +kernel
theorem d_X9_fits_69 : decode cX9_fits 69 = .ok (.if_icmp .ne 28, 3) := by decide +kernel
theorem d_X9_fits_72 : decode cX9_fits 72 = .ok (.lload_n 3, 1) := by decide +kernel
theorem d_X9_fits_73 : decode cX9_fits 73 = .ok (.iload 5, 2) := by decide +kernel
theorem d_X9_fits_75 : decode cX9_fits 75 = .ok (.invokestatic 231, 3) := by decide +kernel
theorem d_X9_fits_78 : decode cX9_fits 78 = .ok (.ifCond .eq 13, 3) := by decide +kernel
theorem d_X9_fits_81 : decode cX9_fits 81 = .ok (.aload_n 0, 1) := by decide +kernel
theorem d_X9_fits_82 : decode cX9_fits 82 = .ok (.getfield 51, 3) := by decide +kernel
theorem d_X9_fits_85 : decode cX9_fits 85 = .ok (.iload 5, 2) := by decide +kernel
theorem d_X9_fits_87 : decode cX9_fits 87 = .ok (.iconst 0, 1) := by decide +kernel
theorem d_X9_fits_88 : decode cX9_fits 88 = .ok (.invokevirtual 279, 3) := by decide +kernel
theorem d_X9_fits_91 : decode cX9_fits 91 = .ok (.iinc 5 1, 3) := by decide +kernel
theorem d_X9_fits_94 : decode cX9_fits 94 = .ok (.goto (-40), 3) := by decide +kernel
theorem d_X9_fits_97 : decode cX9_fits 97 = .ok (.aload_n 0, 1) := by decide +kernel
theorem d_X9_fits_98 : decode cX9_fits 98 = .ok (.getfield 51, 3) := by decide +kernel
theorem d_X9_fits_101 : decode cX9_fits 101 = .ok (.iconst 0, 1) := by decide +kernel
theorem d_X9_fits_102 : decode cX9_fits 102 = .ok (.invokevirtual 263, 3) := by decide +kernel
theorem d_X9_fits_105 : decode cX9_fits 105 = .ok (.ireturn, 1) := by decide +kernel
noncomputable def F_X9_fits_97 (p0 : Int32) (p1 : Int32) (M : zMem) : Option (Nat × Int32 × zMem) :=
  zb (F_X0_placeOrAmount M 172 (0 : Int32)) fun v2 M1 =>
  some (0, v2, M1)
noncomputable def F_X9_fits_91 (p0 : Int32) (p1 : Int32) (self54 : Int64 → Int32 → zMem → Option (Nat × Int32 × zMem)) (b91_L3 : Int64) (b91_L5 : Int32) (M : zMem) : Option (Nat × Int32 × zMem) :=
  self54 b91_L3 (b91_L5 + 1) M
noncomputable def F_X9_fits_54 (p0 : Int32) (p1 : Int32) (self54 : Int64 → Int32 → zMem → Option (Nat × Int32 × zMem)) (b54_L3 : Int64) (b54_L5 : Int32) (M : zMem) : Option (Nat × Int32 × zMem) :=
  if (64 : Int32) ≤ b54_L5 then
    F_X9_fits_97 p0 p1 M
  else
    if (M.1 172 0) = (-1 : Int32) then
      zb (F_X9_has M b54_L3 b54_L5) fun v4 M3 =>
      if v4 = 0 then
        F_X9_fits_91 p0 p1 self54 b54_L3 b54_L5 M3
      else
        zbv (F_X0_offerLeast M3 172 b54_L5 (0 : Int32)) fun M5 =>
        F_X9_fits_91 p0 p1 self54 b54_L3 b54_L5 M5
    else
      F_X9_fits_97 p0 p1 M
noncomputable def F_X9_fits_26 (p0 : Int32) (p1 : Int32) (b26_L1 : Int32) (b26_L2 : Int32) (b26_S1 : Int32) (M : zMem) : Option (Nat × Int32 × zMem) :=
  zbx (F_X9_need M b26_S1) (g := zxp) fun _ M6 =>
  zb (F_X9_fittingPlaces M6 b26_L1) fun v12 M11 =>
  if b26_L2 = 0 then
    zb (F_J13_bitCount_95d88 M11 v12) fun v15 M14 =>
    some (0, v15, M14)
  else
    zbv (F_X0_clear M11 172) fun M13 =>
    itF (fun _ _ _ => none) (F_X9_fits_54 p0 p1) zFuel v12 (0 : Int32) M13
noncomputable def F_X9_fits_25 (p0 : Int32) (p1 : Int32) (b25_L1 : Int32) (b25_L2 : Int32) (M : zMem) : Option (Nat × Int32 × zMem) :=
  F_X9_fits_26 p0 p1 b25_L1 b25_L2 (0 : Int32) M
noncomputable def F_X9_fits (M : zMem) (p0 : Int32) (p1 : Int32) : Option (Nat × Int32 × zMem) :=
  zb (F_X9_within M p0 (1 : Int32) (999 : Int32)) fun v17 M16 =>
  if v17 = 0 then
    F_X9_fits_25 p0 p1 p0 p1 M16
  else
    zb (F_X9_within M16 p1 (0 : Int32) (1 : Int32)) fun v19 M18 =>
    if v19 = 0 then
      F_X9_fits_25 p0 p1 p0 p1 M18
    else
      F_X9_fits_26 p0 p1 p0 p1 (1 : Int32) M18
def rm_X9_fits : Room := { frames := 10, cells := 1, slots := 6, locals := 233 }
set_option maxHeartbeats 4000000 in
set_option maxRecDepth 100000 in
theorem c_X9_fits (l : Launch) {G : zG} {ad : Nat → Nat} {n : Nat} (hA : zInj ad n) (M : zMem) (p0 : Int32) (p1 : Int32) (hl : l.stackTraces = false) (hT : zT shX n 0 10) {k9 : Nat} {r9 : Int32} {M9 : zMem} (hF : F_X9_fits M p0 p1 = some (k9, r9, M9)) : zMX l yX9_fits cX9_fits 6 (some .int) rm_X9_fits 1 6 G shX ad n M [.ref (ad 0), .int p0, .int p1] k9 (some (.int r9)) M9 := by
  refine zM_ofX hA (by decide +kernel) (lv := [(0, .ref (ad 0)), (1, .int p0), (2, .int p1)]) (Nat.le_of_ble_eq_true rfl) rfl (fun p e s m args below meth c A cx hr ht => ?_)
  have hb97 : ∀ (M : zMem), F_X9_fits_97 p0 p1 M = some (k9, r9, M9) → zJ p l e rm_X9_fits s m args below meth c G shX ad n A 6 (vx_MQ below (zQX G shX ad n M9 k9 (some (.int r9)) A) (zXC G shX ad n M9 k9 A) args s 1 6 A) 1 6 M 97 [(0, .ref (ad 0))] [] := by
    intro M hF
    unfold F_X9_fits_97 at hF
    refine z_aload_n cx d_X9_fits_97 0 rfl ?_
    refine z_getR cx hT fg_SunnyPans_51 172 rfl d_X9_fits_98 ?_
    refine z_iconst (v := 0) cx d_X9_fits_101 ki_0 ?_
    obtain ⟨v2, M1, hc, hF⟩ := zb_inv hF
    refine z_callV cx (As := [.int (0 : Int32)]) (rest := []) (c_X0_placeOrAmount l cx.2.2.2.1.1 M 172 (0 : Int32) (tfX_10_172 hT) hc) (tfX_10_172 hT) zo_1 cv_SunnyPans_263 ⟨rfl, rfl, Nat.le_of_ble_eq_true rfl, Nat.le_of_ble_eq_true rfl⟩ rfl rfl ⟨Nat.le_of_ble_eq_true rfl, Nat.le_of_ble_eq_true rfl⟩ (Nat.le_of_ble_eq_true rfl) d_X9_fits_102 ?_
    exact z_iretX cx hr rfl hF ⟨Nat.le_of_ble_eq_true rfl, Nat.le_of_ble_eq_true rfl⟩ d_X9_fits_105
  have hb91 : ∀ (self54 : Int64 → Int32 → zMem → Option (Nat × Int32 × zMem)) (hs54 : ∀ (b54_L3 : Int64) (b54_L5 : Int32) (M : zMem), self54 b54_L3 b54_L5 M = some (k9, r9, M9) → zJ p l e rm_X9_fits s m args below meth c G shX ad n A 6 (vx_MQ below (zQX G shX ad n M9 k9 (some (.int r9)) A) (zXC G shX ad n M9 k9 A) args s 1 6 A) 1 6 M 54 [(0, .ref (ad 0)), (3, .long b54_L3), (5, .int b54_L5)] []), ∀ (b91_L3 : Int64) (b91_L5 : Int32) (M : zMem), F_X9_fits_91 p0 p1 self54 b91_L3 b91_L5 M = some (k9, r9, M9) → zJ p l e rm_X9_fits s m args below meth c G shX ad n A 6 (vx_MQ below (zQX G shX ad n M9 k9 (some (.int r9)) A) (zXC G shX ad n M9 k9 A) args s 1 6 A) 1 6 M 91 [(0, .ref (ad 0)), (3, .long b91_L3), (5, .int b91_L5)] [] := by
    intro self54 hs54 b91_L3 b91_L5 M hF
    unfold F_X9_fits_91 at hF
    refine z_iinc cx 5 1 [(5, .int (b91_L5 + 1)), (0, .ref (ad 0)), (3, .long b91_L3)] d_X9_fits_91 2 rfl ki_1 (by decide) rfl ?_
    refine z_goto cx 54 d_X9_fits_94 (by decide) ?_
    exact z_lv [1, 2, 0] _ rfl (hs54 b91_L3 (b91_L5 + 1) M hF)
  have hL54 : ∀ (fuel : Nat), ∀ (b54_L3 : Int64) (b54_L5 : Int32) (M : zMem), itF (fun _ _ _ => none) (F_X9_fits_54 p0 p1) fuel b54_L3 b54_L5 M = some (k9, r9, M9) → zJ p l e rm_X9_fits s m args below meth c G shX ad n A 6 (vx_MQ below (zQX G shX ad n M9 k9 (some (.int r9)) A) (zXC G shX ad n M9 k9 A) args s 1 6 A) 1 6 M 54 [(0, .ref (ad 0)), (3, .long b54_L3), (5, .int b54_L5)] [] := by
    intro fuel
    induction fuel with
    | zero => intro b54_L3 b54_L5 M hF; cases hF
    | succ fuel hs54 =>
      intro b54_L3 b54_L5 M hF
      have hF : F_X9_fits_54 p0 p1 (itF (fun _ _ _ => none) (F_X9_fits_54 p0 p1) fuel) b54_L3 b54_L5 M = some (k9, r9, M9) := hF
      generalize itF (fun _ _ _ => none) (F_X9_fits_54 p0 p1) fuel = self54 at hs54 hF
      unfold F_X9_fits_54 at hF
      refine z_iload cx d_X9_fits_54 2 rfl ?_
      refine z_bipush (v := 64) cx d_X9_fits_56 kb_64 ?_
      refine z_icmp_ge cx 97 d_X9_fits_58 (by decide) hF (fun hF => ?_) (fun hF => ?_)
      · exact z_lv [0] _ rfl (hb97 M hF)
      refine z_aload_n cx d_X9_fits_61 0 rfl ?_
      refine z_getR cx hT fg_SunnyPans_51 172 rfl d_X9_fits_62 ?_
      refine z_getI cx (tfX_10_172 hT) fg_SunnyPans_320 d_X9_fits_65 ?_
      refine z_iconst (v := -1) cx d_X9_fits_68 ki_m1 ?_
      refine z_icmp_ne cx 97 d_X9_fits_69 (by decide) hF (fun hF => ?_) (fun hF => ?_)
      · exact z_lv [0] _ rfl (hb97 M hF)
      refine z_lload_n cx d_X9_fits_72 1 rfl ?_
      refine z_iload cx d_X9_fits_73 2 rfl ?_
      obtain ⟨v4, M3, hc, hF⟩ := zb_inv hF
      refine z_callS cx (As := [.long b54_L3, .int b54_L5]) (rest := []) (c_X9_has l cx.2.2.2.1.1 M b54_L3 b54_L5  hc) cs_SunnyPans_231 ⟨rfl, rfl, Nat.le_of_ble_eq_true rfl, Nat.le_of_ble_eq_true rfl⟩ rfl rfl ⟨Nat.le_of_ble_eq_true rfl, Nat.le_of_ble_eq_true rfl⟩ (Nat.le_of_ble_eq_true rfl) d_X9_fits_75 ?_
      refine z_if_eq cx 91 d_X9_fits_78 (by decide) hF (fun hF => ?_) (fun hF => ?_)
      · exact hb91 self54 hs54 b54_L3 b54_L5 M3 hF
      refine z_aload_n cx d_X9_fits_81 0 rfl ?_
      refine z_getR cx hT fg_SunnyPans_51 172 rfl d_X9_fits_82 ?_
      refine z_iload cx d_X9_fits_85 2 rfl ?_
      refine z_iconst (v := 0) cx d_X9_fits_87 ki_0 ?_
      obtain ⟨M5, hc, hF⟩ := zbv_inv hF
      refine z_callV cx (As := [.int b54_L5, .int (0 : Int32)]) (rest := []) (c_X0_offerLeast l cx.2.2.2.1.1 M3 172 b54_L5 (0 : Int32) (tfX_10_172 hT) hc) (tfX_10_172 hT) zo_1 cv_SunnyPans_279 ⟨rfl, rfl, Nat.le_of_ble_eq_true rfl, Nat.le_of_ble_eq_true rfl⟩ rfl rfl ⟨Nat.le_of_ble_eq_true rfl, Nat.le_of_ble_eq_true rfl⟩ (Nat.le_of_ble_eq_true rfl) d_X9_fits_88 ?_
      exact hb91 self54 hs54 b54_L3 b54_L5 M5 hF
  have hb26 : ∀ (b26_L1 : Int32) (b26_L2 : Int32) (b26_S1 : Int32) (M : zMem), F_X9_fits_26 p0 p1 b26_L1 b26_L2 b26_S1 M = some (k9, r9, M9) → zJ p l e rm_X9_fits s m args below meth c G shX ad n A 6 (vx_MQ below (zQX G shX ad n M9 k9 (some (.int r9)) A) (zXC G shX ad n M9 k9 A) args s 1 6 A) 0 0 M 26 [(0, .ref (ad 0)), (1, .int b26_L1), (2, .int b26_L2)] [.int b26_S1, .ref (ad 0)] := by
    intro b26_L1 b26_L2 b26_S1 M hF
    unfold F_X9_fits_26 at hF
    obtain ⟨k7, v8, M6, hc, hF, hX9⟩ := zbx_inv hF
    refine z_callVX cx ht (As := [.int b26_S1]) (rest := []) (c_X9_need l cx.2.2.2.1.1 M b26_S1 hl hT hc) (fun q => zxp_inv (hX9 q)) hT zo_10 cv_SunnyPans_155 ⟨rfl, rfl, Nat.le_of_ble_eq_true rfl, Nat.le_of_ble_eq_true rfl⟩ rfl rfl ⟨Nat.le_of_ble_eq_true rfl, Nat.le_of_ble_eq_true rfl⟩ ⟨Nat.le_of_ble_eq_true rfl, Nat.le_of_ble_eq_true rfl⟩ (Nat.le_of_ble_eq_true rfl) d_X9_fits_26 (fun kq10 => ?_)
    have hF := hF kq10
    refine z_aload_n cx d_X9_fits_29 0 rfl ?_
    refine z_iload_n cx d_X9_fits_30 1 rfl ?_
    obtain ⟨v12, M11, hc, hF⟩ := zb_inv hF
    refine z_callV cx (As := [.int b26_L1]) (rest := []) (c_X9_fittingPlaces l cx.2.2.2.1.1 M6 b26_L1 hT hc) hT zo_10 cv_SunnyPans_350 ⟨rfl, rfl, Nat.le_of_ble_eq_true rfl, Nat.le_of_ble_eq_true rfl⟩ rfl rfl ⟨Nat.le_of_ble_eq_true rfl, Nat.le_of_ble_eq_true rfl⟩ (Nat.le_of_ble_eq_true rfl) d_X9_fits_31 ?_
    refine z_lstore_n cx 3 [(3, .long v12), (0, .ref (ad 0)), (1, .int b26_L1), (2, .int b26_L2)] d_X9_fits_34 rfl (by decide) rfl ?_
    refine z_iload_n cx d_X9_fits_35 3 rfl ?_
    refine z_if_ne cx 44 d_X9_fits_36 (by decide) hF (fun hF => ?_) (fun hF => ?_)
    · refine z_aload_n cx d_X9_fits_44 1 rfl ?_
      refine z_getR cx hT fg_SunnyPans_51 172 rfl d_X9_fits_45 ?_
      obtain ⟨M13, hc, hF⟩ := zbv_inv hF
      refine z_callV cx (As := []) (rest := []) (c_X0_clear l cx.2.2.2.1.1 M11 172 (tfX_10_172 hT) hc) (tfX_10_172 hT) zo_1 cv_SunnyPans_259 ⟨rfl, rfl, Nat.le_of_ble_eq_true rfl, Nat.le_of_ble_eq_true rfl⟩ rfl rfl ⟨Nat.le_of_ble_eq_true rfl, Nat.le_of_ble_eq_true rfl⟩ (Nat.le_of_ble_eq_true rfl) d_X9_fits_48 ?_
      refine z_iconst (v := 0) cx d_X9_fits_51 ki_0 ?_
      refine z_istore cx 5 [(5, .int (0 : Int32)), (3, .long v12), (0, .ref (ad 0)), (1, .int b26_L1), (2, .int b26_L2)] d_X9_fits_52 (by decide) rfl ?_
      exact z_lv [2, 1, 0] _ rfl (hL54 zFuel v12 (0 : Int32) M13 hF)
    refine z_lload_n cx d_X9_fits_39 0 rfl ?_
    obtain ⟨v15, M14, hc, hF⟩ := zb_inv hF
    refine z_callS cx (As := [.long v12]) (rest := []) (c_J13_bitCount_95d88 l cx.2.2.2.1.1 M11 v12  hc) cs_SunnyPans_194 ⟨rfl, rfl, Nat.le_of_ble_eq_true rfl, Nat.le_of_ble_eq_true rfl⟩ rfl rfl ⟨Nat.le_of_ble_eq_true rfl, Nat.le_of_ble_eq_true rfl⟩ (Nat.le_of_ble_eq_true rfl) d_X9_fits_40 ?_
    exact z_iretX cx hr rfl hF ⟨Nat.le_of_ble_eq_true rfl, Nat.le_of_ble_eq_true rfl⟩ d_X9_fits_43
  have hb25 : ∀ (b25_L1 : Int32) (b25_L2 : Int32) (M : zMem), F_X9_fits_25 p0 p1 b25_L1 b25_L2 M = some (k9, r9, M9) → zJ p l e rm_X9_fits s m args below meth c G shX ad n A 6 (vx_MQ below (zQX G shX ad n M9 k9 (some (.int r9)) A) (zXC G shX ad n M9 k9 A) args s 1 6 A) 0 0 M 25 [(0, .ref (ad 0)), (1, .int b25_L1), (2, .int b25_L2)] [.ref (ad 0)] := by
    intro b25_L1 b25_L2 M hF
    unfold F_X9_fits_25 at hF
    refine z_iconst (v := 0) cx d_X9_fits_25 ki_0 ?_
    exact hb26 b25_L1 b25_L2 (0 : Int32) M hF
  unfold F_X9_fits at hF
  refine z_aload_n cx d_X9_fits_0 0 rfl ?_
  refine z_iload_n cx d_X9_fits_1 1 rfl ?_
  refine z_iconst (v := 1) cx d_X9_fits_2 ki_1 ?_
  refine z_sipush (v := 999) cx d_X9_fits_3 ks_999 ?_
  obtain ⟨v17, M16, hc, hF⟩ := zb_inv hF
  refine z_callS cx (As := [.int p0, .int (1 : Int32), .int (999 : Int32)]) (rest := [.ref (ad 0)]) (c_X9_within l cx.2.2.2.1.1 M p0 (1 : Int32) (999 : Int32)  hc) cs_SunnyPans_255 ⟨rfl, rfl, Nat.le_of_ble_eq_true rfl, Nat.le_of_ble_eq_true rfl⟩ rfl rfl ⟨Nat.le_of_ble_eq_true rfl, Nat.le_of_ble_eq_true rfl⟩ (Nat.le_of_ble_eq_true rfl) d_X9_fits_6 ?_
  refine z_if_eq cx 25 d_X9_fits_9 (by decide) hF (fun hF => ?_) (fun hF => ?_)
  · exact hb25 p0 p1 M16 hF
  refine z_iload_n cx d_X9_fits_12 2 rfl ?_
  refine z_iconst (v := 0) cx d_X9_fits_13 ki_0 ?_
  refine z_iconst (v := 1) cx d_X9_fits_14 ki_1 ?_
  obtain ⟨v19, M18, hc, hF⟩ := zb_inv hF
  refine z_callS cx (As := [.int p1, .int (0 : Int32), .int (1 : Int32)]) (rest := [.ref (ad 0)]) (c_X9_within l cx.2.2.2.1.1 M16 p1 (0 : Int32) (1 : Int32)  hc) cs_SunnyPans_255 ⟨rfl, rfl, Nat.le_of_ble_eq_true rfl, Nat.le_of_ble_eq_true rfl⟩ rfl rfl ⟨Nat.le_of_ble_eq_true rfl, Nat.le_of_ble_eq_true rfl⟩ (Nat.le_of_ble_eq_true rfl) d_X9_fits_15 ?_
  refine z_if_eq cx 25 d_X9_fits_18 (by decide) hF (fun hF => ?_) (fun hF => ?_)
  · exact hb25 p0 p1 M18 hF
  refine z_iconst (v := 1) cx d_X9_fits_21 ki_1 ?_
  refine z_goto cx 26 d_X9_fits_22 (by decide) ?_
  exact hb26 p0 p1 (1 : Int32) M18 hF
/-! SunnyPans.brinesSeen -/
theorem tfX_10_173 {n k : Nat} (h : zT shX n k 10) : zT shX n (k + 173) 16 := zT_off h (shX_f (by decide) (by decide +kernel)) (by decide) (by decide)
set_option maxRecDepth 100000 in
theorem wd_416 : Cond.fieldLink "SunnyPans" 55 "SunnyPans" "seen" "[I" ∈ tbG := tw2 76 rfl rfl
theorem fg_SunnyPans_55 : zGetR "SunnyPans" 55 9 10 7 173 := ⟨RX9, TX9, 19, rfl, by decide, uw_9, wd_416, fun _ _ _ _ _ _ => ⟨_, rfl, rfl⟩⟩
set_option maxRecDepth 100000 in
theorem wd_1248 : Cond.code yX6_touchedBy cX6_touchedBy 2 (some .long) ∈ tbG := tw5 188 rfl rfl
set_option maxRecDepth 100000 in
theorem wd_1245 : Cond.methodLink "SunnyPans" 383 yX6_touchedBy ∈ tbG := tw5 185 rfl rfl
set_option maxRecDepth 100000 in
theorem wd_1246 : Cond.instanceMethod yX6_touchedBy ∈ tbG := tw5 186 rfl rfl
set_option maxRecDepth 100000 in
theorem wd_1247 : Cond.selects "SunnyPans$Shadows" yX6_touchedBy yX6_touchedBy ∈ tbG := tw5 187 rfl rfl
theorem cv_SunnyPans_383 : zCV "SunnyPans" 383 "SunnyPans$Shadows" yX6_touchedBy cX6_touchedBy 2 (some .long) 1 := zCV_of wd_1245 wd_1246 wd_1247 wd_106 wd_1248 (by decide +kernel)
theorem d_X9_brinesSeen_0 : decode cX9_brinesSeen 0 = .ok (.iconst 0, 1) := by decide +kernel
theorem d_X9_brinesSeen_1 : decode cX9_brinesSeen 1 = .ok (.istore 4, 2) := by decide +kernel
theorem d_X9_brinesSeen_3 : decode cX9_brinesSeen 3 = .ok (.iconst (-1), 1) := by decide +kernel
theorem d_X9_brinesSeen_4 : decode cX9_brinesSeen 4 = .ok (.istore 5, 2) := by decide +kernel
theorem d_X9_brinesSeen_6 : decode cX9_brinesSeen 6 = .ok (.iconst 0, 1) := by decide +kernel
theorem d_X9_brinesSeen_7 : decode cX9_brinesSeen 7 = .ok (.istore 6, 2) := by decide +kernel
theorem d_X9_brinesSeen_9 : decode cX9_brinesSeen 9 = .ok (.iload 6, 2) := by decide +kernel
theorem d_X9_brinesSeen_11 : decode cX9_brinesSeen 11 = .ok (.bipush 64, 2) := by decide +kernel
theorem d_X9_brinesSeen_13 : decode cX9_brinesSeen 13 = .ok (.if_icmp .ge 86, 3) := by decide +kernel
theorem d_X9_brinesSeen_16 : decode cX9_brinesSeen 16 = .ok (.lload_n 2, 1) := by decide +kernel
theorem d_X9_brinesSeen_17 : decode cX9_brinesSeen 17 = .ok (.iload 6, 2) := by decide +kernel
theorem d_X9_brinesSeen_19 : decode cX9_brinesSeen 19 = .ok (.invokestatic 231, 3) := by decide +kernel
theorem d_X9_brinesSeen_22 : decode cX9_brinesSeen 22 = .ok (.ifCond .ne 6, 3) := by decide +kernel
theorem d_X9_brinesSeen_25 : decode cX9_brinesSeen 25 = .ok (.goto 68, 3) := by decide +kernel
theorem d_X9_brinesSeen_28 : decode cX9_brinesSeen 28 = .ok (.aload_n 0, 1) := by decide +kernel
theorem d_X9_brinesSeen_29 : decode cX9_brinesSeen 29 = .ok (.getfield 44, 3) := by decide +kernel
theorem d_X9_brinesSeen_32 : decode cX9_brinesSeen 32 = .ok (.iload 6, 2) := by decide +kernel
theorem d_X9_brinesSeen_34 : decode cX9_brinesSeen 34 = .ok (.invokevirtual 383, 3) := by decide +kernel
theorem d_X9_brinesSeen_37 : decode cX9_brinesSeen 37 = .ok (.iload_n 1, 1) := by decide +kernel
theorem d_X9_brinesSeen_38 : decode cX9_brinesSeen 38 = .ok (.invokestatic 231, 3) := by decide +kernel
theorem d_X9_brinesSeen_41 : decode cX9_brinesSeen 41 = .ok (.ifCond .eq 20, 3) := by decide +kernel
theorem d_X9_brinesSeen_44 : decode cX9_brinesSeen 44 = .ok (.aload_n 0, 1) := by decide +kernel
theorem d_X9_brinesSeen_45 : decode cX9_brinesSeen 45 = .ok (.getfield 55, 3) := by decide +kernel
theorem d_X9_brinesSeen_48 : decode cX9_brinesSeen 48 = .ok (.iload 4, 2) := by decide +kernel
theorem d_X9_brinesSeen_50 : decode cX9_brinesSeen 50 = .ok (.aload_n 0, 1) := by decide +kernel
theorem d_X9_brinesSeen_51 : decode cX9_brinesSeen 51 = .ok (.iload_n 1, 1) := by decide +kernel
theorem d_X9_brinesSeen_52 : decode cX9_brinesSeen 52 = .ok (.iload 6, 2) := by decide +kernel
theorem d_X9_brinesSeen_54 : decode cX9_brinesSeen 54 = .ok (.invokevirtual 375, 3) := by decide +kernel
theorem d_X9_brinesSeen_57 : decode cX9_brinesSeen 57 = .ok (.iastore, 1) := by decide +kernel
theorem d_X9_brinesSeen_58 : decode cX9_brinesSeen 58 = .ok (.goto 32, 3) := by decide +kernel
theorem d_X9_brinesSeen_61 : decode cX9_brinesSeen 61 = .ok (.iload 5, 2) := by decide +kernel
theorem d_X9_brinesSeen_63 : decode cX9_brinesSeen 63 = .ok (.iconst (-1), 1) := by decide +kernel
theorem d_X9_brinesSeen_64 : decode cX9_brinesSeen 64 = .ok (.if_icmp .ne 13, 3) := by decide +kernel
theorem d_X9_brinesSeen_67 : decode cX9_brinesSeen 67 = .ok (.aload_n 0, 1) := by decide +kernel
theorem d_X9_brinesSeen_68 : decode cX9_brinesSeen 68 = .ok (.iload_n 1, 1) := by decide +kernel
theorem d_X9_brinesSeen_69 : decode cX9_brinesSeen 69 = .ok (.iload 6, 2) := by decide +kernel
theorem d_X9_brinesSeen_71 : decode cX9_brinesSeen 71 = .ok (.invokevirtual 375, 3) := by decide +kernel
theorem d_X9_brinesSeen_74 : decode cX9_brinesSeen 74 = .ok (.goto 5, 3) := by decide +kernel
theorem d_X9_brinesSeen_77 : decode cX9_brinesSeen 77 = .ok (.iload 5, 2) := by decide +kernel
theorem d_X9_brinesSeen_79 : decode cX9_brinesSeen 79 = .ok (.istore 5, 2) := by decide +kernel
theorem d_X9_brinesSeen_81 : decode cX9_brinesSeen 81 = .ok (.aload_n 0, 1) := by decide +kernel
theorem d_X9_brinesSeen_82 : decode cX9_brinesSeen 82 = .ok (.getfield 55, 3) := by decide +kernel
theorem d_X9_brinesSeen_85 : decode cX9_brinesSeen 85 = .ok (.iload 4, 2) := by decide +kernel
theorem d_X9_brinesSeen_87 : decode cX9_brinesSeen 87 = .ok (.iload 5, 2) := by decide +kernel
theorem d_X9_brinesSeen_89 : decode cX9_brinesSeen 89 = .ok (.iastore, 1) := by decide +kernel
theorem d_X9_brinesSeen_90 : decode cX9_brinesSeen 90 = .ok (.iinc 4 1, 3) := by decide +kernel
theorem d_X9_brinesSeen_93 : decode cX9_brinesSeen 93 = .ok (.iinc 6 1, 3) := by decide +kernel
theorem d_X9_brinesSeen_96 : decode cX9_brinesSeen 96 = .ok (.goto (-87), 3) := by decide +kernel
theorem d_X9_brinesSeen_99 : decode cX9_brinesSeen 99 = .ok (.iload 4, 2) := by decide +kernel
theorem d_X9_brinesSeen_101 : decode cX9_brinesSeen 101 = .ok (.ireturn, 1) := by decide +kernel
noncomputable def F_X9_brinesSeen_93 (p0 : Int32) (p1 : Int64) (self9 : Int32 → Int64 → Int32 → Int32 → Int32 → zMem → Option (Int32 × zMem)) (b93_L1 : Int32) (b93_L2 : Int64) (b93_L4 : Int32) (b93_L5 : Int32) (b93_L6 : Int32) (M : zMem) : Option (Int32 × zMem) :=
  self9 b93_L1 b93_L2 b93_L4 b93_L5 (b93_L6 + 1) M
noncomputable def F_X9_brinesSeen_90 (p0 : Int32) (p1 : Int64) (self9 : Int32 → Int64 → Int32 → Int32 → Int32 → zMem → Option (Int32 × zMem)) (b90_L1 : Int32) (b90_L2 : Int64) (b90_L4 : Int32) (b90_L5 : Int32) (b90_L6 : Int32) (M : zMem) : Option (Int32 × zMem) :=
  F_X9_brinesSeen_93 p0 p1 self9 b90_L1 b90_L2 (b90_L4 + 1) b90_L5 b90_L6 M
noncomputable def F_X9_brinesSeen_79 (p0 : Int32) (p1 : Int64) (self9 : Int32 → Int64 → Int32 → Int32 → Int32 → zMem → Option (Int32 × zMem)) (b79_L1 : Int32) (b79_L2 : Int64) (b79_L4 : Int32) (b79_L6 : Int32) (b79_S0 : Int32) (M : zMem) : Option (Int32 × zMem) :=
  gin b79_L4 64 <|
  zl (zI M 173 b79_L4.toNatClampNeg b79_S0) fun M2 =>
  F_X9_brinesSeen_90 p0 p1 self9 b79_L1 b79_L2 b79_L4 b79_S0 b79_L6 M2
noncomputable def F_X9_brinesSeen_9 (p0 : Int32) (p1 : Int64) (self9 : Int32 → Int64 → Int32 → Int32 → Int32 → zMem → Option (Int32 × zMem)) (b9_L1 : Int32) (b9_L2 : Int64) (b9_L4 : Int32) (b9_L5 : Int32) (b9_L6 : Int32) (M : zMem) : Option (Int32 × zMem) :=
  if (64 : Int32) ≤ b9_L6 then
    some (b9_L4, M)
  else
    zb (F_X9_has M b9_L2 b9_L6) fun v4 M3 =>
    if v4 = 0 then
      F_X9_brinesSeen_93 p0 p1 self9 b9_L1 b9_L2 b9_L4 b9_L5 b9_L6 M3
    else
      zb (F_X6_touchedBy M3 104 b9_L6) fun v6 M5 =>
      zb (F_X9_has M5 v6 b9_L1) fun v8 M7 =>
      if v8 = 0 then
        if b9_L5 = (-1 : Int32) then
          zb (F_X9_brineAfterDay M7 b9_L1 b9_L6) fun v10 M9 =>
          F_X9_brinesSeen_79 p0 p1 self9 b9_L1 b9_L2 b9_L4 b9_L6 v10 M9
        else
          F_X9_brinesSeen_79 p0 p1 self9 b9_L1 b9_L2 b9_L4 b9_L6 b9_L5 M7
      else
        zb (F_X9_brineAfterDay M7 b9_L1 b9_L6) fun v12 M11 =>
        gin b9_L4 64 <|
        zl (zI M11 173 b9_L4.toNatClampNeg v12) fun M14 =>
        F_X9_brinesSeen_90 p0 p1 self9 b9_L1 b9_L2 b9_L4 b9_L5 b9_L6 M14
noncomputable def F_X9_brinesSeen (M : zMem) (p0 : Int32) (p1 : Int64) : Option (Int32 × zMem) :=
  itF (fun _ _ _ _ _ _ => none) (F_X9_brinesSeen_9 p0 p1) zFuel p0 p1 (0 : Int32) (-1 : Int32) (0 : Int32) M
def rm_X9_brinesSeen : Room := { frames := 7, cells := 0, slots := 0, locals := 185 }
set_option maxHeartbeats 4000000 in
set_option maxRecDepth 100000 in
theorem c_X9_brinesSeen (l : Launch) {G : zG} {ad : Nat → Nat} {n : Nat} (hA : zInj ad n) (M : zMem) (p0 : Int32) (p1 : Int64) (hT : zT shX n 0 10) {r9 : Int32} {M9 : zMem} (hF : F_X9_brinesSeen M p0 p1 = some (r9, M9)) : zM l yX9_brinesSeen cX9_brinesSeen 7 (some .int) rm_X9_brinesSeen G shX ad n M [.ref (ad 0), .int p0, .long p1] (some (.int r9)) M9 := by
  refine zM_of hA (by decide +kernel) (lv := [(0, .ref (ad 0)), (1, .int p0), (2, .long p1)]) (Nat.le_of_ble_eq_true rfl) rfl (fun p e s m args below meth c A cx hr => ?_)
  have hb93 : ∀ (self9 : Int32 → Int64 → Int32 → Int32 → Int32 → zMem → Option (Int32 × zMem)) (hs9 : ∀ (b9_L1 : Int32) (b9_L2 : Int64) (b9_L4 : Int32) (b9_L5 : Int32) (b9_L6 : Int32) (M : zMem), self9 b9_L1 b9_L2 b9_L4 b9_L5 b9_L6 M = some (r9, M9) → zJ p l e rm_X9_brinesSeen s m args below meth c G shX ad n A 7 (MQ below (zQ G shX ad n M9 (some (.int r9)) A) args s 0 0 A) 0 0 M 9 [(0, .ref (ad 0)), (1, .int b9_L1), (2, .long b9_L2), (4, .int b9_L4), (5, .int b9_L5), (6, .int b9_L6)] []), ∀ (b93_L1 : Int32) (b93_L2 : Int64) (b93_L4 : Int32) (b93_L5 : Int32) (b93_L6 : Int32) (M : zMem), F_X9_brinesSeen_93 p0 p1 self9 b93_L1 b93_L2 b93_L4 b93_L5 b93_L6 M = some (r9, M9) → zJ p l e rm_X9_brinesSeen s m args below meth c G shX ad n A 7 (MQ below (zQ G shX ad n M9 (some (.int r9)) A) args s 0 0 A) 0 0 M 93 [(0, .ref (ad 0)), (1, .int b93_L1), (2, .long b93_L2), (4, .int b93_L4), (5, .int b93_L5), (6, .int b93_L6)] [] := by
    intro self9 hs9 b93_L1 b93_L2 b93_L4 b93_L5 b93_L6 M hF
    unfold F_X9_brinesSeen_93 at hF
    refine z_iinc cx 6 1 [(6, .int (b93_L6 + 1)), (0, .ref (ad 0)), (1, .int b93_L1), (2, .long b93_L2), (4, .int b93_L4), (5, .int b93_L5)] d_X9_brinesSeen_93 5 rfl ki_1 (by decide) rfl ?_
    refine z_goto cx 9 d_X9_brinesSeen_96 (by decide) ?_
    exact z_lv [1, 2, 3, 4, 5, 0] _ rfl (hs9 b93_L1 b93_L2 b93_L4 b93_L5 (b93_L6 + 1) M hF)
  have hb90 : ∀ (self9 : Int32 → Int64 → Int32 → Int32 → Int32 → zMem → Option (Int32 × zMem)) (hs9 : ∀ (b9_L1 : Int32) (b9_L2 : Int64) (b9_L4 : Int32) (b9_L5 : Int32) (b9_L6 : Int32) (M : zMem), self9 b9_L1 b9_L2 b9_L4 b9_L5 b9_L6 M = some (r9, M9) → zJ p l e rm_X9_brinesSeen s m args below meth c G shX ad n A 7 (MQ below (zQ G shX ad n M9 (some (.int r9)) A) args s 0 0 A) 0 0 M 9 [(0, .ref (ad 0)), (1, .int b9_L1), (2, .long b9_L2), (4, .int b9_L4), (5, .int b9_L5), (6, .int b9_L6)] []), ∀ (b90_L1 : Int32) (b90_L2 : Int64) (b90_L4 : Int32) (b90_L5 : Int32) (b90_L6 : Int32) (M : zMem), F_X9_brinesSeen_90 p0 p1 self9 b90_L1 b90_L2 b90_L4 b90_L5 b90_L6 M = some (r9, M9) → zJ p l e rm_X9_brinesSeen s m args below meth c G shX ad n A 7 (MQ below (zQ G shX ad n M9 (some (.int r9)) A) args s 0 0 A) 0 0 M 90 [(0, .ref (ad 0)), (1, .int b90_L1), (2, .long b90_L2), (4, .int b90_L4), (5, .int b90_L5), (6, .int b90_L6)] [] := by
    intro self9 hs9 b90_L1 b90_L2 b90_L4 b90_L5 b90_L6 M hF
    unfold F_X9_brinesSeen_90 at hF
    refine z_iinc cx 4 1 [(4, .int (b90_L4 + 1)), (0, .ref (ad 0)), (1, .int b90_L1), (2, .long b90_L2), (5, .int b90_L5), (6, .int b90_L6)] d_X9_brinesSeen_90 3 rfl ki_1 (by decide) rfl ?_
    exact z_lv [1, 2, 3, 0, 4, 5] _ rfl (hb93 self9 hs9 b90_L1 b90_L2 (b90_L4 + 1) b90_L5 b90_L6 M hF)
  have hb79 : ∀ (self9 : Int32 → Int64 → Int32 → Int32 → Int32 → zMem → Option (Int32 × zMem)) (hs9 : ∀ (b9_L1 : Int32) (b9_L2 : Int64) (b9_L4 : Int32) (b9_L5 : Int32) (b9_L6 : Int32) (M : zMem), self9 b9_L1 b9_L2 b9_L4 b9_L5 b9_L6 M = some (r9, M9) → zJ p l e rm_X9_brinesSeen s m args below meth c G shX ad n A 7 (MQ below (zQ G shX ad n M9 (some (.int r9)) A) args s 0 0 A) 0 0 M 9 [(0, .ref (ad 0)), (1, .int b9_L1), (2, .long b9_L2), (4, .int b9_L4), (5, .int b9_L5), (6, .int b9_L6)] []), ∀ (b79_L1 : Int32) (b79_L2 : Int64) (b79_L4 : Int32) (b79_L6 : Int32) (b79_S0 : Int32) (M : zMem), F_X9_brinesSeen_79 p0 p1 self9 b79_L1 b79_L2 b79_L4 b79_L6 b79_S0 M = some (r9, M9) → zJ p l e rm_X9_brinesSeen s m args below meth c G shX ad n A 7 (MQ below (zQ G shX ad n M9 (some (.int r9)) A) args s 0 0 A) 0 0 M 79 [(0, .ref (ad 0)), (1, .int b79_L1), (2, .long b79_L2), (4, .int b79_L4), (6, .int b79_L6)] [.int b79_S0] := by
    intro self9 hs9 b79_L1 b79_L2 b79_L4 b79_L6 b79_S0 M hF
    unfold F_X9_brinesSeen_79 at hF
    refine z_istore cx 5 [(5, .int b79_S0), (0, .ref (ad 0)), (1, .int b79_L1), (2, .long b79_L2), (4, .int b79_L4), (6, .int b79_L6)] d_X9_brinesSeen_79 (by decide) rfl ?_
    refine z_aload_n cx d_X9_brinesSeen_81 1 rfl ?_
    refine z_getR cx hT fg_SunnyPans_55 173 rfl d_X9_brinesSeen_82 ?_
    refine z_iload cx d_X9_brinesSeen_85 4 rfl ?_
    refine z_iload cx d_X9_brinesSeen_87 0 rfl ?_
    obtain ⟨hi1, hF⟩ := gin_inv hF
    refine z_iast cx (tfX_10_173 hT) za_16 hi1 b79_L4.toNatClampNeg rfl d_X9_brinesSeen_89 ?_
    refine z_nmM hF (fun M2 hF => ?_)
    exact z_lv [1, 2, 3, 4, 0, 5] _ rfl (hb90 self9 hs9 b79_L1 b79_L2 b79_L4 b79_S0 b79_L6 M2 hF)
  have hL9 : ∀ (fuel : Nat), ∀ (b9_L1 : Int32) (b9_L2 : Int64) (b9_L4 : Int32) (b9_L5 : Int32) (b9_L6 : Int32) (M : zMem), itF (fun _ _ _ _ _ _ => none) (F_X9_brinesSeen_9 p0 p1) fuel b9_L1 b9_L2 b9_L4 b9_L5 b9_L6 M = some (r9, M9) → zJ p l e rm_X9_brinesSeen s m args below meth c G shX ad n A 7 (MQ below (zQ G shX ad n M9 (some (.int r9)) A) args s 0 0 A) 0 0 M 9 [(0, .ref (ad 0)), (1, .int b9_L1), (2, .long b9_L2), (4, .int b9_L4), (5, .int b9_L5), (6, .int b9_L6)] [] := by
    intro fuel
    induction fuel with
    | zero => intro b9_L1 b9_L2 b9_L4 b9_L5 b9_L6 M hF; cases hF
    | succ fuel hs9 =>
      intro b9_L1 b9_L2 b9_L4 b9_L5 b9_L6 M hF
      have hF : F_X9_brinesSeen_9 p0 p1 (itF (fun _ _ _ _ _ _ => none) (F_X9_brinesSeen_9 p0 p1) fuel) b9_L1 b9_L2 b9_L4 b9_L5 b9_L6 M = some (r9, M9) := hF
      generalize itF (fun _ _ _ _ _ _ => none) (F_X9_brinesSeen_9 p0 p1) fuel = self9 at hs9 hF
      unfold F_X9_brinesSeen_9 at hF
      refine z_iload cx d_X9_brinesSeen_9 5 rfl ?_
      refine z_bipush (v := 64) cx d_X9_brinesSeen_11 kb_64 ?_
      refine z_icmp_ge cx 99 d_X9_brinesSeen_13 (by decide) hF (fun hF => ?_) (fun hF => ?_)
      · refine z_iload cx d_X9_brinesSeen_99 3 rfl ?_
        exact z_iret cx hr rfl hF d_X9_brinesSeen_101
      refine z_lload_n cx d_X9_brinesSeen_16 2 rfl ?_
      refine z_iload cx d_X9_brinesSeen_17 5 rfl ?_
      obtain ⟨v4, M3, hc, hF⟩ := zb_inv hF
      refine z_callS cx (As := [.long b9_L2, .int b9_L6]) (rest := []) (c_X9_has l cx.2.2.2.1.1 M b9_L2 b9_L6  hc) cs_SunnyPans_231 ⟨rfl, rfl, Nat.le_of_ble_eq_true rfl, Nat.le_of_ble_eq_true rfl⟩ rfl rfl ⟨Nat.zero_le _, Nat.zero_le _⟩ (Nat.le_of_ble_eq_true rfl) d_X9_brinesSeen_19 ?_
      refine z_if_ne cx 28 d_X9_brinesSeen_22 (by decide) hF (fun hF => ?_) (fun hF => ?_)
      · refine z_aload_n cx d_X9_brinesSeen_28 0 rfl ?_
        refine z_getR cx hT fg_SunnyPans_44 104 rfl d_X9_brinesSeen_29 ?_
        refine z_iload cx d_X9_brinesSeen_32 5 rfl ?_
        obtain ⟨v6, M5, hc, hF⟩ := zb_inv hF
        refine z_callV cx (As := [.int b9_L6]) (rest := []) (c_X6_touchedBy l cx.2.2.2.1.1 M3 104 b9_L6 (tfX_10_104 hT) hc) (tfX_10_104 hT) zo_7 cv_SunnyPans_383 ⟨rfl, rfl, Nat.le_of_ble_eq_true rfl, Nat.le_of_ble_eq_true rfl⟩ rfl rfl ⟨Nat.zero_le _, Nat.zero_le _⟩ (Nat.le_of_ble_eq_true rfl) d_X9_brinesSeen_34 ?_
        refine z_iload_n cx d_X9_brinesSeen_37 1 rfl ?_
        obtain ⟨v8, M7, hc, hF⟩ := zb_inv hF
        refine z_callS cx (As := [.long v6, .int b9_L1]) (rest := []) (c_X9_has l cx.2.2.2.1.1 M5 v6 b9_L1  hc) cs_SunnyPans_231 ⟨rfl, rfl, Nat.le_of_ble_eq_true rfl, Nat.le_of_ble_eq_true rfl⟩ rfl rfl ⟨Nat.zero_le _, Nat.zero_le _⟩ (Nat.le_of_ble_eq_true rfl) d_X9_brinesSeen_38 ?_
        refine z_if_eq cx 61 d_X9_brinesSeen_41 (by decide) hF (fun hF => ?_) (fun hF => ?_)
        · refine z_iload cx d_X9_brinesSeen_61 4 rfl ?_
          refine z_iconst (v := -1) cx d_X9_brinesSeen_63 ki_m1 ?_
          refine z_icmp_ne cx 77 d_X9_brinesSeen_64 (by decide) hF (fun hF => ?_) (fun hF => ?_)
          · refine z_iload cx d_X9_brinesSeen_77 4 rfl ?_
            exact z_lv [0, 1, 2, 3, 5] _ rfl (hb79 self9 hs9 b9_L1 b9_L2 b9_L4 b9_L6 b9_L5 M7 hF)
          refine z_aload_n cx d_X9_brinesSeen_67 0 rfl ?_
          refine z_iload_n cx d_X9_brinesSeen_68 1 rfl ?_
          refine z_iload cx d_X9_brinesSeen_69 5 rfl ?_
          obtain ⟨v10, M9, hc, hF⟩ := zb_inv hF
          refine z_callV cx (As := [.int b9_L1, .int b9_L6]) (rest := []) (c_X9_brineAfterDay l cx.2.2.2.1.1 M7 b9_L1 b9_L6 hT hc) hT zo_10 cv_SunnyPans_375 ⟨rfl, rfl, Nat.le_of_ble_eq_true rfl, Nat.le_of_ble_eq_true rfl⟩ rfl rfl ⟨Nat.zero_le _, Nat.zero_le _⟩ (Nat.le_of_ble_eq_true rfl) d_X9_brinesSeen_71 ?_
          refine z_goto cx 79 d_X9_brinesSeen_74 (by decide) ?_
          exact z_lv [0, 1, 2, 3, 5] _ rfl (hb79 self9 hs9 b9_L1 b9_L2 b9_L4 b9_L6 v10 M9 hF)
        refine z_aload_n cx d_X9_brinesSeen_44 0 rfl ?_
        refine z_getR cx hT fg_SunnyPans_55 173 rfl d_X9_brinesSeen_45 ?_
        refine z_iload cx d_X9_brinesSeen_48 3 rfl ?_
        refine z_aload_n cx d_X9_brinesSeen_50 0 rfl ?_
        refine z_iload_n cx d_X9_brinesSeen_51 1 rfl ?_
        refine z_iload cx d_X9_brinesSeen_52 5 rfl ?_
        obtain ⟨v12, M11, hc, hF⟩ := zb_inv hF
        refine z_callV cx (As := [.int b9_L1, .int b9_L6]) (rest := [.int b9_L4, .ref (ad 173)]) (c_X9_brineAfterDay l cx.2.2.2.1.1 M7 b9_L1 b9_L6 hT hc) hT zo_10 cv_SunnyPans_375 ⟨rfl, rfl, Nat.le_of_ble_eq_true rfl, Nat.le_of_ble_eq_true rfl⟩ rfl rfl ⟨Nat.zero_le _, Nat.zero_le _⟩ (Nat.le_of_ble_eq_true rfl) d_X9_brinesSeen_54 ?_
        obtain ⟨hi13, hF⟩ := gin_inv hF
        refine z_iast cx (tfX_10_173 hT) za_16 hi13 b9_L4.toNatClampNeg rfl d_X9_brinesSeen_57 ?_
        refine z_nmM hF (fun M14 hF => ?_)
        refine z_goto cx 90 d_X9_brinesSeen_58 (by decide) ?_
        exact hb90 self9 hs9 b9_L1 b9_L2 b9_L4 b9_L5 b9_L6 M14 hF
      refine z_goto cx 93 d_X9_brinesSeen_25 (by decide) ?_
      exact hb93 self9 hs9 b9_L1 b9_L2 b9_L4 b9_L5 b9_L6 M3 hF
  unfold F_X9_brinesSeen at hF
  refine z_iconst (v := 0) cx d_X9_brinesSeen_0 ki_0 ?_
  refine z_istore cx 4 [(4, .int (0 : Int32)), (0, .ref (ad 0)), (1, .int p0), (2, .long p1)] d_X9_brinesSeen_1 (by decide) rfl ?_
  refine z_iconst (v := -1) cx d_X9_brinesSeen_3 ki_m1 ?_
  refine z_istore cx 5 [(5, .int (-1 : Int32)), (4, .int (0 : Int32)), (0, .ref (ad 0)), (1, .int p0), (2, .long p1)] d_X9_brinesSeen_4 (by decide) rfl ?_
  refine z_iconst (v := 0) cx d_X9_brinesSeen_6 ki_0 ?_
  refine z_istore cx 6 [(6, .int (0 : Int32)), (5, .int (-1 : Int32)), (4, .int (0 : Int32)), (0, .ref (ad 0)), (1, .int p0), (2, .long p1)] d_X9_brinesSeen_7 (by decide) rfl ?_
  exact z_lv [3, 4, 5, 2, 1, 0] _ rfl (hL9 zFuel p0 p1 (0 : Int32) (-1 : Int32) (0 : Int32) M hF)
/-! SunnyPans.mostAlike -/
set_option maxRecDepth 100000 in
theorem wd_1253 : Cond.methodLink "SunnyPans" 386 Lib.Math.max.name ∈ tbG := tw5 193 rfl rfl
theorem d_X9_mostAlike_0 : decode cX9_mostAlike 0 = .ok (.iconst 0, 1) := by decide +kernel
theorem d_X9_mostAlike_1 : decode cX9_mostAlike 1 = .ok (.istore_n 2, 1) := by decide +kernel
theorem d_X9_mostAlike_2 : decode cX9_mostAlike 2 = .ok (.iconst 0, 1) := by decide +kernel
theorem d_X9_mostAlike_3 : decode cX9_mostAlike 3 = .ok (.istore_n 3, 1) := by decide +kernel
theorem d_X9_mostAlike_4 : decode cX9_mostAlike 4 = .ok (.iload_n 3, 1) := by decide +kernel
theorem d_X9_mostAlike_5 : decode cX9_mostAlike 5 = .ok (.iload_n 1, 1) := by decide +kernel
theorem d_X9_mostAlike_6 : decode cX9_mostAlike 6 = .ok (.if_icmp .ge 60, 3) := by decide +kernel
theorem d_X9_mostAlike_9 : decode cX9_mostAlike 9 = .ok (.iconst 0, 1) := by decide +kernel
theorem d_X9_mostAlike_10 : decode cX9_mostAlike 10 = .ok (.istore 4, 2) := by decide +kernel
theorem d_X9_mostAlike_12 : decode cX9_mostAlike 12 = .ok (.iload_n 3, 1) := by decide +kernel
theorem d_X9_mostAlike_13 : decode cX9_mostAlike 13 = .ok (.istore 5, 2) := by decide +kernel
theorem d_X9_mostAlike_15 : decode cX9_mostAlike 15 = .ok (.iload 5, 2) := by decide +kernel
theorem d_X9_mostAlike_17 : decode cX9_mostAlike 17 = .ok (.iload_n 1, 1) := by decide +kernel
theorem d_X9_mostAlike_18 : decode cX9_mostAlike 18 = .ok (.if_icmp .ge 35, 3) := by decide +kernel
theorem d_X9_mostAlike_21 : decode cX9_mostAlike 21 = .ok (.iload 4, 2) := by decide +kernel
theorem d_X9_mostAlike_23 : decode cX9_mostAlike 23 = .ok (.aload_n 0, 1) := by decide +kernel
theorem d_X9_mostAlike_24 : decode cX9_mostAlike 24 = .ok (.getfield 55, 3) := by decide +kernel
theorem d_X9_mostAlike_27 : decode cX9_mostAlike 27 = .ok (.iload_n 3, 1) := by decide +kernel
theorem d_X9_mostAlike_28 : decode cX9_mostAlike 28 = .ok (.iaload, 1) := by decide +kernel
theorem d_X9_mostAlike_29 : decode cX9_mostAlike 29 = .ok (.aload_n 0, 1) := by decide +kernel
theorem d_X9_mostAlike_30 : decode cX9_mostAlike 30 = .ok (.getfield 55, 3) := by decide +kernel
theorem d_X9_mostAlike_33 : decode cX9_mostAlike 33 = .ok (.iload 5, 2) := by decide +kernel
theorem d_X9_mostAlike_35 : decode cX9_mostAlike 35 = .ok (.iaload, 1) := by decide +kernel
theorem d_X9_mostAlike_36 : decode cX9_mostAlike 36 = .ok (.if_icmp .ne 7, 3) := by decide +kernel
theorem d_X9_mostAlike_39 : decode cX9_mostAlike 39 = .ok (.iconst 1, 1) := by decide +kernel
theorem d_X9_mostAlike_40 : decode cX9_mostAlike 40 = .ok (.goto 4, 3) := by decide +kernel
theorem d_X9_mostAlike_43 : decode cX9_mostAlike 43 = .ok (.iconst 0, 1) := by decide +kernel
theorem d_X9_mostAlike_44 : decode cX9_mostAlike 44 = .ok (.iadd, 1) := by decide +kernel
theorem d_X9_mostAlike_45 : decode cX9_mostAlike 45 = .ok (.istore 4, 2) := by decide +kernel
theorem d_X9_mostAlike_47 : decode cX9_mostAlike 47 = .ok (.iinc 5 1, 3) := by decide +kernel
theorem d_X9_mostAlike_50 : decode cX9_mostAlike 50 = .ok (.goto (-35), 3) := by decide +kernel
theorem d_X9_mostAlike_53 : decode cX9_mostAlike 53 = .ok (.iload_n 2, 1) := by decide +kernel
theorem d_X9_mostAlike_54 : decode cX9_mostAlike 54 = .ok (.iload 4, 2) := by decide +kernel
theorem d_X9_mostAlike_56 : decode cX9_mostAlike 56 = .ok (.invokestatic 386, 3) := by decide +kernel
theorem d_X9_mostAlike_59 : decode cX9_mostAlike 59 = .ok (.istore_n 2, 1) := by decide +kernel
theorem d_X9_mostAlike_60 : decode cX9_mostAlike 60 = .ok (.iinc 3 1, 3) := by decide +kernel
theorem d_X9_mostAlike_63 : decode cX9_mostAlike 63 = .ok (.goto (-59), 3) := by decide +kernel
theorem d_X9_mostAlike_66 : decode cX9_mostAlike 66 = .ok (.iload_n 2, 1) := by decide +kernel
theorem d_X9_mostAlike_67 : decode cX9_mostAlike 67 = .ok (.ireturn, 1) := by decide +kernel
noncomputable def F_X9_mostAlike_44 (p0 : Int32) (self4 : Int32 → Int32 → Int32 → zMem → Option (Int32 × zMem)) (self15 : Int32 → Int32 → Int32 → Int32 → Int32 → zMem → Option (Int32 × zMem)) (b44_L1 : Int32) (b44_L2 : Int32) (b44_L3 : Int32) (b44_L5 : Int32) (b44_S0 : Int32) (b44_S1 : Int32) (M : zMem) : Option (Int32 × zMem) :=
  zl (b44_S0 + b44_S1) fun v1 =>
  self15 b44_L1 b44_L2 b44_L3 v1 (b44_L5 + 1) M
noncomputable def F_X9_mostAlike_15 (p0 : Int32) (self4 : Int32 → Int32 → Int32 → zMem → Option (Int32 × zMem)) (self15 : Int32 → Int32 → Int32 → Int32 → Int32 → zMem → Option (Int32 × zMem)) (b15_L1 : Int32) (b15_L2 : Int32) (b15_L3 : Int32) (b15_L4 : Int32) (b15_L5 : Int32) (M : zMem) : Option (Int32 × zMem) :=
  if b15_L1 ≤ b15_L5 then
    zl (zmax b15_L2 b15_L4) fun v2 =>
    self4 b15_L1 v2 (b15_L3 + 1) M
  else
    gin b15_L3 64 <|
    gin b15_L5 64 <|
    if (M.1 173 b15_L3.toNatClampNeg) = (M.1 173 b15_L5.toNatClampNeg) then
      F_X9_mostAlike_44 p0 self4 self15 b15_L1 b15_L2 b15_L3 b15_L5 b15_L4 (1 : Int32) M
    else
      F_X9_mostAlike_44 p0 self4 self15 b15_L1 b15_L2 b15_L3 b15_L5 b15_L4 (0 : Int32) M
noncomputable def F_X9_mostAlike_4 (p0 : Int32) (self4 : Int32 → Int32 → Int32 → zMem → Option (Int32 × zMem)) (b4_L1 : Int32) (b4_L2 : Int32) (b4_L3 : Int32) (M : zMem) : Option (Int32 × zMem) :=
  if b4_L1 ≤ b4_L3 then
    some (b4_L2, M)
  else
    itF (fun _ _ _ _ _ _ => none) (F_X9_mostAlike_15 p0 self4) zFuel b4_L1 b4_L2 b4_L3 (0 : Int32) b4_L3 M
noncomputable def F_X9_mostAlike (M : zMem) (p0 : Int32) : Option (Int32 × zMem) :=
  itF (fun _ _ _ _ => none) (F_X9_mostAlike_4 p0) zFuel p0 (0 : Int32) (0 : Int32) M
def rm_X9_mostAlike : Room := { frames := 3, cells := 0, slots := 0, locals := 80 }
set_option maxHeartbeats 4000000 in
set_option maxRecDepth 100000 in
theorem c_X9_mostAlike (l : Launch) {G : zG} {ad : Nat → Nat} {n : Nat} (hA : zInj ad n) (M : zMem) (p0 : Int32) (hT : zT shX n 0 10) {r9 : Int32} {M9 : zMem} (hF : F_X9_mostAlike M p0 = some (r9, M9)) : zM l yX9_mostAlike cX9_mostAlike 6 (some .int) rm_X9_mostAlike G shX ad n M [.ref (ad 0), .int p0] (some (.int r9)) M9 := by
  refine zM_of hA (by decide +kernel) (lv := [(0, .ref (ad 0)), (1, .int p0)]) (Nat.le_of_ble_eq_true rfl) rfl (fun p e s m args below meth c A cx hr => ?_)
  have hb44 : ∀ (self4 : Int32 → Int32 → Int32 → zMem → Option (Int32 × zMem)) (hs4 : ∀ (b4_L1 : Int32) (b4_L2 : Int32) (b4_L3 : Int32) (M : zMem), self4 b4_L1 b4_L2 b4_L3 M = some (r9, M9) → zJ p l e rm_X9_mostAlike s m args below meth c G shX ad n A 6 (MQ below (zQ G shX ad n M9 (some (.int r9)) A) args s 0 0 A) 0 0 M 4 [(0, .ref (ad 0)), (1, .int b4_L1), (2, .int b4_L2), (3, .int b4_L3)] []) (self15 : Int32 → Int32 → Int32 → Int32 → Int32 → zMem → Option (Int32 × zMem)) (hs15 : ∀ (b15_L1 : Int32) (b15_L2 : Int32) (b15_L3 : Int32) (b15_L4 : Int32) (b15_L5 : Int32) (M : zMem), self15 b15_L1 b15_L2 b15_L3 b15_L4 b15_L5 M = some (r9, M9) → zJ p l e rm_X9_mostAlike s m args below meth c G shX ad n A 6 (MQ below (zQ G shX ad n M9 (some (.int r9)) A) args s 0 0 A) 0 0 M 15 [(0, .ref (ad 0)), (1, .int b15_L1), (2, .int b15_L2), (3, .int b15_L3), (4, .int b15_L4), (5, .int b15_L5)] []), ∀ (b44_L1 : Int32) (b44_L2 : Int32) (b44_L3 : Int32) (b44_L5 : Int32) (b44_S0 : Int32) (b44_S1 : Int32) (M : zMem), F_X9_mostAlike_44 p0 self4 self15 b44_L1 b44_L2 b44_L3 b44_L5 b44_S0 b44_S1 M = some (r9, M9) → zJ p l e rm_X9_mostAlike s m args below meth c G shX ad n A 6 (MQ below (zQ G shX ad n M9 (some (.int r9)) A) args s 0 0 A) 0 0 M 44 [(0, .ref (ad 0)), (1, .int b44_L1), (2, .int b44_L2), (3, .int b44_L3), (5, .int b44_L5)] [.int b44_S1, .int b44_S0] := by
    intro self4 hs4 self15 hs15 b44_L1 b44_L2 b44_L3 b44_L5 b44_S0 b44_S1 M hF
    unfold F_X9_mostAlike_44 at hF
    refine z_iadd cx d_X9_mostAlike_44 ?_
    refine z_nm hF (fun v1 hF => ?_)
    refine z_istore cx 4 [(4, .int v1), (0, .ref (ad 0)), (1, .int b44_L1), (2, .int b44_L2), (3, .int b44_L3), (5, .int b44_L5)] d_X9_mostAlike_45 (by decide) rfl ?_
    refine z_iinc cx 5 1 [(5, .int (b44_L5 + 1)), (4, .int v1), (0, .ref (ad 0)), (1, .int b44_L1), (2, .int b44_L2), (3, .int b44_L3)] d_X9_mostAlike_47 5 rfl ki_1 (by decide) rfl ?_
    refine z_goto cx 15 d_X9_mostAlike_50 (by decide) ?_
    exact z_lv [2, 3, 4, 5, 1, 0] _ rfl (hs15 b44_L1 b44_L2 b44_L3 v1 (b44_L5 + 1) M hF)
  have hL15 : ∀ (self4 : Int32 → Int32 → Int32 → zMem → Option (Int32 × zMem)) (hs4 : ∀ (b4_L1 : Int32) (b4_L2 : Int32) (b4_L3 : Int32) (M : zMem), self4 b4_L1 b4_L2 b4_L3 M = some (r9, M9) → zJ p l e rm_X9_mostAlike s m args below meth c G shX ad n A 6 (MQ below (zQ G shX ad n M9 (some (.int r9)) A) args s 0 0 A) 0 0 M 4 [(0, .ref (ad 0)), (1, .int b4_L1), (2, .int b4_L2), (3, .int b4_L3)] []) (fuel : Nat), ∀ (b15_L1 : Int32) (b15_L2 : Int32) (b15_L3 : Int32) (b15_L4 : Int32) (b15_L5 : Int32) (M : zMem), itF (fun _ _ _ _ _ _ => none) (F_X9_mostAlike_15 p0 self4) fuel b15_L1 b15_L2 b15_L3 b15_L4 b15_L5 M = some (r9, M9) → zJ p l e rm_X9_mostAlike s m args below meth c G shX ad n A 6 (MQ below (zQ G shX ad n M9 (some (.int r9)) A) args s 0 0 A) 0 0 M 15 [(0, .ref (ad 0)), (1, .int b15_L1), (2, .int b15_L2), (3, .int b15_L3), (4, .int b15_L4), (5, .int b15_L5)] [] := by
    intro self4 hs4 fuel
    induction fuel with
    | zero => intro b15_L1 b15_L2 b15_L3 b15_L4 b15_L5 M hF; cases hF
    | succ fuel hs15 =>
      intro b15_L1 b15_L2 b15_L3 b15_L4 b15_L5 M hF
      have hF : F_X9_mostAlike_15 p0 self4 (itF (fun _ _ _ _ _ _ => none) (F_X9_mostAlike_15 p0 self4) fuel) b15_L1 b15_L2 b15_L3 b15_L4 b15_L5 M = some (r9, M9) := hF
      generalize itF (fun _ _ _ _ _ _ => none) (F_X9_mostAlike_15 p0 self4) fuel = self15 at hs15 hF
      unfold F_X9_mostAlike_15 at hF
      refine z_iload cx d_X9_mostAlike_15 5 rfl ?_
      refine z_iload_n cx d_X9_mostAlike_17 1 rfl ?_
      refine z_icmp_ge cx 53 d_X9_mostAlike_18 (by decide) hF (fun hF => ?_) (fun hF => ?_)
      · refine z_iload_n cx d_X9_mostAlike_53 2 rfl ?_
        refine z_iload cx d_X9_mostAlike_54 4 rfl ?_
        refine z_mmax cx ⟨wd_1253, wd_605, wd_116, wd_606⟩ ⟨Nat.le_of_ble_eq_true rfl, Nat.le_of_ble_eq_true rfl, Nat.le_of_ble_eq_true rfl, Nat.le_of_ble_eq_true rfl⟩ d_X9_mostAlike_56 ?_
        refine z_nm hF (fun v2 hF => ?_)
        refine z_istore_n cx 2 [(2, .int v2), (0, .ref (ad 0)), (1, .int b15_L1), (3, .int b15_L3), (4, .int b15_L4), (5, .int b15_L5)] d_X9_mostAlike_59 rfl (by decide) rfl ?_
        refine z_iinc cx 3 1 [(3, .int (b15_L3 + 1)), (2, .int v2), (0, .ref (ad 0)), (1, .int b15_L1), (4, .int b15_L4), (5, .int b15_L5)] d_X9_mostAlike_60 3 rfl ki_1 (by decide) rfl ?_
        refine z_goto cx 4 d_X9_mostAlike_63 (by decide) ?_
        exact z_lv [2, 3, 1, 0] _ rfl (hs4 b15_L1 v2 (b15_L3 + 1) M hF)
      refine z_iload cx d_X9_mostAlike_21 4 rfl ?_
      refine z_aload_n cx d_X9_mostAlike_23 0 rfl ?_
      refine z_getR cx hT fg_SunnyPans_55 173 rfl d_X9_mostAlike_24 ?_
      refine z_iload_n cx d_X9_mostAlike_27 3 rfl ?_
      obtain ⟨hi3, hF⟩ := gin_inv hF
      refine z_iald cx (tfX_10_173 hT) za_16 hi3 b15_L3.toNatClampNeg rfl d_X9_mostAlike_28 ?_
      refine z_aload_n cx d_X9_mostAlike_29 0 rfl ?_
      refine z_getR cx hT fg_SunnyPans_55 173 rfl d_X9_mostAlike_30 ?_
      refine z_iload cx d_X9_mostAlike_33 5 rfl ?_
      obtain ⟨hi4, hF⟩ := gin_inv hF
      refine z_iald cx (tfX_10_173 hT) za_16 hi4 b15_L5.toNatClampNeg rfl d_X9_mostAlike_35 ?_
      refine z_icmp_ne cx 43 d_X9_mostAlike_36 (by decide) hF (fun hF => ?_) (fun hF => ?_)
      · refine z_iconst (v := 0) cx d_X9_mostAlike_43 ki_0 ?_
        exact z_lv [0, 1, 2, 3, 5] _ rfl (hb44 self4 hs4 self15 hs15 b15_L1 b15_L2 b15_L3 b15_L5 b15_L4 (0 : Int32) M hF)
      refine z_iconst (v := 1) cx d_X9_mostAlike_39 ki_1 ?_
      refine z_goto cx 44 d_X9_mostAlike_40 (by decide) ?_
      exact z_lv [0, 1, 2, 3, 5] _ rfl (hb44 self4 hs4 self15 hs15 b15_L1 b15_L2 b15_L3 b15_L5 b15_L4 (1 : Int32) M hF)
  have hL4 : ∀ (fuel : Nat), ∀ (b4_L1 : Int32) (b4_L2 : Int32) (b4_L3 : Int32) (M : zMem), itF (fun _ _ _ _ => none) (F_X9_mostAlike_4 p0) fuel b4_L1 b4_L2 b4_L3 M = some (r9, M9) → zJ p l e rm_X9_mostAlike s m args below meth c G shX ad n A 6 (MQ below (zQ G shX ad n M9 (some (.int r9)) A) args s 0 0 A) 0 0 M 4 [(0, .ref (ad 0)), (1, .int b4_L1), (2, .int b4_L2), (3, .int b4_L3)] [] := by
    intro fuel
    induction fuel with
    | zero => intro b4_L1 b4_L2 b4_L3 M hF; cases hF
    | succ fuel hs4 =>
      intro b4_L1 b4_L2 b4_L3 M hF
      have hF : F_X9_mostAlike_4 p0 (itF (fun _ _ _ _ => none) (F_X9_mostAlike_4 p0) fuel) b4_L1 b4_L2 b4_L3 M = some (r9, M9) := hF
      generalize itF (fun _ _ _ _ => none) (F_X9_mostAlike_4 p0) fuel = self4 at hs4 hF
      unfold F_X9_mostAlike_4 at hF
      refine z_iload_n cx d_X9_mostAlike_4 3 rfl ?_
      refine z_iload_n cx d_X9_mostAlike_5 1 rfl ?_
      refine z_icmp_ge cx 66 d_X9_mostAlike_6 (by decide) hF (fun hF => ?_) (fun hF => ?_)
      · refine z_iload_n cx d_X9_mostAlike_66 2 rfl ?_
        exact z_iret cx hr rfl hF d_X9_mostAlike_67
      refine z_iconst (v := 0) cx d_X9_mostAlike_9 ki_0 ?_
      refine z_istore cx 4 [(4, .int (0 : Int32)), (0, .ref (ad 0)), (1, .int b4_L1), (2, .int b4_L2), (3, .int b4_L3)] d_X9_mostAlike_10 (by decide) rfl ?_
      refine z_iload_n cx d_X9_mostAlike_12 4 rfl ?_
      refine z_istore cx 5 [(5, .int b4_L3), (4, .int (0 : Int32)), (0, .ref (ad 0)), (1, .int b4_L1), (2, .int b4_L2), (3, .int b4_L3)] d_X9_mostAlike_13 (by decide) rfl ?_
      exact z_lv [2, 3, 4, 5, 1, 0] _ rfl (hL15 self4 hs4 zFuel b4_L1 b4_L2 b4_L3 (0 : Int32) b4_L3 M hF)
  unfold F_X9_mostAlike at hF
  refine z_iconst (v := 0) cx d_X9_mostAlike_0 ki_0 ?_
  refine z_istore_n cx 2 [(2, .int (0 : Int32)), (0, .ref (ad 0)), (1, .int p0)] d_X9_mostAlike_1 rfl (by decide) rfl ?_
  refine z_iconst (v := 0) cx d_X9_mostAlike_2 ki_0 ?_
  refine z_istore_n cx 3 [(3, .int (0 : Int32)), (2, .int (0 : Int32)), (0, .ref (ad 0)), (1, .int p0)] d_X9_mostAlike_3 rfl (by decide) rfl ?_
  exact z_lv [2, 3, 1, 0] _ rfl (hL4 zFuel p0 (0 : Int32) (0 : Int32) M hF)
/-! SunnyPans.look -/
set_option maxRecDepth 100000 in
theorem wd_1244 : Cond.code yX9_brinesSeen cX9_brinesSeen 7 (some .int) ∈ tbG := tw5 184 rfl rfl
set_option maxRecDepth 100000 in
theorem wd_1241 : Cond.methodLink "SunnyPans" 354 yX9_brinesSeen ∈ tbG := tw5 181 rfl rfl
set_option maxRecDepth 100000 in
theorem wd_1243 : Cond.instanceMethod yX9_brinesSeen ∈ tbG := tw5 183 rfl rfl
theorem wd_35 : Cond.selects "SunnyPans" yX9_brinesSeen yX9_brinesSeen ∈ tbG := tw 35 (by decide +kernel) rfl
theorem cv_SunnyPans_354 : zCV "SunnyPans" 354 "SunnyPans" yX9_brinesSeen cX9_brinesSeen 7 (some .int) 2 := zCV_of wd_1241 wd_1243 wd_35 wd_101 wd_1244 (by decide +kernel)
set_option maxRecDepth 100000 in
theorem wd_1252 : Cond.code yX9_mostAlike cX9_mostAlike 6 (some .int) ∈ tbG := tw5 192 rfl rfl
set_option maxRecDepth 100000 in
theorem wd_1249 : Cond.methodLink "SunnyPans" 358 yX9_mostAlike ∈ tbG := tw5 189 rfl rfl
set_option maxRecDepth 100000 in
theorem wd_1251 : Cond.instanceMethod yX9_mostAlike ∈ tbG := tw5 191 rfl rfl
theorem wd_36 : Cond.selects "SunnyPans" yX9_mostAlike yX9_mostAlike ∈ tbG := tw 36 (by decide +kernel) rfl
theorem cv_SunnyPans_358 : zCV "SunnyPans" 358 "SunnyPans" yX9_mostAlike cX9_mostAlike 6 (some .int) 1 := zCV_of wd_1249 wd_1251 wd_36 wd_101 wd_1252 (by decide +kernel)
set_option maxRecDepth 100000 in
theorem wd_399 : Cond.fieldLink "SunnyPans" 353 "SunnyPans$Book" "places" "J" ∈ tbG := tw2 59 rfl rfl
theorem fg_SunnyPans_353 : zGetL "SunnyPans" 353 1 2 3 := ⟨RX1, TX1, 4, rfl, by decide, uw_1, wd_399, fun _ _ _ _ _ _ => ⟨_, rfl, rfl⟩⟩
theorem d_X9_look_0 : decode cX9_look 0 = .ok (.aload_n 0, 1) := by decide +kernel
theorem d_X9_look_1 : decode cX9_look 1 = .ok (.iload_n 1, 1) := by decide +kernel
theorem d_X9_look_2 : decode cX9_look 2 = .ok (.iconst 1, 1) := by decide +kernel
theorem d_X9_look_3 : decode cX9_look 3 = .ok (.sipush 999, 3) := by decide +kernel
theorem d_X9_look_6 : decode cX9_look 6 = .ok (.invokestatic 255, 3) := by decide +kernel
theorem d_X9_look_9 : decode cX9_look 9 = .ok (.ifCond .eq 16, 3) := by decide +kernel
theorem d_X9_look_12 : decode cX9_look 12 = .ok (.iload_n 2, 1) := by decide +kernel
theorem d_X9_look_13 : decode cX9_look 13 = .ok (.iconst 0, 1) := by decide +kernel
theorem d_X9_look_14 : decode cX9_look 14 = .ok (.iconst 1, 1) := by decide +kernel
theorem d_X9_look_15 : decode cX9_look 15 = .ok (.invokestatic 255, 3) := by decide +kernel
theorem d_X9_look_18 : decode cX9_look 18 = .ok (.ifCond .eq 7, 3) := by decide +kernel
theorem d_X9_look_21 : decode cX9_look 21 = .ok (.iconst 1, 1) := by decide +kernel
theorem d_X9_look_22 : decode cX9_look 22 = .ok (.goto 4, 3) := by decide +kernel
theorem d_X9_look_25 : decode cX9_look 25 = .ok (.iconst 0, 1) := by decide +kernel
theorem d_X9_look_26 : decode cX9_look 26 = .ok (.invokevirtual 155, 3) := by decide +kernel
theorem d_X9_look_29 : decode cX9_look 29 = .ok (.aload_n 0, 1) := by decide +kernel
theorem d_X9_look_30 : decode cX9_look 30 = .ok (.iload_n 1, 1) := by decide +kernel
theorem d_X9_look_31 : decode cX9_look 31 = .ok (.invokevirtual 350, 3) := by decide +kernel
theorem d_X9_look_34 : decode cX9_look 34 = .ok (.lstore_n 3, 1) := by decide +kernel
theorem d_X9_look_35 : decode cX9_look 35 = .ok (.aload_n 0, 1) := by decide +kernel
theorem d_X9_look_36 : decode cX9_look 36 = .ok (.getfield 62, 3) := by decide +kernel
theorem d_X9_look_39 : decode cX9_look 39 = .ok (.getfield 200, 3) := by decide +kernel
theorem d_X9_look_42 : decode cX9_look 42 = .ok (.aload_n 0, 1) := by decide +kernel
theorem d_X9_look_43 : decode cX9_look 43 = .ok (.getfield 82, 3) := by decide +kernel
theorem d_X9_look_46 : decode cX9_look 46 = .ok (.getfield 353, 3) := by decide +kernel
theorem d_X9_look_49 : decode cX9_look 49 = .ok (.ldc2_w 296, 3) := by decide +kernel
theorem d_X9_look_52 : decode cX9_look 52 = .ok (.lxor, 1) := by decide +kernel
theorem d_X9_look_53 : decode cX9_look 53 = .ok (.land, 1) := by decide +kernel
theorem d_X9_look_54 : decode cX9_look 54 = .ok (.lstore 5, 2) := by decide +kernel
theorem d_X9_look_56 : decode cX9_look 56 = .ok (.aload_n 0, 1) := by decide +kernel
theorem d_X9_look_57 : decode cX9_look 57 = .ok (.getfield 51, 3) := by decide +kernel
theorem d_X9_look_60 : decode cX9_look 60 = .ok (.invokevirtual 259, 3) := by decide +kernel
theorem d_X9_look_63 : decode cX9_look 63 = .ok (.iconst 0, 1) := by decide +kernel
theorem d_X9_look_64 : decode cX9_look 64 = .ok (.istore 7, 2) := by decide +kernel
theorem d_X9_look_66 : decode cX9_look 66 = .ok (.iload 7, 2) := by decide +kernel
theorem d_X9_look_68 : decode cX9_look 68 = .ok (.bipush 64, 2) := by decide +kernel
theorem d_X9_look_70 : decode cX9_look 70 = .ok (.if_icmp .ge 39, 3) := by decide +kernel
theorem d_X9_look_73 : decode cX9_look 73 = .ok (.lload 5, 2) := by decide +kernel
theorem d_X9_look_75 : decode cX9_look 75 = .ok (.iload 7, 2) := by decide +kernel
theorem d_X9_look_77 : decode cX9_look 77 = .ok (.invokestatic 231, 3) := by decide +kernel
theorem d_X9_look_80 : decode cX9_look 80 = .ok (.ifCond .eq 23, 3) := by decide +kernel
theorem d_X9_look_83 : decode cX9_look 83 = .ok (.aload_n 0, 1) := by decide +kernel
theorem d_X9_look_84 : decode cX9_look 84 = .ok (.getfield 51, 3) := by decide +kernel
theorem d_X9_look_87 : decode cX9_look 87 = .ok (.iload 7, 2) := by decide +kernel
theorem d_X9_look_89 : decode cX9_look 89 = .ok (.aload_n 0, 1) := by decide +kernel
theorem d_X9_look_90 : decode cX9_look 90 = .ok (.aload_n 0, 1) := by decide +kernel
theorem d_X9_look_91 : decode cX9_look 91 = .ok (.iload 7, 2) := by decide +kernel
theorem d_X9_look_93 : decode cX9_look 93 = .ok (.lload_n 3, 1) := by decide +kernel
theorem d_X9_look_94 : decode cX9_look 94 = .ok (.invokevirtual 354, 3) := by decide +kernel
theorem d_X9_look_97 : decode cX9_look 97 = .ok (.invokevirtual 358, 3) := by decide +kernel
theorem d_X9_look_100 : decode cX9_look 100 = .ok (.invokevirtual 279, 3) := by decide +kernel
theorem d_X9_look_103 : decode cX9_look 103 = .ok (.iinc 7 1, 3) := by decide +kernel
theorem d_X9_look_106 : decode cX9_look 106 = .ok (.goto (-40), 3) := by decide +kernel
theorem d_X9_look_109 : decode cX9_look 109 = .ok (.aload_n 0, 1) := by decide +kernel
theorem d_X9_look_110 : decode cX9_look 110 = .ok (.getfield 51, 3) := by decide +kernel
theorem d_X9_look_113 : decode cX9_look 113 = .ok (.iload_n 2, 1) := by decide +kernel
theorem d_X9_look_114 : decode cX9_look 114 = .ok (.invokevirtual 263, 3) := by decide +kernel
theorem d_X9_look_117 : decode cX9_look 117 = .ok (.ireturn, 1) := by decide +kernel
noncomputable def F_X9_look_103 (p0 : Int32) (p1 : Int32) (self66 : Int32 → Int64 → Int64 → Int32 → zMem → Option (Nat × Int32 × zMem)) (b103_L2 : Int32) (b103_L3 : Int64) (b103_L5 : Int64) (b103_L7 : Int32) (M : zMem) : Option (Nat × Int32 × zMem) :=
  self66 b103_L2 b103_L3 b103_L5 (b103_L7 + 1) M
noncomputable def F_X9_look_66 (p0 : Int32) (p1 : Int32) (self66 : Int32 → Int64 → Int64 → Int32 → zMem → Option (Nat × Int32 × zMem)) (b66_L2 : Int32) (b66_L3 : Int64) (b66_L5 : Int64) (b66_L7 : Int32) (M : zMem) : Option (Nat × Int32 × zMem) :=
  if (64 : Int32) ≤ b66_L7 then
    zb (F_X0_placeOrAmount M 172 b66_L2) fun v2 M1 =>
    some (0, v2, M1)
  else
    zb (F_X9_has M b66_L5 b66_L7) fun v4 M3 =>
    if v4 = 0 then
      F_X9_look_103 p0 p1 self66 b66_L2 b66_L3 b66_L5 b66_L7 M3
    else
      zb (F_X9_brinesSeen M3 b66_L7 b66_L3) fun v6 M5 =>
      zb (F_X9_mostAlike M5 v6) fun v8 M7 =>
      zbv (F_X0_offerLeast M7 172 b66_L7 v8) fun M9 =>
      F_X9_look_103 p0 p1 self66 b66_L2 b66_L3 b66_L5 b66_L7 M9
noncomputable def F_X9_look_26 (p0 : Int32) (p1 : Int32) (b26_L1 : Int32) (b26_L2 : Int32) (b26_S1 : Int32) (M : zMem) : Option (Nat × Int32 × zMem) :=
  zbx (F_X9_need M b26_S1) (g := zxp) fun _ M10 =>
  zb (F_X9_fittingPlaces M10 b26_L1) fun v16 M15 =>
  gd (shX (M15.2.2 0 8) == 6) <|
  gd (shX (M15.2.2 0 12) == 2) <|
  zl ((M15.2.1 (M15.2.2 0 8) 3) &&& ((M15.2.1 (M15.2.2 0 12) 3) ^^^ (-1 : Int64))) fun v19 =>
  zbv (F_X0_clear M15 172) fun M20 =>
  itF (fun _ _ _ _ _ => none) (F_X9_look_66 p0 p1) zFuel b26_L2 v16 v19 (0 : Int32) M20
noncomputable def F_X9_look_25 (p0 : Int32) (p1 : Int32) (b25_L1 : Int32) (b25_L2 : Int32) (M : zMem) : Option (Nat × Int32 × zMem) :=
  F_X9_look_26 p0 p1 b25_L1 b25_L2 (0 : Int32) M
noncomputable def F_X9_look (M : zMem) (p0 : Int32) (p1 : Int32) : Option (Nat × Int32 × zMem) :=
  zb (F_X9_within M p0 (1 : Int32) (999 : Int32)) fun v22 M21 =>
  if v22 = 0 then
    F_X9_look_25 p0 p1 p0 p1 M21
  else
    zb (F_X9_within M21 p1 (0 : Int32) (1 : Int32)) fun v24 M23 =>
    if v24 = 0 then
      F_X9_look_25 p0 p1 p0 p1 M23
    else
      F_X9_look_26 p0 p1 p0 p1 (1 : Int32) M23
def rm_X9_look : Room := { frames := 10, cells := 1, slots := 6, locals := 233 }
set_option maxHeartbeats 4000000 in
set_option maxRecDepth 100000 in
theorem c_X9_look (l : Launch) {G : zG} {ad : Nat → Nat} {n : Nat} (hA : zInj ad n) (M : zMem) (p0 : Int32) (p1 : Int32) (hl : l.stackTraces = false) (hT : zT shX n 0 10) {k9 : Nat} {r9 : Int32} {M9 : zMem} (hF : F_X9_look M p0 p1 = some (k9, r9, M9)) : zMX l yX9_look cX9_look 8 (some .int) rm_X9_look 1 6 G shX ad n M [.ref (ad 0), .int p0, .int p1] k9 (some (.int r9)) M9 := by
  refine zM_ofX hA (by decide +kernel) (lv := [(0, .ref (ad 0)), (1, .int p0), (2, .int p1)]) (Nat.le_of_ble_eq_true rfl) rfl (fun p e s m args below meth c A cx hr ht => ?_)
  have hb103 : ∀ (self66 : Int32 → Int64 → Int64 → Int32 → zMem → Option (Nat × Int32 × zMem)) (hs66 : ∀ (b66_L2 : Int32) (b66_L3 : Int64) (b66_L5 : Int64) (b66_L7 : Int32) (M : zMem), self66 b66_L2 b66_L3 b66_L5 b66_L7 M = some (k9, r9, M9) → zJ p l e rm_X9_look s m args below meth c G shX ad n A 8 (vx_MQ below (zQX G shX ad n M9 k9 (some (.int r9)) A) (zXC G shX ad n M9 k9 A) args s 1 6 A) 1 6 M 66 [(0, .ref (ad 0)), (2, .int b66_L2), (3, .long b66_L3), (5, .long b66_L5), (7, .int b66_L7)] []), ∀ (b103_L2 : Int32) (b103_L3 : Int64) (b103_L5 : Int64) (b103_L7 : Int32) (M : zMem), F_X9_look_103 p0 p1 self66 b103_L2 b103_L3 b103_L5 b103_L7 M = some (k9, r9, M9) → zJ p l e rm_X9_look s m args below meth c G shX ad n A 8 (vx_MQ below (zQX G shX ad n M9 k9 (some (.int r9)) A) (zXC G shX ad n M9 k9 A) args s 1 6 A) 1 6 M 103 [(0, .ref (ad 0)), (2, .int b103_L2), (3, .long b103_L3), (5, .long b103_L5), (7, .int b103_L7)] [] := by
    intro self66 hs66 b103_L2 b103_L3 b103_L5 b103_L7 M hF
    unfold F_X9_look_103 at hF
    refine z_iinc cx 7 1 [(7, .int (b103_L7 + 1)), (0, .ref (ad 0)), (2, .int b103_L2), (3, .long b103_L3), (5, .long b103_L5)] d_X9_look_103 4 rfl ki_1 (by decide) rfl ?_
    refine z_goto cx 66 d_X9_look_106 (by decide) ?_
    exact z_lv [1, 2, 3, 4, 0] _ rfl (hs66 b103_L2 b103_L3 b103_L5 (b103_L7 + 1) M hF)
  have hL66 : ∀ (fuel : Nat), ∀ (b66_L2 : Int32) (b66_L3 : Int64) (b66_L5 : Int64) (b66_L7 : Int32) (M : zMem), itF (fun _ _ _ _ _ => none) (F_X9_look_66 p0 p1) fuel b66_L2 b66_L3 b66_L5 b66_L7 M = some (k9, r9, M9) → zJ p l e rm_X9_look s m args below meth c G shX ad n A 8 (vx_MQ below (zQX G shX ad n M9 k9 (some (.int r9)) A) (zXC G shX ad n M9 k9 A) args s 1 6 A) 1 6 M 66 [(0, .ref (ad 0)), (2, .int b66_L2), (3, .long b66_L3), (5, .long b66_L5), (7, .int b66_L7)] [] := by
    intro fuel
    induction fuel with
    | zero => intro b66_L2 b66_L3 b66_L5 b66_L7 M hF; cases hF
    | succ fuel hs66 =>
      intro b66_L2 b66_L3 b66_L5 b66_L7 M hF
      have hF : F_X9_look_66 p0 p1 (itF (fun _ _ _ _ _ => none) (F_X9_look_66 p0 p1) fuel) b66_L2 b66_L3 b66_L5 b66_L7 M = some (k9, r9, M9) := hF
      generalize itF (fun _ _ _ _ _ => none) (F_X9_look_66 p0 p1) fuel = self66 at hs66 hF
      unfold F_X9_look_66 at hF
      refine z_iload cx d_X9_look_66 4 rfl ?_
      refine z_bipush (v := 64) cx d_X9_look_68 kb_64 ?_
      refine z_icmp_ge cx 109 d_X9_look_70 (by decide) hF (fun hF => ?_) (fun hF => ?_)
      · refine z_aload_n cx d_X9_look_109 0 rfl ?_
        refine z_getR cx hT fg_SunnyPans_51 172 rfl d_X9_look_110 ?_
        refine z_iload_n cx d_X9_look_113 1 rfl ?_
        obtain ⟨v2, M1, hc, hF⟩ := zb_inv hF
        refine z_callV cx (As := [.int b66_L2]) (rest := []) (c_X0_placeOrAmount l cx.2.2.2.1.1 M 172 b66_L2 (tfX_10_172 hT) hc) (tfX_10_172 hT) zo_1 cv_SunnyPans_263 ⟨rfl, rfl, Nat.le_of_ble_eq_true rfl, Nat.le_of_ble_eq_true rfl⟩ rfl rfl ⟨Nat.le_of_ble_eq_true rfl, Nat.le_of_ble_eq_true rfl⟩ (Nat.le_of_ble_eq_true rfl) d_X9_look_114 ?_
        exact z_iretX cx hr rfl hF ⟨Nat.le_of_ble_eq_true rfl, Nat.le_of_ble_eq_true rfl⟩ d_X9_look_117
      refine z_lload cx d_X9_look_73 3 rfl ?_
      refine z_iload cx d_X9_look_75 4 rfl ?_
      obtain ⟨v4, M3, hc, hF⟩ := zb_inv hF
      refine z_callS cx (As := [.long b66_L5, .int b66_L7]) (rest := []) (c_X9_has l cx.2.2.2.1.1 M b66_L5 b66_L7  hc) cs_SunnyPans_231 ⟨rfl, rfl, Nat.le_of_ble_eq_true rfl, Nat.le_of_ble_eq_true rfl⟩ rfl rfl ⟨Nat.le_of_ble_eq_true rfl, Nat.le_of_ble_eq_true rfl⟩ (Nat.le_of_ble_eq_true rfl) d_X9_look_77 ?_
      refine z_if_eq cx 103 d_X9_look_80 (by decide) hF (fun hF => ?_) (fun hF => ?_)
      · exact hb103 self66 hs66 b66_L2 b66_L3 b66_L5 b66_L7 M3 hF
      refine z_aload_n cx d_X9_look_83 0 rfl ?_
      refine z_getR cx hT fg_SunnyPans_51 172 rfl d_X9_look_84 ?_
      refine z_iload cx d_X9_look_87 4 rfl ?_
      refine z_aload_n cx d_X9_look_89 0 rfl ?_
      refine z_aload_n cx d_X9_look_90 0 rfl ?_
      refine z_iload cx d_X9_look_91 4 rfl ?_
      refine z_lload_n cx d_X9_look_93 2 rfl ?_
      obtain ⟨v6, M5, hc, hF⟩ := zb_inv hF
      refine z_callV cx (As := [.int b66_L7, .long b66_L3]) (rest := [.ref (ad 0), .int b66_L7, .ref (ad 172)]) (c_X9_brinesSeen l cx.2.2.2.1.1 M3 b66_L7 b66_L3 hT hc) hT zo_10 cv_SunnyPans_354 ⟨rfl, rfl, Nat.le_of_ble_eq_true rfl, Nat.le_of_ble_eq_true rfl⟩ rfl rfl ⟨Nat.le_of_ble_eq_true rfl, Nat.le_of_ble_eq_true rfl⟩ (Nat.le_of_ble_eq_true rfl) d_X9_look_94 ?_
      obtain ⟨v8, M7, hc, hF⟩ := zb_inv hF
      refine z_callV cx (As := [.int v6]) (rest := [.int b66_L7, .ref (ad 172)]) (c_X9_mostAlike l cx.2.2.2.1.1 M5 v6 hT hc) hT zo_10 cv_SunnyPans_358 ⟨rfl, rfl, Nat.le_of_ble_eq_true rfl, Nat.le_of_ble_eq_true rfl⟩ rfl rfl ⟨Nat.le_of_ble_eq_true rfl, Nat.le_of_ble_eq_true rfl⟩ (Nat.le_of_ble_eq_true rfl) d_X9_look_97 ?_
      obtain ⟨M9, hc, hF⟩ := zbv_inv hF
      refine z_callV cx (As := [.int b66_L7, .int v8]) (rest := []) (c_X0_offerLeast l cx.2.2.2.1.1 M7 172 b66_L7 v8 (tfX_10_172 hT) hc) (tfX_10_172 hT) zo_1 cv_SunnyPans_279 ⟨rfl, rfl, Nat.le_of_ble_eq_true rfl, Nat.le_of_ble_eq_true rfl⟩ rfl rfl ⟨Nat.le_of_ble_eq_true rfl, Nat.le_of_ble_eq_true rfl⟩ (Nat.le_of_ble_eq_true rfl) d_X9_look_100 ?_
      exact hb103 self66 hs66 b66_L2 b66_L3 b66_L5 b66_L7 M9 hF
  have hb26 : ∀ (b26_L1 : Int32) (b26_L2 : Int32) (b26_S1 : Int32) (M : zMem), F_X9_look_26 p0 p1 b26_L1 b26_L2 b26_S1 M = some (k9, r9, M9) → zJ p l e rm_X9_look s m args below meth c G shX ad n A 8 (vx_MQ below (zQX G shX ad n M9 k9 (some (.int r9)) A) (zXC G shX ad n M9 k9 A) args s 1 6 A) 0 0 M 26 [(0, .ref (ad 0)), (1, .int b26_L1), (2, .int b26_L2)] [.int b26_S1, .ref (ad 0)] := by
    intro b26_L1 b26_L2 b26_S1 M hF
    unfold F_X9_look_26 at hF
    obtain ⟨k11, v12, M10, hc, hF, hX13⟩ := zbx_inv hF
    refine z_callVX cx ht (As := [.int b26_S1]) (rest := []) (c_X9_need l cx.2.2.2.1.1 M b26_S1 hl hT hc) (fun q => zxp_inv (hX13 q)) hT zo_10 cv_SunnyPans_155 ⟨rfl, rfl, Nat.le_of_ble_eq_true rfl, Nat.le_of_ble_eq_true rfl⟩ rfl rfl ⟨Nat.le_of_ble_eq_true rfl, Nat.le_of_ble_eq_true rfl⟩ ⟨Nat.le_of_ble_eq_true rfl, Nat.le_of_ble_eq_true rfl⟩ (Nat.le_of_ble_eq_true rfl) d_X9_look_26 (fun kq14 => ?_)
    have hF := hF kq14
    refine z_aload_n cx d_X9_look_29 0 rfl ?_
    refine z_iload_n cx d_X9_look_30 1 rfl ?_
    obtain ⟨v16, M15, hc, hF⟩ := zb_inv hF
    refine z_callV cx (As := [.int b26_L1]) (rest := []) (c_X9_fittingPlaces l cx.2.2.2.1.1 M10 b26_L1 hT hc) hT zo_10 cv_SunnyPans_350 ⟨rfl, rfl, Nat.le_of_ble_eq_true rfl, Nat.le_of_ble_eq_true rfl⟩ rfl rfl ⟨Nat.le_of_ble_eq_true rfl, Nat.le_of_ble_eq_true rfl⟩ (Nat.le_of_ble_eq_true rfl) d_X9_look_31 ?_
    refine z_lstore_n cx 3 [(3, .long v16), (0, .ref (ad 0)), (1, .int b26_L1), (2, .int b26_L2)] d_X9_look_34 rfl (by decide) rfl ?_
    refine z_aload_n cx d_X9_look_35 1 rfl ?_
    obtain ⟨hg17, hF⟩ := gd_inv hF
    refine z_getD cx hT fg_SunnyPans_62 d_X9_look_36 ?_
    refine z_getL cx (td_6 hT hg17) fg_SunnyPans_200 d_X9_look_39 ?_
    refine z_aload_n cx d_X9_look_42 1 rfl ?_
    obtain ⟨hg18, hF⟩ := gd_inv hF
    refine z_getD cx hT fg_SunnyPans_82 d_X9_look_43 ?_
    refine z_getL cx (td_2 hT hg18) fg_SunnyPans_353 d_X9_look_46 ?_
    refine z_ldc2 cx wd_1209 d_X9_look_49 ?_
    refine z_lxor cx d_X9_look_52 ?_
    refine z_land cx d_X9_look_53 ?_
    refine z_nml hF (fun v19 hF => ?_)
    refine z_lstore cx 5 [(5, .long v19), (3, .long v16), (0, .ref (ad 0)), (1, .int b26_L1), (2, .int b26_L2)] d_X9_look_54 (by decide) rfl ?_
    refine z_aload_n cx d_X9_look_56 2 rfl ?_
    refine z_getR cx hT fg_SunnyPans_51 172 rfl d_X9_look_57 ?_
    obtain ⟨M20, hc, hF⟩ := zbv_inv hF
    refine z_callV cx (As := []) (rest := []) (c_X0_clear l cx.2.2.2.1.1 M15 172 (tfX_10_172 hT) hc) (tfX_10_172 hT) zo_1 cv_SunnyPans_259 ⟨rfl, rfl, Nat.le_of_ble_eq_true rfl, Nat.le_of_ble_eq_true rfl⟩ rfl rfl ⟨Nat.le_of_ble_eq_true rfl, Nat.le_of_ble_eq_true rfl⟩ (Nat.le_of_ble_eq_true rfl) d_X9_look_60 ?_
    refine z_iconst (v := 0) cx d_X9_look_63 ki_0 ?_
    refine z_istore cx 7 [(7, .int (0 : Int32)), (5, .long v19), (3, .long v16), (0, .ref (ad 0)), (1, .int b26_L1), (2, .int b26_L2)] d_X9_look_64 (by decide) rfl ?_
    exact z_lv [3, 5, 2, 1, 0] _ rfl (hL66 zFuel b26_L2 v16 v19 (0 : Int32) M20 hF)
  have hb25 : ∀ (b25_L1 : Int32) (b25_L2 : Int32) (M : zMem), F_X9_look_25 p0 p1 b25_L1 b25_L2 M = some (k9, r9, M9) → zJ p l e rm_X9_look s m args below meth c G shX ad n A 8 (vx_MQ below (zQX G shX ad n M9 k9 (some (.int r9)) A) (zXC G shX ad n M9 k9 A) args s 1 6 A) 0 0 M 25 [(0, .ref (ad 0)), (1, .int b25_L1), (2, .int b25_L2)] [.ref (ad 0)] := by
    intro b25_L1 b25_L2 M hF
    unfold F_X9_look_25 at hF
    refine z_iconst (v := 0) cx d_X9_look_25 ki_0 ?_
    exact hb26 b25_L1 b25_L2 (0 : Int32) M hF
  unfold F_X9_look at hF
  refine z_aload_n cx d_X9_look_0 0 rfl ?_
  refine z_iload_n cx d_X9_look_1 1 rfl ?_
  refine z_iconst (v := 1) cx d_X9_look_2 ki_1 ?_
  refine z_sipush (v := 999) cx d_X9_look_3 ks_999 ?_
  obtain ⟨v22, M21, hc, hF⟩ := zb_inv hF
  refine z_callS cx (As := [.int p0, .int (1 : Int32), .int (999 : Int32)]) (rest := [.ref (ad 0)]) (c_X9_within l cx.2.2.2.1.1 M p0 (1 : Int32) (999 : Int32)  hc) cs_SunnyPans_255 ⟨rfl, rfl, Nat.le_of_ble_eq_true rfl, Nat.le_of_ble_eq_true rfl⟩ rfl rfl ⟨Nat.le_of_ble_eq_true rfl, Nat.le_of_ble_eq_true rfl⟩ (Nat.le_of_ble_eq_true rfl) d_X9_look_6 ?_
  refine z_if_eq cx 25 d_X9_look_9 (by decide) hF (fun hF => ?_) (fun hF => ?_)
  · exact hb25 p0 p1 M21 hF
  refine z_iload_n cx d_X9_look_12 2 rfl ?_
  refine z_iconst (v := 0) cx d_X9_look_13 ki_0 ?_
  refine z_iconst (v := 1) cx d_X9_look_14 ki_1 ?_
  obtain ⟨v24, M23, hc, hF⟩ := zb_inv hF
  refine z_callS cx (As := [.int p1, .int (0 : Int32), .int (1 : Int32)]) (rest := [.ref (ad 0)]) (c_X9_within l cx.2.2.2.1.1 M21 p1 (0 : Int32) (1 : Int32)  hc) cs_SunnyPans_255 ⟨rfl, rfl, Nat.le_of_ble_eq_true rfl, Nat.le_of_ble_eq_true rfl⟩ rfl rfl ⟨Nat.le_of_ble_eq_true rfl, Nat.le_of_ble_eq_true rfl⟩ (Nat.le_of_ble_eq_true rfl) d_X9_look_15 ?_
  refine z_if_eq cx 25 d_X9_look_18 (by decide) hF (fun hF => ?_) (fun hF => ?_)
  · exact hb25 p0 p1 M23 hF
  refine z_iconst (v := 1) cx d_X9_look_21 ki_1 ?_
  refine z_goto cx 26 d_X9_look_22 (by decide) ?_
  exact hb26 p0 p1 (1 : Int32) M23 hF
/-! SunnyPans.draw -/
set_option maxRecDepth 100000 in
theorem wd_427 : Cond.fieldLink "SunnyPans" 393 "SunnyPans" "seedNow" "I" ∈ tbG := tw2 87 rfl rfl
theorem fg_SunnyPans_393 : zGetI "SunnyPans" 393 9 10 18 := ⟨RX9, TX9, 19, rfl, by decide, uw_9, wd_427, fun _ _ _ _ _ _ => ⟨_, rfl, rfl⟩⟩
set_option maxRecDepth 100000 in
theorem wd_1368 : Cond.constant "SunnyPans" 406 (1103515245) ∈ tbG := tw6 68 rfl rfl
theorem ks_12345 : (Int16.ofInt (12345)).toInt32 = (12345 : Int32) := by decide +kernel
theorem fp_SunnyPans_393 : zPutI "SunnyPans" 393 9 10 18 := ⟨zc_9, fg_SunnyPans_393, ⟨RX9, TX9, 19, rfl, rfl, by decide +kernel⟩, fun _ _ _ _ _ _ _ => ⟨_, rfl, Nat.le_of_ble_eq_true rfl, rfl⟩⟩
theorem ks_32767 : (Int16.ofInt (32767)).toInt32 = (32767 : Int32) := by decide +kernel
theorem d_X9_draw_0 : decode cX9_draw 0 = .ok (.aload_n 0, 1) := by decide +kernel
theorem d_X9_draw_1 : decode cX9_draw 1 = .ok (.aload_n 0, 1) := by decide +kernel
theorem d_X9_draw_2 : decode cX9_draw 2 = .ok (.getfield 393, 3) := by decide +kernel
theorem d_X9_draw_5 : decode cX9_draw 5 = .ok (.ldc_w 406, 3) := by decide +kernel
theorem d_X9_draw_8 : decode cX9_draw 8 = .ok (.imul, 1) := by decide +kernel
theorem d_X9_draw_9 : decode cX9_draw 9 = .ok (.sipush 12345, 3) := by decide +kernel
theorem d_X9_draw_12 : decode cX9_draw 12 = .ok (.iadd, 1) := by decide +kernel
theorem d_X9_draw_13 : decode cX9_draw 13 = .ok (.putfield 393, 3) := by decide +kernel
theorem d_X9_draw_16 : decode cX9_draw 16 = .ok (.iload_n 1, 1) := by decide +kernel
theorem d_X9_draw_17 : decode cX9_draw 17 = .ok (.ifCond .le 19, 3) := by decide +kernel
theorem d_X9_draw_20 : decode cX9_draw 20 = .ok (.aload_n 0, 1) := by decide +kernel
theorem d_X9_draw_21 : decode cX9_draw 21 = .ok (.getfield 393, 3) := by decide +kernel
theorem d_X9_draw_24 : decode cX9_draw 24 = .ok (.bipush 16, 2) := by decide +kernel
theorem d_X9_draw_26 : decode cX9_draw 26 = .ok (.iushr, 1) := by decide +kernel
theorem d_X9_draw_27 : decode cX9_draw 27 = .ok (.sipush 32767, 3) := by decide +kernel
theorem d_X9_draw_30 : decode cX9_draw 30 = .ok (.iand, 1) := by decide +kernel
theorem d_X9_draw_31 : decode cX9_draw 31 = .ok (.iload_n 1, 1) := by decide +kernel
theorem d_X9_draw_32 : decode cX9_draw 32 = .ok (.irem, 1) := by decide +kernel
theorem d_X9_draw_33 : decode cX9_draw 33 = .ok (.goto 4, 3) := by decide +kernel
theorem d_X9_draw_36 : decode cX9_draw 36 = .ok (.iconst 0, 1) := by decide +kernel
theorem d_X9_draw_37 : decode cX9_draw 37 = .ok (.ireturn, 1) := by decide +kernel
noncomputable def F_X9_draw (M : zMem) (p0 : Int32) : Option (Int32 × zMem) :=
  zl (zI M 0 18 (((M.1 0 18) * (1103515245 : Int32)) + (12345 : Int32))) fun M1 =>
  if p0 ≤ 0 then
    some ((0 : Int32), M1)
  else
    gd (!(p0 == 0)) <|
    some (((((M1.1 0 18).toUInt32 >>> ((16 : Int32).toUInt32 &&& Int32.toUInt32 31)).toInt32 &&& (32767 : Int32)) - (((M1.1 0 18).toUInt32 >>> ((16 : Int32).toUInt32 &&& Int32.toUInt32 31)).toInt32 &&& (32767 : Int32)) / p0 * p0), M1)
def rm_X9_draw : Room := { frames := 2, cells := 0, slots := 0, locals := 80 }
set_option maxHeartbeats 4000000 in
set_option maxRecDepth 100000 in
theorem c_X9_draw (l : Launch) {G : zG} {ad : Nat → Nat} {n : Nat} (hA : zInj ad n) (M : zMem) (p0 : Int32) (hT : zT shX n 0 10) {r9 : Int32} {M9 : zMem} (hF : F_X9_draw M p0 = some (r9, M9)) : zM l yX9_draw cX9_draw 2 (some .int) rm_X9_draw G shX ad n M [.ref (ad 0), .int p0] (some (.int r9)) M9 := by
  refine zM_of hA (by decide +kernel) (lv := [(0, .ref (ad 0)), (1, .int p0)]) (Nat.le_of_ble_eq_true rfl) rfl (fun p e s m args below meth c A cx hr => ?_)
  unfold F_X9_draw at hF
  refine z_aload_n cx d_X9_draw_0 0 rfl ?_
  refine z_aload_n cx d_X9_draw_1 0 rfl ?_
  refine z_getI cx hT fg_SunnyPans_393 d_X9_draw_2 ?_
  refine z_ldcw cx wd_1368 d_X9_draw_5 ?_
  refine z_imul cx d_X9_draw_8 ?_
  refine z_sipush (v := 12345) cx d_X9_draw_9 ks_12345 ?_
  refine z_iadd cx d_X9_draw_12 ?_
  refine z_putI cx hT fp_SunnyPans_393 d_X9_draw_13 ?_
  refine z_nmM hF (fun M1 hF => ?_)
  refine z_iload_n cx d_X9_draw_16 1 rfl ?_
  refine z_if_le cx 36 d_X9_draw_17 (by decide) hF (fun hF => ?_) (fun hF => ?_)
  · refine z_iconst (v := 0) cx d_X9_draw_36 ki_0 ?_
    exact z_iret cx hr rfl hF d_X9_draw_37
  refine z_aload_n cx d_X9_draw_20 0 rfl ?_
  refine z_getI cx hT fg_SunnyPans_393 d_X9_draw_21 ?_
  refine z_bipush (v := 16) cx d_X9_draw_24 kb_16 ?_
  refine z_iushr cx d_X9_draw_26 ?_
  refine z_sipush (v := 32767) cx d_X9_draw_27 ks_32767 ?_
  refine z_iand cx d_X9_draw_30 ?_
  refine z_iload_n cx d_X9_draw_31 1 rfl ?_
  obtain ⟨hz2, hF⟩ := gd_inv hF
  refine z_irem cx d_X9_draw_32 (zne hz2) ?_
  refine z_goto cx 37 d_X9_draw_33 (by decide) ?_
  exact z_iret cx hr rfl hF d_X9_draw_37
/-! SunnyPans.runSummer -/
set_option maxRecDepth 100000 in
theorem wd_1367 : Cond.code yX9_draw cX9_draw 2 (some .int) ∈ tbG := tw6 67 rfl rfl
set_option maxRecDepth 100000 in
theorem wd_1364 : Cond.methodLink "SunnyPans" 396 yX9_draw ∈ tbG := tw6 64 rfl rfl
set_option maxRecDepth 100000 in
theorem wd_1366 : Cond.instanceMethod yX9_draw ∈ tbG := tw6 66 rfl rfl
theorem wd_40 : Cond.selects "SunnyPans" yX9_draw yX9_draw ∈ tbG := tw 40 (by decide +kernel) rfl
theorem cv_SunnyPans_396 : zCV "SunnyPans" 396 "SunnyPans" yX9_draw cX9_draw 2 (some .int) 1 := zCV_of wd_1364 wd_1366 wd_40 wd_101 wd_1367 (by decide +kernel)
theorem d_X9_runSummer_0 : decode cX9_runSummer 0 = .ok (.aload_n 0, 1) := by decide +kernel
theorem d_X9_runSummer_1 : decode cX9_runSummer 1 = .ok (.getfield 37, 3) := by decide +kernel
theorem d_X9_runSummer_4 : decode cX9_runSummer 4 = .ok (.aload_n 0, 1) := by decide +kernel
theorem d_X9_runSummer_5 : decode cX9_runSummer 5 = .ok (.getfield 19, 3) := by decide +kernel
theorem d_X9_runSummer_8 : decode cX9_runSummer 8 = .ok (.getfield 159, 3) := by decide +kernel
theorem d_X9_runSummer_11 : decode cX9_runSummer 11 = .ok (.invokevirtual 307, 3) := by decide +kernel
theorem d_X9_runSummer_14 : decode cX9_runSummer 14 = .ok (.aload_n 0, 1) := by decide +kernel
theorem d_X9_runSummer_15 : decode cX9_runSummer 15 = .ok (.iload_n 1, 1) := by decide +kernel
theorem d_X9_runSummer_16 : decode cX9_runSummer 16 = .ok (.putfield 393, 3) := by decide +kernel
theorem d_X9_runSummer_19 : decode cX9_runSummer 19 = .ok (.iconst 0, 1) := by decide +kernel
theorem d_X9_runSummer_20 : decode cX9_runSummer 20 = .ok (.istore 4, 2) := by decide +kernel
theorem d_X9_runSummer_22 : decode cX9_runSummer 22 = .ok (.iload 4, 2) := by decide +kernel
theorem d_X9_runSummer_24 : decode cX9_runSummer 24 = .ok (.iload_n 2, 1) := by decide +kernel
theorem d_X9_runSummer_25 : decode cX9_runSummer 25 = .ok (.if_icmp .ge 108, 3) := by decide +kernel
theorem d_X9_runSummer_28 : decode cX9_runSummer 28 = .ok (.aload_n 0, 1) := by decide +kernel
theorem d_X9_runSummer_29 : decode cX9_runSummer 29 = .ok (.aload_n 0, 1) := by decide +kernel
theorem d_X9_runSummer_30 : decode cX9_runSummer 30 = .ok (.getfield 62, 3) := by decide +kernel
theorem d_X9_runSummer_33 : decode cX9_runSummer 33 = .ok (.getfield 162, 3) := by decide +kernel
theorem d_X9_runSummer_36 : decode cX9_runSummer 36 = .ok (.invokevirtual 396, 3) := by decide +kernel
theorem d_X9_runSummer_39 : decode cX9_runSummer 39 = .ok (.istore 5, 2) := by decide +kernel
theorem d_X9_runSummer_41 : decode cX9_runSummer 41 = .ok (.aload_n 0, 1) := by decide +kernel
theorem d_X9_runSummer_42 : decode cX9_runSummer 42 = .ok (.aload_n 0, 1) := by decide +kernel
theorem d_X9_runSummer_43 : decode cX9_runSummer 43 = .ok (.getfield 62, 3) := by decide +kernel
theorem d_X9_runSummer_46 : decode cX9_runSummer 46 = .ok (.getfield 165, 3) := by decide +kernel
theorem d_X9_runSummer_49 : decode cX9_runSummer 49 = .ok (.invokevirtual 396, 3) := by decide +kernel
theorem d_X9_runSummer_52 : decode cX9_runSummer 52 = .ok (.istore 6, 2) := by decide +kernel
theorem d_X9_runSummer_54 : decode cX9_runSummer 54 = .ok (.aload_n 0, 1) := by decide +kernel
theorem d_X9_runSummer_55 : decode cX9_runSummer 55 = .ok (.bipush 16, 2) := by decide +kernel
theorem d_X9_runSummer_57 : decode cX9_runSummer 57 = .ok (.invokevirtual 396, 3) := by decide +kernel
theorem d_X9_runSummer_60 : decode cX9_runSummer 60 = .ok (.iload_n 3, 1) := by decide +kernel
theorem d_X9_runSummer_61 : decode cX9_runSummer 61 = .ok (.if_icmp .ge 29, 3) := by decide +kernel
theorem d_X9_runSummer_64 : decode cX9_runSummer 64 = .ok (.aload_n 0, 1) := by decide +kernel
theorem d_X9_runSummer_65 : decode cX9_runSummer 65 = .ok (.getfield 37, 3) := by decide +kernel
theorem d_X9_runSummer_68 : decode cX9_runSummer 68 = .ok (.iload 5, 2) := by decide +kernel
theorem d_X9_runSummer_70 : decode cX9_runSummer 70 = .ok (.iload 6, 2) := by decide +kernel
theorem d_X9_runSummer_72 : decode cX9_runSummer 72 = .ok (.invokestatic 213, 3) := by decide +kernel
theorem d_X9_runSummer_75 : decode cX9_runSummer 75 = .ok (.iconst 1, 1) := by decide +kernel
theorem d_X9_runSummer_76 : decode cX9_runSummer 76 = .ok (.aload_n 0, 1) := by decide +kernel
theorem d_X9_runSummer_77 : decode cX9_runSummer 77 = .ok (.bipush 99, 2) := by decide +kernel
theorem d_X9_runSummer_79 : decode cX9_runSummer 79 = .ok (.invokevirtual 396, 3) := by decide +kernel
theorem d_X9_runSummer_82 : decode cX9_runSummer 82 = .ok (.iadd, 1) := by decide +kernel
theorem d_X9_runSummer_83 : decode cX9_runSummer 83 = .ok (.invokevirtual 399, 3) := by decide +kernel
theorem d_X9_runSummer_86 : decode cX9_runSummer 86 = .ok (.pop, 1) := by decide +kernel
theorem d_X9_runSummer_87 : decode cX9_runSummer 87 = .ok (.goto 22, 3) := by decide +kernel
theorem d_X9_runSummer_90 : decode cX9_runSummer 90 = .ok (.aload_n 0, 1) := by decide +kernel
theorem d_X9_runSummer_91 : decode cX9_runSummer 91 = .ok (.getfield 37, 3) := by decide +kernel
theorem d_X9_runSummer_94 : decode cX9_runSummer 94 = .ok (.aload_n 0, 1) := by decide +kernel
theorem d_X9_runSummer_95 : decode cX9_runSummer 95 = .ok (.getfield 62, 3) := by decide +kernel
theorem d_X9_runSummer_98 : decode cX9_runSummer 98 = .ok (.iload 5, 2) := by decide +kernel
theorem d_X9_runSummer_100 : decode cX9_runSummer 100 = .ok (.iload 6, 2) := by decide +kernel
theorem d_X9_runSummer_102 : decode cX9_runSummer 102 = .ok (.invokestatic 213, 3) := by decide +kernel
theorem d_X9_runSummer_105 : decode cX9_runSummer 105 = .ok (.invokevirtual 402, 3) := by decide +kernel
theorem d_X9_runSummer_108 : decode cX9_runSummer 108 = .ok (.pop, 1) := by decide +kernel
theorem d_X9_runSummer_109 : decode cX9_runSummer 109 = .ok (.aload_n 0, 1) := by decide +kernel
theorem d_X9_runSummer_110 : decode cX9_runSummer 110 = .ok (.getfield 62, 3) := by decide +kernel
theorem d_X9_runSummer_113 : decode cX9_runSummer 113 = .ok (.getfield 127, 3) := by decide +kernel
theorem d_X9_runSummer_116 : decode cX9_runSummer 116 = .ok (.ifCond .le 11, 3) := by decide +kernel
theorem d_X9_runSummer_119 : decode cX9_runSummer 119 = .ok (.aload_n 0, 1) := by decide +kernel
theorem d_X9_runSummer_120 : decode cX9_runSummer 120 = .ok (.aload_n 0, 1) := by decide +kernel
theorem d_X9_runSummer_121 : decode cX9_runSummer 121 = .ok (.getfield 37, 3) := by decide +kernel
theorem d_X9_runSummer_124 : decode cX9_runSummer 124 = .ok (.invokevirtual 311, 3) := by decide +kernel
theorem d_X9_runSummer_127 : decode cX9_runSummer 127 = .ok (.iinc 4 1, 3) := by decide +kernel
theorem d_X9_runSummer_130 : decode cX9_runSummer 130 = .ok (.goto (-108), 3) := by decide +kernel
theorem d_X9_runSummer_133 : decode cX9_runSummer 133 = .ok (.return_, 1) := by decide +kernel
noncomputable def F_X9_runSummer_127 (p0 : Int32) (p1 : Int32) (p2 : Int32) (self22 : Int32 → Int32 → Int32 → zMem → Option (zMem)) (b127_L2 : Int32) (b127_L3 : Int32) (b127_L4 : Int32) (M : zMem) : Option (zMem) :=
  self22 b127_L2 b127_L3 (b127_L4 + 1) M
noncomputable def F_X9_runSummer_109 (p0 : Int32) (p1 : Int32) (p2 : Int32) (self22 : Int32 → Int32 → Int32 → zMem → Option (zMem)) (b109_L2 : Int32) (b109_L3 : Int32) (b109_L4 : Int32) (M : zMem) : Option (zMem) :=
  gd (shX (M.2.2 0 8) == 6) <|
  if (M.1 (M.2.2 0 8) 2) ≤ 0 then
    F_X9_runSummer_127 p0 p1 p2 self22 b109_L2 b109_L3 b109_L4 M
  else
    zbv (F_X9_passHour M 99) fun M2 =>
    F_X9_runSummer_127 p0 p1 p2 self22 b109_L2 b109_L3 b109_L4 M2
noncomputable def F_X9_runSummer_22 (p0 : Int32) (p1 : Int32) (p2 : Int32) (self22 : Int32 → Int32 → Int32 → zMem → Option (zMem)) (b22_L2 : Int32) (b22_L3 : Int32) (b22_L4 : Int32) (M : zMem) : Option (zMem) :=
  if b22_L2 ≤ b22_L4 then
    some M
  else
    gd (shX (M.2.2 0 8) == 6) <|
    zb (F_X9_draw M (M.1 (M.2.2 0 8) 0)) fun v5 M4 =>
    gd (shX (M4.2.2 0 8) == 6) <|
    zb (F_X9_draw M4 (M4.1 (M4.2.2 0 8) 1)) fun v8 M7 =>
    zb (F_X9_draw M7 (16 : Int32)) fun v10 M9 =>
    if b22_L3 ≤ v10 then
      gd (shX (M9.2.2 0 8) == 6) <|
      zb (F_X9_placeOf M9 v5 v8) fun v13 M12 =>
      zb (F_X4_haul M12 99 (M9.2.2 0 8) v13) fun v15 M14 =>
      F_X9_runSummer_109 p0 p1 p2 self22 b22_L2 b22_L3 b22_L4 M14
    else
      zb (F_X9_placeOf M9 v5 v8) fun v17 M16 =>
      zb (F_X9_draw M16 (99 : Int32)) fun v19 M18 =>
      zb (F_X4_pour M18 99 v17 ((1 : Int32) + v19)) fun v21 M20 =>
      F_X9_runSummer_109 p0 p1 p2 self22 b22_L2 b22_L3 b22_L4 M20
noncomputable def F_X9_runSummer (M : zMem) (p0 : Int32) (p1 : Int32) (p2 : Int32) : Option (zMem) :=
  zbv (F_X4_copyFrom M 99 4) fun M22 =>
  zl (zI M22 0 18 p0) fun M23 =>
  itF (fun _ _ _ _ => none) (F_X9_runSummer_22 p0 p1 p2) zFuel p1 p2 (0 : Int32) M23
def rm_X9_runSummer : Room := { frames := 7, cells := 0, slots := 0, locals := 180 }
set_option maxHeartbeats 4000000 in
set_option maxRecDepth 100000 in
theorem c_X9_runSummer (l : Launch) {G : zG} {ad : Nat → Nat} {n : Nat} (hA : zInj ad n) (M : zMem) (p0 : Int32) (p1 : Int32) (p2 : Int32) (hT : zT shX n 0 10) {M9 : zMem} (hF : F_X9_runSummer M p0 p1 p2 = some M9) : zM l yX9_runSummer cX9_runSummer 7 none rm_X9_runSummer G shX ad n M [.ref (ad 0), .int p0, .int p1, .int p2] none M9 := by
  refine zM_of hA (by decide +kernel) (lv := [(0, .ref (ad 0)), (1, .int p0), (2, .int p1), (3, .int p2)]) (Nat.le_of_ble_eq_true rfl) rfl (fun p e s m args below meth c A cx hr => ?_)
  have hb127 : ∀ (self22 : Int32 → Int32 → Int32 → zMem → Option (zMem)) (hs22 : ∀ (b22_L2 : Int32) (b22_L3 : Int32) (b22_L4 : Int32) (M : zMem), self22 b22_L2 b22_L3 b22_L4 M = some M9 → zJ p l e rm_X9_runSummer s m args below meth c G shX ad n A 7 (MQ below (zQ G shX ad n M9 none A) args s 0 0 A) 0 0 M 22 [(0, .ref (ad 0)), (2, .int b22_L2), (3, .int b22_L3), (4, .int b22_L4)] []), ∀ (b127_L2 : Int32) (b127_L3 : Int32) (b127_L4 : Int32) (M : zMem), F_X9_runSummer_127 p0 p1 p2 self22 b127_L2 b127_L3 b127_L4 M = some M9 → zJ p l e rm_X9_runSummer s m args below meth c G shX ad n A 7 (MQ below (zQ G shX ad n M9 none A) args s 0 0 A) 0 0 M 127 [(0, .ref (ad 0)), (2, .int b127_L2), (3, .int b127_L3), (4, .int b127_L4)] [] := by
    intro self22 hs22 b127_L2 b127_L3 b127_L4 M hF
    unfold F_X9_runSummer_127 at hF
    refine z_iinc cx 4 1 [(4, .int (b127_L4 + 1)), (0, .ref (ad 0)), (2, .int b127_L2), (3, .int b127_L3)] d_X9_runSummer_127 3 rfl ki_1 (by decide) rfl ?_
    refine z_goto cx 22 d_X9_runSummer_130 (by decide) ?_
    exact z_lv [1, 2, 3, 0] _ rfl (hs22 b127_L2 b127_L3 (b127_L4 + 1) M hF)
  have hb109 : ∀ (self22 : Int32 → Int32 → Int32 → zMem → Option (zMem)) (hs22 : ∀ (b22_L2 : Int32) (b22_L3 : Int32) (b22_L4 : Int32) (M : zMem), self22 b22_L2 b22_L3 b22_L4 M = some M9 → zJ p l e rm_X9_runSummer s m args below meth c G shX ad n A 7 (MQ below (zQ G shX ad n M9 none A) args s 0 0 A) 0 0 M 22 [(0, .ref (ad 0)), (2, .int b22_L2), (3, .int b22_L3), (4, .int b22_L4)] []), ∀ (b109_L2 : Int32) (b109_L3 : Int32) (b109_L4 : Int32) (M : zMem), F_X9_runSummer_109 p0 p1 p2 self22 b109_L2 b109_L3 b109_L4 M = some M9 → zJ p l e rm_X9_runSummer s m args below meth c G shX ad n A 7 (MQ below (zQ G shX ad n M9 none A) args s 0 0 A) 0 0 M 109 [(0, .ref (ad 0)), (2, .int b109_L2), (3, .int b109_L3), (4, .int b109_L4)] [] := by
    intro self22 hs22 b109_L2 b109_L3 b109_L4 M hF
    unfold F_X9_runSummer_109 at hF
    refine z_aload_n cx d_X9_runSummer_109 0 rfl ?_
    obtain ⟨hg1, hF⟩ := gd_inv hF
    refine z_getD cx hT fg_SunnyPans_62 d_X9_runSummer_110 ?_
    refine z_getI cx (td_6 hT hg1) fg_SunnyPans_127 d_X9_runSummer_113 ?_
    refine z_if_le cx 127 d_X9_runSummer_116 (by decide) hF (fun hF => ?_) (fun hF => ?_)
    · exact hb127 self22 hs22 b109_L2 b109_L3 b109_L4 M hF
    refine z_aload_n cx d_X9_runSummer_119 0 rfl ?_
    refine z_aload_n cx d_X9_runSummer_120 0 rfl ?_
    refine z_getR cx hT fg_SunnyPans_37 99 rfl d_X9_runSummer_121 ?_
    obtain ⟨M2, hc, hF⟩ := zbv_inv hF
    refine z_callV cx (As := [.ref (ad 99)]) (rest := []) (c_X9_passHour l cx.2.2.2.1.1 M 99 hT (tfX_10_99 hT) hc) hT zo_10 cv_SunnyPans_311 ⟨rfl, rfl, Nat.le_of_ble_eq_true rfl, Nat.le_of_ble_eq_true rfl⟩ rfl rfl ⟨Nat.zero_le _, Nat.zero_le _⟩ (Nat.le_of_ble_eq_true rfl) d_X9_runSummer_124 ?_
    exact hb127 self22 hs22 b109_L2 b109_L3 b109_L4 M2 hF
  have hL22 : ∀ (fuel : Nat), ∀ (b22_L2 : Int32) (b22_L3 : Int32) (b22_L4 : Int32) (M : zMem), itF (fun _ _ _ _ => none) (F_X9_runSummer_22 p0 p1 p2) fuel b22_L2 b22_L3 b22_L4 M = some M9 → zJ p l e rm_X9_runSummer s m args below meth c G shX ad n A 7 (MQ below (zQ G shX ad n M9 none A) args s 0 0 A) 0 0 M 22 [(0, .ref (ad 0)), (2, .int b22_L2), (3, .int b22_L3), (4, .int b22_L4)] [] := by
    intro fuel
    induction fuel with
    | zero => intro b22_L2 b22_L3 b22_L4 M hF; cases hF
    | succ fuel hs22 =>
      intro b22_L2 b22_L3 b22_L4 M hF
      have hF : F_X9_runSummer_22 p0 p1 p2 (itF (fun _ _ _ _ => none) (F_X9_runSummer_22 p0 p1 p2) fuel) b22_L2 b22_L3 b22_L4 M = some M9 := hF
      generalize itF (fun _ _ _ _ => none) (F_X9_runSummer_22 p0 p1 p2) fuel = self22 at hs22 hF
      unfold F_X9_runSummer_22 at hF
      refine z_iload cx d_X9_runSummer_22 3 rfl ?_
      refine z_iload_n cx d_X9_runSummer_24 1 rfl ?_
      refine z_icmp_ge cx 133 d_X9_runSummer_25 (by decide) hF (fun hF => ?_) (fun hF => ?_)
      · exact z_vret cx hr hF d_X9_runSummer_133
      refine z_aload_n cx d_X9_runSummer_28 0 rfl ?_
      refine z_aload_n cx d_X9_runSummer_29 0 rfl ?_
      obtain ⟨hg3, hF⟩ := gd_inv hF
      refine z_getD cx hT fg_SunnyPans_62 d_X9_runSummer_30 ?_
      refine z_getI cx (td_6 hT hg3) fg_SunnyPans_162 d_X9_runSummer_33 ?_
      obtain ⟨v5, M4, hc, hF⟩ := zb_inv hF
      refine z_callV cx (As := [.int (M.1 (M.2.2 0 8) 0)]) (rest := []) (c_X9_draw l cx.2.2.2.1.1 M (M.1 (M.2.2 0 8) 0) hT hc) hT zo_10 cv_SunnyPans_396 ⟨rfl, rfl, Nat.le_of_ble_eq_true rfl, Nat.le_of_ble_eq_true rfl⟩ rfl rfl ⟨Nat.zero_le _, Nat.zero_le _⟩ (Nat.le_of_ble_eq_true rfl) d_X9_runSummer_36 ?_
      refine z_istore cx 5 [(5, .int v5), (0, .ref (ad 0)), (2, .int b22_L2), (3, .int b22_L3), (4, .int b22_L4)] d_X9_runSummer_39 (by decide) rfl ?_
      refine z_aload_n cx d_X9_runSummer_41 1 rfl ?_
      refine z_aload_n cx d_X9_runSummer_42 1 rfl ?_
      obtain ⟨hg6, hF⟩ := gd_inv hF
      refine z_getD cx hT fg_SunnyPans_62 d_X9_runSummer_43 ?_
      refine z_getI cx (td_6 hT hg6) fg_SunnyPans_165 d_X9_runSummer_46 ?_
      obtain ⟨v8, M7, hc, hF⟩ := zb_inv hF
      refine z_callV cx (As := [.int (M4.1 (M4.2.2 0 8) 1)]) (rest := []) (c_X9_draw l cx.2.2.2.1.1 M4 (M4.1 (M4.2.2 0 8) 1) hT hc) hT zo_10 cv_SunnyPans_396 ⟨rfl, rfl, Nat.le_of_ble_eq_true rfl, Nat.le_of_ble_eq_true rfl⟩ rfl rfl ⟨Nat.zero_le _, Nat.zero_le _⟩ (Nat.le_of_ble_eq_true rfl) d_X9_runSummer_49 ?_
      refine z_istore cx 6 [(6, .int v8), (5, .int v5), (0, .ref (ad 0)), (2, .int b22_L2), (3, .int b22_L3), (4, .int b22_L4)] d_X9_runSummer_52 (by decide) rfl ?_
      refine z_aload_n cx d_X9_runSummer_54 2 rfl ?_
      refine z_bipush (v := 16) cx d_X9_runSummer_55 kb_16 ?_
      obtain ⟨v10, M9, hc, hF⟩ := zb_inv hF
      refine z_callV cx (As := [.int (16 : Int32)]) (rest := []) (c_X9_draw l cx.2.2.2.1.1 M7 (16 : Int32) hT hc) hT zo_10 cv_SunnyPans_396 ⟨rfl, rfl, Nat.le_of_ble_eq_true rfl, Nat.le_of_ble_eq_true rfl⟩ rfl rfl ⟨Nat.zero_le _, Nat.zero_le _⟩ (Nat.le_of_ble_eq_true rfl) d_X9_runSummer_57 ?_
      refine z_iload_n cx d_X9_runSummer_60 4 rfl ?_
      refine z_icmp_ge cx 90 d_X9_runSummer_61 (by decide) hF (fun hF => ?_) (fun hF => ?_)
      · refine z_aload_n cx d_X9_runSummer_90 2 rfl ?_
        refine z_getR cx hT fg_SunnyPans_37 99 rfl d_X9_runSummer_91 ?_
        refine z_aload_n cx d_X9_runSummer_94 2 rfl ?_
        obtain ⟨hg11, hF⟩ := gd_inv hF
        refine z_getD cx hT fg_SunnyPans_62 d_X9_runSummer_95 ?_
        refine z_iload cx d_X9_runSummer_98 1 rfl ?_
        refine z_iload cx d_X9_runSummer_100 0 rfl ?_
        obtain ⟨v13, M12, hc, hF⟩ := zb_inv hF
        refine z_callS cx (As := [.int v5, .int v8]) (rest := [.ref (ad (M9.2.2 0 8)), .ref (ad 99)]) (c_X9_placeOf l cx.2.2.2.1.1 M9 v5 v8  hc) cs_SunnyPans_213 ⟨rfl, rfl, Nat.le_of_ble_eq_true rfl, Nat.le_of_ble_eq_true rfl⟩ rfl rfl ⟨Nat.zero_le _, Nat.zero_le _⟩ (Nat.le_of_ble_eq_true rfl) d_X9_runSummer_102 ?_
        obtain ⟨v15, M14, hc, hF⟩ := zb_inv hF
        refine z_callV cx (As := [.ref (ad (M9.2.2 0 8)), .int v13]) (rest := []) (c_X4_haul l cx.2.2.2.1.1 M12 99 (M9.2.2 0 8) v13 (tfX_10_99 hT) (td_6 hT hg11) hc) (tfX_10_99 hT) zo_5 cv_SunnyPans_402 ⟨rfl, rfl, Nat.le_of_ble_eq_true rfl, Nat.le_of_ble_eq_true rfl⟩ rfl rfl ⟨Nat.zero_le _, Nat.zero_le _⟩ (Nat.le_of_ble_eq_true rfl) d_X9_runSummer_105 ?_
        refine z_pop cx d_X9_runSummer_108 rfl ?_
        exact z_lv [2, 3, 4, 5] _ rfl (hb109 self22 hs22 b22_L2 b22_L3 b22_L4 M14 hF)
      refine z_aload_n cx d_X9_runSummer_64 2 rfl ?_
      refine z_getR cx hT fg_SunnyPans_37 99 rfl d_X9_runSummer_65 ?_
      refine z_iload cx d_X9_runSummer_68 1 rfl ?_
      refine z_iload cx d_X9_runSummer_70 0 rfl ?_
      obtain ⟨v17, M16, hc, hF⟩ := zb_inv hF
      refine z_callS cx (As := [.int v5, .int v8]) (rest := [.ref (ad 99)]) (c_X9_placeOf l cx.2.2.2.1.1 M9 v5 v8  hc) cs_SunnyPans_213 ⟨rfl, rfl, Nat.le_of_ble_eq_true rfl, Nat.le_of_ble_eq_true rfl⟩ rfl rfl ⟨Nat.zero_le _, Nat.zero_le _⟩ (Nat.le_of_ble_eq_true rfl) d_X9_runSummer_72 ?_
      refine z_iconst (v := 1) cx d_X9_runSummer_75 ki_1 ?_
      refine z_aload_n cx d_X9_runSummer_76 2 rfl ?_
      refine z_bipush (v := 99) cx d_X9_runSummer_77 kb_99 ?_
      obtain ⟨v19, M18, hc, hF⟩ := zb_inv hF
      refine z_callV cx (As := [.int (99 : Int32)]) (rest := [.int (1 : Int32), .int v17, .ref (ad 99)]) (c_X9_draw l cx.2.2.2.1.1 M16 (99 : Int32) hT hc) hT zo_10 cv_SunnyPans_396 ⟨rfl, rfl, Nat.le_of_ble_eq_true rfl, Nat.le_of_ble_eq_true rfl⟩ rfl rfl ⟨Nat.zero_le _, Nat.zero_le _⟩ (Nat.le_of_ble_eq_true rfl) d_X9_runSummer_79 ?_
      refine z_iadd cx d_X9_runSummer_82 ?_
      obtain ⟨v21, M20, hc, hF⟩ := zb_inv hF
      refine z_callV cx (As := [.int v17, .int ((1 : Int32) + v19)]) (rest := []) (c_X4_pour l cx.2.2.2.1.1 M18 99 v17 ((1 : Int32) + v19) (tfX_10_99 hT) hc) (tfX_10_99 hT) zo_5 cv_SunnyPans_399 ⟨rfl, rfl, Nat.le_of_ble_eq_true rfl, Nat.le_of_ble_eq_true rfl⟩ rfl rfl ⟨Nat.zero_le _, Nat.zero_le _⟩ (Nat.le_of_ble_eq_true rfl) d_X9_runSummer_83 ?_
      refine z_pop cx d_X9_runSummer_86 rfl ?_
      refine z_goto cx 109 d_X9_runSummer_87 (by decide) ?_
      exact z_lv [2, 3, 4, 5] _ rfl (hb109 self22 hs22 b22_L2 b22_L3 b22_L4 M20 hF)
  unfold F_X9_runSummer at hF
  refine z_aload_n cx d_X9_runSummer_0 0 rfl ?_
  refine z_getR cx hT fg_SunnyPans_37 99 rfl d_X9_runSummer_1 ?_
  refine z_aload_n cx d_X9_runSummer_4 0 rfl ?_
  refine z_getR cx hT fg_SunnyPans_19 3 rfl d_X9_runSummer_5 ?_
  refine z_getR cx (tfX_10_3 hT) fg_SunnyPans_159 4 rfl d_X9_runSummer_8 ?_
  obtain ⟨M22, hc, hF⟩ := zbv_inv hF
  refine z_callV cx (As := [.ref (ad 4)]) (rest := []) (c_X4_copyFrom l cx.2.2.2.1.1 M 99 4 (tfX_10_99 hT) (tfX_8_1 (tfX_10_3 hT)) hc) (tfX_10_99 hT) zo_5 cv_SunnyPans_307 ⟨rfl, rfl, Nat.le_of_ble_eq_true rfl, Nat.le_of_ble_eq_true rfl⟩ rfl rfl ⟨Nat.zero_le _, Nat.zero_le _⟩ (Nat.le_of_ble_eq_true rfl) d_X9_runSummer_11 ?_
  refine z_aload_n cx d_X9_runSummer_14 0 rfl ?_
  refine z_iload_n cx d_X9_runSummer_15 1 rfl ?_
  refine z_putI cx hT fp_SunnyPans_393 d_X9_runSummer_16 ?_
  refine z_nmM hF (fun M23 hF => ?_)
  refine z_iconst (v := 0) cx d_X9_runSummer_19 ki_0 ?_
  refine z_istore cx 4 [(4, .int (0 : Int32)), (0, .ref (ad 0)), (1, .int p0), (2, .int p1), (3, .int p2)] d_X9_runSummer_20 (by decide) rfl ?_
  exact z_lv [1, 3, 4, 0] _ rfl (hL22 zFuel p1 p2 (0 : Int32) M23 hF)
/-! SunnyPans.summer -/
set_option maxRecDepth 100000 in
theorem wd_1363 : Cond.code yX9_runSummer cX9_runSummer 7 none ∈ tbG := tw6 63 rfl rfl
set_option maxRecDepth 100000 in
theorem wd_1360 : Cond.methodLink "SunnyPans" 389 yX9_runSummer ∈ tbG := tw6 60 rfl rfl
set_option maxRecDepth 100000 in
theorem wd_1362 : Cond.instanceMethod yX9_runSummer ∈ tbG := tw6 62 rfl rfl
theorem wd_39 : Cond.selects "SunnyPans" yX9_runSummer yX9_runSummer ∈ tbG := tw 39 (by decide +kernel) rfl
theorem cv_SunnyPans_389 : zCV "SunnyPans" 389 "SunnyPans" yX9_runSummer cX9_runSummer 7 none 3 := zCV_of wd_1360 wd_1362 wd_39 wd_101 wd_1363 (by decide +kernel)
theorem kb_96 : (Int8.ofInt (96)).toInt32 = (96 : Int32) := by decide +kernel
theorem d_X9_summer_0 : decode cX9_summer 0 = .ok (.aload_n 0, 1) := by decide +kernel
theorem d_X9_summer_1 : decode cX9_summer 1 = .ok (.iload_n 2, 1) := by decide +kernel
theorem d_X9_summer_2 : decode cX9_summer 2 = .ok (.iconst 1, 1) := by decide +kernel
theorem d_X9_summer_3 : decode cX9_summer 3 = .ok (.bipush 96, 2) := by decide +kernel
theorem d_X9_summer_5 : decode cX9_summer 5 = .ok (.invokestatic 255, 3) := by decide +kernel
theorem d_X9_summer_8 : decode cX9_summer 8 = .ok (.ifCond .eq 27, 3) := by decide +kernel
theorem d_X9_summer_11 : decode cX9_summer 11 = .ok (.iload_n 3, 1) := by decide +kernel
theorem d_X9_summer_12 : decode cX9_summer 12 = .ok (.iconst 0, 1) := by decide +kernel
theorem d_X9_summer_13 : decode cX9_summer 13 = .ok (.bipush 16, 2) := by decide +kernel
theorem d_X9_summer_15 : decode cX9_summer 15 = .ok (.invokestatic 255, 3) := by decide +kernel
theorem d_X9_summer_18 : decode cX9_summer 18 = .ok (.ifCond .eq 17, 3) := by decide +kernel
theorem d_X9_summer_21 : decode cX9_summer 21 = .ok (.iload 4, 2) := by decide +kernel
theorem d_X9_summer_23 : decode cX9_summer 23 = .ok (.iconst 0, 1) := by decide +kernel
theorem d_X9_summer_24 : decode cX9_summer 24 = .ok (.iconst 3, 1) := by decide +kernel
theorem d_X9_summer_25 : decode cX9_summer 25 = .ok (.invokestatic 255, 3) := by decide +kernel
theorem d_X9_summer_28 : decode cX9_summer 28 = .ok (.ifCond .eq 7, 3) := by decide +kernel
theorem d_X9_summer_31 : decode cX9_summer 31 = .ok (.iconst 1, 1) := by decide +kernel
theorem d_X9_summer_32 : decode cX9_summer 32 = .ok (.goto 4, 3) := by decide +kernel
theorem d_X9_summer_35 : decode cX9_summer 35 = .ok (.iconst 0, 1) := by decide +kernel
theorem d_X9_summer_36 : decode cX9_summer 36 = .ok (.invokevirtual 155, 3) := by decide +kernel
theorem d_X9_summer_39 : decode cX9_summer 39 = .ok (.aload_n 0, 1) := by decide +kernel
theorem d_X9_summer_40 : decode cX9_summer 40 = .ok (.iload_n 1, 1) := by decide +kernel
theorem d_X9_summer_41 : decode cX9_summer 41 = .ok (.iload_n 2, 1) := by decide +kernel
theorem d_X9_summer_42 : decode cX9_summer 42 = .ok (.iload_n 3, 1) := by decide +kernel
theorem d_X9_summer_43 : decode cX9_summer 43 = .ok (.invokevirtual 389, 3) := by decide +kernel
theorem d_X9_summer_46 : decode cX9_summer 46 = .ok (.iload 4, 2) := by decide +kernel
theorem d_X9_summer_48 : decode cX9_summer 48 = .ok (.tableswitch 58 0 2 #[28, 39, 50], 28) := by decide +kernel
theorem d_X9_summer_76 : decode cX9_summer 76 = .ok (.aload_n 0, 1) := by decide +kernel
theorem d_X9_summer_77 : decode cX9_summer 77 = .ok (.getfield 37, 3) := by decide +kernel
theorem d_X9_summer_80 : decode cX9_summer 80 = .ok (.getfield 174, 3) := by decide +kernel
theorem d_X9_summer_83 : decode cX9_summer 83 = .ok (.invokestatic 177, 3) := by decide +kernel
theorem d_X9_summer_86 : decode cX9_summer 86 = .ok (.ireturn, 1) := by decide +kernel
theorem d_X9_summer_87 : decode cX9_summer 87 = .ok (.aload_n 0, 1) := by decide +kernel
theorem d_X9_summer_88 : decode cX9_summer 88 = .ok (.getfield 37, 3) := by decide +kernel
theorem d_X9_summer_91 : decode cX9_summer 91 = .ok (.getfield 181, 3) := by decide +kernel
theorem d_X9_summer_94 : decode cX9_summer 94 = .ok (.invokestatic 177, 3) := by decide +kernel
theorem d_X9_summer_97 : decode cX9_summer 97 = .ok (.ireturn, 1) := by decide +kernel
theorem d_X9_summer_98 : decode cX9_summer 98 = .ok (.aload_n 0, 1) := by decide +kernel
theorem d_X9_summer_99 : decode cX9_summer 99 = .ok (.getfield 37, 3) := by decide +kernel
theorem d_X9_summer_102 : decode cX9_summer 102 = .ok (.getfield 187, 3) := by decide +kernel
theorem d_X9_summer_105 : decode cX9_summer 105 = .ok (.ireturn, 1) := by decide +kernel
theorem d_X9_summer_106 : decode cX9_summer 106 = .ok (.aload_n 0, 1) := by decide +kernel
theorem d_X9_summer_107 : decode cX9_summer 107 = .ok (.getfield 62, 3) := by decide +kernel
theorem d_X9_summer_110 : decode cX9_summer 110 = .ok (.getfield 200, 3) := by decide +kernel
theorem d_X9_summer_113 : decode cX9_summer 113 = .ok (.aload_n 0, 1) := by decide +kernel
theorem d_X9_summer_114 : decode cX9_summer 114 = .ok (.getfield 37, 3) := by decide +kernel
theorem d_X9_summer_117 : decode cX9_summer 117 = .ok (.invokevirtual 204, 3) := by decide +kernel
theorem d_X9_summer_120 : decode cX9_summer 120 = .ok (.land, 1) := by decide +kernel
theorem d_X9_summer_121 : decode cX9_summer 121 = .ok (.invokestatic 194, 3) := by decide +kernel
theorem d_X9_summer_124 : decode cX9_summer 124 = .ok (.ireturn, 1) := by decide +kernel
noncomputable def F_X9_summer_106 (p0 : Int32) (p1 : Int32) (p2 : Int32) (p3 : Int32) (M : zMem) : Option (Nat × Int32 × zMem) :=
  gd (shX (M.2.2 0 8) == 6) <|
  zb (F_X4_dryPlaces M 99) fun v3 M2 =>
  zb (F_J13_bitCount_95d88 M2 ((M.2.1 (M.2.2 0 8) 3) &&& v3)) fun v5 M4 =>
  some (0, v5, M4)
noncomputable def F_X9_summer_98 (p0 : Int32) (p1 : Int32) (p2 : Int32) (p3 : Int32) (M : zMem) : Option (Nat × Int32 × zMem) :=
  some (0, (M.1 99 3), M)
noncomputable def F_X9_summer_87 (p0 : Int32) (p1 : Int32) (p2 : Int32) (p3 : Int32) (M : zMem) : Option (Nat × Int32 × zMem) :=
  zb (F_X9_sumOf M 101) fun v7 M6 =>
  some (0, v7, M6)
noncomputable def F_X9_summer_76 (p0 : Int32) (p1 : Int32) (p2 : Int32) (p3 : Int32) (M : zMem) : Option (Nat × Int32 × zMem) :=
  zb (F_X9_sumOf M 100) fun v9 M8 =>
  some (0, v9, M8)
noncomputable def F_X9_summer_36 (p0 : Int32) (p1 : Int32) (p2 : Int32) (p3 : Int32) (b36_L1 : Int32) (b36_L2 : Int32) (b36_L3 : Int32) (b36_L4 : Int32) (b36_S1 : Int32) (M : zMem) : Option (Nat × Int32 × zMem) :=
  zbx (F_X9_need M b36_S1) (g := zxp) fun _ M10 =>
  zbv (F_X9_runSummer M10 b36_L1 b36_L2 b36_L3) fun M15 =>
  if b36_L4 = 0 then
    F_X9_summer_76 p0 p1 p2 p3 M15
  else
  if b36_L4 = 1 then
    F_X9_summer_87 p0 p1 p2 p3 M15
  else
  if b36_L4 = 2 then
    F_X9_summer_98 p0 p1 p2 p3 M15
  else
  F_X9_summer_106 p0 p1 p2 p3 M15
noncomputable def F_X9_summer_35 (p0 : Int32) (p1 : Int32) (p2 : Int32) (p3 : Int32) (b35_L1 : Int32) (b35_L2 : Int32) (b35_L3 : Int32) (b35_L4 : Int32) (M : zMem) : Option (Nat × Int32 × zMem) :=
  F_X9_summer_36 p0 p1 p2 p3 b35_L1 b35_L2 b35_L3 b35_L4 (0 : Int32) M
noncomputable def F_X9_summer (M : zMem) (p0 : Int32) (p1 : Int32) (p2 : Int32) (p3 : Int32) : Option (Nat × Int32 × zMem) :=
  zb (F_X9_within M p1 (1 : Int32) (96 : Int32)) fun v17 M16 =>
  if v17 = 0 then
    F_X9_summer_35 p0 p1 p2 p3 p0 p1 p2 p3 M16
  else
    zb (F_X9_within M16 p2 (0 : Int32) (16 : Int32)) fun v19 M18 =>
    if v19 = 0 then
      F_X9_summer_35 p0 p1 p2 p3 p0 p1 p2 p3 M18
    else
      zb (F_X9_within M18 p3 (0 : Int32) (3 : Int32)) fun v21 M20 =>
      if v21 = 0 then
        F_X9_summer_35 p0 p1 p2 p3 p0 p1 p2 p3 M20
      else
        F_X9_summer_36 p0 p1 p2 p3 p0 p1 p2 p3 (1 : Int32) M20
def rm_X9_summer : Room := { frames := 10, cells := 1, slots := 6, locals := 206 }
set_option maxHeartbeats 4000000 in
set_option maxRecDepth 100000 in
theorem c_X9_summer (l : Launch) {G : zG} {ad : Nat → Nat} {n : Nat} (hA : zInj ad n) (M : zMem) (p0 : Int32) (p1 : Int32) (p2 : Int32) (p3 : Int32) (hl : l.stackTraces = false) (hT : zT shX n 0 10) {k9 : Nat} {r9 : Int32} {M9 : zMem} (hF : F_X9_summer M p0 p1 p2 p3 = some (k9, r9, M9)) : zMX l yX9_summer cX9_summer 5 (some .int) rm_X9_summer 1 6 G shX ad n M [.ref (ad 0), .int p0, .int p1, .int p2, .int p3] k9 (some (.int r9)) M9 := by
  refine zM_ofX hA (by decide +kernel) (lv := [(0, .ref (ad 0)), (1, .int p0), (2, .int p1), (3, .int p2), (4, .int p3)]) (Nat.le_of_ble_eq_true rfl) rfl (fun p e s m args below meth c A cx hr ht => ?_)
  have hb106 : ∀ (M : zMem), F_X9_summer_106 p0 p1 p2 p3 M = some (k9, r9, M9) → zJ p l e rm_X9_summer s m args below meth c G shX ad n A 5 (vx_MQ below (zQX G shX ad n M9 k9 (some (.int r9)) A) (zXC G shX ad n M9 k9 A) args s 1 6 A) 1 6 M 106 [(0, .ref (ad 0))] [] := by
    intro M hF
    unfold F_X9_summer_106 at hF
    refine z_aload_n cx d_X9_summer_106 0 rfl ?_
    obtain ⟨hg1, hF⟩ := gd_inv hF
    refine z_getD cx hT fg_SunnyPans_62 d_X9_summer_107 ?_
    refine z_getL cx (td_6 hT hg1) fg_SunnyPans_200 d_X9_summer_110 ?_
    refine z_aload_n cx d_X9_summer_113 0 rfl ?_
    refine z_getR cx hT fg_SunnyPans_37 99 rfl d_X9_summer_114 ?_
    obtain ⟨v3, M2, hc, hF⟩ := zb_inv hF
    refine z_callV cx (As := []) (rest := [.long (M.2.1 (M.2.2 0 8) 3)]) (c_X4_dryPlaces l cx.2.2.2.1.1 M 99 (tfX_10_99 hT) hc) (tfX_10_99 hT) zo_5 cv_SunnyPans_204 ⟨rfl, rfl, Nat.le_of_ble_eq_true rfl, Nat.le_of_ble_eq_true rfl⟩ rfl rfl ⟨Nat.le_of_ble_eq_true rfl, Nat.le_of_ble_eq_true rfl⟩ (Nat.le_of_ble_eq_true rfl) d_X9_summer_117 ?_
    refine z_land cx d_X9_summer_120 ?_
    obtain ⟨v5, M4, hc, hF⟩ := zb_inv hF
    refine z_callS cx (As := [.long ((M.2.1 (M.2.2 0 8) 3) &&& v3)]) (rest := []) (c_J13_bitCount_95d88 l cx.2.2.2.1.1 M2 ((M.2.1 (M.2.2 0 8) 3) &&& v3)  hc) cs_SunnyPans_194 ⟨rfl, rfl, Nat.le_of_ble_eq_true rfl, Nat.le_of_ble_eq_true rfl⟩ rfl rfl ⟨Nat.le_of_ble_eq_true rfl, Nat.le_of_ble_eq_true rfl⟩ (Nat.le_of_ble_eq_true rfl) d_X9_summer_121 ?_
    exact z_iretX cx hr rfl hF ⟨Nat.le_of_ble_eq_true rfl, Nat.le_of_ble_eq_true rfl⟩ d_X9_summer_124
  have hb98 : ∀ (M : zMem), F_X9_summer_98 p0 p1 p2 p3 M = some (k9, r9, M9) → zJ p l e rm_X9_summer s m args below meth c G shX ad n A 5 (vx_MQ below (zQX G shX ad n M9 k9 (some (.int r9)) A) (zXC G shX ad n M9 k9 A) args s 1 6 A) 1 6 M 98 [(0, .ref (ad 0))] [] := by
    intro M hF
    unfold F_X9_summer_98 at hF
    refine z_aload_n cx d_X9_summer_98 0 rfl ?_
    refine z_getR cx hT fg_SunnyPans_37 99 rfl d_X9_summer_99 ?_
    refine z_getI cx (tfX_10_99 hT) fg_SunnyPans_187 d_X9_summer_102 ?_
    exact z_iretX cx hr rfl hF ⟨Nat.le_of_ble_eq_true rfl, Nat.le_of_ble_eq_true rfl⟩ d_X9_summer_105
  have hb87 : ∀ (M : zMem), F_X9_summer_87 p0 p1 p2 p3 M = some (k9, r9, M9) → zJ p l e rm_X9_summer s m args below meth c G shX ad n A 5 (vx_MQ below (zQX G shX ad n M9 k9 (some (.int r9)) A) (zXC G shX ad n M9 k9 A) args s 1 6 A) 1 6 M 87 [(0, .ref (ad 0))] [] := by
    intro M hF
    unfold F_X9_summer_87 at hF
    refine z_aload_n cx d_X9_summer_87 0 rfl ?_
    refine z_getR cx hT fg_SunnyPans_37 99 rfl d_X9_summer_88 ?_
    refine z_getR cx (tfX_10_99 hT) fg_SunnyPans_181 101 rfl d_X9_summer_91 ?_
    obtain ⟨v7, M6, hc, hF⟩ := zb_inv hF
    refine z_callS cx (As := [.ref (ad 101)]) (rest := []) (c_X9_sumOf l cx.2.2.2.1.1 M 101 (tfX_5_2 (tfX_10_99 hT)) hc) cs_SunnyPans_177 ⟨rfl, rfl, Nat.le_of_ble_eq_true rfl, Nat.le_of_ble_eq_true rfl⟩ rfl rfl ⟨Nat.le_of_ble_eq_true rfl, Nat.le_of_ble_eq_true rfl⟩ (Nat.le_of_ble_eq_true rfl) d_X9_summer_94 ?_
    exact z_iretX cx hr rfl hF ⟨Nat.le_of_ble_eq_true rfl, Nat.le_of_ble_eq_true rfl⟩ d_X9_summer_97
  have hb76 : ∀ (M : zMem), F_X9_summer_76 p0 p1 p2 p3 M = some (k9, r9, M9) → zJ p l e rm_X9_summer s m args below meth c G shX ad n A 5 (vx_MQ below (zQX G shX ad n M9 k9 (some (.int r9)) A) (zXC G shX ad n M9 k9 A) args s 1 6 A) 1 6 M 76 [(0, .ref (ad 0))] [] := by
    intro M hF
    unfold F_X9_summer_76 at hF
    refine z_aload_n cx d_X9_summer_76 0 rfl ?_
    refine z_getR cx hT fg_SunnyPans_37 99 rfl d_X9_summer_77 ?_
    refine z_getR cx (tfX_10_99 hT) fg_SunnyPans_174 100 rfl d_X9_summer_80 ?_
    obtain ⟨v9, M8, hc, hF⟩ := zb_inv hF
    refine z_callS cx (As := [.ref (ad 100)]) (rest := []) (c_X9_sumOf l cx.2.2.2.1.1 M 100 (tfX_5_1 (tfX_10_99 hT)) hc) cs_SunnyPans_177 ⟨rfl, rfl, Nat.le_of_ble_eq_true rfl, Nat.le_of_ble_eq_true rfl⟩ rfl rfl ⟨Nat.le_of_ble_eq_true rfl, Nat.le_of_ble_eq_true rfl⟩ (Nat.le_of_ble_eq_true rfl) d_X9_summer_83 ?_
    exact z_iretX cx hr rfl hF ⟨Nat.le_of_ble_eq_true rfl, Nat.le_of_ble_eq_true rfl⟩ d_X9_summer_86
  have hb36 : ∀ (b36_L1 : Int32) (b36_L2 : Int32) (b36_L3 : Int32) (b36_L4 : Int32) (b36_S1 : Int32) (M : zMem), F_X9_summer_36 p0 p1 p2 p3 b36_L1 b36_L2 b36_L3 b36_L4 b36_S1 M = some (k9, r9, M9) → zJ p l e rm_X9_summer s m args below meth c G shX ad n A 5 (vx_MQ below (zQX G shX ad n M9 k9 (some (.int r9)) A) (zXC G shX ad n M9 k9 A) args s 1 6 A) 0 0 M 36 [(0, .ref (ad 0)), (1, .int b36_L1), (2, .int b36_L2), (3, .int b36_L3), (4, .int b36_L4)] [.int b36_S1, .ref (ad 0)] := by
    intro b36_L1 b36_L2 b36_L3 b36_L4 b36_S1 M hF
    unfold F_X9_summer_36 at hF
    obtain ⟨k11, v12, M10, hc, hF, hX13⟩ := zbx_inv hF
    refine z_callVX cx ht (As := [.int b36_S1]) (rest := []) (c_X9_need l cx.2.2.2.1.1 M b36_S1 hl hT hc) (fun q => zxp_inv (hX13 q)) hT zo_10 cv_SunnyPans_155 ⟨rfl, rfl, Nat.le_of_ble_eq_true rfl, Nat.le_of_ble_eq_true rfl⟩ rfl rfl ⟨Nat.le_of_ble_eq_true rfl, Nat.le_of_ble_eq_true rfl⟩ ⟨Nat.le_of_ble_eq_true rfl, Nat.le_of_ble_eq_true rfl⟩ (Nat.le_of_ble_eq_true rfl) d_X9_summer_36 (fun kq14 => ?_)
    have hF := hF kq14
    refine z_aload_n cx d_X9_summer_39 0 rfl ?_
    refine z_iload_n cx d_X9_summer_40 1 rfl ?_
    refine z_iload_n cx d_X9_summer_41 2 rfl ?_
    refine z_iload_n cx d_X9_summer_42 3 rfl ?_
    obtain ⟨M15, hc, hF⟩ := zbv_inv hF
    refine z_callV cx (As := [.int b36_L1, .int b36_L2, .int b36_L3]) (rest := []) (c_X9_runSummer l cx.2.2.2.1.1 M10 b36_L1 b36_L2 b36_L3 hT hc) hT zo_10 cv_SunnyPans_389 ⟨rfl, rfl, Nat.le_of_ble_eq_true rfl, Nat.le_of_ble_eq_true rfl⟩ rfl rfl ⟨Nat.le_of_ble_eq_true rfl, Nat.le_of_ble_eq_true rfl⟩ (Nat.le_of_ble_eq_true rfl) d_X9_summer_43 ?_
    refine z_iload cx d_X9_summer_46 4 rfl ?_
    by_cases q0 : b36_L4 = 0
    · rw [if_pos q0] at hF
      refine z_tabIn cx 76 d_X9_summer_48 (by rw [q0]; decide +kernel) (by rw [q0]; decide +kernel) (by rw [q0]; rfl) (by decide) ?_
      exact z_lv [0] _ rfl (hb76 M15 hF)
    rw [if_neg q0] at hF
    by_cases q1 : b36_L4 = 1
    · rw [if_pos q1] at hF
      refine z_tabIn cx 87 d_X9_summer_48 (by rw [q1]; decide +kernel) (by rw [q1]; decide +kernel) (by rw [q1]; rfl) (by decide) ?_
      exact z_lv [0] _ rfl (hb87 M15 hF)
    rw [if_neg q1] at hF
    by_cases q2 : b36_L4 = 2
    · rw [if_pos q2] at hF
      refine z_tabIn cx 98 d_X9_summer_48 (by rw [q2]; decide +kernel) (by rw [q2]; decide +kernel) (by rw [q2]; rfl) (by decide) ?_
      exact z_lv [0] _ rfl (hb98 M15 hF)
    rw [if_neg q2] at hF
    refine z_tabOut cx 106 d_X9_summer_48 (by have w0 := lv_neT q0 (a := 0) (by decide +kernel); have w1 := lv_neT q1 (a := 1) (by decide +kernel); have w2 := lv_neT q2 (a := 2) (by decide +kernel); omega) (by decide) ?_
    exact z_lv [0] _ rfl (hb106 M15 hF)
  have hb35 : ∀ (b35_L1 : Int32) (b35_L2 : Int32) (b35_L3 : Int32) (b35_L4 : Int32) (M : zMem), F_X9_summer_35 p0 p1 p2 p3 b35_L1 b35_L2 b35_L3 b35_L4 M = some (k9, r9, M9) → zJ p l e rm_X9_summer s m args below meth c G shX ad n A 5 (vx_MQ below (zQX G shX ad n M9 k9 (some (.int r9)) A) (zXC G shX ad n M9 k9 A) args s 1 6 A) 0 0 M 35 [(0, .ref (ad 0)), (1, .int b35_L1), (2, .int b35_L2), (3, .int b35_L3), (4, .int b35_L4)] [.ref (ad 0)] := by
    intro b35_L1 b35_L2 b35_L3 b35_L4 M hF
    unfold F_X9_summer_35 at hF
    refine z_iconst (v := 0) cx d_X9_summer_35 ki_0 ?_
    exact hb36 b35_L1 b35_L2 b35_L3 b35_L4 (0 : Int32) M hF
  unfold F_X9_summer at hF
  refine z_aload_n cx d_X9_summer_0 0 rfl ?_
  refine z_iload_n cx d_X9_summer_1 2 rfl ?_
  refine z_iconst (v := 1) cx d_X9_summer_2 ki_1 ?_
  refine z_bipush (v := 96) cx d_X9_summer_3 kb_96 ?_
  obtain ⟨v17, M16, hc, hF⟩ := zb_inv hF
  refine z_callS cx (As := [.int p1, .int (1 : Int32), .int (96 : Int32)]) (rest := [.ref (ad 0)]) (c_X9_within l cx.2.2.2.1.1 M p1 (1 : Int32) (96 : Int32)  hc) cs_SunnyPans_255 ⟨rfl, rfl, Nat.le_of_ble_eq_true rfl, Nat.le_of_ble_eq_true rfl⟩ rfl rfl ⟨Nat.le_of_ble_eq_true rfl, Nat.le_of_ble_eq_true rfl⟩ (Nat.le_of_ble_eq_true rfl) d_X9_summer_5 ?_
  refine z_if_eq cx 35 d_X9_summer_8 (by decide) hF (fun hF => ?_) (fun hF => ?_)
  · exact hb35 p0 p1 p2 p3 M16 hF
  refine z_iload_n cx d_X9_summer_11 3 rfl ?_
  refine z_iconst (v := 0) cx d_X9_summer_12 ki_0 ?_
  refine z_bipush (v := 16) cx d_X9_summer_13 kb_16 ?_
  obtain ⟨v19, M18, hc, hF⟩ := zb_inv hF
  refine z_callS cx (As := [.int p2, .int (0 : Int32), .int (16 : Int32)]) (rest := [.ref (ad 0)]) (c_X9_within l cx.2.2.2.1.1 M16 p2 (0 : Int32) (16 : Int32)  hc) cs_SunnyPans_255 ⟨rfl, rfl, Nat.le_of_ble_eq_true rfl, Nat.le_of_ble_eq_true rfl⟩ rfl rfl ⟨Nat.le_of_ble_eq_true rfl, Nat.le_of_ble_eq_true rfl⟩ (Nat.le_of_ble_eq_true rfl) d_X9_summer_15 ?_
  refine z_if_eq cx 35 d_X9_summer_18 (by decide) hF (fun hF => ?_) (fun hF => ?_)
  · exact hb35 p0 p1 p2 p3 M18 hF
  refine z_iload cx d_X9_summer_21 4 rfl ?_
  refine z_iconst (v := 0) cx d_X9_summer_23 ki_0 ?_
  refine z_iconst (v := 3) cx d_X9_summer_24 ki_3 ?_
  obtain ⟨v21, M20, hc, hF⟩ := zb_inv hF
  refine z_callS cx (As := [.int p3, .int (0 : Int32), .int (3 : Int32)]) (rest := [.ref (ad 0)]) (c_X9_within l cx.2.2.2.1.1 M18 p3 (0 : Int32) (3 : Int32)  hc) cs_SunnyPans_255 ⟨rfl, rfl, Nat.le_of_ble_eq_true rfl, Nat.le_of_ble_eq_true rfl⟩ rfl rfl ⟨Nat.le_of_ble_eq_true rfl, Nat.le_of_ble_eq_true rfl⟩ (Nat.le_of_ble_eq_true rfl) d_X9_summer_25 ?_
  refine z_if_eq cx 35 d_X9_summer_28 (by decide) hF (fun hF => ?_) (fun hF => ?_)
  · exact hb35 p0 p1 p2 p3 M20 hF
  refine z_iconst (v := 1) cx d_X9_summer_31 ki_1 ?_
  refine z_goto cx 36 d_X9_summer_32 (by decide) ?_
  exact hb36 p0 p1 p2 p3 (1 : Int32) M20 hF
/-! SunnyPans.span -/
theorem d_X9_span_0 : decode cX9_span 0 = .ok (.aload_n 0, 1) := by decide +kernel
theorem d_X9_span_1 : decode cX9_span 1 = .ok (.iload 6, 2) := by decide +kernel
theorem d_X9_span_3 : decode cX9_span 3 = .ok (.iload 7, 2) := by decide +kernel
theorem d_X9_span_5 : decode cX9_span 5 = .ok (.invokevirtual 210, 3) := by decide +kernel
theorem d_X9_span_8 : decode cX9_span 8 = .ok (.aload_n 0, 1) := by decide +kernel
theorem d_X9_span_9 : decode cX9_span 9 = .ok (.iload_n 2, 1) := by decide +kernel
theorem d_X9_span_10 : decode cX9_span 10 = .ok (.iconst 1, 1) := by decide +kernel
theorem d_X9_span_11 : decode cX9_span 11 = .ok (.bipush 10, 2) := by decide +kernel
theorem d_X9_span_13 : decode cX9_span 13 = .ok (.invokestatic 255, 3) := by decide +kernel
theorem d_X9_span_16 : decode cX9_span 16 = .ok (.ifCond .eq 17, 3) := by decide +kernel
theorem d_X9_span_19 : decode cX9_span 19 = .ok (.iload_n 3, 1) := by decide +kernel
theorem d_X9_span_20 : decode cX9_span 20 = .ok (.iconst 1, 1) := by decide +kernel
theorem d_X9_span_21 : decode cX9_span 21 = .ok (.bipush 96, 2) := by decide +kernel
theorem d_X9_span_23 : decode cX9_span 23 = .ok (.invokestatic 255, 3) := by decide +kernel
theorem d_X9_span_26 : decode cX9_span 26 = .ok (.ifCond .eq 7, 3) := by decide +kernel
theorem d_X9_span_29 : decode cX9_span 29 = .ok (.iconst 1, 1) := by decide +kernel
theorem d_X9_span_30 : decode cX9_span 30 = .ok (.goto 4, 3) := by decide +kernel
theorem d_X9_span_33 : decode cX9_span 33 = .ok (.iconst 0, 1) := by decide +kernel
theorem d_X9_span_34 : decode cX9_span 34 = .ok (.invokevirtual 155, 3) := by decide +kernel
theorem d_X9_span_37 : decode cX9_span 37 = .ok (.aload_n 0, 1) := by decide +kernel
theorem d_X9_span_38 : decode cX9_span 38 = .ok (.iload 4, 2) := by decide +kernel
theorem d_X9_span_40 : decode cX9_span 40 = .ok (.iconst 0, 1) := by decide +kernel
theorem d_X9_span_41 : decode cX9_span 41 = .ok (.bipush 16, 2) := by decide +kernel
theorem d_X9_span_43 : decode cX9_span 43 = .ok (.invokestatic 255, 3) := by decide +kernel
theorem d_X9_span_46 : decode cX9_span 46 = .ok (.ifCond .eq 17, 3) := by decide +kernel
theorem d_X9_span_49 : decode cX9_span 49 = .ok (.iload 5, 2) := by decide +kernel
theorem d_X9_span_51 : decode cX9_span 51 = .ok (.iconst 0, 1) := by decide +kernel
theorem d_X9_span_52 : decode cX9_span 52 = .ok (.iconst 2, 1) := by decide +kernel
theorem d_X9_span_53 : decode cX9_span 53 = .ok (.invokestatic 255, 3) := by decide +kernel
theorem d_X9_span_56 : decode cX9_span 56 = .ok (.ifCond .eq 7, 3) := by decide +kernel
theorem d_X9_span_59 : decode cX9_span 59 = .ok (.iconst 1, 1) := by decide +kernel
theorem d_X9_span_60 : decode cX9_span 60 = .ok (.goto 4, 3) := by decide +kernel
theorem d_X9_span_63 : decode cX9_span 63 = .ok (.iconst 0, 1) := by decide +kernel
theorem d_X9_span_64 : decode cX9_span 64 = .ok (.invokevirtual 155, 3) := by decide +kernel
theorem d_X9_span_67 : decode cX9_span 67 = .ok (.aload_n 0, 1) := by decide +kernel
theorem d_X9_span_68 : decode cX9_span 68 = .ok (.getfield 51, 3) := by decide +kernel
theorem d_X9_span_71 : decode cX9_span 71 = .ok (.invokevirtual 259, 3) := by decide +kernel
theorem d_X9_span_74 : decode cX9_span 74 = .ok (.iconst 0, 1) := by decide +kernel
theorem d_X9_span_75 : decode cX9_span 75 = .ok (.istore 8, 2) := by decide +kernel
theorem d_X9_span_77 : decode cX9_span 77 = .ok (.iconst 0, 1) := by decide +kernel
theorem d_X9_span_78 : decode cX9_span 78 = .ok (.istore 9, 2) := by decide +kernel
theorem d_X9_span_80 : decode cX9_span 80 = .ok (.iload 9, 2) := by decide +kernel
theorem d_X9_span_82 : decode cX9_span 82 = .ok (.iload_n 2, 1) := by decide +kernel
theorem d_X9_span_83 : decode cX9_span 83 = .ok (.if_icmp .ge 96, 3) := by decide +kernel
theorem d_X9_span_86 : decode cX9_span 86 = .ok (.aload_n 0, 1) := by decide +kernel
theorem d_X9_span_87 : decode cX9_span 87 = .ok (.iload_n 1, 1) := by decide +kernel
theorem d_X9_span_88 : decode cX9_span 88 = .ok (.iload 9, 2) := by decide +kernel
theorem d_X9_span_90 : decode cX9_span 90 = .ok (.iadd, 1) := by decide +kernel
theorem d_X9_span_91 : decode cX9_span 91 = .ok (.iload_n 3, 1) := by decide +kernel
theorem d_X9_span_92 : decode cX9_span 92 = .ok (.iload 4, 2) := by decide +kernel
theorem d_X9_span_94 : decode cX9_span 94 = .ok (.invokevirtual 389, 3) := by decide +kernel
theorem d_X9_span_97 : decode cX9_span 97 = .ok (.iload 5, 2) := by decide +kernel
theorem d_X9_span_99 : decode cX9_span 99 = .ok (.ifCond .ne 25, 3) := by decide +kernel
theorem d_X9_span_102 : decode cX9_span 102 = .ok (.aload_n 0, 1) := by decide +kernel
theorem d_X9_span_103 : decode cX9_span 103 = .ok (.getfield 51, 3) := by decide +kernel
theorem d_X9_span_106 : decode cX9_span 106 = .ok (.iload 9, 2) := by decide +kernel
theorem d_X9_span_108 : decode cX9_span 108 = .ok (.aload_n 0, 1) := by decide +kernel
theorem d_X9_span_109 : decode cX9_span 109 = .ok (.getfield 37, 3) := by decide +kernel
theorem d_X9_span_112 : decode cX9_span 112 = .ok (.getfield 174, 3) := by decide +kernel
theorem d_X9_span_115 : decode cX9_span 115 = .ok (.invokestatic 177, 3) := by decide +kernel
theorem d_X9_span_118 : decode cX9_span 118 = .ok (.invokevirtual 279, 3) := by decide +kernel
theorem d_X9_span_121 : decode cX9_span 121 = .ok (.goto 22, 3) := by decide +kernel
theorem d_X9_span_124 : decode cX9_span 124 = .ok (.aload_n 0, 1) := by decide +kernel
theorem d_X9_span_125 : decode cX9_span 125 = .ok (.getfield 51, 3) := by decide +kernel
theorem d_X9_span_128 : decode cX9_span 128 = .ok (.iload 9, 2) := by decide +kernel
theorem d_X9_span_130 : decode cX9_span 130 = .ok (.aload_n 0, 1) := by decide +kernel
theorem d_X9_span_131 : decode cX9_span 131 = .ok (.getfield 37, 3) := by decide +kernel
theorem d_X9_span_134 : decode cX9_span 134 = .ok (.getfield 174, 3) := by decide +kernel
theorem d_X9_span_137 : decode cX9_span 137 = .ok (.invokestatic 177, 3) := by decide +kernel
theorem d_X9_span_140 : decode cX9_span 140 = .ok (.invokevirtual 260, 3) := by decide +kernel
theorem d_X9_span_143 : decode cX9_span 143 = .ok (.iload 8, 2) := by decide +kernel
theorem d_X9_span_145 : decode cX9_span 145 = .ok (.aload_n 0, 1) := by decide +kernel
theorem d_X9_span_146 : decode cX9_span 146 = .ok (.getfield 37, 3) := by decide +kernel
theorem d_X9_span_149 : decode cX9_span 149 = .ok (.invokevirtual 204, 3) := by decide +kernel
theorem d_X9_span_152 : decode cX9_span 152 = .ok (.iload 6, 2) := by decide +kernel
theorem d_X9_span_154 : decode cX9_span 154 = .ok (.iload 7, 2) := by decide +kernel
theorem d_X9_span_156 : decode cX9_span 156 = .ok (.invokestatic 213, 3) := by decide +kernel
theorem d_X9_span_159 : decode cX9_span 159 = .ok (.invokestatic 231, 3) := by decide +kernel
theorem d_X9_span_162 : decode cX9_span 162 = .ok (.ifCond .eq 7, 3) := by decide +kernel
theorem d_X9_span_165 : decode cX9_span 165 = .ok (.iconst 1, 1) := by decide +kernel
theorem d_X9_span_166 : decode cX9_span 166 = .ok (.goto 4, 3) := by decide +kernel
theorem d_X9_span_169 : decode cX9_span 169 = .ok (.iconst 0, 1) := by decide +kernel
theorem d_X9_span_170 : decode cX9_span 170 = .ok (.iadd, 1) := by decide +kernel
theorem d_X9_span_171 : decode cX9_span 171 = .ok (.istore 8, 2) := by decide +kernel
theorem d_X9_span_173 : decode cX9_span 173 = .ok (.iinc 9 1, 3) := by decide +kernel
theorem d_X9_span_176 : decode cX9_span 176 = .ok (.goto (-96), 3) := by decide +kernel
theorem d_X9_span_179 : decode cX9_span 179 = .ok (.iload 5, 2) := by decide +kernel
theorem d_X9_span_181 : decode cX9_span 181 = .ok (.iconst 2, 1) := by decide +kernel
theorem d_X9_span_182 : decode cX9_span 182 = .ok (.if_icmp .ne 8, 3) := by decide +kernel
theorem d_X9_span_185 : decode cX9_span 185 = .ok (.iload 8, 2) := by decide +kernel
theorem d_X9_span_187 : decode cX9_span 187 = .ok (.goto 10, 3) := by decide +kernel
theorem d_X9_span_190 : decode cX9_span 190 = .ok (.aload_n 0, 1) := by decide +kernel
theorem d_X9_span_191 : decode cX9_span 191 = .ok (.getfield 51, 3) := by decide +kernel
theorem d_X9_span_194 : decode cX9_span 194 = .ok (.getfield 323, 3) := by decide +kernel
theorem d_X9_span_197 : decode cX9_span 197 = .ok (.ireturn, 1) := by decide +kernel
noncomputable def F_X9_span_170 (p0 : Int32) (p1 : Int32) (p2 : Int32) (p3 : Int32) (p4 : Int32) (p5 : Int32) (p6 : Int32) (self80 : Int32 → Int32 → Int32 → Int32 → Int32 → Int32 → Int32 → Int32 → Int32 → zMem → Option (Nat × Int32 × zMem)) (b170_L1 : Int32) (b170_L2 : Int32) (b170_L3 : Int32) (b170_L4 : Int32) (b170_L5 : Int32) (b170_L6 : Int32) (b170_L7 : Int32) (b170_L9 : Int32) (b170_S0 : Int32) (b170_S1 : Int32) (M : zMem) : Option (Nat × Int32 × zMem) :=
  zl (b170_S0 + b170_S1) fun v1 =>
  self80 b170_L1 b170_L2 b170_L3 b170_L4 b170_L5 b170_L6 b170_L7 v1 (b170_L9 + 1) M
noncomputable def F_X9_span_143 (p0 : Int32) (p1 : Int32) (p2 : Int32) (p3 : Int32) (p4 : Int32) (p5 : Int32) (p6 : Int32) (self80 : Int32 → Int32 → Int32 → Int32 → Int32 → Int32 → Int32 → Int32 → Int32 → zMem → Option (Nat × Int32 × zMem)) (b143_L1 : Int32) (b143_L2 : Int32) (b143_L3 : Int32) (b143_L4 : Int32) (b143_L5 : Int32) (b143_L6 : Int32) (b143_L7 : Int32) (b143_L8 : Int32) (b143_L9 : Int32) (M : zMem) : Option (Nat × Int32 × zMem) :=
  zb (F_X4_dryPlaces M 99) fun v3 M2 =>
  zb (F_X9_placeOf M2 b143_L6 b143_L7) fun v5 M4 =>
  zb (F_X9_has M4 v3 v5) fun v7 M6 =>
  if v7 = 0 then
    F_X9_span_170 p0 p1 p2 p3 p4 p5 p6 self80 b143_L1 b143_L2 b143_L3 b143_L4 b143_L5 b143_L6 b143_L7 b143_L9 b143_L8 (0 : Int32) M6
  else
    F_X9_span_170 p0 p1 p2 p3 p4 p5 p6 self80 b143_L1 b143_L2 b143_L3 b143_L4 b143_L5 b143_L6 b143_L7 b143_L9 b143_L8 (1 : Int32) M6
noncomputable def F_X9_span_80 (p0 : Int32) (p1 : Int32) (p2 : Int32) (p3 : Int32) (p4 : Int32) (p5 : Int32) (p6 : Int32) (self80 : Int32 → Int32 → Int32 → Int32 → Int32 → Int32 → Int32 → Int32 → Int32 → zMem → Option (Nat × Int32 × zMem)) (b80_L1 : Int32) (b80_L2 : Int32) (b80_L3 : Int32) (b80_L4 : Int32) (b80_L5 : Int32) (b80_L6 : Int32) (b80_L7 : Int32) (b80_L8 : Int32) (b80_L9 : Int32) (M : zMem) : Option (Nat × Int32 × zMem) :=
  if b80_L2 ≤ b80_L9 then
    if b80_L5 = (2 : Int32) then
      some (0, b80_L8, M)
    else
      some (0, (M.1 172 1), M)
  else
    zbv (F_X9_runSummer M (b80_L1 + b80_L9) b80_L3 b80_L4) fun M8 =>
    if b80_L5 = 0 then
      zb (F_X9_sumOf M8 100) fun v13 M12 =>
      zbv (F_X0_offerLeast M12 172 b80_L9 v13) fun M14 =>
      F_X9_span_143 p0 p1 p2 p3 p4 p5 p6 self80 b80_L1 b80_L2 b80_L3 b80_L4 b80_L5 b80_L6 b80_L7 b80_L8 b80_L9 M14
    else
      zb (F_X9_sumOf M8 100) fun v10 M9 =>
      zbv (F_X0_offerMost M9 172 b80_L9 v10) fun M11 =>
      F_X9_span_143 p0 p1 p2 p3 p4 p5 p6 self80 b80_L1 b80_L2 b80_L3 b80_L4 b80_L5 b80_L6 b80_L7 b80_L8 b80_L9 M11
noncomputable def F_X9_span_64 (p0 : Int32) (p1 : Int32) (p2 : Int32) (p3 : Int32) (p4 : Int32) (p5 : Int32) (p6 : Int32) (b64_L1 : Int32) (b64_L2 : Int32) (b64_L3 : Int32) (b64_L4 : Int32) (b64_L5 : Int32) (b64_L6 : Int32) (b64_L7 : Int32) (b64_S1 : Int32) (M : zMem) : Option (Nat × Int32 × zMem) :=
  zbx (F_X9_need M b64_S1) (g := zxp) fun _ M15 =>
  zbv (F_X0_clear M15 172) fun M20 =>
  itF (fun _ _ _ _ _ _ _ _ _ _ => none) (F_X9_span_80 p0 p1 p2 p3 p4 p5 p6) zFuel b64_L1 b64_L2 b64_L3 b64_L4 b64_L5 b64_L6 b64_L7 (0 : Int32) (0 : Int32) M20
noncomputable def F_X9_span_63 (p0 : Int32) (p1 : Int32) (p2 : Int32) (p3 : Int32) (p4 : Int32) (p5 : Int32) (p6 : Int32) (b63_L1 : Int32) (b63_L2 : Int32) (b63_L3 : Int32) (b63_L4 : Int32) (b63_L5 : Int32) (b63_L6 : Int32) (b63_L7 : Int32) (M : zMem) : Option (Nat × Int32 × zMem) :=
  F_X9_span_64 p0 p1 p2 p3 p4 p5 p6 b63_L1 b63_L2 b63_L3 b63_L4 b63_L5 b63_L6 b63_L7 (0 : Int32) M
noncomputable def F_X9_span_34 (p0 : Int32) (p1 : Int32) (p2 : Int32) (p3 : Int32) (p4 : Int32) (p5 : Int32) (p6 : Int32) (b34_L1 : Int32) (b34_L2 : Int32) (b34_L3 : Int32) (b34_L4 : Int32) (b34_L5 : Int32) (b34_L6 : Int32) (b34_L7 : Int32) (b34_S1 : Int32) (M : zMem) : Option (Nat × Int32 × zMem) :=
  zbx (F_X9_need M b34_S1) (g := zxp) fun _ M21 =>
  zb (F_X9_within M21 b34_L4 (0 : Int32) (16 : Int32)) fun v27 M26 =>
  if v27 = 0 then
    F_X9_span_63 p0 p1 p2 p3 p4 p5 p6 b34_L1 b34_L2 b34_L3 b34_L4 b34_L5 b34_L6 b34_L7 M26
  else
    zb (F_X9_within M26 b34_L5 (0 : Int32) (2 : Int32)) fun v29 M28 =>
    if v29 = 0 then
      F_X9_span_63 p0 p1 p2 p3 p4 p5 p6 b34_L1 b34_L2 b34_L3 b34_L4 b34_L5 b34_L6 b34_L7 M28
    else
      F_X9_span_64 p0 p1 p2 p3 p4 p5 p6 b34_L1 b34_L2 b34_L3 b34_L4 b34_L5 b34_L6 b34_L7 (1 : Int32) M28
noncomputable def F_X9_span_33 (p0 : Int32) (p1 : Int32) (p2 : Int32) (p3 : Int32) (p4 : Int32) (p5 : Int32) (p6 : Int32) (b33_L1 : Int32) (b33_L2 : Int32) (b33_L3 : Int32) (b33_L4 : Int32) (b33_L5 : Int32) (b33_L6 : Int32) (b33_L7 : Int32) (M : zMem) : Option (Nat × Int32 × zMem) :=
  F_X9_span_34 p0 p1 p2 p3 p4 p5 p6 b33_L1 b33_L2 b33_L3 b33_L4 b33_L5 b33_L6 b33_L7 (0 : Int32) M
noncomputable def F_X9_span (M : zMem) (p0 : Int32) (p1 : Int32) (p2 : Int32) (p3 : Int32) (p4 : Int32) (p5 : Int32) (p6 : Int32) : Option (Nat × Int32 × zMem) :=
  zbx (F_X9_needPlace M p5 p6) (g := zxp) fun _ M30 =>
  zb (F_X9_within M30 p1 (1 : Int32) (10 : Int32)) fun v36 M35 =>
  if v36 = 0 then
    F_X9_span_33 p0 p1 p2 p3 p4 p5 p6 p0 p1 p2 p3 p4 p5 p6 M35
  else
    zb (F_X9_within M35 p2 (1 : Int32) (96 : Int32)) fun v38 M37 =>
    if v38 = 0 then
      F_X9_span_33 p0 p1 p2 p3 p4 p5 p6 p0 p1 p2 p3 p4 p5 p6 M37
    else
      F_X9_span_34 p0 p1 p2 p3 p4 p5 p6 p0 p1 p2 p3 p4 p5 p6 (1 : Int32) M37
def rm_X9_span : Room := { frames := 11, cells := 3, slots := 18, locals := 206 }
set_option maxHeartbeats 4000000 in
set_option maxRecDepth 100000 in
theorem c_X9_span (l : Launch) {G : zG} {ad : Nat → Nat} {n : Nat} (hA : zInj ad n) (M : zMem) (p0 : Int32) (p1 : Int32) (p2 : Int32) (p3 : Int32) (p4 : Int32) (p5 : Int32) (p6 : Int32) (hl : l.stackTraces = false) (hT : zT shX n 0 10) {k9 : Nat} {r9 : Int32} {M9 : zMem} (hF : F_X9_span M p0 p1 p2 p3 p4 p5 p6 = some (k9, r9, M9)) : zMX l yX9_span cX9_span 10 (some .int) rm_X9_span 3 18 G shX ad n M [.ref (ad 0), .int p0, .int p1, .int p2, .int p3, .int p4, .int p5, .int p6] k9 (some (.int r9)) M9 := by
  refine zM_ofX hA (by decide +kernel) (lv := [(0, .ref (ad 0)), (1, .int p0), (2, .int p1), (3, .int p2), (4, .int p3), (5, .int p4), (6, .int p5), (7, .int p6)]) (Nat.le_of_ble_eq_true rfl) rfl (fun p e s m args below meth c A cx hr ht => ?_)
  have hb170 : ∀ (self80 : Int32 → Int32 → Int32 → Int32 → Int32 → Int32 → Int32 → Int32 → Int32 → zMem → Option (Nat × Int32 × zMem)) (hs80 : ∀ (b80_L1 : Int32) (b80_L2 : Int32) (b80_L3 : Int32) (b80_L4 : Int32) (b80_L5 : Int32) (b80_L6 : Int32) (b80_L7 : Int32) (b80_L8 : Int32) (b80_L9 : Int32) (M : zMem), self80 b80_L1 b80_L2 b80_L3 b80_L4 b80_L5 b80_L6 b80_L7 b80_L8 b80_L9 M = some (k9, r9, M9) → zJ p l e rm_X9_span s m args below meth c G shX ad n A 10 (vx_MQ below (zQX G shX ad n M9 k9 (some (.int r9)) A) (zXC G shX ad n M9 k9 A) args s 3 18 A) 3 18 M 80 [(0, .ref (ad 0)), (1, .int b80_L1), (2, .int b80_L2), (3, .int b80_L3), (4, .int b80_L4), (5, .int b80_L5), (6, .int b80_L6), (7, .int b80_L7), (8, .int b80_L8), (9, .int b80_L9)] []), ∀ (b170_L1 : Int32) (b170_L2 : Int32) (b170_L3 : Int32) (b170_L4 : Int32) (b170_L5 : Int32) (b170_L6 : Int32) (b170_L7 : Int32) (b170_L9 : Int32) (b170_S0 : Int32) (b170_S1 : Int32) (M : zMem), F_X9_span_170 p0 p1 p2 p3 p4 p5 p6 self80 b170_L1 b170_L2 b170_L3 b170_L4 b170_L5 b170_L6 b170_L7 b170_L9 b170_S0 b170_S1 M = some (k9, r9, M9) → zJ p l e rm_X9_span s m args below meth c G shX ad n A 10 (vx_MQ below (zQX G shX ad n M9 k9 (some (.int r9)) A) (zXC G shX ad n M9 k9 A) args s 3 18 A) 3 18 M 170 [(0, .ref (ad 0)), (1, .int b170_L1), (2, .int b170_L2), (3, .int b170_L3), (4, .int b170_L4), (5, .int b170_L5), (6, .int b170_L6), (7, .int b170_L7), (9, .int b170_L9)] [.int b170_S1, .int b170_S0] := by
    intro self80 hs80 b170_L1 b170_L2 b170_L3 b170_L4 b170_L5 b170_L6 b170_L7 b170_L9 b170_S0 b170_S1 M hF
    unfold F_X9_span_170 at hF
    refine z_iadd cx d_X9_span_170 ?_
    refine z_nm hF (fun v1 hF => ?_)
    refine z_istore cx 8 [(8, .int v1), (0, .ref (ad 0)), (1, .int b170_L1), (2, .int b170_L2), (3, .int b170_L3), (4, .int b170_L4), (5, .int b170_L5), (6, .int b170_L6), (7, .int b170_L7), (9, .int b170_L9)] d_X9_span_171 (by decide) rfl ?_
    refine z_iinc cx 9 1 [(9, .int (b170_L9 + 1)), (8, .int v1), (0, .ref (ad 0)), (1, .int b170_L1), (2, .int b170_L2), (3, .int b170_L3), (4, .int b170_L4), (5, .int b170_L5), (6, .int b170_L6), (7, .int b170_L7)] d_X9_span_173 9 rfl ki_1 (by decide) rfl ?_
    refine z_goto cx 80 d_X9_span_176 (by decide) ?_
    exact z_lv [2, 3, 4, 5, 6, 7, 8, 9, 1, 0] _ rfl (hs80 b170_L1 b170_L2 b170_L3 b170_L4 b170_L5 b170_L6 b170_L7 v1 (b170_L9 + 1) M hF)
  have hb143 : ∀ (self80 : Int32 → Int32 → Int32 → Int32 → Int32 → Int32 → Int32 → Int32 → Int32 → zMem → Option (Nat × Int32 × zMem)) (hs80 : ∀ (b80_L1 : Int32) (b80_L2 : Int32) (b80_L3 : Int32) (b80_L4 : Int32) (b80_L5 : Int32) (b80_L6 : Int32) (b80_L7 : Int32) (b80_L8 : Int32) (b80_L9 : Int32) (M : zMem), self80 b80_L1 b80_L2 b80_L3 b80_L4 b80_L5 b80_L6 b80_L7 b80_L8 b80_L9 M = some (k9, r9, M9) → zJ p l e rm_X9_span s m args below meth c G shX ad n A 10 (vx_MQ below (zQX G shX ad n M9 k9 (some (.int r9)) A) (zXC G shX ad n M9 k9 A) args s 3 18 A) 3 18 M 80 [(0, .ref (ad 0)), (1, .int b80_L1), (2, .int b80_L2), (3, .int b80_L3), (4, .int b80_L4), (5, .int b80_L5), (6, .int b80_L6), (7, .int b80_L7), (8, .int b80_L8), (9, .int b80_L9)] []), ∀ (b143_L1 : Int32) (b143_L2 : Int32) (b143_L3 : Int32) (b143_L4 : Int32) (b143_L5 : Int32) (b143_L6 : Int32) (b143_L7 : Int32) (b143_L8 : Int32) (b143_L9 : Int32) (M : zMem), F_X9_span_143 p0 p1 p2 p3 p4 p5 p6 self80 b143_L1 b143_L2 b143_L3 b143_L4 b143_L5 b143_L6 b143_L7 b143_L8 b143_L9 M = some (k9, r9, M9) → zJ p l e rm_X9_span s m args below meth c G shX ad n A 10 (vx_MQ below (zQX G shX ad n M9 k9 (some (.int r9)) A) (zXC G shX ad n M9 k9 A) args s 3 18 A) 3 18 M 143 [(0, .ref (ad 0)), (1, .int b143_L1), (2, .int b143_L2), (3, .int b143_L3), (4, .int b143_L4), (5, .int b143_L5), (6, .int b143_L6), (7, .int b143_L7), (8, .int b143_L8), (9, .int b143_L9)] [] := by
    intro self80 hs80 b143_L1 b143_L2 b143_L3 b143_L4 b143_L5 b143_L6 b143_L7 b143_L8 b143_L9 M hF
    unfold F_X9_span_143 at hF
    refine z_iload cx d_X9_span_143 8 rfl ?_
    refine z_aload_n cx d_X9_span_145 0 rfl ?_
    refine z_getR cx hT fg_SunnyPans_37 99 rfl d_X9_span_146 ?_
    obtain ⟨v3, M2, hc, hF⟩ := zb_inv hF
    refine z_callV cx (As := []) (rest := [.int b143_L8]) (c_X4_dryPlaces l cx.2.2.2.1.1 M 99 (tfX_10_99 hT) hc) (tfX_10_99 hT) zo_5 cv_SunnyPans_204 ⟨rfl, rfl, Nat.le_of_ble_eq_true rfl, Nat.le_of_ble_eq_true rfl⟩ rfl rfl ⟨Nat.le_of_ble_eq_true rfl, Nat.le_of_ble_eq_true rfl⟩ (Nat.le_of_ble_eq_true rfl) d_X9_span_149 ?_
    refine z_iload cx d_X9_span_152 6 rfl ?_
    refine z_iload cx d_X9_span_154 7 rfl ?_
    obtain ⟨v5, M4, hc, hF⟩ := zb_inv hF
    refine z_callS cx (As := [.int b143_L6, .int b143_L7]) (rest := [.long v3, .int b143_L8]) (c_X9_placeOf l cx.2.2.2.1.1 M2 b143_L6 b143_L7  hc) cs_SunnyPans_213 ⟨rfl, rfl, Nat.le_of_ble_eq_true rfl, Nat.le_of_ble_eq_true rfl⟩ rfl rfl ⟨Nat.le_of_ble_eq_true rfl, Nat.le_of_ble_eq_true rfl⟩ (Nat.le_of_ble_eq_true rfl) d_X9_span_156 ?_
    obtain ⟨v7, M6, hc, hF⟩ := zb_inv hF
    refine z_callS cx (As := [.long v3, .int v5]) (rest := [.int b143_L8]) (c_X9_has l cx.2.2.2.1.1 M4 v3 v5  hc) cs_SunnyPans_231 ⟨rfl, rfl, Nat.le_of_ble_eq_true rfl, Nat.le_of_ble_eq_true rfl⟩ rfl rfl ⟨Nat.le_of_ble_eq_true rfl, Nat.le_of_ble_eq_true rfl⟩ (Nat.le_of_ble_eq_true rfl) d_X9_span_159 ?_
    refine z_if_eq cx 169 d_X9_span_162 (by decide) hF (fun hF => ?_) (fun hF => ?_)
    · refine z_iconst (v := 0) cx d_X9_span_169 ki_0 ?_
      exact z_lv [0, 1, 2, 3, 4, 5, 6, 7, 9] _ rfl (hb170 self80 hs80 b143_L1 b143_L2 b143_L3 b143_L4 b143_L5 b143_L6 b143_L7 b143_L9 b143_L8 (0 : Int32) M6 hF)
    refine z_iconst (v := 1) cx d_X9_span_165 ki_1 ?_
    refine z_goto cx 170 d_X9_span_166 (by decide) ?_
    exact z_lv [0, 1, 2, 3, 4, 5, 6, 7, 9] _ rfl (hb170 self80 hs80 b143_L1 b143_L2 b143_L3 b143_L4 b143_L5 b143_L6 b143_L7 b143_L9 b143_L8 (1 : Int32) M6 hF)
  have hL80 : ∀ (fuel : Nat), ∀ (b80_L1 : Int32) (b80_L2 : Int32) (b80_L3 : Int32) (b80_L4 : Int32) (b80_L5 : Int32) (b80_L6 : Int32) (b80_L7 : Int32) (b80_L8 : Int32) (b80_L9 : Int32) (M : zMem), itF (fun _ _ _ _ _ _ _ _ _ _ => none) (F_X9_span_80 p0 p1 p2 p3 p4 p5 p6) fuel b80_L1 b80_L2 b80_L3 b80_L4 b80_L5 b80_L6 b80_L7 b80_L8 b80_L9 M = some (k9, r9, M9) → zJ p l e rm_X9_span s m args below meth c G shX ad n A 10 (vx_MQ below (zQX G shX ad n M9 k9 (some (.int r9)) A) (zXC G shX ad n M9 k9 A) args s 3 18 A) 3 18 M 80 [(0, .ref (ad 0)), (1, .int b80_L1), (2, .int b80_L2), (3, .int b80_L3), (4, .int b80_L4), (5, .int b80_L5), (6, .int b80_L6), (7, .int b80_L7), (8, .int b80_L8), (9, .int b80_L9)] [] := by
    intro fuel
    induction fuel with
    | zero => intro b80_L1 b80_L2 b80_L3 b80_L4 b80_L5 b80_L6 b80_L7 b80_L8 b80_L9 M hF; cases hF
    | succ fuel hs80 =>
      intro b80_L1 b80_L2 b80_L3 b80_L4 b80_L5 b80_L6 b80_L7 b80_L8 b80_L9 M hF
      have hF : F_X9_span_80 p0 p1 p2 p3 p4 p5 p6 (itF (fun _ _ _ _ _ _ _ _ _ _ => none) (F_X9_span_80 p0 p1 p2 p3 p4 p5 p6) fuel) b80_L1 b80_L2 b80_L3 b80_L4 b80_L5 b80_L6 b80_L7 b80_L8 b80_L9 M = some (k9, r9, M9) := hF
      generalize itF (fun _ _ _ _ _ _ _ _ _ _ => none) (F_X9_span_80 p0 p1 p2 p3 p4 p5 p6) fuel = self80 at hs80 hF
      unfold F_X9_span_80 at hF
      refine z_iload cx d_X9_span_80 9 rfl ?_
      refine z_iload_n cx d_X9_span_82 2 rfl ?_
      refine z_icmp_ge cx 179 d_X9_span_83 (by decide) hF (fun hF => ?_) (fun hF => ?_)
      · refine z_iload cx d_X9_span_179 5 rfl ?_
        refine z_iconst (v := 2) cx d_X9_span_181 ki_2 ?_
        refine z_icmp_ne cx 190 d_X9_span_182 (by decide) hF (fun hF => ?_) (fun hF => ?_)
        · refine z_aload_n cx d_X9_span_190 0 rfl ?_
          refine z_getR cx hT fg_SunnyPans_51 172 rfl d_X9_span_191 ?_
          refine z_getI cx (tfX_10_172 hT) fg_SunnyPans_323 d_X9_span_194 ?_
          exact z_iretX cx hr rfl hF ⟨Nat.le_of_ble_eq_true rfl, Nat.le_of_ble_eq_true rfl⟩ d_X9_span_197
        refine z_iload cx d_X9_span_185 8 rfl ?_
        refine z_goto cx 197 d_X9_span_187 (by decide) ?_
        exact z_iretX cx hr rfl hF ⟨Nat.le_of_ble_eq_true rfl, Nat.le_of_ble_eq_true rfl⟩ d_X9_span_197
      refine z_aload_n cx d_X9_span_86 0 rfl ?_
      refine z_iload_n cx d_X9_span_87 1 rfl ?_
      refine z_iload cx d_X9_span_88 9 rfl ?_
      refine z_iadd cx d_X9_span_90 ?_
      refine z_iload_n cx d_X9_span_91 3 rfl ?_
      refine z_iload cx d_X9_span_92 4 rfl ?_
      obtain ⟨M8, hc, hF⟩ := zbv_inv hF
      refine z_callV cx (As := [.int (b80_L1 + b80_L9), .int b80_L3, .int b80_L4]) (rest := []) (c_X9_runSummer l cx.2.2.2.1.1 M (b80_L1 + b80_L9) b80_L3 b80_L4 hT hc) hT zo_10 cv_SunnyPans_389 ⟨rfl, rfl, Nat.le_of_ble_eq_true rfl, Nat.le_of_ble_eq_true rfl⟩ rfl rfl ⟨Nat.le_of_ble_eq_true rfl, Nat.le_of_ble_eq_true rfl⟩ (Nat.le_of_ble_eq_true rfl) d_X9_span_94 ?_
      refine z_iload cx d_X9_span_97 5 rfl ?_
      refine z_if_ne cx 124 d_X9_span_99 (by decide) hF (fun hF => ?_) (fun hF => ?_)
      · refine z_aload_n cx d_X9_span_124 0 rfl ?_
        refine z_getR cx hT fg_SunnyPans_51 172 rfl d_X9_span_125 ?_
        refine z_iload cx d_X9_span_128 9 rfl ?_
        refine z_aload_n cx d_X9_span_130 0 rfl ?_
        refine z_getR cx hT fg_SunnyPans_37 99 rfl d_X9_span_131 ?_
        refine z_getR cx (tfX_10_99 hT) fg_SunnyPans_174 100 rfl d_X9_span_134 ?_
        obtain ⟨v10, M9, hc, hF⟩ := zb_inv hF
        refine z_callS cx (As := [.ref (ad 100)]) (rest := [.int b80_L9, .ref (ad 172)]) (c_X9_sumOf l cx.2.2.2.1.1 M8 100 (tfX_5_1 (tfX_10_99 hT)) hc) cs_SunnyPans_177 ⟨rfl, rfl, Nat.le_of_ble_eq_true rfl, Nat.le_of_ble_eq_true rfl⟩ rfl rfl ⟨Nat.le_of_ble_eq_true rfl, Nat.le_of_ble_eq_true rfl⟩ (Nat.le_of_ble_eq_true rfl) d_X9_span_137 ?_
        obtain ⟨M11, hc, hF⟩ := zbv_inv hF
        refine z_callV cx (As := [.int b80_L9, .int v10]) (rest := []) (c_X0_offerMost l cx.2.2.2.1.1 M9 172 b80_L9 v10 (tfX_10_172 hT) hc) (tfX_10_172 hT) zo_1 cv_SunnyPans_260 ⟨rfl, rfl, Nat.le_of_ble_eq_true rfl, Nat.le_of_ble_eq_true rfl⟩ rfl rfl ⟨Nat.le_of_ble_eq_true rfl, Nat.le_of_ble_eq_true rfl⟩ (Nat.le_of_ble_eq_true rfl) d_X9_span_140 ?_
        exact hb143 self80 hs80 b80_L1 b80_L2 b80_L3 b80_L4 b80_L5 b80_L6 b80_L7 b80_L8 b80_L9 M11 hF
      refine z_aload_n cx d_X9_span_102 0 rfl ?_
      refine z_getR cx hT fg_SunnyPans_51 172 rfl d_X9_span_103 ?_
      refine z_iload cx d_X9_span_106 9 rfl ?_
      refine z_aload_n cx d_X9_span_108 0 rfl ?_
      refine z_getR cx hT fg_SunnyPans_37 99 rfl d_X9_span_109 ?_
      refine z_getR cx (tfX_10_99 hT) fg_SunnyPans_174 100 rfl d_X9_span_112 ?_
      obtain ⟨v13, M12, hc, hF⟩ := zb_inv hF
      refine z_callS cx (As := [.ref (ad 100)]) (rest := [.int b80_L9, .ref (ad 172)]) (c_X9_sumOf l cx.2.2.2.1.1 M8 100 (tfX_5_1 (tfX_10_99 hT)) hc) cs_SunnyPans_177 ⟨rfl, rfl, Nat.le_of_ble_eq_true rfl, Nat.le_of_ble_eq_true rfl⟩ rfl rfl ⟨Nat.le_of_ble_eq_true rfl, Nat.le_of_ble_eq_true rfl⟩ (Nat.le_of_ble_eq_true rfl) d_X9_span_115 ?_
      obtain ⟨M14, hc, hF⟩ := zbv_inv hF
      refine z_callV cx (As := [.int b80_L9, .int v13]) (rest := []) (c_X0_offerLeast l cx.2.2.2.1.1 M12 172 b80_L9 v13 (tfX_10_172 hT) hc) (tfX_10_172 hT) zo_1 cv_SunnyPans_279 ⟨rfl, rfl, Nat.le_of_ble_eq_true rfl, Nat.le_of_ble_eq_true rfl⟩ rfl rfl ⟨Nat.le_of_ble_eq_true rfl, Nat.le_of_ble_eq_true rfl⟩ (Nat.le_of_ble_eq_true rfl) d_X9_span_118 ?_
      refine z_goto cx 143 d_X9_span_121 (by decide) ?_
      exact hb143 self80 hs80 b80_L1 b80_L2 b80_L3 b80_L4 b80_L5 b80_L6 b80_L7 b80_L8 b80_L9 M14 hF
  have hb64 : ∀ (b64_L1 : Int32) (b64_L2 : Int32) (b64_L3 : Int32) (b64_L4 : Int32) (b64_L5 : Int32) (b64_L6 : Int32) (b64_L7 : Int32) (b64_S1 : Int32) (M : zMem), F_X9_span_64 p0 p1 p2 p3 p4 p5 p6 b64_L1 b64_L2 b64_L3 b64_L4 b64_L5 b64_L6 b64_L7 b64_S1 M = some (k9, r9, M9) → zJ p l e rm_X9_span s m args below meth c G shX ad n A 10 (vx_MQ below (zQX G shX ad n M9 k9 (some (.int r9)) A) (zXC G shX ad n M9 k9 A) args s 3 18 A) 2 12 M 64 [(0, .ref (ad 0)), (1, .int b64_L1), (2, .int b64_L2), (3, .int b64_L3), (4, .int b64_L4), (5, .int b64_L5), (6, .int b64_L6), (7, .int b64_L7)] [.int b64_S1, .ref (ad 0)] := by
    intro b64_L1 b64_L2 b64_L3 b64_L4 b64_L5 b64_L6 b64_L7 b64_S1 M hF
    unfold F_X9_span_64 at hF
    obtain ⟨k16, v17, M15, hc, hF, hX18⟩ := zbx_inv hF
    refine z_callVX cx ht (As := [.int b64_S1]) (rest := []) (c_X9_need l cx.2.2.2.1.1 M b64_S1 hl hT hc) (fun q => zxp_inv (hX18 q)) hT zo_10 cv_SunnyPans_155 ⟨rfl, rfl, Nat.le_of_ble_eq_true rfl, Nat.le_of_ble_eq_true rfl⟩ rfl rfl ⟨Nat.le_of_ble_eq_true rfl, Nat.le_of_ble_eq_true rfl⟩ ⟨Nat.le_of_ble_eq_true rfl, Nat.le_of_ble_eq_true rfl⟩ (Nat.le_of_ble_eq_true rfl) d_X9_span_64 (fun kq19 => ?_)
    have hF := hF kq19
    refine z_aload_n cx d_X9_span_67 0 rfl ?_
    refine z_getR cx hT fg_SunnyPans_51 172 rfl d_X9_span_68 ?_
    obtain ⟨M20, hc, hF⟩ := zbv_inv hF
    refine z_callV cx (As := []) (rest := []) (c_X0_clear l cx.2.2.2.1.1 M15 172 (tfX_10_172 hT) hc) (tfX_10_172 hT) zo_1 cv_SunnyPans_259 ⟨rfl, rfl, Nat.le_of_ble_eq_true rfl, Nat.le_of_ble_eq_true rfl⟩ rfl rfl ⟨Nat.le_of_ble_eq_true rfl, Nat.le_of_ble_eq_true rfl⟩ (Nat.le_of_ble_eq_true rfl) d_X9_span_71 ?_
    refine z_iconst (v := 0) cx d_X9_span_74 ki_0 ?_
    refine z_istore cx 8 [(8, .int (0 : Int32)), (0, .ref (ad 0)), (1, .int b64_L1), (2, .int b64_L2), (3, .int b64_L3), (4, .int b64_L4), (5, .int b64_L5), (6, .int b64_L6), (7, .int b64_L7)] d_X9_span_75 (by decide) rfl ?_
    refine z_iconst (v := 0) cx d_X9_span_77 ki_0 ?_
    refine z_istore cx 9 [(9, .int (0 : Int32)), (8, .int (0 : Int32)), (0, .ref (ad 0)), (1, .int b64_L1), (2, .int b64_L2), (3, .int b64_L3), (4, .int b64_L4), (5, .int b64_L5), (6, .int b64_L6), (7, .int b64_L7)] d_X9_span_78 (by decide) rfl ?_
    exact z_lv [2, 3, 4, 5, 6, 7, 8, 9, 1, 0] _ rfl (hL80 zFuel b64_L1 b64_L2 b64_L3 b64_L4 b64_L5 b64_L6 b64_L7 (0 : Int32) (0 : Int32) M20 hF)
  have hb63 : ∀ (b63_L1 : Int32) (b63_L2 : Int32) (b63_L3 : Int32) (b63_L4 : Int32) (b63_L5 : Int32) (b63_L6 : Int32) (b63_L7 : Int32) (M : zMem), F_X9_span_63 p0 p1 p2 p3 p4 p5 p6 b63_L1 b63_L2 b63_L3 b63_L4 b63_L5 b63_L6 b63_L7 M = some (k9, r9, M9) → zJ p l e rm_X9_span s m args below meth c G shX ad n A 10 (vx_MQ below (zQX G shX ad n M9 k9 (some (.int r9)) A) (zXC G shX ad n M9 k9 A) args s 3 18 A) 2 12 M 63 [(0, .ref (ad 0)), (1, .int b63_L1), (2, .int b63_L2), (3, .int b63_L3), (4, .int b63_L4), (5, .int b63_L5), (6, .int b63_L6), (7, .int b63_L7)] [.ref (ad 0)] := by
    intro b63_L1 b63_L2 b63_L3 b63_L4 b63_L5 b63_L6 b63_L7 M hF
    unfold F_X9_span_63 at hF
    refine z_iconst (v := 0) cx d_X9_span_63 ki_0 ?_
    exact hb64 b63_L1 b63_L2 b63_L3 b63_L4 b63_L5 b63_L6 b63_L7 (0 : Int32) M hF
  have hb34 : ∀ (b34_L1 : Int32) (b34_L2 : Int32) (b34_L3 : Int32) (b34_L4 : Int32) (b34_L5 : Int32) (b34_L6 : Int32) (b34_L7 : Int32) (b34_S1 : Int32) (M : zMem), F_X9_span_34 p0 p1 p2 p3 p4 p5 p6 b34_L1 b34_L2 b34_L3 b34_L4 b34_L5 b34_L6 b34_L7 b34_S1 M = some (k9, r9, M9) → zJ p l e rm_X9_span s m args below meth c G shX ad n A 10 (vx_MQ below (zQX G shX ad n M9 k9 (some (.int r9)) A) (zXC G shX ad n M9 k9 A) args s 3 18 A) 1 6 M 34 [(0, .ref (ad 0)), (1, .int b34_L1), (2, .int b34_L2), (3, .int b34_L3), (4, .int b34_L4), (5, .int b34_L5), (6, .int b34_L6), (7, .int b34_L7)] [.int b34_S1, .ref (ad 0)] := by
    intro b34_L1 b34_L2 b34_L3 b34_L4 b34_L5 b34_L6 b34_L7 b34_S1 M hF
    unfold F_X9_span_34 at hF
    obtain ⟨k22, v23, M21, hc, hF, hX24⟩ := zbx_inv hF
    refine z_callVX cx ht (As := [.int b34_S1]) (rest := []) (c_X9_need l cx.2.2.2.1.1 M b34_S1 hl hT hc) (fun q => zxp_inv (hX24 q)) hT zo_10 cv_SunnyPans_155 ⟨rfl, rfl, Nat.le_of_ble_eq_true rfl, Nat.le_of_ble_eq_true rfl⟩ rfl rfl ⟨Nat.le_of_ble_eq_true rfl, Nat.le_of_ble_eq_true rfl⟩ ⟨Nat.le_of_ble_eq_true rfl, Nat.le_of_ble_eq_true rfl⟩ (Nat.le_of_ble_eq_true rfl) d_X9_span_34 (fun kq25 => ?_)
    have hF := hF kq25
    refine z_aload_n cx d_X9_span_37 0 rfl ?_
    refine z_iload cx d_X9_span_38 4 rfl ?_
    refine z_iconst (v := 0) cx d_X9_span_40 ki_0 ?_
    refine z_bipush (v := 16) cx d_X9_span_41 kb_16 ?_
    obtain ⟨v27, M26, hc, hF⟩ := zb_inv hF
    refine z_callS cx (As := [.int b34_L4, .int (0 : Int32), .int (16 : Int32)]) (rest := [.ref (ad 0)]) (c_X9_within l cx.2.2.2.1.1 M21 b34_L4 (0 : Int32) (16 : Int32)  hc) cs_SunnyPans_255 ⟨rfl, rfl, Nat.le_of_ble_eq_true rfl, Nat.le_of_ble_eq_true rfl⟩ rfl rfl ⟨Nat.le_of_ble_eq_true rfl, Nat.le_of_ble_eq_true rfl⟩ (Nat.le_of_ble_eq_true rfl) d_X9_span_43 ?_
    refine z_if_eq cx 63 d_X9_span_46 (by decide) hF (fun hF => ?_) (fun hF => ?_)
    · exact hb63 b34_L1 b34_L2 b34_L3 b34_L4 b34_L5 b34_L6 b34_L7 M26 hF
    refine z_iload cx d_X9_span_49 5 rfl ?_
    refine z_iconst (v := 0) cx d_X9_span_51 ki_0 ?_
    refine z_iconst (v := 2) cx d_X9_span_52 ki_2 ?_
    obtain ⟨v29, M28, hc, hF⟩ := zb_inv hF
    refine z_callS cx (As := [.int b34_L5, .int (0 : Int32), .int (2 : Int32)]) (rest := [.ref (ad 0)]) (c_X9_within l cx.2.2.2.1.1 M26 b34_L5 (0 : Int32) (2 : Int32)  hc) cs_SunnyPans_255 ⟨rfl, rfl, Nat.le_of_ble_eq_true rfl, Nat.le_of_ble_eq_true rfl⟩ rfl rfl ⟨Nat.le_of_ble_eq_true rfl, Nat.le_of_ble_eq_true rfl⟩ (Nat.le_of_ble_eq_true rfl) d_X9_span_53 ?_
    refine z_if_eq cx 63 d_X9_span_56 (by decide) hF (fun hF => ?_) (fun hF => ?_)
    · exact hb63 b34_L1 b34_L2 b34_L3 b34_L4 b34_L5 b34_L6 b34_L7 M28 hF
    refine z_iconst (v := 1) cx d_X9_span_59 ki_1 ?_
    refine z_goto cx 64 d_X9_span_60 (by decide) ?_
    exact hb64 b34_L1 b34_L2 b34_L3 b34_L4 b34_L5 b34_L6 b34_L7 (1 : Int32) M28 hF
  have hb33 : ∀ (b33_L1 : Int32) (b33_L2 : Int32) (b33_L3 : Int32) (b33_L4 : Int32) (b33_L5 : Int32) (b33_L6 : Int32) (b33_L7 : Int32) (M : zMem), F_X9_span_33 p0 p1 p2 p3 p4 p5 p6 b33_L1 b33_L2 b33_L3 b33_L4 b33_L5 b33_L6 b33_L7 M = some (k9, r9, M9) → zJ p l e rm_X9_span s m args below meth c G shX ad n A 10 (vx_MQ below (zQX G shX ad n M9 k9 (some (.int r9)) A) (zXC G shX ad n M9 k9 A) args s 3 18 A) 1 6 M 33 [(0, .ref (ad 0)), (1, .int b33_L1), (2, .int b33_L2), (3, .int b33_L3), (4, .int b33_L4), (5, .int b33_L5), (6, .int b33_L6), (7, .int b33_L7)] [.ref (ad 0)] := by
    intro b33_L1 b33_L2 b33_L3 b33_L4 b33_L5 b33_L6 b33_L7 M hF
    unfold F_X9_span_33 at hF
    refine z_iconst (v := 0) cx d_X9_span_33 ki_0 ?_
    exact hb34 b33_L1 b33_L2 b33_L3 b33_L4 b33_L5 b33_L6 b33_L7 (0 : Int32) M hF
  unfold F_X9_span at hF
  refine z_aload_n cx d_X9_span_0 0 rfl ?_
  refine z_iload cx d_X9_span_1 6 rfl ?_
  refine z_iload cx d_X9_span_3 7 rfl ?_
  obtain ⟨k31, v32, M30, hc, hF, hX33⟩ := zbx_inv hF
  refine z_callVX cx ht (As := [.int p5, .int p6]) (rest := []) (c_X9_needPlace l cx.2.2.2.1.1 M p5 p6 hl hT hc) (fun q => zxp_inv (hX33 q)) hT zo_10 cv_SunnyPans_210 ⟨rfl, rfl, Nat.le_of_ble_eq_true rfl, Nat.le_of_ble_eq_true rfl⟩ rfl rfl ⟨Nat.le_of_ble_eq_true rfl, Nat.le_of_ble_eq_true rfl⟩ ⟨Nat.le_of_ble_eq_true rfl, Nat.le_of_ble_eq_true rfl⟩ (Nat.le_of_ble_eq_true rfl) d_X9_span_5 (fun kq34 => ?_)
  have hF := hF kq34
  refine z_aload_n cx d_X9_span_8 0 rfl ?_
  refine z_iload_n cx d_X9_span_9 2 rfl ?_
  refine z_iconst (v := 1) cx d_X9_span_10 ki_1 ?_
  refine z_bipush (v := 10) cx d_X9_span_11 kb_10 ?_
  obtain ⟨v36, M35, hc, hF⟩ := zb_inv hF
  refine z_callS cx (As := [.int p1, .int (1 : Int32), .int (10 : Int32)]) (rest := [.ref (ad 0)]) (c_X9_within l cx.2.2.2.1.1 M30 p1 (1 : Int32) (10 : Int32)  hc) cs_SunnyPans_255 ⟨rfl, rfl, Nat.le_of_ble_eq_true rfl, Nat.le_of_ble_eq_true rfl⟩ rfl rfl ⟨Nat.le_of_ble_eq_true rfl, Nat.le_of_ble_eq_true rfl⟩ (Nat.le_of_ble_eq_true rfl) d_X9_span_13 ?_
  refine z_if_eq cx 33 d_X9_span_16 (by decide) hF (fun hF => ?_) (fun hF => ?_)
  · exact hb33 p0 p1 p2 p3 p4 p5 p6 M35 hF
  refine z_iload_n cx d_X9_span_19 3 rfl ?_
  refine z_iconst (v := 1) cx d_X9_span_20 ki_1 ?_
  refine z_bipush (v := 96) cx d_X9_span_21 kb_96 ?_
  obtain ⟨v38, M37, hc, hF⟩ := zb_inv hF
  refine z_callS cx (As := [.int p2, .int (1 : Int32), .int (96 : Int32)]) (rest := [.ref (ad 0)]) (c_X9_within l cx.2.2.2.1.1 M35 p2 (1 : Int32) (96 : Int32)  hc) cs_SunnyPans_255 ⟨rfl, rfl, Nat.le_of_ble_eq_true rfl, Nat.le_of_ble_eq_true rfl⟩ rfl rfl ⟨Nat.le_of_ble_eq_true rfl, Nat.le_of_ble_eq_true rfl⟩ (Nat.le_of_ble_eq_true rfl) d_X9_span_23 ?_
  refine z_if_eq cx 33 d_X9_span_26 (by decide) hF (fun hF => ?_) (fun hF => ?_)
  · exact hb33 p0 p1 p2 p3 p4 p5 p6 M37 hF
  refine z_iconst (v := 1) cx d_X9_span_29 ki_1 ?_
  refine z_goto cx 34 d_X9_span_30 (by decide) ?_
  exact hb34 p0 p1 p2 p3 p4 p5 p6 (1 : Int32) M37 hF
/-! SunnyPans.image -/
theorem tfX_10_90 {n k : Nat} (h : zT shX n k 10) : zT shX n (k + 90) 20 := zT_off h (shX_f (by decide) (by decide +kernel)) (by decide) (by decide)
set_option maxRecDepth 100000 in
theorem wd_411 : Cond.fieldLink "SunnyPans" 23 "SunnyPans" "images" "[LSunnyPans$Stand;" ∈ tbG := tw2 71 rfl rfl
theorem fg_SunnyPans_23 : zGetR "SunnyPans" 23 9 10 2 90 := ⟨RX9, TX9, 19, rfl, by decide, uw_9, wd_411, fun _ _ _ _ _ _ => ⟨_, rfl, rfl⟩⟩
theorem za_20 : zArrR 20 3 3 110 87 := ⟨by decide, fun _ _ _ _ _ _ => rfl⟩
theorem teX_20 {n : Nat} {i : Int32} (h : zT shX n 0 10) (hi : vp_in i 3) : zT shX n (90 + (110 + 87 * i.toNatClampNeg)) 8 := by
  have hlt : i.toNatClampNeg < 3 := Nat.not_le.mp fun q => hi (Or.inr q)
  have h2 : 0 + 461 ≤ n := h.2.2
  have e : ∀ j, j < 3 → shX (90 + (110 + 87 * j)) = 8 := by decide +kernel
  exact ⟨e _ hlt, by omega, by show _ + 87 ≤ n; omega⟩
set_option maxRecDepth 100000 in
theorem wd_501 : Cond.code yX7_copyFrom cX7_copyFrom 5 none ∈ tbG := tw2 161 rfl rfl
set_option maxRecDepth 100000 in
theorem wd_498 : Cond.methodLink "SunnyPans" 407 yX7_copyFrom ∈ tbG := tw2 158 rfl rfl
set_option maxRecDepth 100000 in
theorem wd_499 : Cond.instanceMethod yX7_copyFrom ∈ tbG := tw2 159 rfl rfl
set_option maxRecDepth 100000 in
theorem wd_500 : Cond.selects "SunnyPans$Stand" yX7_copyFrom yX7_copyFrom ∈ tbG := tw2 160 rfl rfl
theorem cv_SunnyPans_407 : zCV "SunnyPans" 407 "SunnyPans$Stand" yX7_copyFrom cX7_copyFrom 5 none 1 := zCV_of wd_498 wd_499 wd_500 wd_103 wd_501 (by decide +kernel)
theorem d_X9_image_0 : decode cX9_image 0 = .ok (.aload_n 0, 1) := by decide +kernel
theorem d_X9_image_1 : decode cX9_image 1 = .ok (.getfield 121, 3) := by decide +kernel
theorem d_X9_image_4 : decode cX9_image 4 = .ok (.iconst 3, 1) := by decide +kernel
theorem d_X9_image_5 : decode cX9_image 5 = .ok (.if_icmp .lt 5, 3) := by decide +kernel
theorem d_X9_image_8 : decode cX9_image 8 = .ok (.iconst (-1), 1) := by decide +kernel
theorem d_X9_image_9 : decode cX9_image 9 = .ok (.ireturn, 1) := by decide +kernel
theorem d_X9_image_10 : decode cX9_image 10 = .ok (.aload_n 0, 1) := by decide +kernel
theorem d_X9_image_11 : decode cX9_image 11 = .ok (.getfield 23, 3) := by decide +kernel
theorem d_X9_image_14 : decode cX9_image 14 = .ok (.aload_n 0, 1) := by decide +kernel
theorem d_X9_image_15 : decode cX9_image 15 = .ok (.getfield 121, 3) := by decide +kernel
theorem d_X9_image_18 : decode cX9_image 18 = .ok (.aaload, 1) := by decide +kernel
theorem d_X9_image_19 : decode cX9_image 19 = .ok (.astore_n 1, 1) := by decide +kernel
theorem d_X9_image_20 : decode cX9_image 20 = .ok (.aload_n 1, 1) := by decide +kernel
theorem d_X9_image_21 : decode cX9_image 21 = .ok (.ifnonnull 5, 3) := by decide +kernel
theorem d_X9_image_24 : decode cX9_image 24 = .ok (.iconst (-1), 1) := by decide +kernel
theorem d_X9_image_25 : decode cX9_image 25 = .ok (.ireturn, 1) := by decide +kernel
theorem d_X9_image_26 : decode cX9_image 26 = .ok (.aload_n 1, 1) := by decide +kernel
theorem d_X9_image_27 : decode cX9_image 27 = .ok (.aload_n 0, 1) := by decide +kernel
theorem d_X9_image_28 : decode cX9_image 28 = .ok (.getfield 19, 3) := by decide +kernel
theorem d_X9_image_31 : decode cX9_image 31 = .ok (.invokevirtual 407, 3) := by decide +kernel
theorem d_X9_image_34 : decode cX9_image 34 = .ok (.aload_n 0, 1) := by decide +kernel
theorem d_X9_image_35 : decode cX9_image 35 = .ok (.dup, 1) := by decide +kernel
theorem d_X9_image_36 : decode cX9_image 36 = .ok (.getfield 121, 3) := by decide +kernel
theorem d_X9_image_39 : decode cX9_image 39 = .ok (.iconst 1, 1) := by decide +kernel
theorem d_X9_image_40 : decode cX9_image 40 = .ok (.iadd, 1) := by decide +kernel
theorem d_X9_image_41 : decode cX9_image 41 = .ok (.putfield 121, 3) := by decide +kernel
theorem d_X9_image_44 : decode cX9_image 44 = .ok (.aload_n 0, 1) := by decide +kernel
theorem d_X9_image_45 : decode cX9_image 45 = .ok (.getfield 121, 3) := by decide +kernel
theorem d_X9_image_48 : decode cX9_image 48 = .ok (.ireturn, 1) := by decide +kernel
noncomputable def F_X9_image (M : zMem)  : Option (Int32 × zMem) :=
  if (M.1 0 14) < (3 : Int32) then
    gin (M.1 0 14) 3 <|
    zbv (F_X7_copyFrom M (90 + (110 + 87 * (M.1 0 14).toNatClampNeg)) 3) fun M2 =>
    zl (zI M2 0 14 ((M2.1 0 14) + (1 : Int32))) fun M3 =>
    some ((M3.1 0 14), M3)
  else
    some ((-1 : Int32), M)
def rm_X9_image : Room := { frames := 4, cells := 0, slots := 0, locals := 125 }
set_option maxHeartbeats 4000000 in
set_option maxRecDepth 100000 in
theorem c_X9_image (l : Launch) {G : zG} {ad : Nat → Nat} {n : Nat} (hA : zInj ad n) (M : zMem)  (hT : zT shX n 0 10) {r9 : Int32} {M9 : zMem} (hF : F_X9_image M  = some (r9, M9)) : zM l yX9_image cX9_image 2 (some .int) rm_X9_image G shX ad n M [.ref (ad 0)] (some (.int r9)) M9 := by
  refine zM_of hA (by decide +kernel) (lv := [(0, .ref (ad 0))]) (Nat.le_of_ble_eq_true rfl) rfl (fun p e s m args below meth c A cx hr => ?_)
  unfold F_X9_image at hF
  refine z_aload_n cx d_X9_image_0 0 rfl ?_
  refine z_getI cx hT fg_SunnyPans_121 d_X9_image_1 ?_
  refine z_iconst (v := 3) cx d_X9_image_4 ki_3 ?_
  refine z_icmp_lt cx 10 d_X9_image_5 (by decide) hF (fun hF => ?_) (fun hF => ?_)
  · refine z_aload_n cx d_X9_image_10 0 rfl ?_
    refine z_getR cx hT fg_SunnyPans_23 90 rfl d_X9_image_11 ?_
    refine z_aload_n cx d_X9_image_14 0 rfl ?_
    refine z_getI cx hT fg_SunnyPans_121 d_X9_image_15 ?_
    obtain ⟨hi1, hF⟩ := gin_inv hF
    refine z_aald cx (tfX_10_90 hT) za_20 hi1 (90 + (110 + 87 * (M.1 0 14).toNatClampNeg)) rfl d_X9_image_18 ?_
    refine z_astore_n cx 1 [(1, .ref (ad (90 + (110 + 87 * (M.1 0 14).toNatClampNeg)))), (0, .ref (ad 0))] d_X9_image_19 rfl (by decide) rfl ?_
    refine z_aload_n cx d_X9_image_20 0 rfl ?_
    refine z_ifnonnull cx 26 d_X9_image_21 (by decide) ?_
    refine z_aload_n cx d_X9_image_26 0 rfl ?_
    refine z_aload_n cx d_X9_image_27 1 rfl ?_
    refine z_getR cx hT fg_SunnyPans_19 3 rfl d_X9_image_28 ?_
    obtain ⟨M2, hc, hF⟩ := zbv_inv hF
    refine z_callV cx (As := [.ref (ad 3)]) (rest := []) (c_X7_copyFrom l cx.2.2.2.1.1 M (90 + (110 + 87 * (M.1 0 14).toNatClampNeg)) 3 (teX_20 hT hi1) (tfX_10_3 hT) hc) (teX_20 hT hi1) zo_8 cv_SunnyPans_407 ⟨rfl, rfl, Nat.le_of_ble_eq_true rfl, Nat.le_of_ble_eq_true rfl⟩ rfl rfl ⟨Nat.zero_le _, Nat.zero_le _⟩ (Nat.le_of_ble_eq_true rfl) d_X9_image_31 ?_
    refine z_aload_n cx d_X9_image_34 1 rfl ?_
    refine z_dup cx d_X9_image_35 rfl ?_
    refine z_getI cx hT fg_SunnyPans_121 d_X9_image_36 ?_
    refine z_iconst (v := 1) cx d_X9_image_39 ki_1 ?_
    refine z_iadd cx d_X9_image_40 ?_
    refine z_putI cx hT fp_SunnyPans_121 d_X9_image_41 ?_
    refine z_nmM hF (fun M3 hF => ?_)
    refine z_aload_n cx d_X9_image_44 1 rfl ?_
    refine z_getI cx hT fg_SunnyPans_121 d_X9_image_45 ?_
    exact z_iret cx hr rfl hF d_X9_image_48
  refine z_iconst (v := -1) cx d_X9_image_8 ki_m1 ?_
  exact z_iret cx hr rfl hF d_X9_image_9
/-! SunnyPans.restore -/
theorem d_X9_restore_0 : decode cX9_restore 0 = .ok (.aload_n 0, 1) := by decide +kernel
theorem d_X9_restore_1 : decode cX9_restore 1 = .ok (.getfield 121, 3) := by decide +kernel
theorem d_X9_restore_4 : decode cX9_restore 4 = .ok (.ifCond .gt 5, 3) := by decide +kernel
theorem d_X9_restore_7 : decode cX9_restore 7 = .ok (.iconst (-1), 1) := by decide +kernel
theorem d_X9_restore_8 : decode cX9_restore 8 = .ok (.ireturn, 1) := by decide +kernel
theorem d_X9_restore_9 : decode cX9_restore 9 = .ok (.aload_n 0, 1) := by decide +kernel
theorem d_X9_restore_10 : decode cX9_restore 10 = .ok (.getfield 23, 3) := by decide +kernel
theorem d_X9_restore_13 : decode cX9_restore 13 = .ok (.aload_n 0, 1) := by decide +kernel
theorem d_X9_restore_14 : decode cX9_restore 14 = .ok (.getfield 121, 3) := by decide +kernel
theorem d_X9_restore_17 : decode cX9_restore 17 = .ok (.iconst 1, 1) := by decide +kernel
theorem d_X9_restore_18 : decode cX9_restore 18 = .ok (.isub, 1) := by decide +kernel
theorem d_X9_restore_19 : decode cX9_restore 19 = .ok (.aaload, 1) := by decide +kernel
theorem d_X9_restore_20 : decode cX9_restore 20 = .ok (.astore_n 1, 1) := by decide +kernel
theorem d_X9_restore_21 : decode cX9_restore 21 = .ok (.aload_n 1, 1) := by decide +kernel
theorem d_X9_restore_22 : decode cX9_restore 22 = .ok (.ifnonnull 5, 3) := by decide +kernel
theorem d_X9_restore_25 : decode cX9_restore 25 = .ok (.iconst (-1), 1) := by decide +kernel
theorem d_X9_restore_26 : decode cX9_restore 26 = .ok (.ireturn, 1) := by decide +kernel
theorem d_X9_restore_27 : decode cX9_restore 27 = .ok (.aload_n 0, 1) := by decide +kernel
theorem d_X9_restore_28 : decode cX9_restore 28 = .ok (.getfield 19, 3) := by decide +kernel
theorem d_X9_restore_31 : decode cX9_restore 31 = .ok (.aload_n 1, 1) := by decide +kernel
theorem d_X9_restore_32 : decode cX9_restore 32 = .ok (.invokevirtual 407, 3) := by decide +kernel
theorem d_X9_restore_35 : decode cX9_restore 35 = .ok (.aload_n 0, 1) := by decide +kernel
theorem d_X9_restore_36 : decode cX9_restore 36 = .ok (.dup, 1) := by decide +kernel
theorem d_X9_restore_37 : decode cX9_restore 37 = .ok (.getfield 121, 3) := by decide +kernel
theorem d_X9_restore_40 : decode cX9_restore 40 = .ok (.iconst 1, 1) := by decide +kernel
theorem d_X9_restore_41 : decode cX9_restore 41 = .ok (.isub, 1) := by decide +kernel
theorem d_X9_restore_42 : decode cX9_restore 42 = .ok (.putfield 121, 3) := by decide +kernel
theorem d_X9_restore_45 : decode cX9_restore 45 = .ok (.aload_n 0, 1) := by decide +kernel
theorem d_X9_restore_46 : decode cX9_restore 46 = .ok (.iconst 0, 1) := by decide +kernel
theorem d_X9_restore_47 : decode cX9_restore 47 = .ok (.putfield 124, 3) := by decide +kernel
theorem d_X9_restore_50 : decode cX9_restore 50 = .ok (.aload_n 0, 1) := by decide +kernel
theorem d_X9_restore_51 : decode cX9_restore 51 = .ok (.getfield 121, 3) := by decide +kernel
theorem d_X9_restore_54 : decode cX9_restore 54 = .ok (.ireturn, 1) := by decide +kernel
noncomputable def F_X9_restore (M : zMem)  : Option (Int32 × zMem) :=
  if 0 < (M.1 0 14) then
    gin ((M.1 0 14) - (1 : Int32)) 3 <|
    zbv (F_X7_copyFrom M 3 (90 + (110 + 87 * ((M.1 0 14) - (1 : Int32)).toNatClampNeg))) fun M2 =>
    zl (zI M2 0 14 ((M2.1 0 14) - (1 : Int32))) fun M3 =>
    zl (zI M3 0 15 (0 : Int32)) fun M4 =>
    some ((M4.1 0 14), M4)
  else
    some ((-1 : Int32), M)
def rm_X9_restore : Room := { frames := 4, cells := 0, slots := 0, locals := 125 }
set_option maxHeartbeats 4000000 in
set_option maxRecDepth 100000 in
theorem c_X9_restore (l : Launch) {G : zG} {ad : Nat → Nat} {n : Nat} (hA : zInj ad n) (M : zMem)  (hT : zT shX n 0 10) {r9 : Int32} {M9 : zMem} (hF : F_X9_restore M  = some (r9, M9)) : zM l yX9_restore cX9_restore 2 (some .int) rm_X9_restore G shX ad n M [.ref (ad 0)] (some (.int r9)) M9 := by
  refine zM_of hA (by decide +kernel) (lv := [(0, .ref (ad 0))]) (Nat.le_of_ble_eq_true rfl) rfl (fun p e s m args below meth c A cx hr => ?_)
  unfold F_X9_restore at hF
  refine z_aload_n cx d_X9_restore_0 0 rfl ?_
  refine z_getI cx hT fg_SunnyPans_121 d_X9_restore_1 ?_
  refine z_if_gt cx 9 d_X9_restore_4 (by decide) hF (fun hF => ?_) (fun hF => ?_)
  · refine z_aload_n cx d_X9_restore_9 0 rfl ?_
    refine z_getR cx hT fg_SunnyPans_23 90 rfl d_X9_restore_10 ?_
    refine z_aload_n cx d_X9_restore_13 0 rfl ?_
    refine z_getI cx hT fg_SunnyPans_121 d_X9_restore_14 ?_
    refine z_iconst (v := 1) cx d_X9_restore_17 ki_1 ?_
    refine z_isub cx d_X9_restore_18 ?_
    obtain ⟨hi1, hF⟩ := gin_inv hF
    refine z_aald cx (tfX_10_90 hT) za_20 hi1 (90 + (110 + 87 * ((M.1 0 14) - (1 : Int32)).toNatClampNeg)) rfl d_X9_restore_19 ?_
    refine z_astore_n cx 1 [(1, .ref (ad (90 + (110 + 87 * ((M.1 0 14) - (1 : Int32)).toNatClampNeg)))), (0, .ref (ad 0))] d_X9_restore_20 rfl (by decide) rfl ?_
    refine z_aload_n cx d_X9_restore_21 0 rfl ?_
    refine z_ifnonnull cx 27 d_X9_restore_22 (by decide) ?_
    refine z_aload_n cx d_X9_restore_27 1 rfl ?_
    refine z_getR cx hT fg_SunnyPans_19 3 rfl d_X9_restore_28 ?_
    refine z_aload_n cx d_X9_restore_31 0 rfl ?_
    obtain ⟨M2, hc, hF⟩ := zbv_inv hF
    refine z_callV cx (As := [.ref (ad (90 + (110 + 87 * ((M.1 0 14) - (1 : Int32)).toNatClampNeg)))]) (rest := []) (c_X7_copyFrom l cx.2.2.2.1.1 M 3 (90 + (110 + 87 * ((M.1 0 14) - (1 : Int32)).toNatClampNeg)) (tfX_10_3 hT) (teX_20 hT hi1) hc) (tfX_10_3 hT) zo_8 cv_SunnyPans_407 ⟨rfl, rfl, Nat.le_of_ble_eq_true rfl, Nat.le_of_ble_eq_true rfl⟩ rfl rfl ⟨Nat.zero_le _, Nat.zero_le _⟩ (Nat.le_of_ble_eq_true rfl) d_X9_restore_32 ?_
    refine z_aload_n cx d_X9_restore_35 1 rfl ?_
    refine z_dup cx d_X9_restore_36 rfl ?_
    refine z_getI cx hT fg_SunnyPans_121 d_X9_restore_37 ?_
    refine z_iconst (v := 1) cx d_X9_restore_40 ki_1 ?_
    refine z_isub cx d_X9_restore_41 ?_
    refine z_putI cx hT fp_SunnyPans_121 d_X9_restore_42 ?_
    refine z_nmM hF (fun M3 hF => ?_)
    refine z_aload_n cx d_X9_restore_45 1 rfl ?_
    refine z_iconst (v := 0) cx d_X9_restore_46 ki_0 ?_
    refine z_putI cx hT fp_SunnyPans_124 d_X9_restore_47 ?_
    refine z_nmM hF (fun M4 hF => ?_)
    refine z_aload_n cx d_X9_restore_50 1 rfl ?_
    refine z_getI cx hT fg_SunnyPans_121 d_X9_restore_51 ?_
    exact z_iret cx hr rfl hF d_X9_restore_54
  refine z_iconst (v := -1) cx d_X9_restore_7 ki_m1 ?_
  exact z_iret cx hr rfl hF d_X9_restore_8
/-! SunnyPans.status -/
theorem d_X9_status_0 : decode cX9_status 0 = .ok (.iload_n 1, 1) := by decide +kernel
theorem d_X9_status_1 : decode cX9_status 1 = .ok (.ifCond .ne 8, 3) := by decide +kernel
theorem d_X9_status_4 : decode cX9_status 4 = .ok (.aload_n 0, 1) := by decide +kernel
theorem d_X9_status_5 : decode cX9_status 5 = .ok (.getfield 410, 3) := by decide +kernel
theorem d_X9_status_8 : decode cX9_status 8 = .ok (.ireturn, 1) := by decide +kernel
theorem d_X9_status_9 : decode cX9_status 9 = .ok (.iload_n 1, 1) := by decide +kernel
theorem d_X9_status_10 : decode cX9_status 10 = .ok (.iconst 1, 1) := by decide +kernel
theorem d_X9_status_11 : decode cX9_status 11 = .ok (.if_icmp .ne 10, 3) := by decide +kernel
theorem d_X9_status_14 : decode cX9_status 14 = .ok (.aload_n 0, 1) := by decide +kernel
theorem d_X9_status_15 : decode cX9_status 15 = .ok (.getfield 413, 3) := by decide +kernel
theorem d_X9_status_18 : decode cX9_status 18 = .ok (.goto 4, 3) := by decide +kernel
theorem d_X9_status_21 : decode cX9_status 21 = .ok (.iconst (-1), 1) := by decide +kernel
theorem d_X9_status_22 : decode cX9_status 22 = .ok (.ireturn, 1) := by decide +kernel
noncomputable def F_X9_status (M : zMem) (p0 : Int32) : Option (Int32 × zMem) :=
  if p0 = 0 then
    some ((M.1 0 16), M)
  else
    if p0 = (1 : Int32) then
      some ((M.1 0 17), M)
    else
      some ((-1 : Int32), M)
def rm_X9_status : Room := { frames := 2, cells := 0, slots := 0, locals := 80 }
set_option maxHeartbeats 4000000 in
set_option maxRecDepth 100000 in
theorem c_X9_status (l : Launch) {G : zG} {ad : Nat → Nat} {n : Nat} (hA : zInj ad n) (M : zMem) (p0 : Int32) (hT : zT shX n 0 10) {r9 : Int32} {M9 : zMem} (hF : F_X9_status M p0 = some (r9, M9)) : zM l yX9_status cX9_status 2 (some .int) rm_X9_status G shX ad n M [.ref (ad 0), .int p0] (some (.int r9)) M9 := by
  refine zM_of hA (by decide +kernel) (lv := [(0, .ref (ad 0)), (1, .int p0)]) (Nat.le_of_ble_eq_true rfl) rfl (fun p e s m args below meth c A cx hr => ?_)
  unfold F_X9_status at hF
  refine z_iload_n cx d_X9_status_0 1 rfl ?_
  refine z_if_ne cx 9 d_X9_status_1 (by decide) hF (fun hF => ?_) (fun hF => ?_)
  · refine z_iload_n cx d_X9_status_9 1 rfl ?_
    refine z_iconst (v := 1) cx d_X9_status_10 ki_1 ?_
    refine z_icmp_ne cx 21 d_X9_status_11 (by decide) hF (fun hF => ?_) (fun hF => ?_)
    · refine z_iconst (v := -1) cx d_X9_status_21 ki_m1 ?_
      exact z_iret cx hr rfl hF d_X9_status_22
    refine z_aload_n cx d_X9_status_14 0 rfl ?_
    refine z_getI cx hT fg_SunnyPans_413 d_X9_status_15 ?_
    refine z_goto cx 22 d_X9_status_18 (by decide) ?_
    exact z_iret cx hr rfl hF d_X9_status_22
  refine z_aload_n cx d_X9_status_4 0 rfl ?_
  refine z_getI cx hT fg_SunnyPans_410 d_X9_status_5 ?_
  exact z_iret cx hr rfl hF d_X9_status_8
/-! SunnyPans.count -/
theorem d_X9_count_0 : decode cX9_count 0 = .ok (.iload_n 1, 1) := by decide +kernel
theorem d_X9_count_1 : decode cX9_count 1 = .ok (.tableswitch 48 0 2 #[27, 32, 40], 27) := by decide +kernel
theorem d_X9_count_28 : decode cX9_count 28 = .ok (.aload_n 0, 1) := by decide +kernel
theorem d_X9_count_29 : decode cX9_count 29 = .ok (.getfield 121, 3) := by decide +kernel
theorem d_X9_count_32 : decode cX9_count 32 = .ok (.ireturn, 1) := by decide +kernel
theorem d_X9_count_33 : decode cX9_count 33 = .ok (.aload_n 0, 1) := by decide +kernel
theorem d_X9_count_34 : decode cX9_count 34 = .ok (.getfield 10, 3) := by decide +kernel
theorem d_X9_count_37 : decode cX9_count 37 = .ok (.getfield 89, 3) := by decide +kernel
theorem d_X9_count_40 : decode cX9_count 40 = .ok (.ireturn, 1) := by decide +kernel
theorem d_X9_count_41 : decode cX9_count 41 = .ok (.aload_n 0, 1) := by decide +kernel
theorem d_X9_count_42 : decode cX9_count 42 = .ok (.getfield 19, 3) := by decide +kernel
theorem d_X9_count_45 : decode cX9_count 45 = .ok (.getfield 131, 3) := by decide +kernel
theorem d_X9_count_48 : decode cX9_count 48 = .ok (.ireturn, 1) := by decide +kernel
theorem d_X9_count_49 : decode cX9_count 49 = .ok (.iconst (-1), 1) := by decide +kernel
theorem d_X9_count_50 : decode cX9_count 50 = .ok (.ireturn, 1) := by decide +kernel
noncomputable def F_X9_count_41 (p0 : Int32) (M : zMem) : Option (Int32 × zMem) :=
  some ((M.1 3 1), M)
noncomputable def F_X9_count_33 (p0 : Int32) (M : zMem) : Option (Int32 × zMem) :=
  some ((M.1 1 1), M)
noncomputable def F_X9_count_28 (p0 : Int32) (M : zMem) : Option (Int32 × zMem) :=
  some ((M.1 0 14), M)
noncomputable def F_X9_count (M : zMem) (p0 : Int32) : Option (Int32 × zMem) :=
  if p0 = 0 then
    F_X9_count_28 p0 M
  else
  if p0 = 1 then
    F_X9_count_33 p0 M
  else
  if p0 = 2 then
    F_X9_count_41 p0 M
  else
  some ((-1 : Int32), M)
def rm_X9_count : Room := { frames := 2, cells := 0, slots := 0, locals := 80 }
set_option maxHeartbeats 4000000 in
set_option maxRecDepth 100000 in
theorem c_X9_count (l : Launch) {G : zG} {ad : Nat → Nat} {n : Nat} (hA : zInj ad n) (M : zMem) (p0 : Int32) (hT : zT shX n 0 10) {r9 : Int32} {M9 : zMem} (hF : F_X9_count M p0 = some (r9, M9)) : zM l yX9_count cX9_count 2 (some .int) rm_X9_count G shX ad n M [.ref (ad 0), .int p0] (some (.int r9)) M9 := by
  refine zM_of hA (by decide +kernel) (lv := [(0, .ref (ad 0)), (1, .int p0)]) (Nat.le_of_ble_eq_true rfl) rfl (fun p e s m args below meth c A cx hr => ?_)
  have hb41 : ∀ (M : zMem), F_X9_count_41 p0 M = some (r9, M9) → zJ p l e rm_X9_count s m args below meth c G shX ad n A 2 (MQ below (zQ G shX ad n M9 (some (.int r9)) A) args s 0 0 A) 0 0 M 41 [(0, .ref (ad 0))] [] := by
    intro M hF
    unfold F_X9_count_41 at hF
    refine z_aload_n cx d_X9_count_41 0 rfl ?_
    refine z_getR cx hT fg_SunnyPans_19 3 rfl d_X9_count_42 ?_
    refine z_getI cx (tfX_10_3 hT) fg_SunnyPans_131 d_X9_count_45 ?_
    exact z_iret cx hr rfl hF d_X9_count_48
  have hb33 : ∀ (M : zMem), F_X9_count_33 p0 M = some (r9, M9) → zJ p l e rm_X9_count s m args below meth c G shX ad n A 2 (MQ below (zQ G shX ad n M9 (some (.int r9)) A) args s 0 0 A) 0 0 M 33 [(0, .ref (ad 0))] [] := by
    intro M hF
    unfold F_X9_count_33 at hF
    refine z_aload_n cx d_X9_count_33 0 rfl ?_
    refine z_getR cx hT fg_SunnyPans_10 1 rfl d_X9_count_34 ?_
    refine z_getI cx (tfX_10_1 hT) fg_SunnyPans_89 d_X9_count_37 ?_
    exact z_iret cx hr rfl hF d_X9_count_40
  have hb28 : ∀ (M : zMem), F_X9_count_28 p0 M = some (r9, M9) → zJ p l e rm_X9_count s m args below meth c G shX ad n A 2 (MQ below (zQ G shX ad n M9 (some (.int r9)) A) args s 0 0 A) 0 0 M 28 [(0, .ref (ad 0))] [] := by
    intro M hF
    unfold F_X9_count_28 at hF
    refine z_aload_n cx d_X9_count_28 0 rfl ?_
    refine z_getI cx hT fg_SunnyPans_121 d_X9_count_29 ?_
    exact z_iret cx hr rfl hF d_X9_count_32
  unfold F_X9_count at hF
  refine z_iload_n cx d_X9_count_0 1 rfl ?_
  by_cases q0 : p0 = 0
  · rw [if_pos q0] at hF
    refine z_tabIn cx 28 d_X9_count_1 (by rw [q0]; decide +kernel) (by rw [q0]; decide +kernel) (by rw [q0]; rfl) (by decide) ?_
    exact z_lv [0] _ rfl (hb28 M hF)
  rw [if_neg q0] at hF
  by_cases q1 : p0 = 1
  · rw [if_pos q1] at hF
    refine z_tabIn cx 33 d_X9_count_1 (by rw [q1]; decide +kernel) (by rw [q1]; decide +kernel) (by rw [q1]; rfl) (by decide) ?_
    exact z_lv [0] _ rfl (hb33 M hF)
  rw [if_neg q1] at hF
  by_cases q2 : p0 = 2
  · rw [if_pos q2] at hF
    refine z_tabIn cx 41 d_X9_count_1 (by rw [q2]; decide +kernel) (by rw [q2]; decide +kernel) (by rw [q2]; rfl) (by decide) ?_
    exact z_lv [0] _ rfl (hb41 M hF)
  rw [if_neg q2] at hF
  refine z_tabOut cx 49 d_X9_count_1 (by have w0 := lv_neT q0 (a := 0) (by decide +kernel); have w1 := lv_neT q1 (a := 1) (by decide +kernel); have w2 := lv_neT q2 (a := 2) (by decide +kernel); omega) (by decide) ?_
  refine z_iconst (v := -1) cx d_X9_count_49 ki_m1 ?_
  exact z_iret cx hr rfl hF d_X9_count_50
/-! SunnyPansModel.tellsNothing -/
theorem tfM_11_3 {n k : Nat} (h : zT shM n k 11) : zT shM n (k + 3) 28 := zT_off h (shM_f (by decide) (by decide +kernel)) (by decide) (by decide)
theorem tfM_11_5 {n k : Nat} (h : zT shM n k 11) : zT shM n (k + 5) 29 := zT_off h (shM_f (by decide) (by decide +kernel)) (by decide) (by decide)
theorem ks_192 : (Int16.ofInt (192)).toInt32 = (192 : Int32) := by decide +kernel
set_option maxRecDepth 100000 in
theorem wd_1408 : Cond.fieldLink "SunnyPansModel" 26 "SunnyPansModel" "readPlaces" "[I" ∈ tbG := tw6 108 rfl rfl
theorem uw_10 : ∀ w ∈ u_ws RX10 TX10 40, w ∈ tbG := zUW _ [1435, 1437, 1439, 1441, 1443, 1445, 1447, 1449, 1451, 1453, 1455, 1457, 1459, 1461, 1463, 1465, 1467, 1469, 1471, 1473, 1475, 1477, 1479, 1481, 1483, 1485, 1487, 1489, 1491, 1493, 1495, 1497, 1499, 1501, 1503, 1505, 1507, 1509, 1511, 1513] (by decide +kernel) (by decide +kernel)
theorem fg_SunnyPansModel_26 : zGetR "SunnyPansModel" 26 10 11 13 5 := ⟨RX10, TX10, 40, rfl, by decide, uw_10, wd_1408, fun _ _ _ _ _ _ => ⟨_, rfl, rfl⟩⟩
theorem za_29 : zArrI 29 192 := fun _ _ _ _ _ _ => rfl
set_option maxRecDepth 100000 in
theorem wd_1406 : Cond.fieldLink "SunnyPansModel" 20 "SunnyPansModel" "readTold" "[I" ∈ tbG := tw6 106 rfl rfl
theorem fg_SunnyPansModel_20 : zGetR "SunnyPansModel" 20 10 11 11 3 := ⟨RX10, TX10, 40, rfl, by decide, uw_10, wd_1406, fun _ _ _ _ _ _ => ⟨_, rfl, rfl⟩⟩
theorem za_28 : zArrI 28 3 := fun _ _ _ _ _ _ => rfl
theorem d_X10_tellsNothing_0 : decode cX10_tellsNothing 0 = .ok (.aload_n 0, 1) := by decide +kernel
theorem d_X10_tellsNothing_1 : decode cX10_tellsNothing 1 = .ok (.getfield 20, 3) := by decide +kernel
theorem d_X10_tellsNothing_4 : decode cX10_tellsNothing 4 = .ok (.iconst 0, 1) := by decide +kernel
theorem d_X10_tellsNothing_5 : decode cX10_tellsNothing 5 = .ok (.iconst 4, 1) := by decide +kernel
theorem d_X10_tellsNothing_6 : decode cX10_tellsNothing 6 = .ok (.iastore, 1) := by decide +kernel
theorem d_X10_tellsNothing_7 : decode cX10_tellsNothing 7 = .ok (.aload_n 0, 1) := by decide +kernel
theorem d_X10_tellsNothing_8 : decode cX10_tellsNothing 8 = .ok (.getfield 20, 3) := by decide +kernel
theorem d_X10_tellsNothing_11 : decode cX10_tellsNothing 11 = .ok (.iconst 1, 1) := by decide +kernel
theorem d_X10_tellsNothing_12 : decode cX10_tellsNothing 12 = .ok (.iconst 4, 1) := by decide +kernel
theorem d_X10_tellsNothing_13 : decode cX10_tellsNothing 13 = .ok (.iastore, 1) := by decide +kernel
theorem d_X10_tellsNothing_14 : decode cX10_tellsNothing 14 = .ok (.aload_n 0, 1) := by decide +kernel
theorem d_X10_tellsNothing_15 : decode cX10_tellsNothing 15 = .ok (.getfield 20, 3) := by decide +kernel
theorem d_X10_tellsNothing_18 : decode cX10_tellsNothing 18 = .ok (.iconst 2, 1) := by decide +kernel
theorem d_X10_tellsNothing_19 : decode cX10_tellsNothing 19 = .ok (.iconst 0, 1) := by decide +kernel
theorem d_X10_tellsNothing_20 : decode cX10_tellsNothing 20 = .ok (.iastore, 1) := by decide +kernel
theorem d_X10_tellsNothing_21 : decode cX10_tellsNothing 21 = .ok (.iconst 0, 1) := by decide +kernel
theorem d_X10_tellsNothing_22 : decode cX10_tellsNothing 22 = .ok (.istore_n 1, 1) := by decide +kernel
theorem d_X10_tellsNothing_23 : decode cX10_tellsNothing 23 = .ok (.iload_n 1, 1) := by decide +kernel
theorem d_X10_tellsNothing_24 : decode cX10_tellsNothing 24 = .ok (.sipush 192, 3) := by decide +kernel
theorem d_X10_tellsNothing_27 : decode cX10_tellsNothing 27 = .ok (.if_icmp .ge 16, 3) := by decide +kernel
theorem d_X10_tellsNothing_30 : decode cX10_tellsNothing 30 = .ok (.aload_n 0, 1) := by decide +kernel
theorem d_X10_tellsNothing_31 : decode cX10_tellsNothing 31 = .ok (.getfield 26, 3) := by decide +kernel
theorem d_X10_tellsNothing_34 : decode cX10_tellsNothing 34 = .ok (.iload_n 1, 1) := by decide +kernel
theorem d_X10_tellsNothing_35 : decode cX10_tellsNothing 35 = .ok (.iconst 0, 1) := by decide +kernel
theorem d_X10_tellsNothing_36 : decode cX10_tellsNothing 36 = .ok (.iastore, 1) := by decide +kernel
theorem d_X10_tellsNothing_37 : decode cX10_tellsNothing 37 = .ok (.iinc 1 1, 3) := by decide +kernel
theorem d_X10_tellsNothing_40 : decode cX10_tellsNothing 40 = .ok (.goto (-17), 3) := by decide +kernel
theorem d_X10_tellsNothing_43 : decode cX10_tellsNothing 43 = .ok (.return_, 1) := by decide +kernel
noncomputable def F_X10_tellsNothing_23 (self23 : Int32 → zMem → Option (zMem)) (b23_L1 : Int32) (M : zMem) : Option (zMem) :=
  if (192 : Int32) ≤ b23_L1 then
    some M
  else
    gin b23_L1 192 <|
    zl (zI M 5 b23_L1.toNatClampNeg (0 : Int32)) fun M2 =>
    self23 (b23_L1 + 1) M2
noncomputable def F_X10_tellsNothing (M : zMem)  : Option (zMem) :=
  zl (zI M 3 0 (4 : Int32)) fun M3 =>
  zl (zI M3 3 1 (4 : Int32)) fun M4 =>
  zl (zI M4 3 2 (0 : Int32)) fun M5 =>
  itF (fun _ _ => none) (F_X10_tellsNothing_23) zFuel (0 : Int32) M5
def rm_X10_tellsNothing : Room := { frames := 2, cells := 0, slots := 0, locals := 80 }
set_option maxHeartbeats 4000000 in
set_option maxRecDepth 100000 in
theorem c_X10_tellsNothing (l : Launch) {G : zG} {ad : Nat → Nat} {n : Nat} (hA : zInj ad n) (M : zMem)  (hT : zT shM n 0 11) {M9 : zMem} (hF : F_X10_tellsNothing M  = some M9) : zM l yX10_tellsNothing cX10_tellsNothing 2 none rm_X10_tellsNothing G shM ad n M [.ref (ad 0)] none M9 := by
  refine zM_of hA (by decide +kernel) (lv := [(0, .ref (ad 0))]) (Nat.le_of_ble_eq_true rfl) rfl (fun p e s m args below meth c A cx hr => ?_)
  have hL23 : ∀ (fuel : Nat), ∀ (b23_L1 : Int32) (M : zMem), itF (fun _ _ => none) (F_X10_tellsNothing_23) fuel b23_L1 M = some M9 → zJ p l e rm_X10_tellsNothing s m args below meth c G shM ad n A 2 (MQ below (zQ G shM ad n M9 none A) args s 0 0 A) 0 0 M 23 [(0, .ref (ad 0)), (1, .int b23_L1)] [] := by
    intro fuel
    induction fuel with
    | zero => intro b23_L1 M hF; cases hF
    | succ fuel hs23 =>
      intro b23_L1 M hF
      have hF : F_X10_tellsNothing_23 (itF (fun _ _ => none) (F_X10_tellsNothing_23) fuel) b23_L1 M = some M9 := hF
      generalize itF (fun _ _ => none) (F_X10_tellsNothing_23) fuel = self23 at hs23 hF
      unfold F_X10_tellsNothing_23 at hF
      refine z_iload_n cx d_X10_tellsNothing_23 1 rfl ?_
      refine z_sipush (v := 192) cx d_X10_tellsNothing_24 ks_192 ?_
      refine z_icmp_ge cx 43 d_X10_tellsNothing_27 (by decide) hF (fun hF => ?_) (fun hF => ?_)
      · exact z_vret cx hr hF d_X10_tellsNothing_43
      refine z_aload_n cx d_X10_tellsNothing_30 0 rfl ?_
      refine z_getR cx hT fg_SunnyPansModel_26 5 rfl d_X10_tellsNothing_31 ?_
      refine z_iload_n cx d_X10_tellsNothing_34 1 rfl ?_
      refine z_iconst (v := 0) cx d_X10_tellsNothing_35 ki_0 ?_
      obtain ⟨hi1, hF⟩ := gin_inv hF
      refine z_iast cx (tfM_11_5 hT) za_29 hi1 b23_L1.toNatClampNeg rfl d_X10_tellsNothing_36 ?_
      refine z_nmM hF (fun M2 hF => ?_)
      refine z_iinc cx 1 1 [(1, .int (b23_L1 + 1)), (0, .ref (ad 0))] d_X10_tellsNothing_37 1 rfl ki_1 (by decide) rfl ?_
      refine z_goto cx 23 d_X10_tellsNothing_40 (by decide) ?_
      exact z_lv [1, 0] _ rfl (hs23 (b23_L1 + 1) M2 hF)
  unfold F_X10_tellsNothing at hF
  refine z_aload_n cx d_X10_tellsNothing_0 0 rfl ?_
  refine z_getR cx hT fg_SunnyPansModel_20 3 rfl d_X10_tellsNothing_1 ?_
  refine z_iconst (v := 0) cx d_X10_tellsNothing_4 ki_0 ?_
  refine z_iconst (v := 4) cx d_X10_tellsNothing_5 ki_4 ?_
  refine z_iast cx (tfM_11_3 hT) za_28 (zvp (by decide +kernel)) 0 rfl d_X10_tellsNothing_6 ?_
  refine z_nmM hF (fun M3 hF => ?_)
  refine z_aload_n cx d_X10_tellsNothing_7 0 rfl ?_
  refine z_getR cx hT fg_SunnyPansModel_20 3 rfl d_X10_tellsNothing_8 ?_
  refine z_iconst (v := 1) cx d_X10_tellsNothing_11 ki_1 ?_
  refine z_iconst (v := 4) cx d_X10_tellsNothing_12 ki_4 ?_
  refine z_iast cx (tfM_11_3 hT) za_28 (zvp (by decide +kernel)) 1 rfl d_X10_tellsNothing_13 ?_
  refine z_nmM hF (fun M4 hF => ?_)
  refine z_aload_n cx d_X10_tellsNothing_14 0 rfl ?_
  refine z_getR cx hT fg_SunnyPansModel_20 3 rfl d_X10_tellsNothing_15 ?_
  refine z_iconst (v := 2) cx d_X10_tellsNothing_18 ki_2 ?_
  refine z_iconst (v := 0) cx d_X10_tellsNothing_19 ki_0 ?_
  refine z_iast cx (tfM_11_3 hT) za_28 (zvp (by decide +kernel)) 2 rfl d_X10_tellsNothing_20 ?_
  refine z_nmM hF (fun M5 hF => ?_)
  refine z_iconst (v := 0) cx d_X10_tellsNothing_21 ki_0 ?_
  refine z_istore_n cx 1 [(1, .int (0 : Int32)), (0, .ref (ad 0))] d_X10_tellsNothing_22 rfl (by decide) rfl ?_
  exact z_lv [1, 0] _ rfl (hL23 zFuel (0 : Int32) M5 hF)
/-! SunnyPansModel.lays -/
theorem za_27 : zArrI 27 2 := fun _ _ _ _ _ _ => rfl
theorem d_X10_lays_0 : decode cX10_lays 0 = .ok (.iconst 0, 1) := by decide +kernel
theorem d_X10_lays_1 : decode cX10_lays 1 = .ok (.istore_n 3, 1) := by decide +kernel
theorem d_X10_lays_2 : decode cX10_lays 2 = .ok (.iload_n 3, 1) := by decide +kernel
theorem d_X10_lays_3 : decode cX10_lays 3 = .ok (.iload_n 2, 1) := by decide +kernel
theorem d_X10_lays_4 : decode cX10_lays 4 = .ok (.if_icmp .ge 39, 3) := by decide +kernel
theorem d_X10_lays_7 : decode cX10_lays 7 = .ok (.iconst 0, 1) := by decide +kernel
theorem d_X10_lays_8 : decode cX10_lays 8 = .ok (.istore 4, 2) := by decide +kernel
theorem d_X10_lays_10 : decode cX10_lays 10 = .ok (.iload 4, 2) := by decide +kernel
theorem d_X10_lays_12 : decode cX10_lays 12 = .ok (.aload_n 1, 1) := by decide +kernel
theorem d_X10_lays_13 : decode cX10_lays 13 = .ok (.iload_n 3, 1) := by decide +kernel
theorem d_X10_lays_14 : decode cX10_lays 14 = .ok (.aaload, 1) := by decide +kernel
theorem d_X10_lays_15 : decode cX10_lays 15 = .ok (.arraylength, 1) := by decide +kernel
theorem d_X10_lays_16 : decode cX10_lays 16 = .ok (.if_icmp .ge 21, 3) := by decide +kernel
theorem d_X10_lays_19 : decode cX10_lays 19 = .ok (.aload_n 1, 1) := by decide +kernel
theorem d_X10_lays_20 : decode cX10_lays 20 = .ok (.iload_n 3, 1) := by decide +kernel
theorem d_X10_lays_21 : decode cX10_lays 21 = .ok (.aaload, 1) := by decide +kernel
theorem d_X10_lays_22 : decode cX10_lays 22 = .ok (.iload 4, 2) := by decide +kernel
theorem d_X10_lays_24 : decode cX10_lays 24 = .ok (.aload_n 0, 1) := by decide +kernel
theorem d_X10_lays_25 : decode cX10_lays 25 = .ok (.iload_n 3, 1) := by decide +kernel
theorem d_X10_lays_26 : decode cX10_lays 26 = .ok (.aaload, 1) := by decide +kernel
theorem d_X10_lays_27 : decode cX10_lays 27 = .ok (.iload 4, 2) := by decide +kernel
theorem d_X10_lays_29 : decode cX10_lays 29 = .ok (.iaload, 1) := by decide +kernel
theorem d_X10_lays_30 : decode cX10_lays 30 = .ok (.iastore, 1) := by decide +kernel
theorem d_X10_lays_31 : decode cX10_lays 31 = .ok (.iinc 4 1, 3) := by decide +kernel
theorem d_X10_lays_34 : decode cX10_lays 34 = .ok (.goto (-24), 3) := by decide +kernel
theorem d_X10_lays_37 : decode cX10_lays 37 = .ok (.iinc 3 1, 3) := by decide +kernel
theorem d_X10_lays_40 : decode cX10_lays 40 = .ok (.goto (-38), 3) := by decide +kernel
theorem d_X10_lays_43 : decode cX10_lays 43 = .ok (.return_, 1) := by decide +kernel
noncomputable def F_X10_lays_10 (p0 : Nat) (len_p0 : Nat) (p1 : Nat) (len_p1 : Nat) (p2 : Int32) (self2 : Int32 → Int32 → zMem → Option (zMem)) (self10 : Int32 → Int32 → Int32 → zMem → Option (zMem)) (b10_L2 : Int32) (b10_L3 : Int32) (b10_L4 : Int32) (M : zMem) : Option (zMem) :=
  gin b10_L3 len_p1 <|
  if (nI 2) ≤ b10_L4 then
    self2 b10_L2 (b10_L3 + 1) M
  else
    gin b10_L3 len_p0 <|
    gin b10_L4 2 <|
    zl (zI M (p1 + (1 + 1 * b10_L3.toNatClampNeg)) b10_L4.toNatClampNeg (M.1 (p0 + (1 + 1 * b10_L3.toNatClampNeg)) b10_L4.toNatClampNeg)) fun M4 =>
    self10 b10_L2 b10_L3 (b10_L4 + 1) M4
noncomputable def F_X10_lays_2 (p0 : Nat) (len_p0 : Nat) (p1 : Nat) (len_p1 : Nat) (p2 : Int32) (self2 : Int32 → Int32 → zMem → Option (zMem)) (b2_L2 : Int32) (b2_L3 : Int32) (M : zMem) : Option (zMem) :=
  if b2_L2 ≤ b2_L3 then
    some M
  else
    itF (fun _ _ _ _ => none) (F_X10_lays_10 p0 len_p0 p1 len_p1 p2 self2) zFuel b2_L2 b2_L3 (0 : Int32) M
noncomputable def F_X10_lays (M : zMem) (p0 : Nat) (len_p0 : Nat) (p1 : Nat) (len_p1 : Nat) (p2 : Int32) : Option (zMem) :=
  itF (fun _ _ _ => none) (F_X10_lays_2 p0 len_p0 p1 len_p1 p2) zFuel p2 (0 : Int32) M
def rm_X10_lays : Room := { frames := 2, cells := 0, slots := 0, locals := 80 }
set_option maxHeartbeats 4000000 in
set_option maxRecDepth 100000 in
theorem c_X10_lays (l : Launch) {G : zG} {ad : Nat → Nat} {n : Nat} (hA : zInj ad n) (M : zMem) (p0 : Nat) (len_p0 : Nat) (p1 : Nat) (len_p1 : Nat) (p2 : Int32) {cd_p0 : Nat} (hT_p0 : zT shM n p0 cd_p0) (ha_p0 : zArrR cd_p0 len_p0 4 1 1) (he_p0 : ∀ i : Int32, vp_in i len_p0 → zT shM n (p0 + (1 + 1 * i.toNatClampNeg)) 27) {cd_p1 : Nat} (hT_p1 : zT shM n p1 cd_p1) (ha_p1 : zArrR cd_p1 len_p1 4 1 1) (he_p1 : ∀ i : Int32, vp_in i len_p1 → zT shM n (p1 + (1 + 1 * i.toNatClampNeg)) 27) {M9 : zMem} (hF : F_X10_lays M p0 len_p0 p1 len_p1 p2 = some M9) : zM l yX10_lays cX10_lays 5 none rm_X10_lays G shM ad n M [.ref (ad p0), .ref (ad p1), .int p2] none M9 := by
  refine zM_of hA (by decide +kernel) (lv := [(0, .ref (ad p0)), (1, .ref (ad p1)), (2, .int p2)]) (Nat.le_of_ble_eq_true rfl) rfl (fun p e s m args below meth c A cx hr => ?_)
  have hL10 : ∀ (self2 : Int32 → Int32 → zMem → Option (zMem)) (hs2 : ∀ (b2_L2 : Int32) (b2_L3 : Int32) (M : zMem), self2 b2_L2 b2_L3 M = some M9 → zJ p l e rm_X10_lays s m args below meth c G shM ad n A 5 (MQ below (zQ G shM ad n M9 none A) args s 0 0 A) 0 0 M 2 [(0, .ref (ad p0)), (1, .ref (ad p1)), (2, .int b2_L2), (3, .int b2_L3)] []) (fuel : Nat), ∀ (b10_L2 : Int32) (b10_L3 : Int32) (b10_L4 : Int32) (M : zMem), itF (fun _ _ _ _ => none) (F_X10_lays_10 p0 len_p0 p1 len_p1 p2 self2) fuel b10_L2 b10_L3 b10_L4 M = some M9 → zJ p l e rm_X10_lays s m args below meth c G shM ad n A 5 (MQ below (zQ G shM ad n M9 none A) args s 0 0 A) 0 0 M 10 [(0, .ref (ad p0)), (1, .ref (ad p1)), (2, .int b10_L2), (3, .int b10_L3), (4, .int b10_L4)] [] := by
    intro self2 hs2 fuel
    induction fuel with
    | zero => intro b10_L2 b10_L3 b10_L4 M hF; cases hF
    | succ fuel hs10 =>
      intro b10_L2 b10_L3 b10_L4 M hF
      have hF : F_X10_lays_10 p0 len_p0 p1 len_p1 p2 self2 (itF (fun _ _ _ _ => none) (F_X10_lays_10 p0 len_p0 p1 len_p1 p2 self2) fuel) b10_L2 b10_L3 b10_L4 M = some M9 := hF
      generalize itF (fun _ _ _ _ => none) (F_X10_lays_10 p0 len_p0 p1 len_p1 p2 self2) fuel = self10 at hs10 hF
      unfold F_X10_lays_10 at hF
      refine z_iload cx d_X10_lays_10 4 rfl ?_
      refine z_aload_n cx d_X10_lays_12 1 rfl ?_
      refine z_iload_n cx d_X10_lays_13 3 rfl ?_
      obtain ⟨hi1, hF⟩ := gin_inv hF
      refine z_aald cx hT_p1 ha_p1 hi1 (p1 + (1 + 1 * b10_L3.toNatClampNeg)) rfl d_X10_lays_14 ?_
      refine z_alenI cx (he_p1 _ hi1) za_27 d_X10_lays_15 ?_
      refine z_icmp_ge cx 37 d_X10_lays_16 (by decide) hF (fun hF => ?_) (fun hF => ?_)
      · refine z_iinc cx 3 1 [(3, .int (b10_L3 + 1)), (0, .ref (ad p0)), (1, .ref (ad p1)), (2, .int b10_L2), (4, .int b10_L4)] d_X10_lays_37 3 rfl ki_1 (by decide) rfl ?_
        refine z_goto cx 2 d_X10_lays_40 (by decide) ?_
        exact z_lv [1, 2, 3, 0] _ rfl (hs2 b10_L2 (b10_L3 + 1) M hF)
      refine z_aload_n cx d_X10_lays_19 1 rfl ?_
      refine z_iload_n cx d_X10_lays_20 3 rfl ?_
      refine z_aald cx hT_p1 ha_p1 hi1 (p1 + (1 + 1 * b10_L3.toNatClampNeg)) rfl d_X10_lays_21 ?_
      refine z_iload cx d_X10_lays_22 4 rfl ?_
      refine z_aload_n cx d_X10_lays_24 0 rfl ?_
      refine z_iload_n cx d_X10_lays_25 3 rfl ?_
      obtain ⟨hi2, hF⟩ := gin_inv hF
      refine z_aald cx hT_p0 ha_p0 hi2 (p0 + (1 + 1 * b10_L3.toNatClampNeg)) rfl d_X10_lays_26 ?_
      refine z_iload cx d_X10_lays_27 4 rfl ?_
      obtain ⟨hi3, hF⟩ := gin_inv hF
      refine z_iald cx (he_p0 _ hi2) za_27 hi3 b10_L4.toNatClampNeg rfl d_X10_lays_29 ?_
      refine z_iast cx (he_p1 _ hi1) za_27 hi3 b10_L4.toNatClampNeg rfl d_X10_lays_30 ?_
      refine z_nmM hF (fun M4 hF => ?_)
      refine z_iinc cx 4 1 [(4, .int (b10_L4 + 1)), (0, .ref (ad p0)), (1, .ref (ad p1)), (2, .int b10_L2), (3, .int b10_L3)] d_X10_lays_31 4 rfl ki_1 (by decide) rfl ?_
      refine z_goto cx 10 d_X10_lays_34 (by decide) ?_
      exact z_lv [1, 2, 3, 4, 0] _ rfl (hs10 b10_L2 b10_L3 (b10_L4 + 1) M4 hF)
  have hL2 : ∀ (fuel : Nat), ∀ (b2_L2 : Int32) (b2_L3 : Int32) (M : zMem), itF (fun _ _ _ => none) (F_X10_lays_2 p0 len_p0 p1 len_p1 p2) fuel b2_L2 b2_L3 M = some M9 → zJ p l e rm_X10_lays s m args below meth c G shM ad n A 5 (MQ below (zQ G shM ad n M9 none A) args s 0 0 A) 0 0 M 2 [(0, .ref (ad p0)), (1, .ref (ad p1)), (2, .int b2_L2), (3, .int b2_L3)] [] := by
    intro fuel
    induction fuel with
    | zero => intro b2_L2 b2_L3 M hF; cases hF
    | succ fuel hs2 =>
      intro b2_L2 b2_L3 M hF
      have hF : F_X10_lays_2 p0 len_p0 p1 len_p1 p2 (itF (fun _ _ _ => none) (F_X10_lays_2 p0 len_p0 p1 len_p1 p2) fuel) b2_L2 b2_L3 M = some M9 := hF
      generalize itF (fun _ _ _ => none) (F_X10_lays_2 p0 len_p0 p1 len_p1 p2) fuel = self2 at hs2 hF
      unfold F_X10_lays_2 at hF
      refine z_iload_n cx d_X10_lays_2 3 rfl ?_
      refine z_iload_n cx d_X10_lays_3 2 rfl ?_
      refine z_icmp_ge cx 43 d_X10_lays_4 (by decide) hF (fun hF => ?_) (fun hF => ?_)
      · exact z_vret cx hr hF d_X10_lays_43
      refine z_iconst (v := 0) cx d_X10_lays_7 ki_0 ?_
      refine z_istore cx 4 [(4, .int (0 : Int32)), (0, .ref (ad p0)), (1, .ref (ad p1)), (2, .int b2_L2), (3, .int b2_L3)] d_X10_lays_8 (by decide) rfl ?_
      exact z_lv [1, 2, 3, 4, 0] _ rfl (hL10 self2 hs2 zFuel b2_L2 b2_L3 (0 : Int32) M hF)
  unfold F_X10_lays at hF
  refine z_iconst (v := 0) cx d_X10_lays_0 ki_0 ?_
  refine z_istore_n cx 3 [(3, .int (0 : Int32)), (0, .ref (ad p0)), (1, .ref (ad p1)), (2, .int p2)] d_X10_lays_1 rfl (by decide) rfl ?_
  exact z_lv [1, 2, 3, 0] _ rfl (hL2 zFuel p2 (0 : Int32) M hF)
/-! SunnyPansModel.beginsAnew -/
theorem tfM_11_6 {n k : Nat} (h : zT shM n k 11) : zT shM n (k + 6) 30 := zT_off h (shM_f (by decide) (by decide +kernel)) (by decide) (by decide)
theorem tfM_11_17 {n k : Nat} (h : zT shM n k 11) : zT shM n (k + 17) 30 := zT_off h (shM_f (by decide) (by decide +kernel)) (by decide) (by decide)
theorem tfM_11_4 {n k : Nat} (h : zT shM n k 11) : zT shM n (k + 4) 28 := zT_off h (shM_f (by decide) (by decide +kernel)) (by decide) (by decide)
theorem tfM_11_451 {n k : Nat} (h : zT shM n k 11) : zT shM n (k + 451) 36 := zT_off h (shM_f (by decide) (by decide +kernel)) (by decide) (by decide)
theorem za_36 : zArrI 36 195 := fun _ _ _ _ _ _ => rfl
set_option maxRecDepth 100000 in
theorem wd_1421 : Cond.fieldLink "SunnyPansModel" 58 "SunnyPansModel" "now" "[I" ∈ tbG := tw6 121 rfl rfl
theorem fg_SunnyPansModel_58 : zGetR "SunnyPansModel" 58 10 11 26 451 := ⟨RX10, TX10, 40, rfl, by decide, uw_10, wd_1421, fun _ _ _ _ _ _ => ⟨_, rfl, rfl⟩⟩
theorem ks_128 : (Int16.ofInt (128)).toInt32 = (128 : Int32) := by decide +kernel
set_option maxRecDepth 100000 in
theorem wd_1411 : Cond.fieldLink "SunnyPansModel" 172 "SunnyPansModel" "lawMany" "I" ∈ tbG := tw6 111 rfl rfl
theorem fg_SunnyPansModel_172 : zGetI "SunnyPansModel" 172 10 11 16 := ⟨RX10, TX10, 40, rfl, by decide, uw_10, wd_1411, fun _ _ _ _ _ _ => ⟨_, rfl, rfl⟩⟩
theorem zc_10 : zCls 10 := ⟨RX10, TX10, 40, tyX10, rfl, tyX10_ok, nmX10⟩
theorem fp_SunnyPansModel_172 : zPutI "SunnyPansModel" 172 10 11 16 := ⟨zc_10, fg_SunnyPansModel_172, ⟨RX10, TX10, 40, rfl, rfl, by decide +kernel⟩, fun _ _ _ _ _ _ _ => ⟨_, rfl, Nat.le_of_ble_eq_true rfl, rfl⟩⟩
set_option maxRecDepth 100000 in
theorem wd_1425 : Cond.fieldLink "SunnyPansModel" 175 "SunnyPansModel" "lines" "I" ∈ tbG := tw6 125 rfl rfl
theorem fg_SunnyPansModel_175 : zGetI "SunnyPansModel" 175 10 11 30 := ⟨RX10, TX10, 40, rfl, by decide, uw_10, wd_1425, fun _ _ _ _ _ _ => ⟨_, rfl, rfl⟩⟩
theorem fp_SunnyPansModel_175 : zPutI "SunnyPansModel" 175 10 11 30 := ⟨zc_10, fg_SunnyPansModel_175, ⟨RX10, TX10, 40, rfl, rfl, by decide +kernel⟩, fun _ _ _ _ _ _ _ => ⟨_, rfl, Nat.le_of_ble_eq_true rfl, rfl⟩⟩
set_option maxRecDepth 100000 in
theorem wd_1426 : Cond.fieldLink "SunnyPansModel" 178 "SunnyPansModel" "works" "I" ∈ tbG := tw6 126 rfl rfl
theorem fg_SunnyPansModel_178 : zGetI "SunnyPansModel" 178 10 11 31 := ⟨RX10, TX10, 40, rfl, by decide, uw_10, wd_1426, fun _ _ _ _ _ _ => ⟨_, rfl, rfl⟩⟩
theorem fp_SunnyPansModel_178 : zPutI "SunnyPansModel" 178 10 11 31 := ⟨zc_10, fg_SunnyPansModel_178, ⟨RX10, TX10, 40, rfl, rfl, by decide +kernel⟩, fun _ _ _ _ _ _ _ => ⟨_, rfl, Nat.le_of_ble_eq_true rfl, rfl⟩⟩
set_option maxRecDepth 100000 in
theorem wd_1427 : Cond.fieldLink "SunnyPansModel" 181 "SunnyPansModel" "refusedSteps" "I" ∈ tbG := tw6 127 rfl rfl
theorem fg_SunnyPansModel_181 : zGetI "SunnyPansModel" 181 10 11 32 := ⟨RX10, TX10, 40, rfl, by decide, uw_10, wd_1427, fun _ _ _ _ _ _ => ⟨_, rfl, rfl⟩⟩
theorem fp_SunnyPansModel_181 : zPutI "SunnyPansModel" 181 10 11 32 := ⟨zc_10, fg_SunnyPansModel_181, ⟨RX10, TX10, 40, rfl, rfl, by decide +kernel⟩, fun _ _ _ _ _ _ _ => ⟨_, rfl, Nat.le_of_ble_eq_true rfl, rfl⟩⟩
set_option maxRecDepth 100000 in
theorem wd_1428 : Cond.fieldLink "SunnyPansModel" 184 "SunnyPansModel" "images" "I" ∈ tbG := tw6 128 rfl rfl
theorem fg_SunnyPansModel_184 : zGetI "SunnyPansModel" 184 10 11 33 := ⟨RX10, TX10, 40, rfl, by decide, uw_10, wd_1428, fun _ _ _ _ _ _ => ⟨_, rfl, rfl⟩⟩
theorem fp_SunnyPansModel_184 : zPutI "SunnyPansModel" 184 10 11 33 := ⟨zc_10, fg_SunnyPansModel_184, ⟨RX10, TX10, 40, rfl, rfl, by decide +kernel⟩, fun _ _ _ _ _ _ _ => ⟨_, rfl, Nat.le_of_ble_eq_true rfl, rfl⟩⟩
set_option maxRecDepth 100000 in
theorem wd_1407 : Cond.fieldLink "SunnyPansModel" 23 "SunnyPansModel" "told" "[I" ∈ tbG := tw6 107 rfl rfl
theorem fg_SunnyPansModel_23 : zGetR "SunnyPansModel" 23 10 11 12 4 := ⟨RX10, TX10, 40, rfl, by decide, uw_10, wd_1407, fun _ _ _ _ _ _ => ⟨_, rfl, rfl⟩⟩
theorem ks_195 : (Int16.ofInt (195)).toInt32 = (195 : Int32) := by decide +kernel
set_option maxRecDepth 100000 in
theorem wd_1409 : Cond.fieldLink "SunnyPansModel" 31 "SunnyPansModel" "readHour" "[[I" ∈ tbG := tw6 109 rfl rfl
theorem fg_SunnyPansModel_31 : zGetR "SunnyPansModel" 31 10 11 14 6 := ⟨RX10, TX10, 40, rfl, by decide, uw_10, wd_1409, fun _ _ _ _ _ _ => ⟨_, rfl, rfl⟩⟩
set_option maxRecDepth 100000 in
theorem wd_1410 : Cond.fieldLink "SunnyPansModel" 34 "SunnyPansModel" "hour" "[[I" ∈ tbG := tw6 110 rfl rfl
theorem fg_SunnyPansModel_34 : zGetR "SunnyPansModel" 34 10 11 15 17 := ⟨RX10, TX10, 40, rfl, by decide, uw_10, wd_1410, fun _ _ _ _ _ _ => ⟨_, rfl, rfl⟩⟩
theorem za_30 : zArrR 30 10 4 1 1 := ⟨by decide, fun _ _ _ _ _ _ => rfl⟩
theorem teM_30 {n k : Nat} {i : Int32} (h : zT shM n k 30) (hi : vp_in i 10) : zT shM n (k + (1 + 1 * i.toNatClampNeg)) 27 := by
  have hlt : i.toNatClampNeg < 10 := Nat.not_le.mp fun q => hi (Or.inr q)
  have h2 : k + 11 ≤ n := h.2.2
  exact ⟨shM_e (by decide) (by decide +kernel) k h.1 _ hlt, by omega, by show _ + 1 ≤ n; omega⟩
set_option maxRecDepth 100000 in
theorem wd_1394 : Cond.code yX10_lays cX10_lays 5 none ∈ tbG := tw6 94 rfl rfl
set_option maxRecDepth 100000 in
theorem wd_1392 : Cond.methodLink "SunnyPansModel" 168 yX10_lays ∈ tbG := tw6 92 rfl rfl
set_option maxRecDepth 100000 in
theorem wd_1393 : Cond.static yX10_lays ∈ tbG := tw6 93 rfl rfl
set_option maxRecDepth 100000 in
theorem wd_111 : Cond.initialized "SunnyPansModel" ∈ tbG := tw1 11 rfl rfl
theorem cs_SunnyPansModel_168 : zCS "SunnyPansModel" 168 yX10_lays cX10_lays 5 none 3 := zCS_of wd_1392 wd_1393 wd_111 wd_1394 (by decide +kernel)
theorem d_X10_beginsAnew_0 : decode cX10_beginsAnew 0 = .ok (.iconst 0, 1) := by decide +kernel
theorem d_X10_beginsAnew_1 : decode cX10_beginsAnew 1 = .ok (.istore_n 1, 1) := by decide +kernel
theorem d_X10_beginsAnew_2 : decode cX10_beginsAnew 2 = .ok (.iload_n 1, 1) := by decide +kernel
theorem d_X10_beginsAnew_3 : decode cX10_beginsAnew 3 = .ok (.iconst 3, 1) := by decide +kernel
theorem d_X10_beginsAnew_4 : decode cX10_beginsAnew 4 = .ok (.if_icmp .ge 21, 3) := by decide +kernel
theorem d_X10_beginsAnew_7 : decode cX10_beginsAnew 7 = .ok (.aload_n 0, 1) := by decide +kernel
theorem d_X10_beginsAnew_8 : decode cX10_beginsAnew 8 = .ok (.getfield 23, 3) := by decide +kernel
theorem d_X10_beginsAnew_11 : decode cX10_beginsAnew 11 = .ok (.iload_n 1, 1) := by decide +kernel
theorem d_X10_beginsAnew_12 : decode cX10_beginsAnew 12 = .ok (.aload_n 0, 1) := by decide +kernel
theorem d_X10_beginsAnew_13 : decode cX10_beginsAnew 13 = .ok (.getfield 20, 3) := by decide +kernel
theorem d_X10_beginsAnew_16 : decode cX10_beginsAnew 16 = .ok (.iload_n 1, 1) := by decide +kernel
theorem d_X10_beginsAnew_17 : decode cX10_beginsAnew 17 = .ok (.iaload, 1) := by decide +kernel
theorem d_X10_beginsAnew_18 : decode cX10_beginsAnew 18 = .ok (.iastore, 1) := by decide +kernel
theorem d_X10_beginsAnew_19 : decode cX10_beginsAnew 19 = .ok (.iinc 1 1, 3) := by decide +kernel
theorem d_X10_beginsAnew_22 : decode cX10_beginsAnew 22 = .ok (.goto (-20), 3) := by decide +kernel
theorem d_X10_beginsAnew_25 : decode cX10_beginsAnew 25 = .ok (.aload_n 0, 1) := by decide +kernel
theorem d_X10_beginsAnew_26 : decode cX10_beginsAnew 26 = .ok (.getfield 31, 3) := by decide +kernel
theorem d_X10_beginsAnew_29 : decode cX10_beginsAnew 29 = .ok (.aload_n 0, 1) := by decide +kernel
theorem d_X10_beginsAnew_30 : decode cX10_beginsAnew 30 = .ok (.getfield 34, 3) := by decide +kernel
theorem d_X10_beginsAnew_33 : decode cX10_beginsAnew 33 = .ok (.aload_n 0, 1) := by decide +kernel
theorem d_X10_beginsAnew_34 : decode cX10_beginsAnew 34 = .ok (.getfield 23, 3) := by decide +kernel
theorem d_X10_beginsAnew_37 : decode cX10_beginsAnew 37 = .ok (.iconst 2, 1) := by decide +kernel
theorem d_X10_beginsAnew_38 : decode cX10_beginsAnew 38 = .ok (.iaload, 1) := by decide +kernel
theorem d_X10_beginsAnew_39 : decode cX10_beginsAnew 39 = .ok (.invokestatic 168, 3) := by decide +kernel
theorem d_X10_beginsAnew_42 : decode cX10_beginsAnew 42 = .ok (.iconst 0, 1) := by decide +kernel
theorem d_X10_beginsAnew_43 : decode cX10_beginsAnew 43 = .ok (.istore_n 1, 1) := by decide +kernel
theorem d_X10_beginsAnew_44 : decode cX10_beginsAnew 44 = .ok (.iload_n 1, 1) := by decide +kernel
theorem d_X10_beginsAnew_45 : decode cX10_beginsAnew 45 = .ok (.sipush 195, 3) := by decide +kernel
theorem d_X10_beginsAnew_48 : decode cX10_beginsAnew 48 = .ok (.if_icmp .ge 16, 3) := by decide +kernel
theorem d_X10_beginsAnew_51 : decode cX10_beginsAnew 51 = .ok (.aload_n 0, 1) := by decide +kernel
theorem d_X10_beginsAnew_52 : decode cX10_beginsAnew 52 = .ok (.getfield 58, 3) := by decide +kernel
theorem d_X10_beginsAnew_55 : decode cX10_beginsAnew 55 = .ok (.iload_n 1, 1) := by decide +kernel
theorem d_X10_beginsAnew_56 : decode cX10_beginsAnew 56 = .ok (.iconst 0, 1) := by decide +kernel
theorem d_X10_beginsAnew_57 : decode cX10_beginsAnew 57 = .ok (.iastore, 1) := by decide +kernel
theorem d_X10_beginsAnew_58 : decode cX10_beginsAnew 58 = .ok (.iinc 1 1, 3) := by decide +kernel
theorem d_X10_beginsAnew_61 : decode cX10_beginsAnew 61 = .ok (.goto (-17), 3) := by decide +kernel
theorem d_X10_beginsAnew_64 : decode cX10_beginsAnew 64 = .ok (.iconst 0, 1) := by decide +kernel
theorem d_X10_beginsAnew_65 : decode cX10_beginsAnew 65 = .ok (.istore_n 1, 1) := by decide +kernel
theorem d_X10_beginsAnew_66 : decode cX10_beginsAnew 66 = .ok (.iload_n 1, 1) := by decide +kernel
theorem d_X10_beginsAnew_67 : decode cX10_beginsAnew 67 = .ok (.bipush 64, 2) := by decide +kernel
theorem d_X10_beginsAnew_69 : decode cX10_beginsAnew 69 = .ok (.if_icmp .ge 126, 3) := by decide +kernel
theorem d_X10_beginsAnew_72 : decode cX10_beginsAnew 72 = .ok (.iload_n 1, 1) := by decide +kernel
theorem d_X10_beginsAnew_73 : decode cX10_beginsAnew 73 = .ok (.bipush 8, 2) := by decide +kernel
theorem d_X10_beginsAnew_75 : decode cX10_beginsAnew 75 = .ok (.irem, 1) := by decide +kernel
theorem d_X10_beginsAnew_76 : decode cX10_beginsAnew 76 = .ok (.aload_n 0, 1) := by decide +kernel
theorem d_X10_beginsAnew_77 : decode cX10_beginsAnew 77 = .ok (.getfield 23, 3) := by decide +kernel
theorem d_X10_beginsAnew_80 : decode cX10_beginsAnew 80 = .ok (.iconst 0, 1) := by decide +kernel
theorem d_X10_beginsAnew_81 : decode cX10_beginsAnew 81 = .ok (.iaload, 1) := by decide +kernel
theorem d_X10_beginsAnew_82 : decode cX10_beginsAnew 82 = .ok (.if_icmp .ge 107, 3) := by decide +kernel
theorem d_X10_beginsAnew_85 : decode cX10_beginsAnew 85 = .ok (.iload_n 1, 1) := by decide +kernel
theorem d_X10_beginsAnew_86 : decode cX10_beginsAnew 86 = .ok (.bipush 8, 2) := by decide +kernel
theorem d_X10_beginsAnew_88 : decode cX10_beginsAnew 88 = .ok (.idiv, 1) := by decide +kernel
theorem d_X10_beginsAnew_89 : decode cX10_beginsAnew 89 = .ok (.aload_n 0, 1) := by decide +kernel
theorem d_X10_beginsAnew_90 : decode cX10_beginsAnew 90 = .ok (.getfield 23, 3) := by decide +kernel
theorem d_X10_beginsAnew_93 : decode cX10_beginsAnew 93 = .ok (.iconst 1, 1) := by decide +kernel
theorem d_X10_beginsAnew_94 : decode cX10_beginsAnew 94 = .ok (.iaload, 1) := by decide +kernel
theorem d_X10_beginsAnew_95 : decode cX10_beginsAnew 95 = .ok (.if_icmp .lt 6, 3) := by decide +kernel
theorem d_X10_beginsAnew_98 : decode cX10_beginsAnew 98 = .ok (.goto 91, 3) := by decide +kernel
theorem d_X10_beginsAnew_101 : decode cX10_beginsAnew 101 = .ok (.aload_n 0, 1) := by decide +kernel
theorem d_X10_beginsAnew_102 : decode cX10_beginsAnew 102 = .ok (.getfield 58, 3) := by decide +kernel
theorem d_X10_beginsAnew_105 : decode cX10_beginsAnew 105 = .ok (.sipush 128, 3) := by decide +kernel
theorem d_X10_beginsAnew_108 : decode cX10_beginsAnew 108 = .ok (.iload_n 1, 1) := by decide +kernel
theorem d_X10_beginsAnew_109 : decode cX10_beginsAnew 109 = .ok (.iadd, 1) := by decide +kernel
theorem d_X10_beginsAnew_110 : decode cX10_beginsAnew 110 = .ok (.aload_n 0, 1) := by decide +kernel
theorem d_X10_beginsAnew_111 : decode cX10_beginsAnew 111 = .ok (.getfield 26, 3) := by decide +kernel
theorem d_X10_beginsAnew_114 : decode cX10_beginsAnew 114 = .ok (.sipush 128, 3) := by decide +kernel
theorem d_X10_beginsAnew_117 : decode cX10_beginsAnew 117 = .ok (.iload_n 1, 1) := by decide +kernel
theorem d_X10_beginsAnew_118 : decode cX10_beginsAnew 118 = .ok (.iadd, 1) := by decide +kernel
theorem d_X10_beginsAnew_119 : decode cX10_beginsAnew 119 = .ok (.iaload, 1) := by decide +kernel
theorem d_X10_beginsAnew_120 : decode cX10_beginsAnew 120 = .ok (.iastore, 1) := by decide +kernel
theorem d_X10_beginsAnew_121 : decode cX10_beginsAnew 121 = .ok (.aload_n 0, 1) := by decide +kernel
theorem d_X10_beginsAnew_122 : decode cX10_beginsAnew 122 = .ok (.getfield 58, 3) := by decide +kernel
theorem d_X10_beginsAnew_125 : decode cX10_beginsAnew 125 = .ok (.iconst 0, 1) := by decide +kernel
theorem d_X10_beginsAnew_126 : decode cX10_beginsAnew 126 = .ok (.iload_n 1, 1) := by decide +kernel
theorem d_X10_beginsAnew_127 : decode cX10_beginsAnew 127 = .ok (.iadd, 1) := by decide +kernel
theorem d_X10_beginsAnew_128 : decode cX10_beginsAnew 128 = .ok (.aload_n 0, 1) := by decide +kernel
theorem d_X10_beginsAnew_129 : decode cX10_beginsAnew 129 = .ok (.getfield 58, 3) := by decide +kernel
theorem d_X10_beginsAnew_132 : decode cX10_beginsAnew 132 = .ok (.sipush 128, 3) := by decide +kernel
theorem d_X10_beginsAnew_135 : decode cX10_beginsAnew 135 = .ok (.iload_n 1, 1) := by decide +kernel
theorem d_X10_beginsAnew_136 : decode cX10_beginsAnew 136 = .ok (.iadd, 1) := by decide +kernel
theorem d_X10_beginsAnew_137 : decode cX10_beginsAnew 137 = .ok (.iaload, 1) := by decide +kernel
theorem d_X10_beginsAnew_138 : decode cX10_beginsAnew 138 = .ok (.ifCond .le 7, 3) := by decide +kernel
theorem d_X10_beginsAnew_141 : decode cX10_beginsAnew 141 = .ok (.iconst 0, 1) := by decide +kernel
theorem d_X10_beginsAnew_142 : decode cX10_beginsAnew 142 = .ok (.goto 11, 3) := by decide +kernel
theorem d_X10_beginsAnew_145 : decode cX10_beginsAnew 145 = .ok (.aload_n 0, 1) := by decide +kernel
theorem d_X10_beginsAnew_146 : decode cX10_beginsAnew 146 = .ok (.getfield 26, 3) := by decide +kernel
theorem d_X10_beginsAnew_149 : decode cX10_beginsAnew 149 = .ok (.iconst 0, 1) := by decide +kernel
theorem d_X10_beginsAnew_150 : decode cX10_beginsAnew 150 = .ok (.iload_n 1, 1) := by decide +kernel
theorem d_X10_beginsAnew_151 : decode cX10_beginsAnew 151 = .ok (.iadd, 1) := by decide +kernel
theorem d_X10_beginsAnew_152 : decode cX10_beginsAnew 152 = .ok (.iaload, 1) := by decide +kernel
theorem d_X10_beginsAnew_153 : decode cX10_beginsAnew 153 = .ok (.iastore, 1) := by decide +kernel
theorem d_X10_beginsAnew_154 : decode cX10_beginsAnew 154 = .ok (.aload_n 0, 1) := by decide +kernel
theorem d_X10_beginsAnew_155 : decode cX10_beginsAnew 155 = .ok (.getfield 58, 3) := by decide +kernel
theorem d_X10_beginsAnew_158 : decode cX10_beginsAnew 158 = .ok (.bipush 64, 2) := by decide +kernel
theorem d_X10_beginsAnew_160 : decode cX10_beginsAnew 160 = .ok (.iload_n 1, 1) := by decide +kernel
theorem d_X10_beginsAnew_161 : decode cX10_beginsAnew 161 = .ok (.iadd, 1) := by decide +kernel
theorem d_X10_beginsAnew_162 : decode cX10_beginsAnew 162 = .ok (.aload_n 0, 1) := by decide +kernel
theorem d_X10_beginsAnew_163 : decode cX10_beginsAnew 163 = .ok (.getfield 58, 3) := by decide +kernel
theorem d_X10_beginsAnew_166 : decode cX10_beginsAnew 166 = .ok (.sipush 128, 3) := by decide +kernel
theorem d_X10_beginsAnew_169 : decode cX10_beginsAnew 169 = .ok (.iload_n 1, 1) := by decide +kernel
theorem d_X10_beginsAnew_170 : decode cX10_beginsAnew 170 = .ok (.iadd, 1) := by decide +kernel
theorem d_X10_beginsAnew_171 : decode cX10_beginsAnew 171 = .ok (.iaload, 1) := by decide +kernel
theorem d_X10_beginsAnew_172 : decode cX10_beginsAnew 172 = .ok (.ifCond .le 7, 3) := by decide +kernel
theorem d_X10_beginsAnew_175 : decode cX10_beginsAnew 175 = .ok (.iconst 0, 1) := by decide +kernel
theorem d_X10_beginsAnew_176 : decode cX10_beginsAnew 176 = .ok (.goto 12, 3) := by decide +kernel
theorem d_X10_beginsAnew_179 : decode cX10_beginsAnew 179 = .ok (.aload_n 0, 1) := by decide +kernel
theorem d_X10_beginsAnew_180 : decode cX10_beginsAnew 180 = .ok (.getfield 26, 3) := by decide +kernel
theorem d_X10_beginsAnew_183 : decode cX10_beginsAnew 183 = .ok (.bipush 64, 2) := by decide +kernel
theorem d_X10_beginsAnew_185 : decode cX10_beginsAnew 185 = .ok (.iload_n 1, 1) := by decide +kernel
theorem d_X10_beginsAnew_186 : decode cX10_beginsAnew 186 = .ok (.iadd, 1) := by decide +kernel
theorem d_X10_beginsAnew_187 : decode cX10_beginsAnew 187 = .ok (.iaload, 1) := by decide +kernel
theorem d_X10_beginsAnew_188 : decode cX10_beginsAnew 188 = .ok (.iastore, 1) := by decide +kernel
theorem d_X10_beginsAnew_189 : decode cX10_beginsAnew 189 = .ok (.iinc 1 1, 3) := by decide +kernel
theorem d_X10_beginsAnew_192 : decode cX10_beginsAnew 192 = .ok (.goto (-126), 3) := by decide +kernel
theorem d_X10_beginsAnew_195 : decode cX10_beginsAnew 195 = .ok (.aload_n 0, 1) := by decide +kernel
theorem d_X10_beginsAnew_196 : decode cX10_beginsAnew 196 = .ok (.iconst 0, 1) := by decide +kernel
theorem d_X10_beginsAnew_197 : decode cX10_beginsAnew 197 = .ok (.putfield 172, 3) := by decide +kernel
theorem d_X10_beginsAnew_200 : decode cX10_beginsAnew 200 = .ok (.aload_n 0, 1) := by decide +kernel
theorem d_X10_beginsAnew_201 : decode cX10_beginsAnew 201 = .ok (.iconst 0, 1) := by decide +kernel
theorem d_X10_beginsAnew_202 : decode cX10_beginsAnew 202 = .ok (.putfield 175, 3) := by decide +kernel
theorem d_X10_beginsAnew_205 : decode cX10_beginsAnew 205 = .ok (.aload_n 0, 1) := by decide +kernel
theorem d_X10_beginsAnew_206 : decode cX10_beginsAnew 206 = .ok (.iconst 0, 1) := by decide +kernel
theorem d_X10_beginsAnew_207 : decode cX10_beginsAnew 207 = .ok (.putfield 178, 3) := by decide +kernel
theorem d_X10_beginsAnew_210 : decode cX10_beginsAnew 210 = .ok (.aload_n 0, 1) := by decide +kernel
theorem d_X10_beginsAnew_211 : decode cX10_beginsAnew 211 = .ok (.iconst 0, 1) := by decide +kernel
theorem d_X10_beginsAnew_212 : decode cX10_beginsAnew 212 = .ok (.putfield 181, 3) := by decide +kernel
theorem d_X10_beginsAnew_215 : decode cX10_beginsAnew 215 = .ok (.aload_n 0, 1) := by decide +kernel
theorem d_X10_beginsAnew_216 : decode cX10_beginsAnew 216 = .ok (.iconst 0, 1) := by decide +kernel
theorem d_X10_beginsAnew_217 : decode cX10_beginsAnew 217 = .ok (.putfield 184, 3) := by decide +kernel
theorem d_X10_beginsAnew_220 : decode cX10_beginsAnew 220 = .ok (.return_, 1) := by decide +kernel
noncomputable def F_X10_beginsAnew_189 (self66 : Int32 → zMem → Option (zMem)) (b189_L1 : Int32) (M : zMem) : Option (zMem) :=
  self66 (b189_L1 + 1) M
noncomputable def F_X10_beginsAnew_188 (self66 : Int32 → zMem → Option (zMem)) (b188_L1 : Int32) (b188_S1 : Int32) (b188_S2 : Int32) (M : zMem) : Option (zMem) :=
  gin b188_S1 195 <|
  zl (zI M 451 b188_S1.toNatClampNeg b188_S2) fun M2 =>
  F_X10_beginsAnew_189 self66 b188_L1 M2
noncomputable def F_X10_beginsAnew_153 (self66 : Int32 → zMem → Option (zMem)) (b153_L1 : Int32) (b153_S1 : Int32) (b153_S2 : Int32) (M : zMem) : Option (zMem) :=
  gin b153_S1 195 <|
  zl (zI M 451 b153_S1.toNatClampNeg b153_S2) fun M4 =>
  gin ((128 : Int32) + b153_L1) 195 <|
  if (M4.1 451 ((128 : Int32) + b153_L1).toNatClampNeg) ≤ 0 then
    gin ((64 : Int32) + b153_L1) 192 <|
    F_X10_beginsAnew_188 self66 b153_L1 ((64 : Int32) + b153_L1) (M4.1 5 ((64 : Int32) + b153_L1).toNatClampNeg) M4
  else
    F_X10_beginsAnew_188 self66 b153_L1 ((64 : Int32) + b153_L1) (0 : Int32) M4
noncomputable def F_X10_beginsAnew_66 (self66 : Int32 → zMem → Option (zMem)) (b66_L1 : Int32) (M : zMem) : Option (zMem) :=
  if (64 : Int32) ≤ b66_L1 then
    zl (zI M 0 16 (0 : Int32)) fun M7 =>
    zl (zI M7 0 30 (0 : Int32)) fun M8 =>
    zl (zI M8 0 31 (0 : Int32)) fun M9 =>
    zl (zI M9 0 32 (0 : Int32)) fun M10 =>
    zl (zI M10 0 33 (0 : Int32)) fun M11 =>
    some M11
  else
    if (M.1 4 0) ≤ (b66_L1 - b66_L1 / (8 : Int32) * (8 : Int32)) then
      F_X10_beginsAnew_189 self66 b66_L1 M
    else
      if (b66_L1 / (8 : Int32)) < (M.1 4 1) then
        gin ((128 : Int32) + b66_L1) 192 <|
        gin ((128 : Int32) + b66_L1) 195 <|
        zl (zI M 451 (((128 : Int32) + b66_L1).toNatClampNeg) (M.1 5 ((128 : Int32) + b66_L1).toNatClampNeg)) fun M14 =>
        if (M14.1 451 ((128 : Int32) + b66_L1).toNatClampNeg) ≤ 0 then
          gin ((0 : Int32) + b66_L1) 192 <|
          F_X10_beginsAnew_153 self66 b66_L1 ((0 : Int32) + b66_L1) (M14.1 5 ((0 : Int32) + b66_L1).toNatClampNeg) M14
        else
          F_X10_beginsAnew_153 self66 b66_L1 ((0 : Int32) + b66_L1) (0 : Int32) M14
      else
        F_X10_beginsAnew_189 self66 b66_L1 M
noncomputable def F_X10_beginsAnew_44 (self44 : Int32 → zMem → Option (zMem)) (b44_L1 : Int32) (M : zMem) : Option (zMem) :=
  if (195 : Int32) ≤ b44_L1 then
    itF (fun _ _ => none) (F_X10_beginsAnew_66) zFuel (0 : Int32) M
  else
    gin b44_L1 195 <|
    zl (zI M 451 b44_L1.toNatClampNeg (0 : Int32)) fun M17 =>
    self44 (b44_L1 + 1) M17
noncomputable def F_X10_beginsAnew_2 (self2 : Int32 → zMem → Option (zMem)) (b2_L1 : Int32) (M : zMem) : Option (zMem) :=
  if (3 : Int32) ≤ b2_L1 then
    zbv (F_X10_lays M 6 10 17 10 (M.1 4 2)) fun M18 =>
    itF (fun _ _ => none) (F_X10_beginsAnew_44) zFuel (0 : Int32) M18
  else
    gin b2_L1 3 <|
    zl (zI M 4 b2_L1.toNatClampNeg (M.1 3 b2_L1.toNatClampNeg)) fun M20 =>
    self2 (b2_L1 + 1) M20
noncomputable def F_X10_beginsAnew (M : zMem)  : Option (zMem) :=
  itF (fun _ _ => none) (F_X10_beginsAnew_2) zFuel (0 : Int32) M
def rm_X10_beginsAnew : Room := { frames := 3, cells := 0, slots := 0, locals := 104 }
set_option maxHeartbeats 4000000 in
set_option maxRecDepth 100000 in
theorem c_X10_beginsAnew (l : Launch) {G : zG} {ad : Nat → Nat} {n : Nat} (hA : zInj ad n) (M : zMem)  (hT : zT shM n 0 11) {M9 : zMem} (hF : F_X10_beginsAnew M  = some M9) : zM l yX10_beginsAnew cX10_beginsAnew 2 none rm_X10_beginsAnew G shM ad n M [.ref (ad 0)] none M9 := by
  refine zM_of hA (by decide +kernel) (lv := [(0, .ref (ad 0))]) (Nat.le_of_ble_eq_true rfl) rfl (fun p e s m args below meth c A cx hr => ?_)
  have hb189 : ∀ (self66 : Int32 → zMem → Option (zMem)) (hs66 : ∀ (b66_L1 : Int32) (M : zMem), self66 b66_L1 M = some M9 → zJ p l e rm_X10_beginsAnew s m args below meth c G shM ad n A 2 (MQ below (zQ G shM ad n M9 none A) args s 0 0 A) 0 0 M 66 [(0, .ref (ad 0)), (1, .int b66_L1)] []), ∀ (b189_L1 : Int32) (M : zMem), F_X10_beginsAnew_189 self66 b189_L1 M = some M9 → zJ p l e rm_X10_beginsAnew s m args below meth c G shM ad n A 2 (MQ below (zQ G shM ad n M9 none A) args s 0 0 A) 0 0 M 189 [(0, .ref (ad 0)), (1, .int b189_L1)] [] := by
    intro self66 hs66 b189_L1 M hF
    unfold F_X10_beginsAnew_189 at hF
    refine z_iinc cx 1 1 [(1, .int (b189_L1 + 1)), (0, .ref (ad 0))] d_X10_beginsAnew_189 1 rfl ki_1 (by decide) rfl ?_
    refine z_goto cx 66 d_X10_beginsAnew_192 (by decide) ?_
    exact z_lv [1, 0] _ rfl (hs66 (b189_L1 + 1) M hF)
  have hb188 : ∀ (self66 : Int32 → zMem → Option (zMem)) (hs66 : ∀ (b66_L1 : Int32) (M : zMem), self66 b66_L1 M = some M9 → zJ p l e rm_X10_beginsAnew s m args below meth c G shM ad n A 2 (MQ below (zQ G shM ad n M9 none A) args s 0 0 A) 0 0 M 66 [(0, .ref (ad 0)), (1, .int b66_L1)] []), ∀ (b188_L1 : Int32) (b188_S1 : Int32) (b188_S2 : Int32) (M : zMem), F_X10_beginsAnew_188 self66 b188_L1 b188_S1 b188_S2 M = some M9 → zJ p l e rm_X10_beginsAnew s m args below meth c G shM ad n A 2 (MQ below (zQ G shM ad n M9 none A) args s 0 0 A) 0 0 M 188 [(0, .ref (ad 0)), (1, .int b188_L1)] [.int b188_S2, .int b188_S1, .ref (ad 451)] := by
    intro self66 hs66 b188_L1 b188_S1 b188_S2 M hF
    unfold F_X10_beginsAnew_188 at hF
    obtain ⟨hi1, hF⟩ := gin_inv hF
    refine z_iast cx (tfM_11_451 hT) za_36 hi1 b188_S1.toNatClampNeg rfl d_X10_beginsAnew_188 ?_
    refine z_nmM hF (fun M2 hF => ?_)
    exact hb189 self66 hs66 b188_L1 M2 hF
  have hb153 : ∀ (self66 : Int32 → zMem → Option (zMem)) (hs66 : ∀ (b66_L1 : Int32) (M : zMem), self66 b66_L1 M = some M9 → zJ p l e rm_X10_beginsAnew s m args below meth c G shM ad n A 2 (MQ below (zQ G shM ad n M9 none A) args s 0 0 A) 0 0 M 66 [(0, .ref (ad 0)), (1, .int b66_L1)] []), ∀ (b153_L1 : Int32) (b153_S1 : Int32) (b153_S2 : Int32) (M : zMem), F_X10_beginsAnew_153 self66 b153_L1 b153_S1 b153_S2 M = some M9 → zJ p l e rm_X10_beginsAnew s m args below meth c G shM ad n A 2 (MQ below (zQ G shM ad n M9 none A) args s 0 0 A) 0 0 M 153 [(0, .ref (ad 0)), (1, .int b153_L1)] [.int b153_S2, .int b153_S1, .ref (ad 451)] := by
    intro self66 hs66 b153_L1 b153_S1 b153_S2 M hF
    unfold F_X10_beginsAnew_153 at hF
    obtain ⟨hi3, hF⟩ := gin_inv hF
    refine z_iast cx (tfM_11_451 hT) za_36 hi3 b153_S1.toNatClampNeg rfl d_X10_beginsAnew_153 ?_
    refine z_nmM hF (fun M4 hF => ?_)
    refine z_aload_n cx d_X10_beginsAnew_154 0 rfl ?_
    refine z_getR cx hT fg_SunnyPansModel_58 451 rfl d_X10_beginsAnew_155 ?_
    refine z_bipush (v := 64) cx d_X10_beginsAnew_158 kb_64 ?_
    refine z_iload_n cx d_X10_beginsAnew_160 1 rfl ?_
    refine z_iadd cx d_X10_beginsAnew_161 ?_
    refine z_aload_n cx d_X10_beginsAnew_162 0 rfl ?_
    refine z_getR cx hT fg_SunnyPansModel_58 451 rfl d_X10_beginsAnew_163 ?_
    refine z_sipush (v := 128) cx d_X10_beginsAnew_166 ks_128 ?_
    refine z_iload_n cx d_X10_beginsAnew_169 1 rfl ?_
    refine z_iadd cx d_X10_beginsAnew_170 ?_
    obtain ⟨hi5, hF⟩ := gin_inv hF
    refine z_iald cx (tfM_11_451 hT) za_36 hi5 (((128 : Int32) + b153_L1).toNatClampNeg) rfl d_X10_beginsAnew_171 ?_
    refine z_if_le cx 179 d_X10_beginsAnew_172 (by decide) hF (fun hF => ?_) (fun hF => ?_)
    · refine z_aload_n cx d_X10_beginsAnew_179 0 rfl ?_
      refine z_getR cx hT fg_SunnyPansModel_26 5 rfl d_X10_beginsAnew_180 ?_
      refine z_bipush (v := 64) cx d_X10_beginsAnew_183 kb_64 ?_
      refine z_iload_n cx d_X10_beginsAnew_185 1 rfl ?_
      refine z_iadd cx d_X10_beginsAnew_186 ?_
      obtain ⟨hi6, hF⟩ := gin_inv hF
      refine z_iald cx (tfM_11_5 hT) za_29 hi6 (((64 : Int32) + b153_L1).toNatClampNeg) rfl d_X10_beginsAnew_187 ?_
      exact hb188 self66 hs66 b153_L1 ((64 : Int32) + b153_L1) (M4.1 5 ((64 : Int32) + b153_L1).toNatClampNeg) M4 hF
    refine z_iconst (v := 0) cx d_X10_beginsAnew_175 ki_0 ?_
    refine z_goto cx 188 d_X10_beginsAnew_176 (by decide) ?_
    exact hb188 self66 hs66 b153_L1 ((64 : Int32) + b153_L1) (0 : Int32) M4 hF
  have hL66 : ∀ (fuel : Nat), ∀ (b66_L1 : Int32) (M : zMem), itF (fun _ _ => none) (F_X10_beginsAnew_66) fuel b66_L1 M = some M9 → zJ p l e rm_X10_beginsAnew s m args below meth c G shM ad n A 2 (MQ below (zQ G shM ad n M9 none A) args s 0 0 A) 0 0 M 66 [(0, .ref (ad 0)), (1, .int b66_L1)] [] := by
    intro fuel
    induction fuel with
    | zero => intro b66_L1 M hF; cases hF
    | succ fuel hs66 =>
      intro b66_L1 M hF
      have hF : F_X10_beginsAnew_66 (itF (fun _ _ => none) (F_X10_beginsAnew_66) fuel) b66_L1 M = some M9 := hF
      generalize itF (fun _ _ => none) (F_X10_beginsAnew_66) fuel = self66 at hs66 hF
      unfold F_X10_beginsAnew_66 at hF
      refine z_iload_n cx d_X10_beginsAnew_66 1 rfl ?_
      refine z_bipush (v := 64) cx d_X10_beginsAnew_67 kb_64 ?_
      refine z_icmp_ge cx 195 d_X10_beginsAnew_69 (by decide) hF (fun hF => ?_) (fun hF => ?_)
      · refine z_aload_n cx d_X10_beginsAnew_195 0 rfl ?_
        refine z_iconst (v := 0) cx d_X10_beginsAnew_196 ki_0 ?_
        refine z_putI cx hT fp_SunnyPansModel_172 d_X10_beginsAnew_197 ?_
        refine z_nmM hF (fun M7 hF => ?_)
        refine z_aload_n cx d_X10_beginsAnew_200 0 rfl ?_
        refine z_iconst (v := 0) cx d_X10_beginsAnew_201 ki_0 ?_
        refine z_putI cx hT fp_SunnyPansModel_175 d_X10_beginsAnew_202 ?_
        refine z_nmM hF (fun M8 hF => ?_)
        refine z_aload_n cx d_X10_beginsAnew_205 0 rfl ?_
        refine z_iconst (v := 0) cx d_X10_beginsAnew_206 ki_0 ?_
        refine z_putI cx hT fp_SunnyPansModel_178 d_X10_beginsAnew_207 ?_
        refine z_nmM hF (fun M9 hF => ?_)
        refine z_aload_n cx d_X10_beginsAnew_210 0 rfl ?_
        refine z_iconst (v := 0) cx d_X10_beginsAnew_211 ki_0 ?_
        refine z_putI cx hT fp_SunnyPansModel_181 d_X10_beginsAnew_212 ?_
        refine z_nmM hF (fun M10 hF => ?_)
        refine z_aload_n cx d_X10_beginsAnew_215 0 rfl ?_
        refine z_iconst (v := 0) cx d_X10_beginsAnew_216 ki_0 ?_
        refine z_putI cx hT fp_SunnyPansModel_184 d_X10_beginsAnew_217 ?_
        refine z_nmM hF (fun M11 hF => ?_)
        exact z_vret cx hr hF d_X10_beginsAnew_220
      refine z_iload_n cx d_X10_beginsAnew_72 1 rfl ?_
      refine z_bipush (v := 8) cx d_X10_beginsAnew_73 kb_8 ?_
      refine z_irem cx d_X10_beginsAnew_75 (by decide) ?_
      refine z_aload_n cx d_X10_beginsAnew_76 0 rfl ?_
      refine z_getR cx hT fg_SunnyPansModel_23 4 rfl d_X10_beginsAnew_77 ?_
      refine z_iconst (v := 0) cx d_X10_beginsAnew_80 ki_0 ?_
      refine z_iald cx (tfM_11_4 hT) za_28 (zvp (by decide +kernel)) 0 rfl d_X10_beginsAnew_81 ?_
      refine z_icmp_ge cx 189 d_X10_beginsAnew_82 (by decide) hF (fun hF => ?_) (fun hF => ?_)
      · exact hb189 self66 hs66 b66_L1 M hF
      refine z_iload_n cx d_X10_beginsAnew_85 1 rfl ?_
      refine z_bipush (v := 8) cx d_X10_beginsAnew_86 kb_8 ?_
      refine z_idiv cx d_X10_beginsAnew_88 (by decide) ?_
      refine z_aload_n cx d_X10_beginsAnew_89 0 rfl ?_
      refine z_getR cx hT fg_SunnyPansModel_23 4 rfl d_X10_beginsAnew_90 ?_
      refine z_iconst (v := 1) cx d_X10_beginsAnew_93 ki_1 ?_
      refine z_iald cx (tfM_11_4 hT) za_28 (zvp (by decide +kernel)) 1 rfl d_X10_beginsAnew_94 ?_
      refine z_icmp_lt cx 101 d_X10_beginsAnew_95 (by decide) hF (fun hF => ?_) (fun hF => ?_)
      · refine z_aload_n cx d_X10_beginsAnew_101 0 rfl ?_
        refine z_getR cx hT fg_SunnyPansModel_58 451 rfl d_X10_beginsAnew_102 ?_
        refine z_sipush (v := 128) cx d_X10_beginsAnew_105 ks_128 ?_
        refine z_iload_n cx d_X10_beginsAnew_108 1 rfl ?_
        refine z_iadd cx d_X10_beginsAnew_109 ?_
        refine z_aload_n cx d_X10_beginsAnew_110 0 rfl ?_
        refine z_getR cx hT fg_SunnyPansModel_26 5 rfl d_X10_beginsAnew_111 ?_
        refine z_sipush (v := 128) cx d_X10_beginsAnew_114 ks_128 ?_
        refine z_iload_n cx d_X10_beginsAnew_117 1 rfl ?_
        refine z_iadd cx d_X10_beginsAnew_118 ?_
        obtain ⟨hi12, hF⟩ := gin_inv hF
        refine z_iald cx (tfM_11_5 hT) za_29 hi12 (((128 : Int32) + b66_L1).toNatClampNeg) rfl d_X10_beginsAnew_119 ?_
        obtain ⟨hi13, hF⟩ := gin_inv hF
        refine z_iast cx (tfM_11_451 hT) za_36 hi13 (((128 : Int32) + b66_L1).toNatClampNeg) rfl d_X10_beginsAnew_120 ?_
        refine z_nmM hF (fun M14 hF => ?_)
        refine z_aload_n cx d_X10_beginsAnew_121 0 rfl ?_
        refine z_getR cx hT fg_SunnyPansModel_58 451 rfl d_X10_beginsAnew_122 ?_
        refine z_iconst (v := 0) cx d_X10_beginsAnew_125 ki_0 ?_
        refine z_iload_n cx d_X10_beginsAnew_126 1 rfl ?_
        refine z_iadd cx d_X10_beginsAnew_127 ?_
        refine z_aload_n cx d_X10_beginsAnew_128 0 rfl ?_
        refine z_getR cx hT fg_SunnyPansModel_58 451 rfl d_X10_beginsAnew_129 ?_
        refine z_sipush (v := 128) cx d_X10_beginsAnew_132 ks_128 ?_
        refine z_iload_n cx d_X10_beginsAnew_135 1 rfl ?_
        refine z_iadd cx d_X10_beginsAnew_136 ?_
        refine z_iald cx (tfM_11_451 hT) za_36 hi13 (((128 : Int32) + b66_L1).toNatClampNeg) rfl d_X10_beginsAnew_137 ?_
        refine z_if_le cx 145 d_X10_beginsAnew_138 (by decide) hF (fun hF => ?_) (fun hF => ?_)
        · refine z_aload_n cx d_X10_beginsAnew_145 0 rfl ?_
          refine z_getR cx hT fg_SunnyPansModel_26 5 rfl d_X10_beginsAnew_146 ?_
          refine z_iconst (v := 0) cx d_X10_beginsAnew_149 ki_0 ?_
          refine z_iload_n cx d_X10_beginsAnew_150 1 rfl ?_
          refine z_iadd cx d_X10_beginsAnew_151 ?_
          obtain ⟨hi15, hF⟩ := gin_inv hF
          refine z_iald cx (tfM_11_5 hT) za_29 hi15 (((0 : Int32) + b66_L1).toNatClampNeg) rfl d_X10_beginsAnew_152 ?_
          exact hb153 self66 hs66 b66_L1 ((0 : Int32) + b66_L1) (M14.1 5 ((0 : Int32) + b66_L1).toNatClampNeg) M14 hF
        refine z_iconst (v := 0) cx d_X10_beginsAnew_141 ki_0 ?_
        refine z_goto cx 153 d_X10_beginsAnew_142 (by decide) ?_
        exact hb153 self66 hs66 b66_L1 ((0 : Int32) + b66_L1) (0 : Int32) M14 hF
      refine z_goto cx 189 d_X10_beginsAnew_98 (by decide) ?_
      exact hb189 self66 hs66 b66_L1 M hF
  have hL44 : ∀ (fuel : Nat), ∀ (b44_L1 : Int32) (M : zMem), itF (fun _ _ => none) (F_X10_beginsAnew_44) fuel b44_L1 M = some M9 → zJ p l e rm_X10_beginsAnew s m args below meth c G shM ad n A 2 (MQ below (zQ G shM ad n M9 none A) args s 0 0 A) 0 0 M 44 [(0, .ref (ad 0)), (1, .int b44_L1)] [] := by
    intro fuel
    induction fuel with
    | zero => intro b44_L1 M hF; cases hF
    | succ fuel hs44 =>
      intro b44_L1 M hF
      have hF : F_X10_beginsAnew_44 (itF (fun _ _ => none) (F_X10_beginsAnew_44) fuel) b44_L1 M = some M9 := hF
      generalize itF (fun _ _ => none) (F_X10_beginsAnew_44) fuel = self44 at hs44 hF
      unfold F_X10_beginsAnew_44 at hF
      refine z_iload_n cx d_X10_beginsAnew_44 1 rfl ?_
      refine z_sipush (v := 195) cx d_X10_beginsAnew_45 ks_195 ?_
      refine z_icmp_ge cx 64 d_X10_beginsAnew_48 (by decide) hF (fun hF => ?_) (fun hF => ?_)
      · refine z_iconst (v := 0) cx d_X10_beginsAnew_64 ki_0 ?_
        refine z_istore_n cx 1 [(1, .int (0 : Int32)), (0, .ref (ad 0))] d_X10_beginsAnew_65 rfl (by decide) rfl ?_
        exact z_lv [1, 0] _ rfl (hL66 zFuel (0 : Int32) M hF)
      refine z_aload_n cx d_X10_beginsAnew_51 0 rfl ?_
      refine z_getR cx hT fg_SunnyPansModel_58 451 rfl d_X10_beginsAnew_52 ?_
      refine z_iload_n cx d_X10_beginsAnew_55 1 rfl ?_
      refine z_iconst (v := 0) cx d_X10_beginsAnew_56 ki_0 ?_
      obtain ⟨hi16, hF⟩ := gin_inv hF
      refine z_iast cx (tfM_11_451 hT) za_36 hi16 b44_L1.toNatClampNeg rfl d_X10_beginsAnew_57 ?_
      refine z_nmM hF (fun M17 hF => ?_)
      refine z_iinc cx 1 1 [(1, .int (b44_L1 + 1)), (0, .ref (ad 0))] d_X10_beginsAnew_58 1 rfl ki_1 (by decide) rfl ?_
      refine z_goto cx 44 d_X10_beginsAnew_61 (by decide) ?_
      exact z_lv [1, 0] _ rfl (hs44 (b44_L1 + 1) M17 hF)
  have hL2 : ∀ (fuel : Nat), ∀ (b2_L1 : Int32) (M : zMem), itF (fun _ _ => none) (F_X10_beginsAnew_2) fuel b2_L1 M = some M9 → zJ p l e rm_X10_beginsAnew s m args below meth c G shM ad n A 2 (MQ below (zQ G shM ad n M9 none A) args s 0 0 A) 0 0 M 2 [(0, .ref (ad 0)), (1, .int b2_L1)] [] := by
    intro fuel
    induction fuel with
    | zero => intro b2_L1 M hF; cases hF
    | succ fuel hs2 =>
      intro b2_L1 M hF
      have hF : F_X10_beginsAnew_2 (itF (fun _ _ => none) (F_X10_beginsAnew_2) fuel) b2_L1 M = some M9 := hF
      generalize itF (fun _ _ => none) (F_X10_beginsAnew_2) fuel = self2 at hs2 hF
      unfold F_X10_beginsAnew_2 at hF
      refine z_iload_n cx d_X10_beginsAnew_2 1 rfl ?_
      refine z_iconst (v := 3) cx d_X10_beginsAnew_3 ki_3 ?_
      refine z_icmp_ge cx 25 d_X10_beginsAnew_4 (by decide) hF (fun hF => ?_) (fun hF => ?_)
      · refine z_aload_n cx d_X10_beginsAnew_25 0 rfl ?_
        refine z_getR cx hT fg_SunnyPansModel_31 6 rfl d_X10_beginsAnew_26 ?_
        refine z_aload_n cx d_X10_beginsAnew_29 0 rfl ?_
        refine z_getR cx hT fg_SunnyPansModel_34 17 rfl d_X10_beginsAnew_30 ?_
        refine z_aload_n cx d_X10_beginsAnew_33 0 rfl ?_
        refine z_getR cx hT fg_SunnyPansModel_23 4 rfl d_X10_beginsAnew_34 ?_
        refine z_iconst (v := 2) cx d_X10_beginsAnew_37 ki_2 ?_
        refine z_iald cx (tfM_11_4 hT) za_28 (zvp (by decide +kernel)) 2 rfl d_X10_beginsAnew_38 ?_
        obtain ⟨M18, hc, hF⟩ := zbv_inv hF
        refine z_callS cx (As := [.ref (ad 6), .ref (ad 17), .int (M.1 4 2)]) (rest := []) (c_X10_lays l cx.2.2.2.1.1 M 6 10 17 10 (M.1 4 2) (tfM_11_6 hT) za_30 (fun i hi => teM_30 (tfM_11_6 hT) hi) (tfM_11_17 hT) za_30 (fun i hi => teM_30 (tfM_11_17 hT) hi) hc) cs_SunnyPansModel_168 ⟨rfl, rfl, Nat.le_of_ble_eq_true rfl, Nat.le_of_ble_eq_true rfl⟩ rfl rfl ⟨Nat.zero_le _, Nat.zero_le _⟩ (Nat.le_of_ble_eq_true rfl) d_X10_beginsAnew_39 ?_
        refine z_iconst (v := 0) cx d_X10_beginsAnew_42 ki_0 ?_
        refine z_istore_n cx 1 [(1, .int (0 : Int32)), (0, .ref (ad 0))] d_X10_beginsAnew_43 rfl (by decide) rfl ?_
        exact z_lv [1, 0] _ rfl (hL44 zFuel (0 : Int32) M18 hF)
      refine z_aload_n cx d_X10_beginsAnew_7 0 rfl ?_
      refine z_getR cx hT fg_SunnyPansModel_23 4 rfl d_X10_beginsAnew_8 ?_
      refine z_iload_n cx d_X10_beginsAnew_11 1 rfl ?_
      refine z_aload_n cx d_X10_beginsAnew_12 0 rfl ?_
      refine z_getR cx hT fg_SunnyPansModel_20 3 rfl d_X10_beginsAnew_13 ?_
      refine z_iload_n cx d_X10_beginsAnew_16 1 rfl ?_
      obtain ⟨hi19, hF⟩ := gin_inv hF
      refine z_iald cx (tfM_11_3 hT) za_28 hi19 b2_L1.toNatClampNeg rfl d_X10_beginsAnew_17 ?_
      refine z_iast cx (tfM_11_4 hT) za_28 hi19 b2_L1.toNatClampNeg rfl d_X10_beginsAnew_18 ?_
      refine z_nmM hF (fun M20 hF => ?_)
      refine z_iinc cx 1 1 [(1, .int (b2_L1 + 1)), (0, .ref (ad 0))] d_X10_beginsAnew_19 1 rfl ki_1 (by decide) rfl ?_
      refine z_goto cx 2 d_X10_beginsAnew_22 (by decide) ?_
      exact z_lv [1, 0] _ rfl (hs2 (b2_L1 + 1) M20 hF)
  unfold F_X10_beginsAnew at hF
  refine z_iconst (v := 0) cx d_X10_beginsAnew_0 ki_0 ?_
  refine z_istore_n cx 1 [(1, .int (0 : Int32)), (0, .ref (ad 0))] d_X10_beginsAnew_1 rfl (by decide) rfl ?_
  exact z_lv [1, 0] _ rfl (hL2 zFuel (0 : Int32) M hF)
