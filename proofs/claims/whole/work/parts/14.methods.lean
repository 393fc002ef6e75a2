/-! SunnyPans.cast -/
set_option maxRecDepth 100000 in
theorem wd_1287 : Cond.methodLink "SunnyPans" 266 yX5_shadedBy ∈ tbG := tw5 227 rfl rfl
theorem cv_SunnyPans_266 : zCV "SunnyPans" 266 "SunnyPans$Plan" yX5_shadedBy cX5_shadedBy 10 (some .long) 3 := zCV_of wd_1287 wd_756 wd_757 wd_108 wd_758 (by decide +kernel)
theorem d_X9_cast_0 : decode cX9_cast 0 = .ok (.aload_n 0, 1) := by decide +kernel
theorem d_X9_cast_1 : decode cX9_cast 1 = .ok (.iload_n 1, 1) := by decide +kernel
theorem d_X9_cast_2 : decode cX9_cast 2 = .ok (.iload_n 2, 1) := by decide +kernel
theorem d_X9_cast_3 : decode cX9_cast 3 = .ok (.invokevirtual 210, 3) := by decide +kernel
theorem d_X9_cast_6 : decode cX9_cast 6 = .ok (.aload_n 0, 1) := by decide +kernel
theorem d_X9_cast_7 : decode cX9_cast 7 = .ok (.iload_n 3, 1) := by decide +kernel
theorem d_X9_cast_8 : decode cX9_cast 8 = .ok (.invokevirtual 235, 3) := by decide +kernel
theorem d_X9_cast_11 : decode cX9_cast 11 = .ok (.iload_n 1, 1) := by decide +kernel
theorem d_X9_cast_12 : decode cX9_cast 12 = .ok (.iload_n 2, 1) := by decide +kernel
theorem d_X9_cast_13 : decode cX9_cast 13 = .ok (.invokestatic 213, 3) := by decide +kernel
theorem d_X9_cast_16 : decode cX9_cast 16 = .ok (.istore 4, 2) := by decide +kernel
theorem d_X9_cast_18 : decode cX9_cast 18 = .ok (.aload_n 0, 1) := by decide +kernel
theorem d_X9_cast_19 : decode cX9_cast 19 = .ok (.getfield 19, 3) := by decide +kernel
theorem d_X9_cast_22 : decode cX9_cast 22 = .ok (.getfield 159, 3) := by decide +kernel
theorem d_X9_cast_25 : decode cX9_cast 25 = .ok (.getfield 184, 3) := by decide +kernel
theorem d_X9_cast_28 : decode cX9_cast 28 = .ok (.iload 4, 2) := by decide +kernel
theorem d_X9_cast_30 : decode cX9_cast 30 = .ok (.iaload, 1) := by decide +kernel
theorem d_X9_cast_31 : decode cX9_cast 31 = .ok (.istore 5, 2) := by decide +kernel
theorem d_X9_cast_33 : decode cX9_cast 33 = .ok (.iload 5, 2) := by decide +kernel
theorem d_X9_cast_35 : decode cX9_cast 35 = .ok (.ifCond .le 23, 3) := by decide +kernel
theorem d_X9_cast_38 : decode cX9_cast 38 = .ok (.aload_n 0, 1) := by decide +kernel
theorem d_X9_cast_39 : decode cX9_cast 39 = .ok (.getfield 62, 3) := by decide +kernel
theorem d_X9_cast_42 : decode cX9_cast 42 = .ok (.iload 4, 2) := by decide +kernel
theorem d_X9_cast_44 : decode cX9_cast 44 = .ok (.iload 5, 2) := by decide +kernel
theorem d_X9_cast_46 : decode cX9_cast 46 = .ok (.iload_n 3, 1) := by decide +kernel
theorem d_X9_cast_47 : decode cX9_cast 47 = .ok (.invokevirtual 266, 3) := by decide +kernel
theorem d_X9_cast_50 : decode cX9_cast 50 = .ok (.invokestatic 194, 3) := by decide +kernel
theorem d_X9_cast_53 : decode cX9_cast 53 = .ok (.iconst 1, 1) := by decide +kernel
theorem d_X9_cast_54 : decode cX9_cast 54 = .ok (.isub, 1) := by decide +kernel
theorem d_X9_cast_55 : decode cX9_cast 55 = .ok (.goto 4, 3) := by decide +kernel
theorem d_X9_cast_58 : decode cX9_cast 58 = .ok (.iconst 0, 1) := by decide +kernel
theorem d_X9_cast_59 : decode cX9_cast 59 = .ok (.ireturn, 1) := by decide +kernel
noncomputable def F_X9_cast (M : zMem) (p0 : Int32) (p1 : Int32) (p2 : Int32) : Option (Nat × Int32 × zMem) :=
  zbx (F_X9_needPlace M p0 p1) (g := zxp) fun _ M1 =>
  zbx (F_X9_needHour M1 p2) (g := zxp) fun _ M6 =>
  zb (F_X9_placeOf M6 p0 p1) fun v12 M11 =>
  gin v12 64 <|
  zl (M11.1 7 v12.toNatClampNeg) fun v14 =>
  if v14 ≤ 0 then
    some (0, (0 : Int32), M11)
  else
    gd (shX (M11.2.2 0 8) == 6) <|
    zb (F_X5_shadedBy M11 (M11.2.2 0 8) v12 v14 p2) fun v17 M16 =>
    zb (F_J13_bitCount_95d88 M16 v17) fun v19 M18 =>
    some (0, (v19 - (1 : Int32)), M18)
def rm_X9_cast : Room := { frames := 11, cells := 2, slots := 12, locals := 183 }
set_option maxHeartbeats 4000000 in
set_option maxRecDepth 100000 in
theorem c_X9_cast (l : Launch) {G : zG} {ad : Nat → Nat} {n : Nat} (hA : zInj ad n) (M : zMem) (p0 : Int32) (p1 : Int32) (p2 : Int32) (hl : l.stackTraces = false) (hT : zT shX n 0 10) {k9 : Nat} {r9 : Int32} {M9 : zMem} (hF : F_X9_cast M p0 p1 p2 = some (k9, r9, M9)) : zMX l yX9_cast cX9_cast 6 (some .int) rm_X9_cast 2 12 G shX ad n M [.ref (ad 0), .int p0, .int p1, .int p2] k9 (some (.int r9)) M9 := by
  refine zM_ofX hA (by decide +kernel) (lv := [(0, .ref (ad 0)), (1, .int p0), (2, .int p1), (3, .int p2)]) (Nat.le_of_ble_eq_true rfl) rfl (fun p e s m args below meth c A cx hr ht => ?_)
  unfold F_X9_cast at hF
  refine z_aload_n cx d_X9_cast_0 0 rfl ?_
  refine z_iload_n cx d_X9_cast_1 1 rfl ?_
  refine z_iload_n cx d_X9_cast_2 2 rfl ?_
  obtain ⟨k2, v3, M1, hc, hF, hX4⟩ := zbx_inv hF
  refine z_callVX cx ht (As := [.int p0, .int p1]) (rest := []) (c_X9_needPlace l cx.2.2.2.1.1 M p0 p1 hl hT hc) (fun q => zxp_inv (hX4 q)) hT zo_10 cv_SunnyPans_210 ⟨rfl, rfl, Nat.le_of_ble_eq_true rfl, Nat.le_of_ble_eq_true rfl⟩ rfl rfl ⟨Nat.le_of_ble_eq_true rfl, Nat.le_of_ble_eq_true rfl⟩ ⟨Nat.le_of_ble_eq_true rfl, Nat.le_of_ble_eq_true rfl⟩ (Nat.le_of_ble_eq_true rfl) d_X9_cast_3 (fun kq5 => ?_)
  have hF := hF kq5
  refine z_aload_n cx d_X9_cast_6 0 rfl ?_
  refine z_iload_n cx d_X9_cast_7 3 rfl ?_
  obtain ⟨k7, v8, M6, hc, hF, hX9⟩ := zbx_inv hF
  refine z_callVX cx ht (As := [.int p2]) (rest := []) (c_X9_needHour l cx.2.2.2.1.1 M1 p2 hl hT hc) (fun q => zxp_inv (hX9 q)) hT zo_10 cv_SunnyPans_235 ⟨rfl, rfl, Nat.le_of_ble_eq_true rfl, Nat.le_of_ble_eq_true rfl⟩ rfl rfl ⟨Nat.le_of_ble_eq_true rfl, Nat.le_of_ble_eq_true rfl⟩ ⟨Nat.le_of_ble_eq_true rfl, Nat.le_of_ble_eq_true rfl⟩ (Nat.le_of_ble_eq_true rfl) d_X9_cast_8 (fun kq10 => ?_)
  have hF := hF kq10
  refine z_iload_n cx d_X9_cast_11 1 rfl ?_
  refine z_iload_n cx d_X9_cast_12 2 rfl ?_
  obtain ⟨v12, M11, hc, hF⟩ := zb_inv hF
  refine z_callS cx (As := [.int p0, .int p1]) (rest := []) (c_X9_placeOf l cx.2.2.2.1.1 M6 p0 p1  hc) cs_SunnyPans_213 ⟨rfl, rfl, Nat.le_of_ble_eq_true rfl, Nat.le_of_ble_eq_true rfl⟩ rfl rfl ⟨Nat.le_of_ble_eq_true rfl, Nat.le_of_ble_eq_true rfl⟩ (Nat.le_of_ble_eq_true rfl) d_X9_cast_13 ?_
  refine z_istore cx 4 [(4, .int v12), (0, .ref (ad 0)), (1, .int p0), (2, .int p1), (3, .int p2)] d_X9_cast_16 (by decide) rfl ?_
  refine z_aload_n cx d_X9_cast_18 1 rfl ?_
  refine z_getR cx hT fg_SunnyPans_19 3 rfl d_X9_cast_19 ?_
  refine z_getR cx (tfX_10_3 hT) fg_SunnyPans_159 4 rfl d_X9_cast_22 ?_
  refine z_getR cx (tfX_8_1 (tfX_10_3 hT)) fg_SunnyPans_184 7 rfl d_X9_cast_25 ?_
  refine z_iload cx d_X9_cast_28 0 rfl ?_
  obtain ⟨hi13, hF⟩ := gin_inv hF
  refine z_iald cx (tfX_5_3 (tfX_8_1 (tfX_10_3 hT))) za_16 hi13 v12.toNatClampNeg rfl d_X9_cast_30 ?_
  refine z_nm hF (fun v14 hF => ?_)
  refine z_istore cx 5 [(5, .int v14), (4, .int v12), (0, .ref (ad 0)), (1, .int p0), (2, .int p1), (3, .int p2)] d_X9_cast_31 (by decide) rfl ?_
  refine z_iload cx d_X9_cast_33 0 rfl ?_
  refine z_if_le cx 58 d_X9_cast_35 (by decide) hF (fun hF => ?_) (fun hF => ?_)
  · refine z_iconst (v := 0) cx d_X9_cast_58 ki_0 ?_
    exact z_iretX cx hr rfl hF ⟨Nat.le_of_ble_eq_true rfl, Nat.le_of_ble_eq_true rfl⟩ d_X9_cast_59
  refine z_aload_n cx d_X9_cast_38 2 rfl ?_
  obtain ⟨hg15, hF⟩ := gd_inv hF
  refine z_getD cx hT fg_SunnyPans_62 d_X9_cast_39 ?_
  refine z_iload cx d_X9_cast_42 1 rfl ?_
  refine z_iload cx d_X9_cast_44 0 rfl ?_
  refine z_iload_n cx d_X9_cast_46 5 rfl ?_
  obtain ⟨v17, M16, hc, hF⟩ := zb_inv hF
  refine z_callV cx (As := [.int v12, .int v14, .int p2]) (rest := []) (c_X5_shadedBy l cx.2.2.2.1.1 M11 (M11.2.2 0 8) v12 v14 p2 (td_6 hT hg15) hc) (td_6 hT hg15) zo_6 cv_SunnyPans_266 ⟨rfl, rfl, Nat.le_of_ble_eq_true rfl, Nat.le_of_ble_eq_true rfl⟩ rfl rfl ⟨Nat.le_of_ble_eq_true rfl, Nat.le_of_ble_eq_true rfl⟩ (Nat.le_of_ble_eq_true rfl) d_X9_cast_47 ?_
  obtain ⟨v19, M18, hc, hF⟩ := zb_inv hF
  refine z_callS cx (As := [.long v17]) (rest := []) (c_J13_bitCount_95d88 l cx.2.2.2.1.1 M16 v17  hc) cs_SunnyPans_194 ⟨rfl, rfl, Nat.le_of_ble_eq_true rfl, Nat.le_of_ble_eq_true rfl⟩ rfl rfl ⟨Nat.le_of_ble_eq_true rfl, Nat.le_of_ble_eq_true rfl⟩ (Nat.le_of_ble_eq_true rfl) d_X9_cast_50 ?_
  refine z_iconst (v := 1) cx d_X9_cast_53 ki_1 ?_
  refine z_isub cx d_X9_cast_54 ?_
  refine z_goto cx 59 d_X9_cast_55 (by decide) ?_
  exact z_iretX cx hr rfl hF ⟨Nat.le_of_ble_eq_true rfl, Nat.le_of_ble_eq_true rfl⟩ d_X9_cast_59
/-! SunnyPans.ready -/
set_option maxRecDepth 100000 in
theorem wd_1295 : Cond.methodLink "SunnyPans" 270 yX4_canScrape ∈ tbG := tw5 235 rfl rfl
theorem cv_SunnyPans_270 : zCV "SunnyPans" 270 "SunnyPans$Pans" yX4_canScrape cX4_canScrape 3 (some .boolean) 2 := zCV_of wd_1295 wd_914 wd_915 wd_104 wd_916 (by decide +kernel)
theorem d_X9_ready_0 : decode cX9_ready 0 = .ok (.aload_n 0, 1) := by decide +kernel
theorem d_X9_ready_1 : decode cX9_ready 1 = .ok (.iload_n 1, 1) := by decide +kernel
theorem d_X9_ready_2 : decode cX9_ready 2 = .ok (.iload_n 2, 1) := by decide +kernel
theorem d_X9_ready_3 : decode cX9_ready 3 = .ok (.invokevirtual 210, 3) := by decide +kernel
theorem d_X9_ready_6 : decode cX9_ready 6 = .ok (.aload_n 0, 1) := by decide +kernel
theorem d_X9_ready_7 : decode cX9_ready 7 = .ok (.iload_n 3, 1) := by decide +kernel
theorem d_X9_ready_8 : decode cX9_ready 8 = .ok (.invokevirtual 244, 3) := by decide +kernel
theorem d_X9_ready_11 : decode cX9_ready 11 = .ok (.iconst 0, 1) := by decide +kernel
theorem d_X9_ready_12 : decode cX9_ready 12 = .ok (.istore 4, 2) := by decide +kernel
theorem d_X9_ready_14 : decode cX9_ready 14 = .ok (.iconst 0, 1) := by decide +kernel
theorem d_X9_ready_15 : decode cX9_ready 15 = .ok (.istore 5, 2) := by decide +kernel
theorem d_X9_ready_17 : decode cX9_ready 17 = .ok (.iload 5, 2) := by decide +kernel
theorem d_X9_ready_19 : decode cX9_ready 19 = .ok (.aload_n 0, 1) := by decide +kernel
theorem d_X9_ready_20 : decode cX9_ready 20 = .ok (.getfield 62, 3) := by decide +kernel
theorem d_X9_ready_23 : decode cX9_ready 23 = .ok (.getfield 162, 3) := by decide +kernel
theorem d_X9_ready_26 : decode cX9_ready 26 = .ok (.if_icmp .ge 42, 3) := by decide +kernel
theorem d_X9_ready_29 : decode cX9_ready 29 = .ok (.aload_n 0, 1) := by decide +kernel
theorem d_X9_ready_30 : decode cX9_ready 30 = .ok (.getfield 19, 3) := by decide +kernel
theorem d_X9_ready_33 : decode cX9_ready 33 = .ok (.getfield 159, 3) := by decide +kernel
theorem d_X9_ready_36 : decode cX9_ready 36 = .ok (.iload 5, 2) := by decide +kernel
theorem d_X9_ready_38 : decode cX9_ready 38 = .ok (.iload_n 3, 1) := by decide +kernel
theorem d_X9_ready_39 : decode cX9_ready 39 = .ok (.invokestatic 213, 3) := by decide +kernel
theorem d_X9_ready_42 : decode cX9_ready 42 = .ok (.iload_n 1, 1) := by decide +kernel
theorem d_X9_ready_43 : decode cX9_ready 43 = .ok (.iload_n 2, 1) := by decide +kernel
theorem d_X9_ready_44 : decode cX9_ready 44 = .ok (.invokestatic 213, 3) := by decide +kernel
theorem d_X9_ready_47 : decode cX9_ready 47 = .ok (.invokevirtual 270, 3) := by decide +kernel
theorem d_X9_ready_50 : decode cX9_ready 50 = .ok (.ifCond .eq 12, 3) := by decide +kernel
theorem d_X9_ready_53 : decode cX9_ready 53 = .ok (.iload 4, 2) := by decide +kernel
theorem d_X9_ready_55 : decode cX9_ready 55 = .ok (.iconst 1, 1) := by decide +kernel
theorem d_X9_ready_56 : decode cX9_ready 56 = .ok (.iload 5, 2) := by decide +kernel
theorem d_X9_ready_58 : decode cX9_ready 58 = .ok (.ishl, 1) := by decide +kernel
theorem d_X9_ready_59 : decode cX9_ready 59 = .ok (.ior, 1) := by decide +kernel
theorem d_X9_ready_60 : decode cX9_ready 60 = .ok (.istore 4, 2) := by decide +kernel
theorem d_X9_ready_62 : decode cX9_ready 62 = .ok (.iinc 5 1, 3) := by decide +kernel
theorem d_X9_ready_65 : decode cX9_ready 65 = .ok (.goto (-48), 3) := by decide +kernel
theorem d_X9_ready_68 : decode cX9_ready 68 = .ok (.iload 4, 2) := by decide +kernel
theorem d_X9_ready_70 : decode cX9_ready 70 = .ok (.ireturn, 1) := by decide +kernel
noncomputable def F_X9_ready_62 (p0 : Int32) (p1 : Int32) (p2 : Int32) (self17 : Int32 → Int32 → Int32 → Int32 → Int32 → zMem → Option (Nat × Int32 × zMem)) (b62_L1 : Int32) (b62_L2 : Int32) (b62_L3 : Int32) (b62_L4 : Int32) (b62_L5 : Int32) (M : zMem) : Option (Nat × Int32 × zMem) :=
  self17 b62_L1 b62_L2 b62_L3 b62_L4 (b62_L5 + 1) M
noncomputable def F_X9_ready_17 (p0 : Int32) (p1 : Int32) (p2 : Int32) (self17 : Int32 → Int32 → Int32 → Int32 → Int32 → zMem → Option (Nat × Int32 × zMem)) (b17_L1 : Int32) (b17_L2 : Int32) (b17_L3 : Int32) (b17_L4 : Int32) (b17_L5 : Int32) (M : zMem) : Option (Nat × Int32 × zMem) :=
  gd (shX (M.2.2 0 8) == 6) <|
  if (M.1 (M.2.2 0 8) 0) ≤ b17_L5 then
    some (0, b17_L4, M)
  else
    zb (F_X9_placeOf M b17_L5 b17_L3) fun v3 M2 =>
    zb (F_X9_placeOf M2 b17_L1 b17_L2) fun v5 M4 =>
    zb (F_X4_canScrape M4 4 v3 v5) fun v7 M6 =>
    if v7 = 0 then
      F_X9_ready_62 p0 p1 p2 self17 b17_L1 b17_L2 b17_L3 b17_L4 b17_L5 M6
    else
      zl (b17_L4 ||| ((1 : Int32) <<< (b17_L5 &&& 31))) fun v8 =>
      F_X9_ready_62 p0 p1 p2 self17 b17_L1 b17_L2 b17_L3 v8 b17_L5 M6
noncomputable def F_X9_ready (M : zMem) (p0 : Int32) (p1 : Int32) (p2 : Int32) : Option (Nat × Int32 × zMem) :=
  zbx (F_X9_needPlace M p0 p1) (g := zxp) fun _ M9 =>
  zbx (F_X9_needRow M9 p2) (g := zxp) fun _ M14 =>
  itF (fun _ _ _ _ _ _ => none) (F_X9_ready_17 p0 p1 p2) zFuel p0 p1 p2 (0 : Int32) (0 : Int32) M14
def rm_X9_ready : Room := { frames := 11, cells := 2, slots := 12, locals := 183 }
set_option maxHeartbeats 4000000 in
set_option maxRecDepth 100000 in
theorem c_X9_ready (l : Launch) {G : zG} {ad : Nat → Nat} {n : Nat} (hA : zInj ad n) (M : zMem) (p0 : Int32) (p1 : Int32) (p2 : Int32) (hl : l.stackTraces = false) (hT : zT shX n 0 10) {k9 : Nat} {r9 : Int32} {M9 : zMem} (hF : F_X9_ready M p0 p1 p2 = some (k9, r9, M9)) : zMX l yX9_ready cX9_ready 6 (some .int) rm_X9_ready 2 12 G shX ad n M [.ref (ad 0), .int p0, .int p1, .int p2] k9 (some (.int r9)) M9 := by
  refine zM_ofX hA (by decide +kernel) (lv := [(0, .ref (ad 0)), (1, .int p0), (2, .int p1), (3, .int p2)]) (Nat.le_of_ble_eq_true rfl) rfl (fun p e s m args below meth c A cx hr ht => ?_)
  have hb62 : ∀ (self17 : Int32 → Int32 → Int32 → Int32 → Int32 → zMem → Option (Nat × Int32 × zMem)) (hs17 : ∀ (b17_L1 : Int32) (b17_L2 : Int32) (b17_L3 : Int32) (b17_L4 : Int32) (b17_L5 : Int32) (M : zMem), self17 b17_L1 b17_L2 b17_L3 b17_L4 b17_L5 M = some (k9, r9, M9) → zJ p l e rm_X9_ready s m args below meth c G shX ad n A 6 (vx_MQ below (zQX G shX ad n M9 k9 (some (.int r9)) A) (zXC G shX ad n M9 k9 A) args s 2 12 A) 2 12 M 17 [(0, .ref (ad 0)), (1, .int b17_L1), (2, .int b17_L2), (3, .int b17_L3), (4, .int b17_L4), (5, .int b17_L5)] []), ∀ (b62_L1 : Int32) (b62_L2 : Int32) (b62_L3 : Int32) (b62_L4 : Int32) (b62_L5 : Int32) (M : zMem), F_X9_ready_62 p0 p1 p2 self17 b62_L1 b62_L2 b62_L3 b62_L4 b62_L5 M = some (k9, r9, M9) → zJ p l e rm_X9_ready s m args below meth c G shX ad n A 6 (vx_MQ below (zQX G shX ad n M9 k9 (some (.int r9)) A) (zXC G shX ad n M9 k9 A) args s 2 12 A) 2 12 M 62 [(0, .ref (ad 0)), (1, .int b62_L1), (2, .int b62_L2), (3, .int b62_L3), (4, .int b62_L4), (5, .int b62_L5)] [] := by
    intro self17 hs17 b62_L1 b62_L2 b62_L3 b62_L4 b62_L5 M hF
    unfold F_X9_ready_62 at hF
    refine z_iinc cx 5 1 [(5, .int (b62_L5 + 1)), (0, .ref (ad 0)), (1, .int b62_L1), (2, .int b62_L2), (3, .int b62_L3), (4, .int b62_L4)] d_X9_ready_62 5 rfl ki_1 (by decide) rfl ?_
    refine z_goto cx 17 d_X9_ready_65 (by decide) ?_
    exact z_lv [1, 2, 3, 4, 5, 0] _ rfl (hs17 b62_L1 b62_L2 b62_L3 b62_L4 (b62_L5 + 1) M hF)
  have hL17 : ∀ (fuel : Nat), ∀ (b17_L1 : Int32) (b17_L2 : Int32) (b17_L3 : Int32) (b17_L4 : Int32) (b17_L5 : Int32) (M : zMem), itF (fun _ _ _ _ _ _ => none) (F_X9_ready_17 p0 p1 p2) fuel b17_L1 b17_L2 b17_L3 b17_L4 b17_L5 M = some (k9, r9, M9) → zJ p l e rm_X9_ready s m args below meth c G shX ad n A 6 (vx_MQ below (zQX G shX ad n M9 k9 (some (.int r9)) A) (zXC G shX ad n M9 k9 A) args s 2 12 A) 2 12 M 17 [(0, .ref (ad 0)), (1, .int b17_L1), (2, .int b17_L2), (3, .int b17_L3), (4, .int b17_L4), (5, .int b17_L5)] [] := by
    intro fuel
    induction fuel with
    | zero => intro b17_L1 b17_L2 b17_L3 b17_L4 b17_L5 M hF; cases hF
    | succ fuel hs17 =>
      intro b17_L1 b17_L2 b17_L3 b17_L4 b17_L5 M hF
      have hF : F_X9_ready_17 p0 p1 p2 (itF (fun _ _ _ _ _ _ => none) (F_X9_ready_17 p0 p1 p2) fuel) b17_L1 b17_L2 b17_L3 b17_L4 b17_L5 M = some (k9, r9, M9) := hF
      generalize itF (fun _ _ _ _ _ _ => none) (F_X9_ready_17 p0 p1 p2) fuel = self17 at hs17 hF
      unfold F_X9_ready_17 at hF
      refine z_iload cx d_X9_ready_17 5 rfl ?_
      refine z_aload_n cx d_X9_ready_19 0 rfl ?_
      obtain ⟨hg1, hF⟩ := gd_inv hF
      refine z_getD cx hT fg_SunnyPans_62 d_X9_ready_20 ?_
      refine z_getI cx (td_6 hT hg1) fg_SunnyPans_162 d_X9_ready_23 ?_
      refine z_icmp_ge cx 68 d_X9_ready_26 (by decide) hF (fun hF => ?_) (fun hF => ?_)
      · refine z_iload cx d_X9_ready_68 4 rfl ?_
        exact z_iretX cx hr rfl hF ⟨Nat.le_of_ble_eq_true rfl, Nat.le_of_ble_eq_true rfl⟩ d_X9_ready_70
      refine z_aload_n cx d_X9_ready_29 0 rfl ?_
      refine z_getR cx hT fg_SunnyPans_19 3 rfl d_X9_ready_30 ?_
      refine z_getR cx (tfX_10_3 hT) fg_SunnyPans_159 4 rfl d_X9_ready_33 ?_
      refine z_iload cx d_X9_ready_36 5 rfl ?_
      refine z_iload_n cx d_X9_ready_38 3 rfl ?_
      obtain ⟨v3, M2, hc, hF⟩ := zb_inv hF
      refine z_callS cx (As := [.int b17_L5, .int b17_L3]) (rest := [.ref (ad 4)]) (c_X9_placeOf l cx.2.2.2.1.1 M b17_L5 b17_L3  hc) cs_SunnyPans_213 ⟨rfl, rfl, Nat.le_of_ble_eq_true rfl, Nat.le_of_ble_eq_true rfl⟩ rfl rfl ⟨Nat.le_of_ble_eq_true rfl, Nat.le_of_ble_eq_true rfl⟩ (Nat.le_of_ble_eq_true rfl) d_X9_ready_39 ?_
      refine z_iload_n cx d_X9_ready_42 1 rfl ?_
      refine z_iload_n cx d_X9_ready_43 2 rfl ?_
      obtain ⟨v5, M4, hc, hF⟩ := zb_inv hF
      refine z_callS cx (As := [.int b17_L1, .int b17_L2]) (rest := [.int v3, .ref (ad 4)]) (c_X9_placeOf l cx.2.2.2.1.1 M2 b17_L1 b17_L2  hc) cs_SunnyPans_213 ⟨rfl, rfl, Nat.le_of_ble_eq_true rfl, Nat.le_of_ble_eq_true rfl⟩ rfl rfl ⟨Nat.le_of_ble_eq_true rfl, Nat.le_of_ble_eq_true rfl⟩ (Nat.le_of_ble_eq_true rfl) d_X9_ready_44 ?_
      obtain ⟨v7, M6, hc, hF⟩ := zb_inv hF
      refine z_callV cx (As := [.int v3, .int v5]) (rest := []) (c_X4_canScrape l cx.2.2.2.1.1 M4 4 v3 v5 (tfX_8_1 (tfX_10_3 hT)) hc) (tfX_8_1 (tfX_10_3 hT)) zo_5 cv_SunnyPans_270 ⟨rfl, rfl, Nat.le_of_ble_eq_true rfl, Nat.le_of_ble_eq_true rfl⟩ rfl rfl ⟨Nat.le_of_ble_eq_true rfl, Nat.le_of_ble_eq_true rfl⟩ (Nat.le_of_ble_eq_true rfl) d_X9_ready_47 ?_
      refine z_if_eq cx 62 d_X9_ready_50 (by decide) hF (fun hF => ?_) (fun hF => ?_)
      · exact hb62 self17 hs17 b17_L1 b17_L2 b17_L3 b17_L4 b17_L5 M6 hF
      refine z_iload cx d_X9_ready_53 4 rfl ?_
      refine z_iconst (v := 1) cx d_X9_ready_55 ki_1 ?_
      refine z_iload cx d_X9_ready_56 5 rfl ?_
      refine z_ishl cx d_X9_ready_58 ?_
      refine z_ior cx d_X9_ready_59 ?_
      refine z_nm hF (fun v8 hF => ?_)
      refine z_istore cx 4 [(4, .int v8), (0, .ref (ad 0)), (1, .int b17_L1), (2, .int b17_L2), (3, .int b17_L3), (5, .int b17_L5)] d_X9_ready_60 (by decide) rfl ?_
      exact z_lv [1, 2, 3, 4, 0, 5] _ rfl (hb62 self17 hs17 b17_L1 b17_L2 b17_L3 v8 b17_L5 M6 hF)
  unfold F_X9_ready at hF
  refine z_aload_n cx d_X9_ready_0 0 rfl ?_
  refine z_iload_n cx d_X9_ready_1 1 rfl ?_
  refine z_iload_n cx d_X9_ready_2 2 rfl ?_
  obtain ⟨k10, v11, M9, hc, hF, hX12⟩ := zbx_inv hF
  refine z_callVX cx ht (As := [.int p0, .int p1]) (rest := []) (c_X9_needPlace l cx.2.2.2.1.1 M p0 p1 hl hT hc) (fun q => zxp_inv (hX12 q)) hT zo_10 cv_SunnyPans_210 ⟨rfl, rfl, Nat.le_of_ble_eq_true rfl, Nat.le_of_ble_eq_true rfl⟩ rfl rfl ⟨Nat.le_of_ble_eq_true rfl, Nat.le_of_ble_eq_true rfl⟩ ⟨Nat.le_of_ble_eq_true rfl, Nat.le_of_ble_eq_true rfl⟩ (Nat.le_of_ble_eq_true rfl) d_X9_ready_3 (fun kq13 => ?_)
  have hF := hF kq13
  refine z_aload_n cx d_X9_ready_6 0 rfl ?_
  refine z_iload_n cx d_X9_ready_7 3 rfl ?_
  obtain ⟨k15, v16, M14, hc, hF, hX17⟩ := zbx_inv hF
  refine z_callVX cx ht (As := [.int p2]) (rest := []) (c_X9_needRow l cx.2.2.2.1.1 M9 p2 hl hT hc) (fun q => zxp_inv (hX17 q)) hT zo_10 cv_SunnyPans_244 ⟨rfl, rfl, Nat.le_of_ble_eq_true rfl, Nat.le_of_ble_eq_true rfl⟩ rfl rfl ⟨Nat.le_of_ble_eq_true rfl, Nat.le_of_ble_eq_true rfl⟩ ⟨Nat.le_of_ble_eq_true rfl, Nat.le_of_ble_eq_true rfl⟩ (Nat.le_of_ble_eq_true rfl) d_X9_ready_8 (fun kq18 => ?_)
  have hF := hF kq18
  refine z_iconst (v := 0) cx d_X9_ready_11 ki_0 ?_
  refine z_istore cx 4 [(4, .int (0 : Int32)), (0, .ref (ad 0)), (1, .int p0), (2, .int p1), (3, .int p2)] d_X9_ready_12 (by decide) rfl ?_
  refine z_iconst (v := 0) cx d_X9_ready_14 ki_0 ?_
  refine z_istore cx 5 [(5, .int (0 : Int32)), (4, .int (0 : Int32)), (0, .ref (ad 0)), (1, .int p0), (2, .int p1), (3, .int p2)] d_X9_ready_15 (by decide) rfl ?_
  exact z_lv [2, 3, 4, 5, 1, 0] _ rfl (hL17 zFuel p0 p1 p2 (0 : Int32) (0 : Int32) M14 hF)
/-! SunnyPans.line -/
theorem d_X9_line_0 : decode cX9_line 0 = .ok (.aload_n 0, 1) := by decide +kernel
theorem d_X9_line_1 : decode cX9_line 1 = .ok (.iload_n 2, 1) := by decide +kernel
theorem d_X9_line_2 : decode cX9_line 2 = .ok (.ifCond .lt 12, 3) := by decide +kernel
theorem d_X9_line_5 : decode cX9_line 5 = .ok (.iload_n 2, 1) := by decide +kernel
theorem d_X9_line_6 : decode cX9_line 6 = .ok (.iconst 3, 1) := by decide +kernel
theorem d_X9_line_7 : decode cX9_line 7 = .ok (.if_icmp .gt 7, 3) := by decide +kernel
theorem d_X9_line_10 : decode cX9_line 10 = .ok (.iconst 1, 1) := by decide +kernel
theorem d_X9_line_11 : decode cX9_line 11 = .ok (.goto 4, 3) := by decide +kernel
theorem d_X9_line_14 : decode cX9_line 14 = .ok (.iconst 0, 1) := by decide +kernel
theorem d_X9_line_15 : decode cX9_line 15 = .ok (.invokevirtual 155, 3) := by decide +kernel
theorem d_X9_line_18 : decode cX9_line 18 = .ok (.iload_n 2, 1) := by decide +kernel
theorem d_X9_line_19 : decode cX9_line 19 = .ok (.ifCond .eq 8, 3) := by decide +kernel
theorem d_X9_line_22 : decode cX9_line 22 = .ok (.iload_n 2, 1) := by decide +kernel
theorem d_X9_line_23 : decode cX9_line 23 = .ok (.iconst 2, 1) := by decide +kernel
theorem d_X9_line_24 : decode cX9_line 24 = .ok (.if_icmp .ne 7, 3) := by decide +kernel
theorem d_X9_line_27 : decode cX9_line 27 = .ok (.iconst 1, 1) := by decide +kernel
theorem d_X9_line_28 : decode cX9_line 28 = .ok (.goto 4, 3) := by decide +kernel
theorem d_X9_line_31 : decode cX9_line 31 = .ok (.iconst 0, 1) := by decide +kernel
theorem d_X9_line_32 : decode cX9_line 32 = .ok (.istore_n 3, 1) := by decide +kernel
theorem d_X9_line_33 : decode cX9_line 33 = .ok (.aload_n 0, 1) := by decide +kernel
theorem d_X9_line_34 : decode cX9_line 34 = .ok (.iload_n 1, 1) := by decide +kernel
theorem d_X9_line_35 : decode cX9_line 35 = .ok (.iconst 0, 1) := by decide +kernel
theorem d_X9_line_36 : decode cX9_line 36 = .ok (.iload_n 3, 1) := by decide +kernel
theorem d_X9_line_37 : decode cX9_line 37 = .ok (.ifCond .eq 13, 3) := by decide +kernel
theorem d_X9_line_40 : decode cX9_line 40 = .ok (.aload_n 0, 1) := by decide +kernel
theorem d_X9_line_41 : decode cX9_line 41 = .ok (.getfield 62, 3) := by decide +kernel
theorem d_X9_line_44 : decode cX9_line 44 = .ok (.getfield 165, 3) := by decide +kernel
theorem d_X9_line_47 : decode cX9_line 47 = .ok (.goto 10, 3) := by decide +kernel
theorem d_X9_line_50 : decode cX9_line 50 = .ok (.aload_n 0, 1) := by decide +kernel
theorem d_X9_line_51 : decode cX9_line 51 = .ok (.getfield 62, 3) := by decide +kernel
theorem d_X9_line_54 : decode cX9_line 54 = .ok (.getfield 162, 3) := by decide +kernel
theorem d_X9_line_57 : decode cX9_line 57 = .ok (.iconst 1, 1) := by decide +kernel
theorem d_X9_line_58 : decode cX9_line 58 = .ok (.isub, 1) := by decide +kernel
theorem d_X9_line_59 : decode cX9_line 59 = .ok (.invokestatic 255, 3) := by decide +kernel
theorem d_X9_line_62 : decode cX9_line 62 = .ok (.invokevirtual 155, 3) := by decide +kernel
theorem d_X9_line_65 : decode cX9_line 65 = .ok (.iload_n 2, 1) := by decide +kernel
theorem d_X9_line_66 : decode cX9_line 66 = .ok (.iconst 1, 1) := by decide +kernel
theorem d_X9_line_67 : decode cX9_line 67 = .ok (.if_icmp .gt 16, 3) := by decide +kernel
theorem d_X9_line_70 : decode cX9_line 70 = .ok (.aload_n 0, 1) := by decide +kernel
theorem d_X9_line_71 : decode cX9_line 71 = .ok (.getfield 19, 3) := by decide +kernel
theorem d_X9_line_74 : decode cX9_line 74 = .ok (.getfield 159, 3) := by decide +kernel
theorem d_X9_line_77 : decode cX9_line 77 = .ok (.getfield 174, 3) := by decide +kernel
theorem d_X9_line_80 : decode cX9_line 80 = .ok (.goto 13, 3) := by decide +kernel
theorem d_X9_line_83 : decode cX9_line 83 = .ok (.aload_n 0, 1) := by decide +kernel
theorem d_X9_line_84 : decode cX9_line 84 = .ok (.getfield 19, 3) := by decide +kernel
theorem d_X9_line_87 : decode cX9_line 87 = .ok (.getfield 159, 3) := by decide +kernel
theorem d_X9_line_90 : decode cX9_line 90 = .ok (.getfield 181, 3) := by decide +kernel
theorem d_X9_line_93 : decode cX9_line 93 = .ok (.astore 4, 2) := by decide +kernel
theorem d_X9_line_95 : decode cX9_line 95 = .ok (.iconst 0, 1) := by decide +kernel
theorem d_X9_line_96 : decode cX9_line 96 = .ok (.istore 5, 2) := by decide +kernel
theorem d_X9_line_98 : decode cX9_line 98 = .ok (.iconst 0, 1) := by decide +kernel
theorem d_X9_line_99 : decode cX9_line 99 = .ok (.istore 6, 2) := by decide +kernel
theorem d_X9_line_101 : decode cX9_line 101 = .ok (.iload 6, 2) := by decide +kernel
theorem d_X9_line_103 : decode cX9_line 103 = .ok (.bipush 8, 2) := by decide +kernel
theorem d_X9_line_105 : decode cX9_line 105 = .ok (.if_icmp .ge 36, 3) := by decide +kernel
theorem d_X9_line_108 : decode cX9_line 108 = .ok (.iload 5, 2) := by decide +kernel
theorem d_X9_line_110 : decode cX9_line 110 = .ok (.aload 4, 2) := by decide +kernel
theorem d_X9_line_112 : decode cX9_line 112 = .ok (.iload_n 3, 1) := by decide +kernel
theorem d_X9_line_113 : decode cX9_line 113 = .ok (.ifCond .eq 12, 3) := by decide +kernel
theorem d_X9_line_116 : decode cX9_line 116 = .ok (.iload 6, 2) := by decide +kernel
theorem d_X9_line_118 : decode cX9_line 118 = .ok (.iload_n 1, 1) := by decide +kernel
theorem d_X9_line_119 : decode cX9_line 119 = .ok (.invokestatic 213, 3) := by decide +kernel
theorem d_X9_line_122 : decode cX9_line 122 = .ok (.goto 9, 3) := by decide +kernel
theorem d_X9_line_125 : decode cX9_line 125 = .ok (.iload_n 1, 1) := by decide +kernel
theorem d_X9_line_126 : decode cX9_line 126 = .ok (.iload 6, 2) := by decide +kernel
theorem d_X9_line_128 : decode cX9_line 128 = .ok (.invokestatic 213, 3) := by decide +kernel
theorem d_X9_line_131 : decode cX9_line 131 = .ok (.iaload, 1) := by decide +kernel
theorem d_X9_line_132 : decode cX9_line 132 = .ok (.iadd, 1) := by decide +kernel
theorem d_X9_line_133 : decode cX9_line 133 = .ok (.istore 5, 2) := by decide +kernel
theorem d_X9_line_135 : decode cX9_line 135 = .ok (.iinc 6 1, 3) := by decide +kernel
theorem d_X9_line_138 : decode cX9_line 138 = .ok (.goto (-37), 3) := by decide +kernel
theorem d_X9_line_141 : decode cX9_line 141 = .ok (.iload 5, 2) := by decide +kernel
theorem d_X9_line_143 : decode cX9_line 143 = .ok (.ireturn, 1) := by decide +kernel
noncomputable def F_X9_line_131 (p0 : Int32) (p1 : Int32) (self101 : Int32 → Int32 → Nat → Int32 → Int32 → zMem → Option (Nat × Int32 × zMem)) (b131_L1 : Int32) (b131_L3 : Int32) (b131_L4 : Nat) (b131_L6 : Int32) (b131_S0 : Int32) (b131_S1 : Nat) (b131_S2 : Int32) (M : zMem) : Option (Nat × Int32 × zMem) :=
  gin b131_S2 64 <|
  zl (b131_S0 + (M.1 b131_S1 b131_S2.toNatClampNeg)) fun v2 =>
  self101 b131_L1 b131_L3 b131_L4 v2 (b131_L6 + 1) M
noncomputable def F_X9_line_101 (p0 : Int32) (p1 : Int32) (self101 : Int32 → Int32 → Nat → Int32 → Int32 → zMem → Option (Nat × Int32 × zMem)) (b101_L1 : Int32) (b101_L3 : Int32) (b101_L4 : Nat) (b101_L5 : Int32) (b101_L6 : Int32) (M : zMem) : Option (Nat × Int32 × zMem) :=
  if (8 : Int32) ≤ b101_L6 then
    some (0, b101_L5, M)
  else
    if b101_L3 = 0 then
      zb (F_X9_placeOf M b101_L1 b101_L6) fun v4 M3 =>
      F_X9_line_131 p0 p1 self101 b101_L1 b101_L3 b101_L4 b101_L6 b101_L5 b101_L4 v4 M3
    else
      zb (F_X9_placeOf M b101_L6 b101_L1) fun v6 M5 =>
      F_X9_line_131 p0 p1 self101 b101_L1 b101_L3 b101_L4 b101_L6 b101_L5 b101_L4 v6 M5
noncomputable def F_X9_line_93 (p0 : Int32) (p1 : Int32) (b93_L1 : Int32) (b93_L3 : Int32) (b93_S0 : Nat) (M : zMem) : Option (Nat × Int32 × zMem) :=
  itF (fun _ _ _ _ _ _ => none) (F_X9_line_101 p0 p1) zFuel b93_L1 b93_L3 b93_S0 (0 : Int32) (0 : Int32) M
noncomputable def F_X9_line_57 (p0 : Int32) (p1 : Int32) (b57_L1 : Int32) (b57_L2 : Int32) (b57_L3 : Int32) (b57_S1 : Int32) (b57_S2 : Int32) (b57_S3 : Int32) (M : zMem) : Option (Nat × Int32 × zMem) :=
  zb (F_X9_within M b57_S1 b57_S2 (b57_S3 - (1 : Int32))) fun v8 M7 =>
  zbx (F_X9_need M7 v8) (g := zxp) fun _ M9 =>
  if (1 : Int32) < b57_L2 then
    F_X9_line_93 p0 p1 b57_L1 b57_L3 6 M9
  else
    F_X9_line_93 p0 p1 b57_L1 b57_L3 5 M9
noncomputable def F_X9_line_32 (p0 : Int32) (p1 : Int32) (b32_L1 : Int32) (b32_L2 : Int32) (b32_S0 : Int32) (M : zMem) : Option (Nat × Int32 × zMem) :=
  if b32_S0 = 0 then
    gd (shX (M.2.2 0 8) == 6) <|
    F_X9_line_57 p0 p1 b32_L1 b32_L2 b32_S0 b32_L1 (0 : Int32) (M.1 (M.2.2 0 8) 0) M
  else
    gd (shX (M.2.2 0 8) == 6) <|
    F_X9_line_57 p0 p1 b32_L1 b32_L2 b32_S0 b32_L1 (0 : Int32) (M.1 (M.2.2 0 8) 1) M
noncomputable def F_X9_line_15 (p0 : Int32) (p1 : Int32) (b15_L1 : Int32) (b15_L2 : Int32) (b15_S1 : Int32) (M : zMem) : Option (Nat × Int32 × zMem) :=
  zbx (F_X9_need M b15_S1) (g := zxp) fun _ M16 =>
  if b15_L2 = 0 then
    F_X9_line_32 p0 p1 b15_L1 b15_L2 (1 : Int32) M16
  else
    if b15_L2 = (2 : Int32) then
      F_X9_line_32 p0 p1 b15_L1 b15_L2 (1 : Int32) M16
    else
      F_X9_line_32 p0 p1 b15_L1 b15_L2 (0 : Int32) M16
noncomputable def F_X9_line_14 (p0 : Int32) (p1 : Int32) (b14_L1 : Int32) (b14_L2 : Int32) (M : zMem) : Option (Nat × Int32 × zMem) :=
  F_X9_line_15 p0 p1 b14_L1 b14_L2 (0 : Int32) M
noncomputable def F_X9_line (M : zMem) (p0 : Int32) (p1 : Int32) : Option (Nat × Int32 × zMem) :=
  if p1 < 0 then
    F_X9_line_14 p0 p1 p0 p1 M
  else
    if (3 : Int32) < p1 then
      F_X9_line_14 p0 p1 p0 p1 M
    else
      F_X9_line_15 p0 p1 p0 p1 (1 : Int32) M
def rm_X9_line : Room := { frames := 10, cells := 2, slots := 12, locals := 161 }
set_option maxHeartbeats 4000000 in
set_option maxRecDepth 100000 in
theorem c_X9_line (l : Launch) {G : zG} {ad : Nat → Nat} {n : Nat} (hA : zInj ad n) (M : zMem) (p0 : Int32) (p1 : Int32) (hl : l.stackTraces = false) (hT : zT shX n 0 10) {k9 : Nat} {r9 : Int32} {M9 : zMem} (hF : F_X9_line M p0 p1 = some (k9, r9, M9)) : zMX l yX9_line cX9_line 7 (some .int) rm_X9_line 2 12 G shX ad n M [.ref (ad 0), .int p0, .int p1] k9 (some (.int r9)) M9 := by
  refine zM_ofX hA (by decide +kernel) (lv := [(0, .ref (ad 0)), (1, .int p0), (2, .int p1)]) (Nat.le_of_ble_eq_true rfl) rfl (fun p e s m args below meth c A cx hr ht => ?_)
  have hb131 : ∀ (self101 : Int32 → Int32 → Nat → Int32 → Int32 → zMem → Option (Nat × Int32 × zMem)) (hs101 : ∀ (b101_L1 : Int32) (b101_L3 : Int32) (b101_L4 : Nat) (b101_L5 : Int32) (b101_L6 : Int32) (M : zMem), zT shX n b101_L4 16 → self101 b101_L1 b101_L3 b101_L4 b101_L5 b101_L6 M = some (k9, r9, M9) → zJ p l e rm_X9_line s m args below meth c G shX ad n A 7 (vx_MQ below (zQX G shX ad n M9 k9 (some (.int r9)) A) (zXC G shX ad n M9 k9 A) args s 2 12 A) 2 12 M 101 [(1, .int b101_L1), (3, .int b101_L3), (4, .ref (ad b101_L4)), (5, .int b101_L5), (6, .int b101_L6)] []), ∀ (b131_L1 : Int32) (b131_L3 : Int32) (b131_L4 : Nat) (b131_L6 : Int32) (b131_S0 : Int32) (b131_S1 : Nat) (b131_S2 : Int32) (M : zMem), zT shX n b131_L4 16 → zT shX n b131_S1 16 → F_X9_line_131 p0 p1 self101 b131_L1 b131_L3 b131_L4 b131_L6 b131_S0 b131_S1 b131_S2 M = some (k9, r9, M9) → zJ p l e rm_X9_line s m args below meth c G shX ad n A 7 (vx_MQ below (zQX G shX ad n M9 k9 (some (.int r9)) A) (zXC G shX ad n M9 k9 A) args s 2 12 A) 2 12 M 131 [(1, .int b131_L1), (3, .int b131_L3), (4, .ref (ad b131_L4)), (6, .int b131_L6)] [.int b131_S2, .ref (ad b131_S1), .int b131_S0] := by
    intro self101 hs101 b131_L1 b131_L3 b131_L4 b131_L6 b131_S0 b131_S1 b131_S2 M hb131_L4 hb131_S1 hF
    unfold F_X9_line_131 at hF
    obtain ⟨hi1, hF⟩ := gin_inv hF
    refine z_iald cx hb131_S1 za_16 hi1 b131_S2.toNatClampNeg rfl d_X9_line_131 ?_
    refine z_iadd cx d_X9_line_132 ?_
    refine z_nm hF (fun v2 hF => ?_)
    refine z_istore cx 5 [(5, .int v2), (1, .int b131_L1), (3, .int b131_L3), (4, .ref (ad b131_L4)), (6, .int b131_L6)] d_X9_line_133 (by decide) rfl ?_
    refine z_iinc cx 6 1 [(6, .int (b131_L6 + 1)), (5, .int v2), (1, .int b131_L1), (3, .int b131_L3), (4, .ref (ad b131_L4))] d_X9_line_135 4 rfl ki_1 (by decide) rfl ?_
    refine z_goto cx 101 d_X9_line_138 (by decide) ?_
    exact z_lv [2, 3, 4, 1, 0] _ rfl (hs101 b131_L1 b131_L3 b131_L4 v2 (b131_L6 + 1) M hb131_L4 hF)
  have hL101 : ∀ (fuel : Nat), ∀ (b101_L1 : Int32) (b101_L3 : Int32) (b101_L4 : Nat) (b101_L5 : Int32) (b101_L6 : Int32) (M : zMem), zT shX n b101_L4 16 → itF (fun _ _ _ _ _ _ => none) (F_X9_line_101 p0 p1) fuel b101_L1 b101_L3 b101_L4 b101_L5 b101_L6 M = some (k9, r9, M9) → zJ p l e rm_X9_line s m args below meth c G shX ad n A 7 (vx_MQ below (zQX G shX ad n M9 k9 (some (.int r9)) A) (zXC G shX ad n M9 k9 A) args s 2 12 A) 2 12 M 101 [(1, .int b101_L1), (3, .int b101_L3), (4, .ref (ad b101_L4)), (5, .int b101_L5), (6, .int b101_L6)] [] := by
    intro fuel
    induction fuel with
    | zero => intro b101_L1 b101_L3 b101_L4 b101_L5 b101_L6 M hb101_L4 hF; cases hF
    | succ fuel hs101 =>
      intro b101_L1 b101_L3 b101_L4 b101_L5 b101_L6 M hb101_L4 hF
      have hF : F_X9_line_101 p0 p1 (itF (fun _ _ _ _ _ _ => none) (F_X9_line_101 p0 p1) fuel) b101_L1 b101_L3 b101_L4 b101_L5 b101_L6 M = some (k9, r9, M9) := hF
      generalize itF (fun _ _ _ _ _ _ => none) (F_X9_line_101 p0 p1) fuel = self101 at hs101 hF
      unfold F_X9_line_101 at hF
      refine z_iload cx d_X9_line_101 4 rfl ?_
      refine z_bipush (v := 8) cx d_X9_line_103 kb_8 ?_
      refine z_icmp_ge cx 141 d_X9_line_105 (by decide) hF (fun hF => ?_) (fun hF => ?_)
      · refine z_iload cx d_X9_line_141 3 rfl ?_
        exact z_iretX cx hr rfl hF ⟨Nat.le_of_ble_eq_true rfl, Nat.le_of_ble_eq_true rfl⟩ d_X9_line_143
      refine z_iload cx d_X9_line_108 3 rfl ?_
      refine z_aload cx d_X9_line_110 2 rfl ?_
      refine z_iload_n cx d_X9_line_112 1 rfl ?_
      refine z_if_eq cx 125 d_X9_line_113 (by decide) hF (fun hF => ?_) (fun hF => ?_)
      · refine z_iload_n cx d_X9_line_125 0 rfl ?_
        refine z_iload cx d_X9_line_126 4 rfl ?_
        obtain ⟨v4, M3, hc, hF⟩ := zb_inv hF
        refine z_callS cx (As := [.int b101_L1, .int b101_L6]) (rest := [.ref (ad b101_L4), .int b101_L5]) (c_X9_placeOf l cx.2.2.2.1.1 M b101_L1 b101_L6  hc) cs_SunnyPans_213 ⟨rfl, rfl, Nat.le_of_ble_eq_true rfl, Nat.le_of_ble_eq_true rfl⟩ rfl rfl ⟨Nat.le_of_ble_eq_true rfl, Nat.le_of_ble_eq_true rfl⟩ (Nat.le_of_ble_eq_true rfl) d_X9_line_128 ?_
        exact z_lv [0, 1, 2, 4] _ rfl (hb131 self101 hs101 b101_L1 b101_L3 b101_L4 b101_L6 b101_L5 b101_L4 v4 M3 hb101_L4 hb101_L4 hF)
      refine z_iload cx d_X9_line_116 4 rfl ?_
      refine z_iload_n cx d_X9_line_118 0 rfl ?_
      obtain ⟨v6, M5, hc, hF⟩ := zb_inv hF
      refine z_callS cx (As := [.int b101_L6, .int b101_L1]) (rest := [.ref (ad b101_L4), .int b101_L5]) (c_X9_placeOf l cx.2.2.2.1.1 M b101_L6 b101_L1  hc) cs_SunnyPans_213 ⟨rfl, rfl, Nat.le_of_ble_eq_true rfl, Nat.le_of_ble_eq_true rfl⟩ rfl rfl ⟨Nat.le_of_ble_eq_true rfl, Nat.le_of_ble_eq_true rfl⟩ (Nat.le_of_ble_eq_true rfl) d_X9_line_119 ?_
      refine z_goto cx 131 d_X9_line_122 (by decide) ?_
      exact z_lv [0, 1, 2, 4] _ rfl (hb131 self101 hs101 b101_L1 b101_L3 b101_L4 b101_L6 b101_L5 b101_L4 v6 M5 hb101_L4 hb101_L4 hF)
  have hb93 : ∀ (b93_L1 : Int32) (b93_L3 : Int32) (b93_S0 : Nat) (M : zMem), zT shX n b93_S0 16 → F_X9_line_93 p0 p1 b93_L1 b93_L3 b93_S0 M = some (k9, r9, M9) → zJ p l e rm_X9_line s m args below meth c G shX ad n A 7 (vx_MQ below (zQX G shX ad n M9 k9 (some (.int r9)) A) (zXC G shX ad n M9 k9 A) args s 2 12 A) 2 12 M 93 [(1, .int b93_L1), (3, .int b93_L3)] [.ref (ad b93_S0)] := by
    intro b93_L1 b93_L3 b93_S0 M hb93_S0 hF
    unfold F_X9_line_93 at hF
    refine z_astore cx 4 [(4, .ref (ad b93_S0)), (1, .int b93_L1), (3, .int b93_L3)] d_X9_line_93 (by decide) rfl ?_
    refine z_iconst (v := 0) cx d_X9_line_95 ki_0 ?_
    refine z_istore cx 5 [(5, .int (0 : Int32)), (4, .ref (ad b93_S0)), (1, .int b93_L1), (3, .int b93_L3)] d_X9_line_96 (by decide) rfl ?_
    refine z_iconst (v := 0) cx d_X9_line_98 ki_0 ?_
    refine z_istore cx 6 [(6, .int (0 : Int32)), (5, .int (0 : Int32)), (4, .ref (ad b93_S0)), (1, .int b93_L1), (3, .int b93_L3)] d_X9_line_99 (by decide) rfl ?_
    exact z_lv [3, 4, 2, 1, 0] _ rfl (hL101 zFuel b93_L1 b93_L3 b93_S0 (0 : Int32) (0 : Int32) M hb93_S0 hF)
  have hb57 : ∀ (b57_L1 : Int32) (b57_L2 : Int32) (b57_L3 : Int32) (b57_S1 : Int32) (b57_S2 : Int32) (b57_S3 : Int32) (M : zMem), F_X9_line_57 p0 p1 b57_L1 b57_L2 b57_L3 b57_S1 b57_S2 b57_S3 M = some (k9, r9, M9) → zJ p l e rm_X9_line s m args below meth c G shX ad n A 7 (vx_MQ below (zQX G shX ad n M9 k9 (some (.int r9)) A) (zXC G shX ad n M9 k9 A) args s 2 12 A) 1 6 M 57 [(0, .ref (ad 0)), (1, .int b57_L1), (2, .int b57_L2), (3, .int b57_L3)] [.int b57_S3, .int b57_S2, .int b57_S1, .ref (ad 0)] := by
    intro b57_L1 b57_L2 b57_L3 b57_S1 b57_S2 b57_S3 M hF
    unfold F_X9_line_57 at hF
    refine z_iconst (v := 1) cx d_X9_line_57 ki_1 ?_
    refine z_isub cx d_X9_line_58 ?_
    obtain ⟨v8, M7, hc, hF⟩ := zb_inv hF
    refine z_callS cx (As := [.int b57_S1, .int b57_S2, .int (b57_S3 - (1 : Int32))]) (rest := [.ref (ad 0)]) (c_X9_within l cx.2.2.2.1.1 M b57_S1 b57_S2 (b57_S3 - (1 : Int32))  hc) cs_SunnyPans_255 ⟨rfl, rfl, Nat.le_of_ble_eq_true rfl, Nat.le_of_ble_eq_true rfl⟩ rfl rfl ⟨Nat.le_of_ble_eq_true rfl, Nat.le_of_ble_eq_true rfl⟩ (Nat.le_of_ble_eq_true rfl) d_X9_line_59 ?_
    obtain ⟨k10, v11, M9, hc, hF, hX12⟩ := zbx_inv hF
    refine z_callVX cx ht (As := [.int v8]) (rest := []) (c_X9_need l cx.2.2.2.1.1 M7 v8 hl hT hc) (fun q => zxp_inv (hX12 q)) hT zo_10 cv_SunnyPans_155 ⟨rfl, rfl, Nat.le_of_ble_eq_true rfl, Nat.le_of_ble_eq_true rfl⟩ rfl rfl ⟨Nat.le_of_ble_eq_true rfl, Nat.le_of_ble_eq_true rfl⟩ ⟨Nat.le_of_ble_eq_true rfl, Nat.le_of_ble_eq_true rfl⟩ (Nat.le_of_ble_eq_true rfl) d_X9_line_62 (fun kq13 => ?_)
    have hF := hF kq13
    refine z_iload_n cx d_X9_line_65 2 rfl ?_
    refine z_iconst (v := 1) cx d_X9_line_66 ki_1 ?_
    refine z_icmp_gt cx 83 d_X9_line_67 (by decide) hF (fun hF => ?_) (fun hF => ?_)
    · refine z_aload_n cx d_X9_line_83 0 rfl ?_
      refine z_getR cx hT fg_SunnyPans_19 3 rfl d_X9_line_84 ?_
      refine z_getR cx (tfX_10_3 hT) fg_SunnyPans_159 4 rfl d_X9_line_87 ?_
      refine z_getR cx (tfX_8_1 (tfX_10_3 hT)) fg_SunnyPans_181 6 rfl d_X9_line_90 ?_
      exact z_lv [1, 3] _ rfl (hb93 b57_L1 b57_L3 6 M9 (tfX_5_2 (tfX_8_1 (tfX_10_3 hT))) hF)
    refine z_aload_n cx d_X9_line_70 0 rfl ?_
    refine z_getR cx hT fg_SunnyPans_19 3 rfl d_X9_line_71 ?_
    refine z_getR cx (tfX_10_3 hT) fg_SunnyPans_159 4 rfl d_X9_line_74 ?_
    refine z_getR cx (tfX_8_1 (tfX_10_3 hT)) fg_SunnyPans_174 5 rfl d_X9_line_77 ?_
    refine z_goto cx 93 d_X9_line_80 (by decide) ?_
    exact z_lv [1, 3] _ rfl (hb93 b57_L1 b57_L3 5 M9 (tfX_5_1 (tfX_8_1 (tfX_10_3 hT))) hF)
  have hb32 : ∀ (b32_L1 : Int32) (b32_L2 : Int32) (b32_S0 : Int32) (M : zMem), F_X9_line_32 p0 p1 b32_L1 b32_L2 b32_S0 M = some (k9, r9, M9) → zJ p l e rm_X9_line s m args below meth c G shX ad n A 7 (vx_MQ below (zQX G shX ad n M9 k9 (some (.int r9)) A) (zXC G shX ad n M9 k9 A) args s 2 12 A) 1 6 M 32 [(0, .ref (ad 0)), (1, .int b32_L1), (2, .int b32_L2)] [.int b32_S0] := by
    intro b32_L1 b32_L2 b32_S0 M hF
    unfold F_X9_line_32 at hF
    refine z_istore_n cx 3 [(3, .int b32_S0), (0, .ref (ad 0)), (1, .int b32_L1), (2, .int b32_L2)] d_X9_line_32 rfl (by decide) rfl ?_
    refine z_aload_n cx d_X9_line_33 1 rfl ?_
    refine z_iload_n cx d_X9_line_34 2 rfl ?_
    refine z_iconst (v := 0) cx d_X9_line_35 ki_0 ?_
    refine z_iload_n cx d_X9_line_36 0 rfl ?_
    refine z_if_eq cx 50 d_X9_line_37 (by decide) hF (fun hF => ?_) (fun hF => ?_)
    · refine z_aload_n cx d_X9_line_50 1 rfl ?_
      obtain ⟨hg14, hF⟩ := gd_inv hF
      refine z_getD cx hT fg_SunnyPans_62 d_X9_line_51 ?_
      refine z_getI cx (td_6 hT hg14) fg_SunnyPans_162 d_X9_line_54 ?_
      exact z_lv [1, 2, 3, 0] _ rfl (hb57 b32_L1 b32_L2 b32_S0 b32_L1 (0 : Int32) (M.1 (M.2.2 0 8) 0) M hF)
    refine z_aload_n cx d_X9_line_40 1 rfl ?_
    obtain ⟨hg15, hF⟩ := gd_inv hF
    refine z_getD cx hT fg_SunnyPans_62 d_X9_line_41 ?_
    refine z_getI cx (td_6 hT hg15) fg_SunnyPans_165 d_X9_line_44 ?_
    refine z_goto cx 57 d_X9_line_47 (by decide) ?_
    exact z_lv [1, 2, 3, 0] _ rfl (hb57 b32_L1 b32_L2 b32_S0 b32_L1 (0 : Int32) (M.1 (M.2.2 0 8) 1) M hF)
  have hb15 : ∀ (b15_L1 : Int32) (b15_L2 : Int32) (b15_S1 : Int32) (M : zMem), F_X9_line_15 p0 p1 b15_L1 b15_L2 b15_S1 M = some (k9, r9, M9) → zJ p l e rm_X9_line s m args below meth c G shX ad n A 7 (vx_MQ below (zQX G shX ad n M9 k9 (some (.int r9)) A) (zXC G shX ad n M9 k9 A) args s 2 12 A) 0 0 M 15 [(0, .ref (ad 0)), (1, .int b15_L1), (2, .int b15_L2)] [.int b15_S1, .ref (ad 0)] := by
    intro b15_L1 b15_L2 b15_S1 M hF
    unfold F_X9_line_15 at hF
    obtain ⟨k17, v18, M16, hc, hF, hX19⟩ := zbx_inv hF
    refine z_callVX cx ht (As := [.int b15_S1]) (rest := []) (c_X9_need l cx.2.2.2.1.1 M b15_S1 hl hT hc) (fun q => zxp_inv (hX19 q)) hT zo_10 cv_SunnyPans_155 ⟨rfl, rfl, Nat.le_of_ble_eq_true rfl, Nat.le_of_ble_eq_true rfl⟩ rfl rfl ⟨Nat.le_of_ble_eq_true rfl, Nat.le_of_ble_eq_true rfl⟩ ⟨Nat.le_of_ble_eq_true rfl, Nat.le_of_ble_eq_true rfl⟩ (Nat.le_of_ble_eq_true rfl) d_X9_line_15 (fun kq20 => ?_)
    have hF := hF kq20
    refine z_iload_n cx d_X9_line_18 2 rfl ?_
    refine z_if_eq cx 27 d_X9_line_19 (by decide) hF (fun hF => ?_) (fun hF => ?_)
    · refine z_iconst (v := 1) cx d_X9_line_27 ki_1 ?_
      refine z_goto cx 32 d_X9_line_28 (by decide) ?_
      exact hb32 b15_L1 b15_L2 (1 : Int32) M16 hF
    refine z_iload_n cx d_X9_line_22 2 rfl ?_
    refine z_iconst (v := 2) cx d_X9_line_23 ki_2 ?_
    refine z_icmp_ne cx 31 d_X9_line_24 (by decide) hF (fun hF => ?_) (fun hF => ?_)
    · refine z_iconst (v := 0) cx d_X9_line_31 ki_0 ?_
      exact hb32 b15_L1 b15_L2 (0 : Int32) M16 hF
    refine z_iconst (v := 1) cx d_X9_line_27 ki_1 ?_
    refine z_goto cx 32 d_X9_line_28 (by decide) ?_
    exact hb32 b15_L1 b15_L2 (1 : Int32) M16 hF
  have hb14 : ∀ (b14_L1 : Int32) (b14_L2 : Int32) (M : zMem), F_X9_line_14 p0 p1 b14_L1 b14_L2 M = some (k9, r9, M9) → zJ p l e rm_X9_line s m args below meth c G shX ad n A 7 (vx_MQ below (zQX G shX ad n M9 k9 (some (.int r9)) A) (zXC G shX ad n M9 k9 A) args s 2 12 A) 0 0 M 14 [(0, .ref (ad 0)), (1, .int b14_L1), (2, .int b14_L2)] [.ref (ad 0)] := by
    intro b14_L1 b14_L2 M hF
    unfold F_X9_line_14 at hF
    refine z_iconst (v := 0) cx d_X9_line_14 ki_0 ?_
    exact hb15 b14_L1 b14_L2 (0 : Int32) M hF
  unfold F_X9_line at hF
  refine z_aload_n cx d_X9_line_0 0 rfl ?_
  refine z_iload_n cx d_X9_line_1 2 rfl ?_
  refine z_if_lt cx 14 d_X9_line_2 (by decide) hF (fun hF => ?_) (fun hF => ?_)
  · exact hb14 p0 p1 M hF
  refine z_iload_n cx d_X9_line_5 2 rfl ?_
  refine z_iconst (v := 3) cx d_X9_line_6 ki_3 ?_
  refine z_icmp_gt cx 14 d_X9_line_7 (by decide) hF (fun hF => ?_) (fun hF => ?_)
  · exact hb14 p0 p1 M hF
  refine z_iconst (v := 1) cx d_X9_line_10 ki_1 ?_
  refine z_goto cx 15 d_X9_line_11 (by decide) ?_
  exact hb15 p0 p1 (1 : Int32) M hF
/-! SunnyPans.mounds -/
theorem d_X9_mounds_0 : decode cX9_mounds 0 = .ok (.aload_n 0, 1) := by decide +kernel
theorem d_X9_mounds_1 : decode cX9_mounds 1 = .ok (.iload_n 1, 1) := by decide +kernel
theorem d_X9_mounds_2 : decode cX9_mounds 2 = .ok (.invokevirtual 244, 3) := by decide +kernel
theorem d_X9_mounds_5 : decode cX9_mounds 5 = .ok (.aload_n 0, 1) := by decide +kernel
theorem d_X9_mounds_6 : decode cX9_mounds 6 = .ok (.getfield 19, 3) := by decide +kernel
theorem d_X9_mounds_9 : decode cX9_mounds 9 = .ok (.getfield 159, 3) := by decide +kernel
theorem d_X9_mounds_12 : decode cX9_mounds 12 = .ok (.invokevirtual 190, 3) := by decide +kernel
theorem d_X9_mounds_15 : decode cX9_mounds 15 = .ok (.iload_n 1, 1) := by decide +kernel
theorem d_X9_mounds_16 : decode cX9_mounds 16 = .ok (.invokestatic 247, 3) := by decide +kernel
theorem d_X9_mounds_19 : decode cX9_mounds 19 = .ok (.ireturn, 1) := by decide +kernel
noncomputable def F_X9_mounds (M : zMem) (p0 : Int32) : Option (Nat × Int32 × zMem) :=
  zbx (F_X9_needRow M p0) (g := zxp) fun _ M1 =>
  zb (F_X4_heapPlaces M1 4) fun v7 M6 =>
  zb (F_X9_rowOf M6 v7 p0) fun v9 M8 =>
  some (0, v9, M8)
def rm_X9_mounds : Room := { frames := 11, cells := 1, slots := 6, locals := 182 }
set_option maxHeartbeats 4000000 in
set_option maxRecDepth 100000 in
theorem c_X9_mounds (l : Launch) {G : zG} {ad : Nat → Nat} {n : Nat} (hA : zInj ad n) (M : zMem) (p0 : Int32) (hl : l.stackTraces = false) (hT : zT shX n 0 10) {k9 : Nat} {r9 : Int32} {M9 : zMem} (hF : F_X9_mounds M p0 = some (k9, r9, M9)) : zMX l yX9_mounds cX9_mounds 2 (some .int) rm_X9_mounds 1 6 G shX ad n M [.ref (ad 0), .int p0] k9 (some (.int r9)) M9 := by
  refine zM_ofX hA (by decide +kernel) (lv := [(0, .ref (ad 0)), (1, .int p0)]) (Nat.le_of_ble_eq_true rfl) rfl (fun p e s m args below meth c A cx hr ht => ?_)
  unfold F_X9_mounds at hF
  refine z_aload_n cx d_X9_mounds_0 0 rfl ?_
  refine z_iload_n cx d_X9_mounds_1 1 rfl ?_
  obtain ⟨k2, v3, M1, hc, hF, hX4⟩ := zbx_inv hF
  refine z_callVX cx ht (As := [.int p0]) (rest := []) (c_X9_needRow l cx.2.2.2.1.1 M p0 hl hT hc) (fun q => zxp_inv (hX4 q)) hT zo_10 cv_SunnyPans_244 ⟨rfl, rfl, Nat.le_of_ble_eq_true rfl, Nat.le_of_ble_eq_true rfl⟩ rfl rfl ⟨Nat.le_of_ble_eq_true rfl, Nat.le_of_ble_eq_true rfl⟩ ⟨Nat.le_of_ble_eq_true rfl, Nat.le_of_ble_eq_true rfl⟩ (Nat.le_of_ble_eq_true rfl) d_X9_mounds_2 (fun kq5 => ?_)
  have hF := hF kq5
  refine z_aload_n cx d_X9_mounds_5 0 rfl ?_
  refine z_getR cx hT fg_SunnyPans_19 3 rfl d_X9_mounds_6 ?_
  refine z_getR cx (tfX_10_3 hT) fg_SunnyPans_159 4 rfl d_X9_mounds_9 ?_
  obtain ⟨v7, M6, hc, hF⟩ := zb_inv hF
  refine z_callV cx (As := []) (rest := []) (c_X4_heapPlaces l cx.2.2.2.1.1 M1 4 (tfX_8_1 (tfX_10_3 hT)) hc) (tfX_8_1 (tfX_10_3 hT)) zo_5 cv_SunnyPans_190 ⟨rfl, rfl, Nat.le_of_ble_eq_true rfl, Nat.le_of_ble_eq_true rfl⟩ rfl rfl ⟨Nat.le_of_ble_eq_true rfl, Nat.le_of_ble_eq_true rfl⟩ (Nat.le_of_ble_eq_true rfl) d_X9_mounds_12 ?_
  refine z_iload_n cx d_X9_mounds_15 1 rfl ?_
  obtain ⟨v9, M8, hc, hF⟩ := zb_inv hF
  refine z_callS cx (As := [.long v7, .int p0]) (rest := []) (c_X9_rowOf l cx.2.2.2.1.1 M6 v7 p0  hc) cs_SunnyPans_247 ⟨rfl, rfl, Nat.le_of_ble_eq_true rfl, Nat.le_of_ble_eq_true rfl⟩ rfl rfl ⟨Nat.le_of_ble_eq_true rfl, Nat.le_of_ble_eq_true rfl⟩ (Nat.le_of_ble_eq_true rfl) d_X9_mounds_16 ?_
  exact z_iretX cx hr rfl hF ⟨Nat.le_of_ble_eq_true rfl, Nat.le_of_ble_eq_true rfl⟩ d_X9_mounds_19
/-! SunnyPans.nearest -/
set_option maxRecDepth 100000 in
theorem wd_1335 : Cond.methodLink "SunnyPans" 274 Lib.Math.abs.name ∈ tbG := tw6 35 rfl rfl
set_option maxRecDepth 100000 in
theorem wd_1336 : Cond.static Lib.Math.abs.name ∈ tbG := tw6 36 rfl rfl
set_option maxRecDepth 100000 in
theorem wd_1337 : Cond.code Lib.Math.abs.name Lib.Math.abs.code 1 (some .int) ∈ tbG := tw6 37 rfl rfl
set_option maxRecDepth 100000 in
theorem wd_1132 : Cond.code yX0_offerLeast cX0_offerLeast 3 none ∈ tbG := tw5 72 rfl rfl
set_option maxRecDepth 100000 in
theorem wd_1129 : Cond.methodLink "SunnyPans" 279 yX0_offerLeast ∈ tbG := tw5 69 rfl rfl
set_option maxRecDepth 100000 in
theorem wd_1130 : Cond.instanceMethod yX0_offerLeast ∈ tbG := tw5 70 rfl rfl
set_option maxRecDepth 100000 in
theorem wd_1131 : Cond.selects "SunnyPans$Best" yX0_offerLeast yX0_offerLeast ∈ tbG := tw5 71 rfl rfl
theorem cv_SunnyPans_279 : zCV "SunnyPans" 279 "SunnyPans$Best" yX0_offerLeast cX0_offerLeast 3 none 2 := zCV_of wd_1129 wd_1130 wd_1131 wd_107 wd_1132 (by decide +kernel)
theorem d_X9_nearest_0 : decode cX9_nearest 0 = .ok (.aload_n 0, 1) := by decide +kernel
theorem d_X9_nearest_1 : decode cX9_nearest 1 = .ok (.iload_n 1, 1) := by decide +kernel
theorem d_X9_nearest_2 : decode cX9_nearest 2 = .ok (.iload_n 2, 1) := by decide +kernel
theorem d_X9_nearest_3 : decode cX9_nearest 3 = .ok (.invokevirtual 210, 3) := by decide +kernel
theorem d_X9_nearest_6 : decode cX9_nearest 6 = .ok (.aload_n 0, 1) := by decide +kernel
theorem d_X9_nearest_7 : decode cX9_nearest 7 = .ok (.getfield 51, 3) := by decide +kernel
theorem d_X9_nearest_10 : decode cX9_nearest 10 = .ok (.invokevirtual 259, 3) := by decide +kernel
theorem d_X9_nearest_13 : decode cX9_nearest 13 = .ok (.iconst 0, 1) := by decide +kernel
theorem d_X9_nearest_14 : decode cX9_nearest 14 = .ok (.istore_n 3, 1) := by decide +kernel
theorem d_X9_nearest_15 : decode cX9_nearest 15 = .ok (.iload_n 3, 1) := by decide +kernel
theorem d_X9_nearest_16 : decode cX9_nearest 16 = .ok (.bipush 64, 2) := by decide +kernel
theorem d_X9_nearest_18 : decode cX9_nearest 18 = .ok (.if_icmp .ge 51, 3) := by decide +kernel
theorem d_X9_nearest_21 : decode cX9_nearest 21 = .ok (.aload_n 0, 1) := by decide +kernel
theorem d_X9_nearest_22 : decode cX9_nearest 22 = .ok (.getfield 19, 3) := by decide +kernel
theorem d_X9_nearest_25 : decode cX9_nearest 25 = .ok (.getfield 159, 3) := by decide +kernel
theorem d_X9_nearest_28 : decode cX9_nearest 28 = .ok (.getfield 184, 3) := by decide +kernel
theorem d_X9_nearest_31 : decode cX9_nearest 31 = .ok (.iload_n 3, 1) := by decide +kernel
theorem d_X9_nearest_32 : decode cX9_nearest 32 = .ok (.iaload, 1) := by decide +kernel
theorem d_X9_nearest_33 : decode cX9_nearest 33 = .ok (.ifCond .le 30, 3) := by decide +kernel
theorem d_X9_nearest_36 : decode cX9_nearest 36 = .ok (.aload_n 0, 1) := by decide +kernel
theorem d_X9_nearest_37 : decode cX9_nearest 37 = .ok (.getfield 51, 3) := by decide +kernel
theorem d_X9_nearest_40 : decode cX9_nearest 40 = .ok (.iload_n 3, 1) := by decide +kernel
theorem d_X9_nearest_41 : decode cX9_nearest 41 = .ok (.iload_n 3, 1) := by decide +kernel
theorem d_X9_nearest_42 : decode cX9_nearest 42 = .ok (.bipush 8, 2) := by decide +kernel
theorem d_X9_nearest_44 : decode cX9_nearest 44 = .ok (.irem, 1) := by decide +kernel
theorem d_X9_nearest_45 : decode cX9_nearest 45 = .ok (.iload_n 1, 1) := by decide +kernel
theorem d_X9_nearest_46 : decode cX9_nearest 46 = .ok (.isub, 1) := by decide +kernel
theorem d_X9_nearest_47 : decode cX9_nearest 47 = .ok (.invokestatic 274, 3) := by decide +kernel
theorem d_X9_nearest_50 : decode cX9_nearest 50 = .ok (.iload_n 3, 1) := by decide +kernel
theorem d_X9_nearest_51 : decode cX9_nearest 51 = .ok (.bipush 8, 2) := by decide +kernel
theorem d_X9_nearest_53 : decode cX9_nearest 53 = .ok (.idiv, 1) := by decide +kernel
theorem d_X9_nearest_54 : decode cX9_nearest 54 = .ok (.iload_n 2, 1) := by decide +kernel
theorem d_X9_nearest_55 : decode cX9_nearest 55 = .ok (.isub, 1) := by decide +kernel
theorem d_X9_nearest_56 : decode cX9_nearest 56 = .ok (.invokestatic 274, 3) := by decide +kernel
theorem d_X9_nearest_59 : decode cX9_nearest 59 = .ok (.iadd, 1) := by decide +kernel
theorem d_X9_nearest_60 : decode cX9_nearest 60 = .ok (.invokevirtual 279, 3) := by decide +kernel
theorem d_X9_nearest_63 : decode cX9_nearest 63 = .ok (.iinc 3 1, 3) := by decide +kernel
theorem d_X9_nearest_66 : decode cX9_nearest 66 = .ok (.goto (-51), 3) := by decide +kernel
theorem d_X9_nearest_69 : decode cX9_nearest 69 = .ok (.aload_n 0, 1) := by decide +kernel
theorem d_X9_nearest_70 : decode cX9_nearest 70 = .ok (.getfield 51, 3) := by decide +kernel
theorem d_X9_nearest_73 : decode cX9_nearest 73 = .ok (.iconst 0, 1) := by decide +kernel
theorem d_X9_nearest_74 : decode cX9_nearest 74 = .ok (.invokevirtual 263, 3) := by decide +kernel
theorem d_X9_nearest_77 : decode cX9_nearest 77 = .ok (.ireturn, 1) := by decide +kernel
noncomputable def F_X9_nearest_63 (p0 : Int32) (p1 : Int32) (self15 : Int32 → Int32 → Int32 → zMem → Option (Nat × Int32 × zMem)) (b63_L1 : Int32) (b63_L2 : Int32) (b63_L3 : Int32) (M : zMem) : Option (Nat × Int32 × zMem) :=
  self15 b63_L1 b63_L2 (b63_L3 + 1) M
noncomputable def F_X9_nearest_15 (p0 : Int32) (p1 : Int32) (self15 : Int32 → Int32 → Int32 → zMem → Option (Nat × Int32 × zMem)) (b15_L1 : Int32) (b15_L2 : Int32) (b15_L3 : Int32) (M : zMem) : Option (Nat × Int32 × zMem) :=
  if (64 : Int32) ≤ b15_L3 then
    zb (F_X0_placeOrAmount M 172 (0 : Int32)) fun v2 M1 =>
    some (0, v2, M1)
  else
    gin b15_L3 64 <|
    if (M.1 7 b15_L3.toNatClampNeg) ≤ 0 then
      F_X9_nearest_63 p0 p1 self15 b15_L1 b15_L2 b15_L3 M
    else
      zbv (F_X0_offerLeast M 172 b15_L3 ((zabs ((b15_L3 - b15_L3 / (8 : Int32) * (8 : Int32)) - b15_L1)) + (zabs ((b15_L3 / (8 : Int32)) - b15_L2)))) fun M4 =>
      F_X9_nearest_63 p0 p1 self15 b15_L1 b15_L2 b15_L3 M4
noncomputable def F_X9_nearest (M : zMem) (p0 : Int32) (p1 : Int32) : Option (Nat × Int32 × zMem) :=
  zbx (F_X9_needPlace M p0 p1) (g := zxp) fun _ M5 =>
  zbv (F_X0_clear M5 172) fun M10 =>
  itF (fun _ _ _ _ => none) (F_X9_nearest_15 p0 p1) zFuel p0 p1 (0 : Int32) M10
def rm_X9_nearest : Room := { frames := 11, cells := 1, slots := 6, locals := 183 }
set_option maxHeartbeats 4000000 in
set_option maxRecDepth 100000 in
theorem c_X9_nearest (l : Launch) {G : zG} {ad : Nat → Nat} {n : Nat} (hA : zInj ad n) (M : zMem) (p0 : Int32) (p1 : Int32) (hl : l.stackTraces = false) (hT : zT shX n 0 10) {k9 : Nat} {r9 : Int32} {M9 : zMem} (hF : F_X9_nearest M p0 p1 = some (k9, r9, M9)) : zMX l yX9_nearest cX9_nearest 4 (some .int) rm_X9_nearest 1 6 G shX ad n M [.ref (ad 0), .int p0, .int p1] k9 (some (.int r9)) M9 := by
  refine zM_ofX hA (by decide +kernel) (lv := [(0, .ref (ad 0)), (1, .int p0), (2, .int p1)]) (Nat.le_of_ble_eq_true rfl) rfl (fun p e s m args below meth c A cx hr ht => ?_)
  have hb63 : ∀ (self15 : Int32 → Int32 → Int32 → zMem → Option (Nat × Int32 × zMem)) (hs15 : ∀ (b15_L1 : Int32) (b15_L2 : Int32) (b15_L3 : Int32) (M : zMem), self15 b15_L1 b15_L2 b15_L3 M = some (k9, r9, M9) → zJ p l e rm_X9_nearest s m args below meth c G shX ad n A 4 (vx_MQ below (zQX G shX ad n M9 k9 (some (.int r9)) A) (zXC G shX ad n M9 k9 A) args s 1 6 A) 1 6 M 15 [(0, .ref (ad 0)), (1, .int b15_L1), (2, .int b15_L2), (3, .int b15_L3)] []), ∀ (b63_L1 : Int32) (b63_L2 : Int32) (b63_L3 : Int32) (M : zMem), F_X9_nearest_63 p0 p1 self15 b63_L1 b63_L2 b63_L3 M = some (k9, r9, M9) → zJ p l e rm_X9_nearest s m args below meth c G shX ad n A 4 (vx_MQ below (zQX G shX ad n M9 k9 (some (.int r9)) A) (zXC G shX ad n M9 k9 A) args s 1 6 A) 1 6 M 63 [(0, .ref (ad 0)), (1, .int b63_L1), (2, .int b63_L2), (3, .int b63_L3)] [] := by
    intro self15 hs15 b63_L1 b63_L2 b63_L3 M hF
    unfold F_X9_nearest_63 at hF
    refine z_iinc cx 3 1 [(3, .int (b63_L3 + 1)), (0, .ref (ad 0)), (1, .int b63_L1), (2, .int b63_L2)] d_X9_nearest_63 3 rfl ki_1 (by decide) rfl ?_
    refine z_goto cx 15 d_X9_nearest_66 (by decide) ?_
    exact z_lv [1, 2, 3, 0] _ rfl (hs15 b63_L1 b63_L2 (b63_L3 + 1) M hF)
  have hL15 : ∀ (fuel : Nat), ∀ (b15_L1 : Int32) (b15_L2 : Int32) (b15_L3 : Int32) (M : zMem), itF (fun _ _ _ _ => none) (F_X9_nearest_15 p0 p1) fuel b15_L1 b15_L2 b15_L3 M = some (k9, r9, M9) → zJ p l e rm_X9_nearest s m args below meth c G shX ad n A 4 (vx_MQ below (zQX G shX ad n M9 k9 (some (.int r9)) A) (zXC G shX ad n M9 k9 A) args s 1 6 A) 1 6 M 15 [(0, .ref (ad 0)), (1, .int b15_L1), (2, .int b15_L2), (3, .int b15_L3)] [] := by
    intro fuel
    induction fuel with
    | zero => intro b15_L1 b15_L2 b15_L3 M hF; cases hF
    | succ fuel hs15 =>
      intro b15_L1 b15_L2 b15_L3 M hF
      have hF : F_X9_nearest_15 p0 p1 (itF (fun _ _ _ _ => none) (F_X9_nearest_15 p0 p1) fuel) b15_L1 b15_L2 b15_L3 M = some (k9, r9, M9) := hF
      generalize itF (fun _ _ _ _ => none) (F_X9_nearest_15 p0 p1) fuel = self15 at hs15 hF
      unfold F_X9_nearest_15 at hF
      refine z_iload_n cx d_X9_nearest_15 3 rfl ?_
      refine z_bipush (v := 64) cx d_X9_nearest_16 kb_64 ?_
      refine z_icmp_ge cx 69 d_X9_nearest_18 (by decide) hF (fun hF => ?_) (fun hF => ?_)
      · refine z_aload_n cx d_X9_nearest_69 0 rfl ?_
        refine z_getR cx hT fg_SunnyPans_51 172 rfl d_X9_nearest_70 ?_
        refine z_iconst (v := 0) cx d_X9_nearest_73 ki_0 ?_
        obtain ⟨v2, M1, hc, hF⟩ := zb_inv hF
        refine z_callV cx (As := [.int (0 : Int32)]) (rest := []) (c_X0_placeOrAmount l cx.2.2.2.1.1 M 172 (0 : Int32) (tfX_10_172 hT) hc) (tfX_10_172 hT) zo_1 cv_SunnyPans_263 ⟨rfl, rfl, Nat.le_of_ble_eq_true rfl, Nat.le_of_ble_eq_true rfl⟩ rfl rfl ⟨Nat.le_of_ble_eq_true rfl, Nat.le_of_ble_eq_true rfl⟩ (Nat.le_of_ble_eq_true rfl) d_X9_nearest_74 ?_
        exact z_iretX cx hr rfl hF ⟨Nat.le_of_ble_eq_true rfl, Nat.le_of_ble_eq_true rfl⟩ d_X9_nearest_77
      refine z_aload_n cx d_X9_nearest_21 0 rfl ?_
      refine z_getR cx hT fg_SunnyPans_19 3 rfl d_X9_nearest_22 ?_
      refine z_getR cx (tfX_10_3 hT) fg_SunnyPans_159 4 rfl d_X9_nearest_25 ?_
      refine z_getR cx (tfX_8_1 (tfX_10_3 hT)) fg_SunnyPans_184 7 rfl d_X9_nearest_28 ?_
      refine z_iload_n cx d_X9_nearest_31 3 rfl ?_
      obtain ⟨hi3, hF⟩ := gin_inv hF
      refine z_iald cx (tfX_5_3 (tfX_8_1 (tfX_10_3 hT))) za_16 hi3 b15_L3.toNatClampNeg rfl d_X9_nearest_32 ?_
      refine z_if_le cx 63 d_X9_nearest_33 (by decide) hF (fun hF => ?_) (fun hF => ?_)
      · exact hb63 self15 hs15 b15_L1 b15_L2 b15_L3 M hF
      refine z_aload_n cx d_X9_nearest_36 0 rfl ?_
      refine z_getR cx hT fg_SunnyPans_51 172 rfl d_X9_nearest_37 ?_
      refine z_iload_n cx d_X9_nearest_40 3 rfl ?_
      refine z_iload_n cx d_X9_nearest_41 3 rfl ?_
      refine z_bipush (v := 8) cx d_X9_nearest_42 kb_8 ?_
      refine z_irem cx d_X9_nearest_44 (by decide) ?_
      refine z_iload_n cx d_X9_nearest_45 1 rfl ?_
      refine z_isub cx d_X9_nearest_46 ?_
      refine z_mabs cx ⟨wd_1335, wd_1336, wd_116, wd_1337⟩ ⟨Nat.le_of_ble_eq_true rfl, Nat.le_of_ble_eq_true rfl, Nat.le_of_ble_eq_true rfl, Nat.le_of_ble_eq_true rfl⟩ d_X9_nearest_47 ?_
      refine z_iload_n cx d_X9_nearest_50 3 rfl ?_
      refine z_bipush (v := 8) cx d_X9_nearest_51 kb_8 ?_
      refine z_idiv cx d_X9_nearest_53 (by decide) ?_
      refine z_iload_n cx d_X9_nearest_54 2 rfl ?_
      refine z_isub cx d_X9_nearest_55 ?_
      refine z_mabs cx ⟨wd_1335, wd_1336, wd_116, wd_1337⟩ ⟨Nat.le_of_ble_eq_true rfl, Nat.le_of_ble_eq_true rfl, Nat.le_of_ble_eq_true rfl, Nat.le_of_ble_eq_true rfl⟩ d_X9_nearest_56 ?_
      refine z_iadd cx d_X9_nearest_59 ?_
      obtain ⟨M4, hc, hF⟩ := zbv_inv hF
      refine z_callV cx (As := [.int b15_L3, .int ((zabs ((b15_L3 - b15_L3 / (8 : Int32) * (8 : Int32)) - b15_L1)) + (zabs ((b15_L3 / (8 : Int32)) - b15_L2)))]) (rest := []) (c_X0_offerLeast l cx.2.2.2.1.1 M 172 b15_L3 ((zabs ((b15_L3 - b15_L3 / (8 : Int32) * (8 : Int32)) - b15_L1)) + (zabs ((b15_L3 / (8 : Int32)) - b15_L2))) (tfX_10_172 hT) hc) (tfX_10_172 hT) zo_1 cv_SunnyPans_279 ⟨rfl, rfl, Nat.le_of_ble_eq_true rfl, Nat.le_of_ble_eq_true rfl⟩ rfl rfl ⟨Nat.le_of_ble_eq_true rfl, Nat.le_of_ble_eq_true rfl⟩ (Nat.le_of_ble_eq_true rfl) d_X9_nearest_60 ?_
      exact hb63 self15 hs15 b15_L1 b15_L2 b15_L3 M4 hF
  unfold F_X9_nearest at hF
  refine z_aload_n cx d_X9_nearest_0 0 rfl ?_
  refine z_iload_n cx d_X9_nearest_1 1 rfl ?_
  refine z_iload_n cx d_X9_nearest_2 2 rfl ?_
  obtain ⟨k6, v7, M5, hc, hF, hX8⟩ := zbx_inv hF
  refine z_callVX cx ht (As := [.int p0, .int p1]) (rest := []) (c_X9_needPlace l cx.2.2.2.1.1 M p0 p1 hl hT hc) (fun q => zxp_inv (hX8 q)) hT zo_10 cv_SunnyPans_210 ⟨rfl, rfl, Nat.le_of_ble_eq_true rfl, Nat.le_of_ble_eq_true rfl⟩ rfl rfl ⟨Nat.le_of_ble_eq_true rfl, Nat.le_of_ble_eq_true rfl⟩ ⟨Nat.le_of_ble_eq_true rfl, Nat.le_of_ble_eq_true rfl⟩ (Nat.le_of_ble_eq_true rfl) d_X9_nearest_3 (fun kq9 => ?_)
  have hF := hF kq9
  refine z_aload_n cx d_X9_nearest_6 0 rfl ?_
  refine z_getR cx hT fg_SunnyPans_51 172 rfl d_X9_nearest_7 ?_
  obtain ⟨M10, hc, hF⟩ := zbv_inv hF
  refine z_callV cx (As := []) (rest := []) (c_X0_clear l cx.2.2.2.1.1 M5 172 (tfX_10_172 hT) hc) (tfX_10_172 hT) zo_1 cv_SunnyPans_259 ⟨rfl, rfl, Nat.le_of_ble_eq_true rfl, Nat.le_of_ble_eq_true rfl⟩ rfl rfl ⟨Nat.le_of_ble_eq_true rfl, Nat.le_of_ble_eq_true rfl⟩ (Nat.le_of_ble_eq_true rfl) d_X9_nearest_10 ?_
  refine z_iconst (v := 0) cx d_X9_nearest_13 ki_0 ?_
  refine z_istore_n cx 3 [(3, .int (0 : Int32)), (0, .ref (ad 0)), (1, .int p0), (2, .int p1)] d_X9_nearest_14 rfl (by decide) rfl ?_
  exact z_lv [1, 2, 3, 0] _ rfl (hL15 zFuel p0 p1 (0 : Int32) M10 hF)
/-! SunnyPans.poured -/
set_option maxRecDepth 100000 in
theorem wd_1345 : Cond.methodLink "SunnyPans" 282 yX4_canPour ∈ tbG := tw6 45 rfl rfl
theorem cv_SunnyPans_282 : zCV "SunnyPans" 282 "SunnyPans$Pans" yX4_canPour cX4_canPour 3 (some .boolean) 2 := zCV_of wd_1345 wd_906 wd_907 wd_104 wd_908 (by decide +kernel)
theorem d_X9_poured_0 : decode cX9_poured 0 = .ok (.aload_n 0, 1) := by decide +kernel
theorem d_X9_poured_1 : decode cX9_poured 1 = .ok (.iload_n 1, 1) := by decide +kernel
theorem d_X9_poured_2 : decode cX9_poured 2 = .ok (.iload_n 2, 1) := by decide +kernel
theorem d_X9_poured_3 : decode cX9_poured 3 = .ok (.invokevirtual 210, 3) := by decide +kernel
theorem d_X9_poured_6 : decode cX9_poured 6 = .ok (.aload_n 0, 1) := by decide +kernel
theorem d_X9_poured_7 : decode cX9_poured 7 = .ok (.iload_n 3, 1) := by decide +kernel
theorem d_X9_poured_8 : decode cX9_poured 8 = .ok (.iconst 1, 1) := by decide +kernel
theorem d_X9_poured_9 : decode cX9_poured 9 = .ok (.sipush 999, 3) := by decide +kernel
theorem d_X9_poured_12 : decode cX9_poured 12 = .ok (.invokestatic 255, 3) := by decide +kernel
theorem d_X9_poured_15 : decode cX9_poured 15 = .ok (.invokevirtual 155, 3) := by decide +kernel
theorem d_X9_poured_18 : decode cX9_poured 18 = .ok (.aload_n 0, 1) := by decide +kernel
theorem d_X9_poured_19 : decode cX9_poured 19 = .ok (.getfield 19, 3) := by decide +kernel
theorem d_X9_poured_22 : decode cX9_poured 22 = .ok (.getfield 159, 3) := by decide +kernel
theorem d_X9_poured_25 : decode cX9_poured 25 = .ok (.astore 4, 2) := by decide +kernel
theorem d_X9_poured_27 : decode cX9_poured 27 = .ok (.iload_n 1, 1) := by decide +kernel
theorem d_X9_poured_28 : decode cX9_poured 28 = .ok (.iload_n 2, 1) := by decide +kernel
theorem d_X9_poured_29 : decode cX9_poured 29 = .ok (.invokestatic 213, 3) := by decide +kernel
theorem d_X9_poured_32 : decode cX9_poured 32 = .ok (.istore 5, 2) := by decide +kernel
theorem d_X9_poured_34 : decode cX9_poured 34 = .ok (.aload 4, 2) := by decide +kernel
theorem d_X9_poured_36 : decode cX9_poured 36 = .ok (.iload 5, 2) := by decide +kernel
theorem d_X9_poured_38 : decode cX9_poured 38 = .ok (.iload_n 3, 1) := by decide +kernel
theorem d_X9_poured_39 : decode cX9_poured 39 = .ok (.invokevirtual 282, 3) := by decide +kernel
theorem d_X9_poured_42 : decode cX9_poured 42 = .ok (.ifCond .eq 32, 3) := by decide +kernel
theorem d_X9_poured_45 : decode cX9_poured 45 = .ok (.aload 4, 2) := by decide +kernel
theorem d_X9_poured_47 : decode cX9_poured 47 = .ok (.getfield 181, 3) := by decide +kernel
theorem d_X9_poured_50 : decode cX9_poured 50 = .ok (.iload 5, 2) := by decide +kernel
theorem d_X9_poured_52 : decode cX9_poured 52 = .ok (.iaload, 1) := by decide +kernel
theorem d_X9_poured_53 : decode cX9_poured 53 = .ok (.iload_n 3, 1) := by decide +kernel
theorem d_X9_poured_54 : decode cX9_poured 54 = .ok (.bipush 8, 2) := by decide +kernel
theorem d_X9_poured_56 : decode cX9_poured 56 = .ok (.idiv, 1) := by decide +kernel
theorem d_X9_poured_57 : decode cX9_poured 57 = .ok (.iadd, 1) := by decide +kernel
theorem d_X9_poured_58 : decode cX9_poured 58 = .ok (.aload 4, 2) := by decide +kernel
theorem d_X9_poured_60 : decode cX9_poured 60 = .ok (.getfield 174, 3) := by decide +kernel
theorem d_X9_poured_63 : decode cX9_poured 63 = .ok (.iload 5, 2) := by decide +kernel
theorem d_X9_poured_65 : decode cX9_poured 65 = .ok (.iaload, 1) := by decide +kernel
theorem d_X9_poured_66 : decode cX9_poured 66 = .ok (.iload_n 3, 1) := by decide +kernel
theorem d_X9_poured_67 : decode cX9_poured 67 = .ok (.iadd, 1) := by decide +kernel
theorem d_X9_poured_68 : decode cX9_poured 68 = .ok (.invokestatic 217, 3) := by decide +kernel
theorem d_X9_poured_71 : decode cX9_poured 71 = .ok (.goto 4, 3) := by decide +kernel
theorem d_X9_poured_74 : decode cX9_poured 74 = .ok (.iconst (-1), 1) := by decide +kernel
theorem d_X9_poured_75 : decode cX9_poured 75 = .ok (.ireturn, 1) := by decide +kernel
noncomputable def F_X9_poured (M : zMem) (p0 : Int32) (p1 : Int32) (p2 : Int32) : Option (Nat × Int32 × zMem) :=
  zbx (F_X9_needPlace M p0 p1) (g := zxp) fun _ M1 =>
  zb (F_X9_within M1 p2 (1 : Int32) (999 : Int32)) fun v7 M6 =>
  zbx (F_X9_need M6 v7) (g := zxp) fun _ M8 =>
  zb (F_X9_placeOf M8 p0 p1) fun v14 M13 =>
  zb (F_X4_canPour M13 4 v14 p2) fun v16 M15 =>
  if v16 = 0 then
    some (0, (-1 : Int32), M15)
  else
    gin v14 64 <|
    zb (F_X9_strengthOf M15 ((M15.1 6 v14.toNatClampNeg) + (p2 / (8 : Int32))) ((M15.1 5 v14.toNatClampNeg) + p2)) fun v19 M18 =>
    some (0, v19, M18)
def rm_X9_poured : Room := { frames := 11, cells := 2, slots := 12, locals := 183 }
set_option maxHeartbeats 4000000 in
set_option maxRecDepth 100000 in
theorem c_X9_poured (l : Launch) {G : zG} {ad : Nat → Nat} {n : Nat} (hA : zInj ad n) (M : zMem) (p0 : Int32) (p1 : Int32) (p2 : Int32) (hl : l.stackTraces = false) (hT : zT shX n 0 10) {k9 : Nat} {r9 : Int32} {M9 : zMem} (hF : F_X9_poured M p0 p1 p2 = some (k9, r9, M9)) : zMX l yX9_poured cX9_poured 6 (some .int) rm_X9_poured 2 12 G shX ad n M [.ref (ad 0), .int p0, .int p1, .int p2] k9 (some (.int r9)) M9 := by
  refine zM_ofX hA (by decide +kernel) (lv := [(0, .ref (ad 0)), (1, .int p0), (2, .int p1), (3, .int p2)]) (Nat.le_of_ble_eq_true rfl) rfl (fun p e s m args below meth c A cx hr ht => ?_)
  unfold F_X9_poured at hF
  refine z_aload_n cx d_X9_poured_0 0 rfl ?_
  refine z_iload_n cx d_X9_poured_1 1 rfl ?_
  refine z_iload_n cx d_X9_poured_2 2 rfl ?_
  obtain ⟨k2, v3, M1, hc, hF, hX4⟩ := zbx_inv hF
  refine z_callVX cx ht (As := [.int p0, .int p1]) (rest := []) (c_X9_needPlace l cx.2.2.2.1.1 M p0 p1 hl hT hc) (fun q => zxp_inv (hX4 q)) hT zo_10 cv_SunnyPans_210 ⟨rfl, rfl, Nat.le_of_ble_eq_true rfl, Nat.le_of_ble_eq_true rfl⟩ rfl rfl ⟨Nat.le_of_ble_eq_true rfl, Nat.le_of_ble_eq_true rfl⟩ ⟨Nat.le_of_ble_eq_true rfl, Nat.le_of_ble_eq_true rfl⟩ (Nat.le_of_ble_eq_true rfl) d_X9_poured_3 (fun kq5 => ?_)
  have hF := hF kq5
  refine z_aload_n cx d_X9_poured_6 0 rfl ?_
  refine z_iload_n cx d_X9_poured_7 3 rfl ?_
  refine z_iconst (v := 1) cx d_X9_poured_8 ki_1 ?_
  refine z_sipush (v := 999) cx d_X9_poured_9 ks_999 ?_
  obtain ⟨v7, M6, hc, hF⟩ := zb_inv hF
  refine z_callS cx (As := [.int p2, .int (1 : Int32), .int (999 : Int32)]) (rest := [.ref (ad 0)]) (c_X9_within l cx.2.2.2.1.1 M1 p2 (1 : Int32) (999 : Int32)  hc) cs_SunnyPans_255 ⟨rfl, rfl, Nat.le_of_ble_eq_true rfl, Nat.le_of_ble_eq_true rfl⟩ rfl rfl ⟨Nat.le_of_ble_eq_true rfl, Nat.le_of_ble_eq_true rfl⟩ (Nat.le_of_ble_eq_true rfl) d_X9_poured_12 ?_
  obtain ⟨k9, v10, M8, hc, hF, hX11⟩ := zbx_inv hF
  refine z_callVX cx ht (As := [.int v7]) (rest := []) (c_X9_need l cx.2.2.2.1.1 M6 v7 hl hT hc) (fun q => zxp_inv (hX11 q)) hT zo_10 cv_SunnyPans_155 ⟨rfl, rfl, Nat.le_of_ble_eq_true rfl, Nat.le_of_ble_eq_true rfl⟩ rfl rfl ⟨Nat.le_of_ble_eq_true rfl, Nat.le_of_ble_eq_true rfl⟩ ⟨Nat.le_of_ble_eq_true rfl, Nat.le_of_ble_eq_true rfl⟩ (Nat.le_of_ble_eq_true rfl) d_X9_poured_15 (fun kq12 => ?_)
  have hF := hF kq12
  refine z_aload_n cx d_X9_poured_18 0 rfl ?_
  refine z_getR cx hT fg_SunnyPans_19 3 rfl d_X9_poured_19 ?_
  refine z_getR cx (tfX_10_3 hT) fg_SunnyPans_159 4 rfl d_X9_poured_22 ?_
  refine z_astore cx 4 [(4, .ref (ad 4)), (0, .ref (ad 0)), (1, .int p0), (2, .int p1), (3, .int p2)] d_X9_poured_25 (by decide) rfl ?_
  refine z_iload_n cx d_X9_poured_27 2 rfl ?_
  refine z_iload_n cx d_X9_poured_28 3 rfl ?_
  obtain ⟨v14, M13, hc, hF⟩ := zb_inv hF
  refine z_callS cx (As := [.int p0, .int p1]) (rest := []) (c_X9_placeOf l cx.2.2.2.1.1 M8 p0 p1  hc) cs_SunnyPans_213 ⟨rfl, rfl, Nat.le_of_ble_eq_true rfl, Nat.le_of_ble_eq_true rfl⟩ rfl rfl ⟨Nat.le_of_ble_eq_true rfl, Nat.le_of_ble_eq_true rfl⟩ (Nat.le_of_ble_eq_true rfl) d_X9_poured_29 ?_
  refine z_istore cx 5 [(5, .int v14), (4, .ref (ad 4)), (0, .ref (ad 0)), (1, .int p0), (2, .int p1), (3, .int p2)] d_X9_poured_32 (by decide) rfl ?_
  refine z_aload cx d_X9_poured_34 1 rfl ?_
  refine z_iload cx d_X9_poured_36 0 rfl ?_
  refine z_iload_n cx d_X9_poured_38 5 rfl ?_
  obtain ⟨v16, M15, hc, hF⟩ := zb_inv hF
  refine z_callV cx (As := [.int v14, .int p2]) (rest := []) (c_X4_canPour l cx.2.2.2.1.1 M13 4 v14 p2 (tfX_8_1 (tfX_10_3 hT)) hc) (tfX_8_1 (tfX_10_3 hT)) zo_5 cv_SunnyPans_282 ⟨rfl, rfl, Nat.le_of_ble_eq_true rfl, Nat.le_of_ble_eq_true rfl⟩ rfl rfl ⟨Nat.le_of_ble_eq_true rfl, Nat.le_of_ble_eq_true rfl⟩ (Nat.le_of_ble_eq_true rfl) d_X9_poured_39 ?_
  refine z_if_eq cx 74 d_X9_poured_42 (by decide) hF (fun hF => ?_) (fun hF => ?_)
  · refine z_iconst (v := -1) cx d_X9_poured_74 ki_m1 ?_
    exact z_iretX cx hr rfl hF ⟨Nat.le_of_ble_eq_true rfl, Nat.le_of_ble_eq_true rfl⟩ d_X9_poured_75
  refine z_aload cx d_X9_poured_45 1 rfl ?_
  refine z_getR cx (tfX_8_1 (tfX_10_3 hT)) fg_SunnyPans_181 6 rfl d_X9_poured_47 ?_
  refine z_iload cx d_X9_poured_50 0 rfl ?_
  obtain ⟨hi17, hF⟩ := gin_inv hF
  refine z_iald cx (tfX_5_2 (tfX_8_1 (tfX_10_3 hT))) za_16 hi17 v14.toNatClampNeg rfl d_X9_poured_52 ?_
  refine z_iload_n cx d_X9_poured_53 5 rfl ?_
  refine z_bipush (v := 8) cx d_X9_poured_54 kb_8 ?_
  refine z_idiv cx d_X9_poured_56 (by decide) ?_
  refine z_iadd cx d_X9_poured_57 ?_
  refine z_aload cx d_X9_poured_58 1 rfl ?_
  refine z_getR cx (tfX_8_1 (tfX_10_3 hT)) fg_SunnyPans_174 5 rfl d_X9_poured_60 ?_
  refine z_iload cx d_X9_poured_63 0 rfl ?_
  refine z_iald cx (tfX_5_1 (tfX_8_1 (tfX_10_3 hT))) za_16 hi17 v14.toNatClampNeg rfl d_X9_poured_65 ?_
  refine z_iload_n cx d_X9_poured_66 5 rfl ?_
  refine z_iadd cx d_X9_poured_67 ?_
  obtain ⟨v19, M18, hc, hF⟩ := zb_inv hF
  refine z_callS cx (As := [.int ((M15.1 6 v14.toNatClampNeg) + (p2 / (8 : Int32))), .int ((M15.1 5 v14.toNatClampNeg) + p2)]) (rest := []) (c_X9_strengthOf l cx.2.2.2.1.1 M15 ((M15.1 6 v14.toNatClampNeg) + (p2 / (8 : Int32))) ((M15.1 5 v14.toNatClampNeg) + p2)  hc) cs_SunnyPans_217 ⟨rfl, rfl, Nat.le_of_ble_eq_true rfl, Nat.le_of_ble_eq_true rfl⟩ rfl rfl ⟨Nat.le_of_ble_eq_true rfl, Nat.le_of_ble_eq_true rfl⟩ (Nat.le_of_ble_eq_true rfl) d_X9_poured_68 ?_
  refine z_goto cx 75 d_X9_poured_71 (by decide) ?_
  exact z_iretX cx hr rfl hF ⟨Nat.le_of_ble_eq_true rfl, Nat.le_of_ble_eq_true rfl⟩ d_X9_poured_75
/-! SunnyPans.givenOf -/
theorem d_X9_givenOf_0 : decode cX9_givenOf 0 = .ok (.iconst 0, 1) := by decide +kernel
theorem d_X9_givenOf_1 : decode cX9_givenOf 1 = .ok (.istore 4, 2) := by decide +kernel
theorem d_X9_givenOf_3 : decode cX9_givenOf 3 = .ok (.iconst 0, 1) := by decide +kernel
theorem d_X9_givenOf_4 : decode cX9_givenOf 4 = .ok (.istore 5, 2) := by decide +kernel
theorem d_X9_givenOf_6 : decode cX9_givenOf 6 = .ok (.iload 5, 2) := by decide +kernel
theorem d_X9_givenOf_8 : decode cX9_givenOf 8 = .ok (.aload_n 0, 1) := by decide +kernel
theorem d_X9_givenOf_9 : decode cX9_givenOf 9 = .ok (.getfield 62, 3) := by decide +kernel
theorem d_X9_givenOf_12 : decode cX9_givenOf 12 = .ok (.getfield 162, 3) := by decide +kernel
theorem d_X9_givenOf_15 : decode cX9_givenOf 15 = .ok (.if_icmp .ge 44, 3) := by decide +kernel
theorem d_X9_givenOf_18 : decode cX9_givenOf 18 = .ok (.iload_n 2, 1) := by decide +kernel
theorem d_X9_givenOf_19 : decode cX9_givenOf 19 = .ok (.iload 5, 2) := by decide +kernel
theorem d_X9_givenOf_21 : decode cX9_givenOf 21 = .ok (.ishr, 1) := by decide +kernel
theorem d_X9_givenOf_22 : decode cX9_givenOf 22 = .ok (.iconst 1, 1) := by decide +kernel
theorem d_X9_givenOf_23 : decode cX9_givenOf 23 = .ok (.iand, 1) := by decide +kernel
theorem d_X9_givenOf_24 : decode cX9_givenOf 24 = .ok (.ifCond .eq 29, 3) := by decide +kernel
theorem d_X9_givenOf_27 : decode cX9_givenOf 27 = .ok (.iload 4, 2) := by decide +kernel
theorem d_X9_givenOf_29 : decode cX9_givenOf 29 = .ok (.aload_n 0, 1) := by decide +kernel
theorem d_X9_givenOf_30 : decode cX9_givenOf 30 = .ok (.getfield 19, 3) := by decide +kernel
theorem d_X9_givenOf_33 : decode cX9_givenOf 33 = .ok (.getfield 159, 3) := by decide +kernel
theorem d_X9_givenOf_36 : decode cX9_givenOf 36 = .ok (.getfield 174, 3) := by decide +kernel
theorem d_X9_givenOf_39 : decode cX9_givenOf 39 = .ok (.iload 5, 2) := by decide +kernel
theorem d_X9_givenOf_41 : decode cX9_givenOf 41 = .ok (.iload_n 1, 1) := by decide +kernel
theorem d_X9_givenOf_42 : decode cX9_givenOf 42 = .ok (.invokestatic 213, 3) := by decide +kernel
theorem d_X9_givenOf_45 : decode cX9_givenOf 45 = .ok (.iaload, 1) := by decide +kernel
theorem d_X9_givenOf_46 : decode cX9_givenOf 46 = .ok (.iload_n 3, 1) := by decide +kernel
theorem d_X9_givenOf_47 : decode cX9_givenOf 47 = .ok (.invokestatic 290, 3) := by decide +kernel
theorem d_X9_givenOf_50 : decode cX9_givenOf 50 = .ok (.iadd, 1) := by decide +kernel
theorem d_X9_givenOf_51 : decode cX9_givenOf 51 = .ok (.istore 4, 2) := by decide +kernel
theorem d_X9_givenOf_53 : decode cX9_givenOf 53 = .ok (.iinc 5 1, 3) := by decide +kernel
theorem d_X9_givenOf_56 : decode cX9_givenOf 56 = .ok (.goto (-50), 3) := by decide +kernel
theorem d_X9_givenOf_59 : decode cX9_givenOf 59 = .ok (.iload 4, 2) := by decide +kernel
theorem d_X9_givenOf_61 : decode cX9_givenOf 61 = .ok (.ireturn, 1) := by decide +kernel
noncomputable def F_X9_givenOf_53 (p0 : Int32) (p1 : Int32) (p2 : Int32) (self6 : Int32 → Int32 → Int32 → Int32 → Int32 → zMem → Option (Int32 × zMem)) (b53_L1 : Int32) (b53_L2 : Int32) (b53_L3 : Int32) (b53_L4 : Int32) (b53_L5 : Int32) (M : zMem) : Option (Int32 × zMem) :=
  self6 b53_L1 b53_L2 b53_L3 b53_L4 (b53_L5 + 1) M
noncomputable def F_X9_givenOf_6 (p0 : Int32) (p1 : Int32) (p2 : Int32) (self6 : Int32 → Int32 → Int32 → Int32 → Int32 → zMem → Option (Int32 × zMem)) (b6_L1 : Int32) (b6_L2 : Int32) (b6_L3 : Int32) (b6_L4 : Int32) (b6_L5 : Int32) (M : zMem) : Option (Int32 × zMem) :=
  gd (shX (M.2.2 0 8) == 6) <|
  if (M.1 (M.2.2 0 8) 0) ≤ b6_L5 then
    some (b6_L4, M)
  else
    if ((b6_L2 >>> (b6_L5 &&& 31)) &&& (1 : Int32)) = 0 then
      F_X9_givenOf_53 p0 p1 p2 self6 b6_L1 b6_L2 b6_L3 b6_L4 b6_L5 M
    else
      zb (F_X9_placeOf M b6_L5 b6_L1) fun v3 M2 =>
      gin v3 64 <|
      zl (b6_L4 + (zmin (M2.1 5 v3.toNatClampNeg) b6_L3)) fun v5 =>
      F_X9_givenOf_53 p0 p1 p2 self6 b6_L1 b6_L2 b6_L3 v5 b6_L5 M2
noncomputable def F_X9_givenOf (M : zMem) (p0 : Int32) (p1 : Int32) (p2 : Int32) : Option (Int32 × zMem) :=
  itF (fun _ _ _ _ _ _ => none) (F_X9_givenOf_6 p0 p1 p2) zFuel p0 p1 p2 (0 : Int32) (0 : Int32) M
def rm_X9_givenOf : Room := { frames := 3, cells := 0, slots := 0, locals := 101 }
set_option maxHeartbeats 4000000 in
set_option maxRecDepth 100000 in
theorem c_X9_givenOf (l : Launch) {G : zG} {ad : Nat → Nat} {n : Nat} (hA : zInj ad n) (M : zMem) (p0 : Int32) (p1 : Int32) (p2 : Int32) (hT : zT shX n 0 10) {r9 : Int32} {M9 : zMem} (hF : F_X9_givenOf M p0 p1 p2 = some (r9, M9)) : zM l yX9_givenOf cX9_givenOf 6 (some .int) rm_X9_givenOf G shX ad n M [.ref (ad 0), .int p0, .int p1, .int p2] (some (.int r9)) M9 := by
  refine zM_of hA (by decide +kernel) (lv := [(0, .ref (ad 0)), (1, .int p0), (2, .int p1), (3, .int p2)]) (Nat.le_of_ble_eq_true rfl) rfl (fun p e s m args below meth c A cx hr => ?_)
  have hb53 : ∀ (self6 : Int32 → Int32 → Int32 → Int32 → Int32 → zMem → Option (Int32 × zMem)) (hs6 : ∀ (b6_L1 : Int32) (b6_L2 : Int32) (b6_L3 : Int32) (b6_L4 : Int32) (b6_L5 : Int32) (M : zMem), self6 b6_L1 b6_L2 b6_L3 b6_L4 b6_L5 M = some (r9, M9) → zJ p l e rm_X9_givenOf s m args below meth c G shX ad n A 6 (MQ below (zQ G shX ad n M9 (some (.int r9)) A) args s 0 0 A) 0 0 M 6 [(0, .ref (ad 0)), (1, .int b6_L1), (2, .int b6_L2), (3, .int b6_L3), (4, .int b6_L4), (5, .int b6_L5)] []), ∀ (b53_L1 : Int32) (b53_L2 : Int32) (b53_L3 : Int32) (b53_L4 : Int32) (b53_L5 : Int32) (M : zMem), F_X9_givenOf_53 p0 p1 p2 self6 b53_L1 b53_L2 b53_L3 b53_L4 b53_L5 M = some (r9, M9) → zJ p l e rm_X9_givenOf s m args below meth c G shX ad n A 6 (MQ below (zQ G shX ad n M9 (some (.int r9)) A) args s 0 0 A) 0 0 M 53 [(0, .ref (ad 0)), (1, .int b53_L1), (2, .int b53_L2), (3, .int b53_L3), (4, .int b53_L4), (5, .int b53_L5)] [] := by
    intro self6 hs6 b53_L1 b53_L2 b53_L3 b53_L4 b53_L5 M hF
    unfold F_X9_givenOf_53 at hF
    refine z_iinc cx 5 1 [(5, .int (b53_L5 + 1)), (0, .ref (ad 0)), (1, .int b53_L1), (2, .int b53_L2), (3, .int b53_L3), (4, .int b53_L4)] d_X9_givenOf_53 5 rfl ki_1 (by decide) rfl ?_
    refine z_goto cx 6 d_X9_givenOf_56 (by decide) ?_
    exact z_lv [1, 2, 3, 4, 5, 0] _ rfl (hs6 b53_L1 b53_L2 b53_L3 b53_L4 (b53_L5 + 1) M hF)
  have hL6 : ∀ (fuel : Nat), ∀ (b6_L1 : Int32) (b6_L2 : Int32) (b6_L3 : Int32) (b6_L4 : Int32) (b6_L5 : Int32) (M : zMem), itF (fun _ _ _ _ _ _ => none) (F_X9_givenOf_6 p0 p1 p2) fuel b6_L1 b6_L2 b6_L3 b6_L4 b6_L5 M = some (r9, M9) → zJ p l e rm_X9_givenOf s m args below meth c G shX ad n A 6 (MQ below (zQ G shX ad n M9 (some (.int r9)) A) args s 0 0 A) 0 0 M 6 [(0, .ref (ad 0)), (1, .int b6_L1), (2, .int b6_L2), (3, .int b6_L3), (4, .int b6_L4), (5, .int b6_L5)] [] := by
    intro fuel
    induction fuel with
    | zero => intro b6_L1 b6_L2 b6_L3 b6_L4 b6_L5 M hF; cases hF
    | succ fuel hs6 =>
      intro b6_L1 b6_L2 b6_L3 b6_L4 b6_L5 M hF
      have hF : F_X9_givenOf_6 p0 p1 p2 (itF (fun _ _ _ _ _ _ => none) (F_X9_givenOf_6 p0 p1 p2) fuel) b6_L1 b6_L2 b6_L3 b6_L4 b6_L5 M = some (r9, M9) := hF
      generalize itF (fun _ _ _ _ _ _ => none) (F_X9_givenOf_6 p0 p1 p2) fuel = self6 at hs6 hF
      unfold F_X9_givenOf_6 at hF
      refine z_iload cx d_X9_givenOf_6 5 rfl ?_
      refine z_aload_n cx d_X9_givenOf_8 0 rfl ?_
      obtain ⟨hg1, hF⟩ := gd_inv hF
      refine z_getD cx hT fg_SunnyPans_62 d_X9_givenOf_9 ?_
      refine z_getI cx (td_6 hT hg1) fg_SunnyPans_162 d_X9_givenOf_12 ?_
      refine z_icmp_ge cx 59 d_X9_givenOf_15 (by decide) hF (fun hF => ?_) (fun hF => ?_)
      · refine z_iload cx d_X9_givenOf_59 4 rfl ?_
        exact z_iret cx hr rfl hF d_X9_givenOf_61
      refine z_iload_n cx d_X9_givenOf_18 2 rfl ?_
      refine z_iload cx d_X9_givenOf_19 5 rfl ?_
      refine z_ishr cx d_X9_givenOf_21 ?_
      refine z_iconst (v := 1) cx d_X9_givenOf_22 ki_1 ?_
      refine z_iand cx d_X9_givenOf_23 ?_
      refine z_if_eq cx 53 d_X9_givenOf_24 (by decide) hF (fun hF => ?_) (fun hF => ?_)
      · exact hb53 self6 hs6 b6_L1 b6_L2 b6_L3 b6_L4 b6_L5 M hF
      refine z_iload cx d_X9_givenOf_27 4 rfl ?_
      refine z_aload_n cx d_X9_givenOf_29 0 rfl ?_
      refine z_getR cx hT fg_SunnyPans_19 3 rfl d_X9_givenOf_30 ?_
      refine z_getR cx (tfX_10_3 hT) fg_SunnyPans_159 4 rfl d_X9_givenOf_33 ?_
      refine z_getR cx (tfX_8_1 (tfX_10_3 hT)) fg_SunnyPans_174 5 rfl d_X9_givenOf_36 ?_
      refine z_iload cx d_X9_givenOf_39 5 rfl ?_
      refine z_iload_n cx d_X9_givenOf_41 1 rfl ?_
      obtain ⟨v3, M2, hc, hF⟩ := zb_inv hF
      refine z_callS cx (As := [.int b6_L5, .int b6_L1]) (rest := [.ref (ad 5), .int b6_L4]) (c_X9_placeOf l cx.2.2.2.1.1 M b6_L5 b6_L1  hc) cs_SunnyPans_213 ⟨rfl, rfl, Nat.le_of_ble_eq_true rfl, Nat.le_of_ble_eq_true rfl⟩ rfl rfl ⟨Nat.zero_le _, Nat.zero_le _⟩ (Nat.le_of_ble_eq_true rfl) d_X9_givenOf_42 ?_
      obtain ⟨hi4, hF⟩ := gin_inv hF
      refine z_iald cx (tfX_5_1 (tfX_8_1 (tfX_10_3 hT))) za_16 hi4 v3.toNatClampNeg rfl d_X9_givenOf_45 ?_
      refine z_iload_n cx d_X9_givenOf_46 3 rfl ?_
      refine z_mmin cx ⟨wd_950, wd_602, wd_116, wd_603⟩ ⟨Nat.le_of_ble_eq_true rfl, Nat.le_of_ble_eq_true rfl, Nat.le_of_ble_eq_true rfl, Nat.le_of_ble_eq_true rfl⟩ d_X9_givenOf_47 ?_
      refine z_iadd cx d_X9_givenOf_50 ?_
      refine z_nm hF (fun v5 hF => ?_)
      refine z_istore cx 4 [(4, .int v5), (0, .ref (ad 0)), (1, .int b6_L1), (2, .int b6_L2), (3, .int b6_L3), (5, .int b6_L5)] d_X9_givenOf_51 (by decide) rfl ?_
      exact z_lv [1, 2, 3, 4, 0, 5] _ rfl (hb53 self6 hs6 b6_L1 b6_L2 b6_L3 v5 b6_L5 M2 hF)
  unfold F_X9_givenOf at hF
  refine z_iconst (v := 0) cx d_X9_givenOf_0 ki_0 ?_
  refine z_istore cx 4 [(4, .int (0 : Int32)), (0, .ref (ad 0)), (1, .int p0), (2, .int p1), (3, .int p2)] d_X9_givenOf_1 (by decide) rfl ?_
  refine z_iconst (v := 0) cx d_X9_givenOf_3 ki_0 ?_
  refine z_istore cx 5 [(5, .int (0 : Int32)), (4, .int (0 : Int32)), (0, .ref (ad 0)), (1, .int p0), (2, .int p1), (3, .int p2)] d_X9_givenOf_4 (by decide) rfl ?_
  exact z_lv [2, 3, 4, 5, 1, 0] _ rfl (hL6 zFuel p0 p1 p2 (0 : Int32) (0 : Int32) M hF)
/-! SunnyPans.water -/
set_option maxRecDepth 100000 in
theorem wd_1265 : Cond.code yX9_givenOf cX9_givenOf 6 (some .int) ∈ tbG := tw5 205 rfl rfl
set_option maxRecDepth 100000 in
theorem wd_1262 : Cond.methodLink "SunnyPans" 286 yX9_givenOf ∈ tbG := tw5 202 rfl rfl
set_option maxRecDepth 100000 in
theorem wd_1264 : Cond.instanceMethod yX9_givenOf ∈ tbG := tw5 204 rfl rfl
theorem wd_37 : Cond.selects "SunnyPans" yX9_givenOf yX9_givenOf ∈ tbG := tw 37 (by decide +kernel) rfl
theorem cv_SunnyPans_286 : zCV "SunnyPans" 286 "SunnyPans" yX9_givenOf cX9_givenOf 6 (some .int) 3 := zCV_of wd_1262 wd_1264 wd_37 wd_101 wd_1265 (by decide +kernel)
theorem ks_8192 : (Int16.ofInt (8192)).toInt32 = (8192 : Int32) := by decide +kernel
set_option maxRecDepth 100000 in
theorem wd_1261 : Cond.constant "SunnyPans" 285 (99999) ∈ tbG := tw5 201 rfl rfl
theorem d_X9_water_0 : decode cX9_water 0 = .ok (.aload_n 0, 1) := by decide +kernel
theorem d_X9_water_1 : decode cX9_water 1 = .ok (.iload_n 1, 1) := by decide +kernel
theorem d_X9_water_2 : decode cX9_water 2 = .ok (.iload_n 2, 1) := by decide +kernel
theorem d_X9_water_3 : decode cX9_water 3 = .ok (.invokevirtual 210, 3) := by decide +kernel
theorem d_X9_water_6 : decode cX9_water 6 = .ok (.aload_n 0, 1) := by decide +kernel
theorem d_X9_water_7 : decode cX9_water 7 = .ok (.iload_n 3, 1) := by decide +kernel
theorem d_X9_water_8 : decode cX9_water 8 = .ok (.iconst 0, 1) := by decide +kernel
theorem d_X9_water_9 : decode cX9_water 9 = .ok (.iconst 1, 1) := by decide +kernel
theorem d_X9_water_10 : decode cX9_water 10 = .ok (.aload_n 0, 1) := by decide +kernel
theorem d_X9_water_11 : decode cX9_water 11 = .ok (.getfield 62, 3) := by decide +kernel
theorem d_X9_water_14 : decode cX9_water 14 = .ok (.getfield 162, 3) := by decide +kernel
theorem d_X9_water_17 : decode cX9_water 17 = .ok (.ishl, 1) := by decide +kernel
theorem d_X9_water_18 : decode cX9_water 18 = .ok (.iconst 1, 1) := by decide +kernel
theorem d_X9_water_19 : decode cX9_water 19 = .ok (.isub, 1) := by decide +kernel
theorem d_X9_water_20 : decode cX9_water 20 = .ok (.invokestatic 255, 3) := by decide +kernel
theorem d_X9_water_23 : decode cX9_water 23 = .ok (.ifCond .eq 19, 3) := by decide +kernel
theorem d_X9_water_26 : decode cX9_water 26 = .ok (.iload 4, 2) := by decide +kernel
theorem d_X9_water_28 : decode cX9_water 28 = .ok (.iconst 0, 1) := by decide +kernel
theorem d_X9_water_29 : decode cX9_water 29 = .ok (.ldc_w 285, 3) := by decide +kernel
theorem d_X9_water_32 : decode cX9_water 32 = .ok (.invokestatic 255, 3) := by decide +kernel
theorem d_X9_water_35 : decode cX9_water 35 = .ok (.ifCond .eq 7, 3) := by decide +kernel
theorem d_X9_water_38 : decode cX9_water 38 = .ok (.iconst 1, 1) := by decide +kernel
theorem d_X9_water_39 : decode cX9_water 39 = .ok (.goto 4, 3) := by decide +kernel
theorem d_X9_water_42 : decode cX9_water 42 = .ok (.iconst 0, 1) := by decide +kernel
theorem d_X9_water_43 : decode cX9_water 43 = .ok (.invokevirtual 155, 3) := by decide +kernel
theorem d_X9_water_46 : decode cX9_water 46 = .ok (.iload_n 3, 1) := by decide +kernel
theorem d_X9_water_47 : decode cX9_water 47 = .ok (.iload_n 1, 1) := by decide +kernel
theorem d_X9_water_48 : decode cX9_water 48 = .ok (.ishr, 1) := by decide +kernel
theorem d_X9_water_49 : decode cX9_water 49 = .ok (.iconst 1, 1) := by decide +kernel
theorem d_X9_water_50 : decode cX9_water 50 = .ok (.iand, 1) := by decide +kernel
theorem d_X9_water_51 : decode cX9_water 51 = .ok (.ifCond .ne 5, 3) := by decide +kernel
theorem d_X9_water_54 : decode cX9_water 54 = .ok (.iconst 0, 1) := by decide +kernel
theorem d_X9_water_55 : decode cX9_water 55 = .ok (.ireturn, 1) := by decide +kernel
theorem d_X9_water_56 : decode cX9_water 56 = .ok (.iconst 0, 1) := by decide +kernel
theorem d_X9_water_57 : decode cX9_water 57 = .ok (.istore 5, 2) := by decide +kernel
theorem d_X9_water_59 : decode cX9_water 59 = .ok (.sipush 8192, 3) := by decide +kernel
theorem d_X9_water_62 : decode cX9_water 62 = .ok (.istore 6, 2) := by decide +kernel
theorem d_X9_water_64 : decode cX9_water 64 = .ok (.iload 6, 2) := by decide +kernel
theorem d_X9_water_66 : decode cX9_water 66 = .ok (.ifCond .le 35, 3) := by decide +kernel
theorem d_X9_water_69 : decode cX9_water 69 = .ok (.aload_n 0, 1) := by decide +kernel
theorem d_X9_water_70 : decode cX9_water 70 = .ok (.iload_n 2, 1) := by decide +kernel
theorem d_X9_water_71 : decode cX9_water 71 = .ok (.iload_n 3, 1) := by decide +kernel
theorem d_X9_water_72 : decode cX9_water 72 = .ok (.iload 5, 2) := by decide +kernel
theorem d_X9_water_74 : decode cX9_water 74 = .ok (.iload 6, 2) := by decide +kernel
theorem d_X9_water_76 : decode cX9_water 76 = .ok (.iadd, 1) := by decide +kernel
theorem d_X9_water_77 : decode cX9_water 77 = .ok (.invokevirtual 286, 3) := by decide +kernel
theorem d_X9_water_80 : decode cX9_water 80 = .ok (.iload 4, 2) := by decide +kernel
theorem d_X9_water_82 : decode cX9_water 82 = .ok (.if_icmp .gt 10, 3) := by decide +kernel
theorem d_X9_water_85 : decode cX9_water 85 = .ok (.iload 5, 2) := by decide +kernel
theorem d_X9_water_87 : decode cX9_water 87 = .ok (.iload 6, 2) := by decide +kernel
theorem d_X9_water_89 : decode cX9_water 89 = .ok (.iadd, 1) := by decide +kernel
theorem d_X9_water_90 : decode cX9_water 90 = .ok (.istore 5, 2) := by decide +kernel
theorem d_X9_water_92 : decode cX9_water 92 = .ok (.iload 6, 2) := by decide +kernel
theorem d_X9_water_94 : decode cX9_water 94 = .ok (.iconst 2, 1) := by decide +kernel
theorem d_X9_water_95 : decode cX9_water 95 = .ok (.idiv, 1) := by decide +kernel
theorem d_X9_water_96 : decode cX9_water 96 = .ok (.istore 6, 2) := by decide +kernel
theorem d_X9_water_98 : decode cX9_water 98 = .ok (.goto (-34), 3) := by decide +kernel
theorem d_X9_water_101 : decode cX9_water 101 = .ok (.aload_n 0, 1) := by decide +kernel
theorem d_X9_water_102 : decode cX9_water 102 = .ok (.getfield 19, 3) := by decide +kernel
theorem d_X9_water_105 : decode cX9_water 105 = .ok (.getfield 159, 3) := by decide +kernel
theorem d_X9_water_108 : decode cX9_water 108 = .ok (.getfield 174, 3) := by decide +kernel
theorem d_X9_water_111 : decode cX9_water 111 = .ok (.iload_n 1, 1) := by decide +kernel
theorem d_X9_water_112 : decode cX9_water 112 = .ok (.iload_n 2, 1) := by decide +kernel
theorem d_X9_water_113 : decode cX9_water 113 = .ok (.invokestatic 213, 3) := by decide +kernel
theorem d_X9_water_116 : decode cX9_water 116 = .ok (.iaload, 1) := by decide +kernel
theorem d_X9_water_117 : decode cX9_water 117 = .ok (.iload 5, 2) := by decide +kernel
theorem d_X9_water_119 : decode cX9_water 119 = .ok (.invokestatic 290, 3) := by decide +kernel
theorem d_X9_water_122 : decode cX9_water 122 = .ok (.ireturn, 1) := by decide +kernel
noncomputable def F_X9_water_92 (p0 : Int32) (p1 : Int32) (p2 : Int32) (p3 : Int32) (self64 : Int32 → Int32 → Int32 → Int32 → Int32 → Int32 → zMem → Option (Nat × Int32 × zMem)) (b92_L1 : Int32) (b92_L2 : Int32) (b92_L3 : Int32) (b92_L4 : Int32) (b92_L5 : Int32) (b92_L6 : Int32) (M : zMem) : Option (Nat × Int32 × zMem) :=
  zl (b92_L6 / (2 : Int32)) fun v1 =>
  self64 b92_L1 b92_L2 b92_L3 b92_L4 b92_L5 v1 M
noncomputable def F_X9_water_64 (p0 : Int32) (p1 : Int32) (p2 : Int32) (p3 : Int32) (self64 : Int32 → Int32 → Int32 → Int32 → Int32 → Int32 → zMem → Option (Nat × Int32 × zMem)) (b64_L1 : Int32) (b64_L2 : Int32) (b64_L3 : Int32) (b64_L4 : Int32) (b64_L5 : Int32) (b64_L6 : Int32) (M : zMem) : Option (Nat × Int32 × zMem) :=
  if b64_L6 ≤ 0 then
    zb (F_X9_placeOf M b64_L1 b64_L2) fun v3 M2 =>
    gin v3 64 <|
    some (0, (zmin (M2.1 5 v3.toNatClampNeg) b64_L5), M2)
  else
    zb (F_X9_givenOf M b64_L2 b64_L3 (b64_L5 + b64_L6)) fun v6 M5 =>
    if b64_L4 < v6 then
      F_X9_water_92 p0 p1 p2 p3 self64 b64_L1 b64_L2 b64_L3 b64_L4 b64_L5 b64_L6 M5
    else
      zl (b64_L5 + b64_L6) fun v7 =>
      F_X9_water_92 p0 p1 p2 p3 self64 b64_L1 b64_L2 b64_L3 b64_L4 v7 b64_L6 M5
noncomputable def F_X9_water_43 (p0 : Int32) (p1 : Int32) (p2 : Int32) (p3 : Int32) (b43_L1 : Int32) (b43_L2 : Int32) (b43_L3 : Int32) (b43_L4 : Int32) (b43_S1 : Int32) (M : zMem) : Option (Nat × Int32 × zMem) :=
  zbx (F_X9_need M b43_S1) (g := zxp) fun _ M8 =>
  if ((b43_L3 >>> (b43_L1 &&& 31)) &&& (1 : Int32)) = 0 then
    some (0, (0 : Int32), M8)
  else
    itF (fun _ _ _ _ _ _ _ => none) (F_X9_water_64 p0 p1 p2 p3) zFuel b43_L1 b43_L2 b43_L3 b43_L4 (0 : Int32) (8192 : Int32) M8
noncomputable def F_X9_water_42 (p0 : Int32) (p1 : Int32) (p2 : Int32) (p3 : Int32) (b42_L1 : Int32) (b42_L2 : Int32) (b42_L3 : Int32) (b42_L4 : Int32) (M : zMem) : Option (Nat × Int32 × zMem) :=
  F_X9_water_43 p0 p1 p2 p3 b42_L1 b42_L2 b42_L3 b42_L4 (0 : Int32) M
noncomputable def F_X9_water (M : zMem) (p0 : Int32) (p1 : Int32) (p2 : Int32) (p3 : Int32) : Option (Nat × Int32 × zMem) :=
  zbx (F_X9_needPlace M p0 p1) (g := zxp) fun _ M13 =>
  gd (shX (M13.2.2 0 8) == 6) <|
  zb (F_X9_within M13 p2 (0 : Int32) (((1 : Int32) <<< ((M13.1 (M13.2.2 0 8) 0) &&& 31)) - (1 : Int32))) fun v20 M19 =>
  if v20 = 0 then
    F_X9_water_42 p0 p1 p2 p3 p0 p1 p2 p3 M19
  else
    zb (F_X9_within M19 p3 (0 : Int32) (99999 : Int32)) fun v22 M21 =>
    if v22 = 0 then
      F_X9_water_42 p0 p1 p2 p3 p0 p1 p2 p3 M21
    else
      F_X9_water_43 p0 p1 p2 p3 p0 p1 p2 p3 (1 : Int32) M21
def rm_X9_water : Room := { frames := 11, cells := 2, slots := 12, locals := 183 }
set_option maxHeartbeats 4000000 in
set_option maxRecDepth 100000 in
theorem c_X9_water (l : Launch) {G : zG} {ad : Nat → Nat} {n : Nat} (hA : zInj ad n) (M : zMem) (p0 : Int32) (p1 : Int32) (p2 : Int32) (p3 : Int32) (hl : l.stackTraces = false) (hT : zT shX n 0 10) {k9 : Nat} {r9 : Int32} {M9 : zMem} (hF : F_X9_water M p0 p1 p2 p3 = some (k9, r9, M9)) : zMX l yX9_water cX9_water 7 (some .int) rm_X9_water 2 12 G shX ad n M [.ref (ad 0), .int p0, .int p1, .int p2, .int p3] k9 (some (.int r9)) M9 := by
  refine zM_ofX hA (by decide +kernel) (lv := [(0, .ref (ad 0)), (1, .int p0), (2, .int p1), (3, .int p2), (4, .int p3)]) (Nat.le_of_ble_eq_true rfl) rfl (fun p e s m args below meth c A cx hr ht => ?_)
  have hb92 : ∀ (self64 : Int32 → Int32 → Int32 → Int32 → Int32 → Int32 → zMem → Option (Nat × Int32 × zMem)) (hs64 : ∀ (b64_L1 : Int32) (b64_L2 : Int32) (b64_L3 : Int32) (b64_L4 : Int32) (b64_L5 : Int32) (b64_L6 : Int32) (M : zMem), self64 b64_L1 b64_L2 b64_L3 b64_L4 b64_L5 b64_L6 M = some (k9, r9, M9) → zJ p l e rm_X9_water s m args below meth c G shX ad n A 7 (vx_MQ below (zQX G shX ad n M9 k9 (some (.int r9)) A) (zXC G shX ad n M9 k9 A) args s 2 12 A) 2 12 M 64 [(0, .ref (ad 0)), (1, .int b64_L1), (2, .int b64_L2), (3, .int b64_L3), (4, .int b64_L4), (5, .int b64_L5), (6, .int b64_L6)] []), ∀ (b92_L1 : Int32) (b92_L2 : Int32) (b92_L3 : Int32) (b92_L4 : Int32) (b92_L5 : Int32) (b92_L6 : Int32) (M : zMem), F_X9_water_92 p0 p1 p2 p3 self64 b92_L1 b92_L2 b92_L3 b92_L4 b92_L5 b92_L6 M = some (k9, r9, M9) → zJ p l e rm_X9_water s m args below meth c G shX ad n A 7 (vx_MQ below (zQX G shX ad n M9 k9 (some (.int r9)) A) (zXC G shX ad n M9 k9 A) args s 2 12 A) 2 12 M 92 [(0, .ref (ad 0)), (1, .int b92_L1), (2, .int b92_L2), (3, .int b92_L3), (4, .int b92_L4), (5, .int b92_L5), (6, .int b92_L6)] [] := by
    intro self64 hs64 b92_L1 b92_L2 b92_L3 b92_L4 b92_L5 b92_L6 M hF
    unfold F_X9_water_92 at hF
    refine z_iload cx d_X9_water_92 6 rfl ?_
    refine z_iconst (v := 2) cx d_X9_water_94 ki_2 ?_
    refine z_idiv cx d_X9_water_95 (by decide) ?_
    refine z_nm hF (fun v1 hF => ?_)
    refine z_istore cx 6 [(6, .int v1), (0, .ref (ad 0)), (1, .int b92_L1), (2, .int b92_L2), (3, .int b92_L3), (4, .int b92_L4), (5, .int b92_L5)] d_X9_water_96 (by decide) rfl ?_
    refine z_goto cx 64 d_X9_water_98 (by decide) ?_
    exact z_lv [1, 2, 3, 4, 5, 6, 0] _ rfl (hs64 b92_L1 b92_L2 b92_L3 b92_L4 b92_L5 v1 M hF)
  have hL64 : ∀ (fuel : Nat), ∀ (b64_L1 : Int32) (b64_L2 : Int32) (b64_L3 : Int32) (b64_L4 : Int32) (b64_L5 : Int32) (b64_L6 : Int32) (M : zMem), itF (fun _ _ _ _ _ _ _ => none) (F_X9_water_64 p0 p1 p2 p3) fuel b64_L1 b64_L2 b64_L3 b64_L4 b64_L5 b64_L6 M = some (k9, r9, M9) → zJ p l e rm_X9_water s m args below meth c G shX ad n A 7 (vx_MQ below (zQX G shX ad n M9 k9 (some (.int r9)) A) (zXC G shX ad n M9 k9 A) args s 2 12 A) 2 12 M 64 [(0, .ref (ad 0)), (1, .int b64_L1), (2, .int b64_L2), (3, .int b64_L3), (4, .int b64_L4), (5, .int b64_L5), (6, .int b64_L6)] [] := by
    intro fuel
    induction fuel with
    | zero => intro b64_L1 b64_L2 b64_L3 b64_L4 b64_L5 b64_L6 M hF; cases hF
    | succ fuel hs64 =>
      intro b64_L1 b64_L2 b64_L3 b64_L4 b64_L5 b64_L6 M hF
      have hF : F_X9_water_64 p0 p1 p2 p3 (itF (fun _ _ _ _ _ _ _ => none) (F_X9_water_64 p0 p1 p2 p3) fuel) b64_L1 b64_L2 b64_L3 b64_L4 b64_L5 b64_L6 M = some (k9, r9, M9) := hF
      generalize itF (fun _ _ _ _ _ _ _ => none) (F_X9_water_64 p0 p1 p2 p3) fuel = self64 at hs64 hF
      unfold F_X9_water_64 at hF
      refine z_iload cx d_X9_water_64 6 rfl ?_
      refine z_if_le cx 101 d_X9_water_66 (by decide) hF (fun hF => ?_) (fun hF => ?_)
      · refine z_aload_n cx d_X9_water_101 0 rfl ?_
        refine z_getR cx hT fg_SunnyPans_19 3 rfl d_X9_water_102 ?_
        refine z_getR cx (tfX_10_3 hT) fg_SunnyPans_159 4 rfl d_X9_water_105 ?_
        refine z_getR cx (tfX_8_1 (tfX_10_3 hT)) fg_SunnyPans_174 5 rfl d_X9_water_108 ?_
        refine z_iload_n cx d_X9_water_111 1 rfl ?_
        refine z_iload_n cx d_X9_water_112 2 rfl ?_
        obtain ⟨v3, M2, hc, hF⟩ := zb_inv hF
        refine z_callS cx (As := [.int b64_L1, .int b64_L2]) (rest := [.ref (ad 5)]) (c_X9_placeOf l cx.2.2.2.1.1 M b64_L1 b64_L2  hc) cs_SunnyPans_213 ⟨rfl, rfl, Nat.le_of_ble_eq_true rfl, Nat.le_of_ble_eq_true rfl⟩ rfl rfl ⟨Nat.le_of_ble_eq_true rfl, Nat.le_of_ble_eq_true rfl⟩ (Nat.le_of_ble_eq_true rfl) d_X9_water_113 ?_
        obtain ⟨hi4, hF⟩ := gin_inv hF
        refine z_iald cx (tfX_5_1 (tfX_8_1 (tfX_10_3 hT))) za_16 hi4 v3.toNatClampNeg rfl d_X9_water_116 ?_
        refine z_iload cx d_X9_water_117 5 rfl ?_
        refine z_mmin cx ⟨wd_950, wd_602, wd_116, wd_603⟩ ⟨Nat.le_of_ble_eq_true rfl, Nat.le_of_ble_eq_true rfl, Nat.le_of_ble_eq_true rfl, Nat.le_of_ble_eq_true rfl⟩ d_X9_water_119 ?_
        exact z_iretX cx hr rfl hF ⟨Nat.le_of_ble_eq_true rfl, Nat.le_of_ble_eq_true rfl⟩ d_X9_water_122
      refine z_aload_n cx d_X9_water_69 0 rfl ?_
      refine z_iload_n cx d_X9_water_70 2 rfl ?_
      refine z_iload_n cx d_X9_water_71 3 rfl ?_
      refine z_iload cx d_X9_water_72 5 rfl ?_
      refine z_iload cx d_X9_water_74 6 rfl ?_
      refine z_iadd cx d_X9_water_76 ?_
      obtain ⟨v6, M5, hc, hF⟩ := zb_inv hF
      refine z_callV cx (As := [.int b64_L2, .int b64_L3, .int (b64_L5 + b64_L6)]) (rest := []) (c_X9_givenOf l cx.2.2.2.1.1 M b64_L2 b64_L3 (b64_L5 + b64_L6) hT hc) hT zo_10 cv_SunnyPans_286 ⟨rfl, rfl, Nat.le_of_ble_eq_true rfl, Nat.le_of_ble_eq_true rfl⟩ rfl rfl ⟨Nat.le_of_ble_eq_true rfl, Nat.le_of_ble_eq_true rfl⟩ (Nat.le_of_ble_eq_true rfl) d_X9_water_77 ?_
      refine z_iload cx d_X9_water_80 4 rfl ?_
      refine z_icmp_gt cx 92 d_X9_water_82 (by decide) hF (fun hF => ?_) (fun hF => ?_)
      · exact hb92 self64 hs64 b64_L1 b64_L2 b64_L3 b64_L4 b64_L5 b64_L6 M5 hF
      refine z_iload cx d_X9_water_85 5 rfl ?_
      refine z_iload cx d_X9_water_87 6 rfl ?_
      refine z_iadd cx d_X9_water_89 ?_
      refine z_nm hF (fun v7 hF => ?_)
      refine z_istore cx 5 [(5, .int v7), (0, .ref (ad 0)), (1, .int b64_L1), (2, .int b64_L2), (3, .int b64_L3), (4, .int b64_L4), (6, .int b64_L6)] d_X9_water_90 (by decide) rfl ?_
      exact z_lv [1, 2, 3, 4, 5, 0, 6] _ rfl (hb92 self64 hs64 b64_L1 b64_L2 b64_L3 b64_L4 v7 b64_L6 M5 hF)
  have hb43 : ∀ (b43_L1 : Int32) (b43_L2 : Int32) (b43_L3 : Int32) (b43_L4 : Int32) (b43_S1 : Int32) (M : zMem), F_X9_water_43 p0 p1 p2 p3 b43_L1 b43_L2 b43_L3 b43_L4 b43_S1 M = some (k9, r9, M9) → zJ p l e rm_X9_water s m args below meth c G shX ad n A 7 (vx_MQ below (zQX G shX ad n M9 k9 (some (.int r9)) A) (zXC G shX ad n M9 k9 A) args s 2 12 A) 1 6 M 43 [(0, .ref (ad 0)), (1, .int b43_L1), (2, .int b43_L2), (3, .int b43_L3), (4, .int b43_L4)] [.int b43_S1, .ref (ad 0)] := by
    intro b43_L1 b43_L2 b43_L3 b43_L4 b43_S1 M hF
    unfold F_X9_water_43 at hF
    obtain ⟨k9, v10, M8, hc, hF, hX11⟩ := zbx_inv hF
    refine z_callVX cx ht (As := [.int b43_S1]) (rest := []) (c_X9_need l cx.2.2.2.1.1 M b43_S1 hl hT hc) (fun q => zxp_inv (hX11 q)) hT zo_10 cv_SunnyPans_155 ⟨rfl, rfl, Nat.le_of_ble_eq_true rfl, Nat.le_of_ble_eq_true rfl⟩ rfl rfl ⟨Nat.le_of_ble_eq_true rfl, Nat.le_of_ble_eq_true rfl⟩ ⟨Nat.le_of_ble_eq_true rfl, Nat.le_of_ble_eq_true rfl⟩ (Nat.le_of_ble_eq_true rfl) d_X9_water_43 (fun kq12 => ?_)
    have hF := hF kq12
    refine z_iload_n cx d_X9_water_46 3 rfl ?_
    refine z_iload_n cx d_X9_water_47 1 rfl ?_
    refine z_ishr cx d_X9_water_48 ?_
    refine z_iconst (v := 1) cx d_X9_water_49 ki_1 ?_
    refine z_iand cx d_X9_water_50 ?_
    refine z_if_ne cx 56 d_X9_water_51 (by decide) hF (fun hF => ?_) (fun hF => ?_)
    · refine z_iconst (v := 0) cx d_X9_water_56 ki_0 ?_
      refine z_istore cx 5 [(5, .int (0 : Int32)), (0, .ref (ad 0)), (1, .int b43_L1), (2, .int b43_L2), (3, .int b43_L3), (4, .int b43_L4)] d_X9_water_57 (by decide) rfl ?_
      refine z_sipush (v := 8192) cx d_X9_water_59 ks_8192 ?_
      refine z_istore cx 6 [(6, .int (8192 : Int32)), (5, .int (0 : Int32)), (0, .ref (ad 0)), (1, .int b43_L1), (2, .int b43_L2), (3, .int b43_L3), (4, .int b43_L4)] d_X9_water_62 (by decide) rfl ?_
      exact z_lv [2, 3, 4, 5, 6, 1, 0] _ rfl (hL64 zFuel b43_L1 b43_L2 b43_L3 b43_L4 (0 : Int32) (8192 : Int32) M8 hF)
    refine z_iconst (v := 0) cx d_X9_water_54 ki_0 ?_
    exact z_iretX cx hr rfl hF ⟨Nat.le_of_ble_eq_true rfl, Nat.le_of_ble_eq_true rfl⟩ d_X9_water_55
  have hb42 : ∀ (b42_L1 : Int32) (b42_L2 : Int32) (b42_L3 : Int32) (b42_L4 : Int32) (M : zMem), F_X9_water_42 p0 p1 p2 p3 b42_L1 b42_L2 b42_L3 b42_L4 M = some (k9, r9, M9) → zJ p l e rm_X9_water s m args below meth c G shX ad n A 7 (vx_MQ below (zQX G shX ad n M9 k9 (some (.int r9)) A) (zXC G shX ad n M9 k9 A) args s 2 12 A) 1 6 M 42 [(0, .ref (ad 0)), (1, .int b42_L1), (2, .int b42_L2), (3, .int b42_L3), (4, .int b42_L4)] [.ref (ad 0)] := by
    intro b42_L1 b42_L2 b42_L3 b42_L4 M hF
    unfold F_X9_water_42 at hF
    refine z_iconst (v := 0) cx d_X9_water_42 ki_0 ?_
    exact hb43 b42_L1 b42_L2 b42_L3 b42_L4 (0 : Int32) M hF
  unfold F_X9_water at hF
  refine z_aload_n cx d_X9_water_0 0 rfl ?_
  refine z_iload_n cx d_X9_water_1 1 rfl ?_
  refine z_iload_n cx d_X9_water_2 2 rfl ?_
  obtain ⟨k14, v15, M13, hc, hF, hX16⟩ := zbx_inv hF
  refine z_callVX cx ht (As := [.int p0, .int p1]) (rest := []) (c_X9_needPlace l cx.2.2.2.1.1 M p0 p1 hl hT hc) (fun q => zxp_inv (hX16 q)) hT zo_10 cv_SunnyPans_210 ⟨rfl, rfl, Nat.le_of_ble_eq_true rfl, Nat.le_of_ble_eq_true rfl⟩ rfl rfl ⟨Nat.le_of_ble_eq_true rfl, Nat.le_of_ble_eq_true rfl⟩ ⟨Nat.le_of_ble_eq_true rfl, Nat.le_of_ble_eq_true rfl⟩ (Nat.le_of_ble_eq_true rfl) d_X9_water_3 (fun kq17 => ?_)
  have hF := hF kq17
  refine z_aload_n cx d_X9_water_6 0 rfl ?_
  refine z_iload_n cx d_X9_water_7 3 rfl ?_
  refine z_iconst (v := 0) cx d_X9_water_8 ki_0 ?_
  refine z_iconst (v := 1) cx d_X9_water_9 ki_1 ?_
  refine z_aload_n cx d_X9_water_10 0 rfl ?_
  obtain ⟨hg18, hF⟩ := gd_inv hF
  refine z_getD cx hT fg_SunnyPans_62 d_X9_water_11 ?_
  refine z_getI cx (td_6 hT hg18) fg_SunnyPans_162 d_X9_water_14 ?_
  refine z_ishl cx d_X9_water_17 ?_
  refine z_iconst (v := 1) cx d_X9_water_18 ki_1 ?_
  refine z_isub cx d_X9_water_19 ?_
  obtain ⟨v20, M19, hc, hF⟩ := zb_inv hF
  refine z_callS cx (As := [.int p2, .int (0 : Int32), .int (((1 : Int32) <<< ((M13.1 (M13.2.2 0 8) 0) &&& 31)) - (1 : Int32))]) (rest := [.ref (ad 0)]) (c_X9_within l cx.2.2.2.1.1 M13 p2 (0 : Int32) (((1 : Int32) <<< ((M13.1 (M13.2.2 0 8) 0) &&& 31)) - (1 : Int32))  hc) cs_SunnyPans_255 ⟨rfl, rfl, Nat.le_of_ble_eq_true rfl, Nat.le_of_ble_eq_true rfl⟩ rfl rfl ⟨Nat.le_of_ble_eq_true rfl, Nat.le_of_ble_eq_true rfl⟩ (Nat.le_of_ble_eq_true rfl) d_X9_water_20 ?_
  refine z_if_eq cx 42 d_X9_water_23 (by decide) hF (fun hF => ?_) (fun hF => ?_)
  · exact hb42 p0 p1 p2 p3 M19 hF
  refine z_iload cx d_X9_water_26 4 rfl ?_
  refine z_iconst (v := 0) cx d_X9_water_28 ki_0 ?_
  refine z_ldcw cx wd_1261 d_X9_water_29 ?_
  obtain ⟨v22, M21, hc, hF⟩ := zb_inv hF
  refine z_callS cx (As := [.int p3, .int (0 : Int32), .int (99999 : Int32)]) (rest := [.ref (ad 0)]) (c_X9_within l cx.2.2.2.1.1 M19 p3 (0 : Int32) (99999 : Int32)  hc) cs_SunnyPans_255 ⟨rfl, rfl, Nat.le_of_ble_eq_true rfl, Nat.le_of_ble_eq_true rfl⟩ rfl rfl ⟨Nat.le_of_ble_eq_true rfl, Nat.le_of_ble_eq_true rfl⟩ (Nat.le_of_ble_eq_true rfl) d_X9_water_32 ?_
  refine z_if_eq cx 42 d_X9_water_35 (by decide) hF (fun hF => ?_) (fun hF => ?_)
  · exact hb42 p0 p1 p2 p3 M21 hF
  refine z_iconst (v := 1) cx d_X9_water_38 ki_1 ?_
  refine z_goto cx 43 d_X9_water_39 (by decide) ?_
  exact hb43 p0 p1 p2 p3 (1 : Int32) M21 hF
/-! SunnyPans.spread -/
set_option maxRecDepth 100000 in
theorem wd_1213 : Cond.constantLong "SunnyPans" 305 (9187201950435737471) ∈ tbG := tw5 153 rfl rfl
theorem d_X9_spread_0 : decode cX9_spread 0 = .ok (.lload_n 0, 1) := by decide +kernel
theorem d_X9_spread_1 : decode cX9_spread 1 = .ok (.iconst 1, 1) := by decide +kernel
theorem d_X9_spread_2 : decode cX9_spread 2 = .ok (.lushr, 1) := by decide +kernel
theorem d_X9_spread_3 : decode cX9_spread 3 = .ok (.ldc2_w 305, 3) := by decide +kernel
theorem d_X9_spread_6 : decode cX9_spread 6 = .ok (.land, 1) := by decide +kernel
theorem d_X9_spread_7 : decode cX9_spread 7 = .ok (.lstore 4, 2) := by decide +kernel
theorem d_X9_spread_9 : decode cX9_spread 9 = .ok (.lload_n 0, 1) := by decide +kernel
theorem d_X9_spread_10 : decode cX9_spread 10 = .ok (.ldc2_w 305, 3) := by decide +kernel
theorem d_X9_spread_13 : decode cX9_spread 13 = .ok (.land, 1) := by decide +kernel
theorem d_X9_spread_14 : decode cX9_spread 14 = .ok (.iconst 1, 1) := by decide +kernel
theorem d_X9_spread_15 : decode cX9_spread 15 = .ok (.lshl, 1) := by decide +kernel
theorem d_X9_spread_16 : decode cX9_spread 16 = .ok (.lstore 6, 2) := by decide +kernel
theorem d_X9_spread_18 : decode cX9_spread 18 = .ok (.lload_n 0, 1) := by decide +kernel
theorem d_X9_spread_19 : decode cX9_spread 19 = .ok (.lload 4, 2) := by decide +kernel
theorem d_X9_spread_21 : decode cX9_spread 21 = .ok (.lor, 1) := by decide +kernel
theorem d_X9_spread_22 : decode cX9_spread 22 = .ok (.lload 6, 2) := by decide +kernel
theorem d_X9_spread_24 : decode cX9_spread 24 = .ok (.lor, 1) := by decide +kernel
theorem d_X9_spread_25 : decode cX9_spread 25 = .ok (.lload_n 0, 1) := by decide +kernel
theorem d_X9_spread_26 : decode cX9_spread 26 = .ok (.bipush 8, 2) := by decide +kernel
theorem d_X9_spread_28 : decode cX9_spread 28 = .ok (.lushr, 1) := by decide +kernel
theorem d_X9_spread_29 : decode cX9_spread 29 = .ok (.lor, 1) := by decide +kernel
theorem d_X9_spread_30 : decode cX9_spread 30 = .ok (.lload_n 0, 1) := by decide +kernel
theorem d_X9_spread_31 : decode cX9_spread 31 = .ok (.bipush 8, 2) := by decide +kernel
theorem d_X9_spread_33 : decode cX9_spread 33 = .ok (.lshl, 1) := by decide +kernel
theorem d_X9_spread_34 : decode cX9_spread 34 = .ok (.lor, 1) := by decide +kernel
theorem d_X9_spread_35 : decode cX9_spread 35 = .ok (.lload_n 2, 1) := by decide +kernel
theorem d_X9_spread_36 : decode cX9_spread 36 = .ok (.land, 1) := by decide +kernel
theorem d_X9_spread_37 : decode cX9_spread 37 = .ok (.lreturn, 1) := by decide +kernel
noncomputable def F_X9_spread (M : zMem) (p0 : Int64) (p1 : Int64) : Option (Int64 × zMem) :=
  zl ((p0.toUInt64 >>> ((1 : Int32).toInt64.toUInt64 &&& Int64.toUInt64 63)).toInt64 &&& (9187201950435737471 : Int64)) fun v1 =>
  zl ((p0 &&& (9187201950435737471 : Int64)) <<< ((1 : Int32).toInt64 &&& 63)) fun v2 =>
  some ((((((p0 ||| v1) ||| v2) ||| (p0.toUInt64 >>> ((8 : Int32).toInt64.toUInt64 &&& Int64.toUInt64 63)).toInt64) ||| (p0 <<< ((8 : Int32).toInt64 &&& 63))) &&& p1), M)
def rm_X9_spread : Room := { frames := 2, cells := 0, slots := 0, locals := 80 }
set_option maxHeartbeats 4000000 in
set_option maxRecDepth 100000 in
theorem c_X9_spread (l : Launch) {G : zG} {ad : Nat → Nat} {n : Nat} (hA : zInj ad n) (M : zMem) (p0 : Int64) (p1 : Int64) {r9 : Int64} {M9 : zMem} (hF : F_X9_spread M p0 p1 = some (r9, M9)) : zM l yX9_spread cX9_spread 8 (some .long) rm_X9_spread G shX ad n M [.long p0, .long p1] (some (.long r9)) M9 := by
  refine zM_of hA (by decide +kernel) (lv := [(0, .long p0), (2, .long p1)]) (Nat.le_of_ble_eq_true rfl) rfl (fun p e s m args below meth c A cx hr => ?_)
  unfold F_X9_spread at hF
  refine z_lload_n cx d_X9_spread_0 0 rfl ?_
  refine z_iconst (v := 1) cx d_X9_spread_1 ki_1 ?_
  refine z_lushr cx d_X9_spread_2 ?_
  refine z_ldc2 cx wd_1213 d_X9_spread_3 ?_
  refine z_land cx d_X9_spread_6 ?_
  refine z_nml hF (fun v1 hF => ?_)
  refine z_lstore cx 4 [(4, .long v1), (0, .long p0), (2, .long p1)] d_X9_spread_7 (by decide) rfl ?_
  refine z_lload_n cx d_X9_spread_9 1 rfl ?_
  refine z_ldc2 cx wd_1213 d_X9_spread_10 ?_
  refine z_land cx d_X9_spread_13 ?_
  refine z_iconst (v := 1) cx d_X9_spread_14 ki_1 ?_
  refine z_lshl cx d_X9_spread_15 ?_
  refine z_nml hF (fun v2 hF => ?_)
  refine z_lstore cx 6 [(6, .long v2), (4, .long v1), (0, .long p0), (2, .long p1)] d_X9_spread_16 (by decide) rfl ?_
  refine z_lload_n cx d_X9_spread_18 2 rfl ?_
  refine z_lload cx d_X9_spread_19 1 rfl ?_
  refine z_lor cx d_X9_spread_21 ?_
  refine z_lload cx d_X9_spread_22 0 rfl ?_
  refine z_lor cx d_X9_spread_24 ?_
  refine z_lload_n cx d_X9_spread_25 2 rfl ?_
  refine z_bipush (v := 8) cx d_X9_spread_26 kb_8 ?_
  refine z_lushr cx d_X9_spread_28 ?_
  refine z_lor cx d_X9_spread_29 ?_
  refine z_lload_n cx d_X9_spread_30 2 rfl ?_
  refine z_bipush (v := 8) cx d_X9_spread_31 kb_8 ?_
  refine z_lshl cx d_X9_spread_33 ?_
  refine z_lor cx d_X9_spread_34 ?_
  refine z_lload_n cx d_X9_spread_35 3 rfl ?_
  refine z_land cx d_X9_spread_36 ?_
  exact z_lret cx hr hF d_X9_spread_37
/-! SunnyPans.way -/
set_option maxRecDepth 100000 in
theorem wd_1212 : Cond.code yX9_spread cX9_spread 8 (some .long) ∈ tbG := tw5 152 rfl rfl
set_option maxRecDepth 100000 in
theorem wd_1210 : Cond.methodLink "SunnyPans" 301 yX9_spread ∈ tbG := tw5 150 rfl rfl
set_option maxRecDepth 100000 in
theorem wd_1211 : Cond.static yX9_spread ∈ tbG := tw5 151 rfl rfl
theorem cs_SunnyPans_301 : zCS "SunnyPans" 301 yX9_spread cX9_spread 8 (some .long) 2 := zCS_of wd_1210 wd_1211 wd_101 wd_1212 (by decide +kernel)
set_option maxRecDepth 100000 in
theorem wd_1208 : Cond.methodLink "SunnyPans" 293 yX4_brinePlaces ∈ tbG := tw5 148 rfl rfl
theorem cv_SunnyPans_293 : zCV "SunnyPans" 293 "SunnyPans$Pans" yX4_brinePlaces cX4_brinePlaces 1 (some .long) 0 := zCV_of wd_1208 wd_1003 wd_1004 wd_104 wd_1005 (by decide +kernel)
set_option maxRecDepth 100000 in
theorem wd_1209 : Cond.constantLong "SunnyPans" 296 (-1) ∈ tbG := tw5 149 rfl rfl
theorem d_X9_way_0 : decode cX9_way 0 = .ok (.aload_n 0, 1) := by decide +kernel
theorem d_X9_way_1 : decode cX9_way 1 = .ok (.iload_n 1, 1) := by decide +kernel
theorem d_X9_way_2 : decode cX9_way 2 = .ok (.iload_n 2, 1) := by decide +kernel
theorem d_X9_way_3 : decode cX9_way 3 = .ok (.invokevirtual 210, 3) := by decide +kernel
theorem d_X9_way_6 : decode cX9_way 6 = .ok (.aload_n 0, 1) := by decide +kernel
theorem d_X9_way_7 : decode cX9_way 7 = .ok (.iload_n 3, 1) := by decide +kernel
theorem d_X9_way_8 : decode cX9_way 8 = .ok (.iload 4, 2) := by decide +kernel
theorem d_X9_way_10 : decode cX9_way 10 = .ok (.invokevirtual 210, 3) := by decide +kernel
theorem d_X9_way_13 : decode cX9_way 13 = .ok (.aload_n 0, 1) := by decide +kernel
theorem d_X9_way_14 : decode cX9_way 14 = .ok (.getfield 62, 3) := by decide +kernel
theorem d_X9_way_17 : decode cX9_way 17 = .ok (.getfield 200, 3) := by decide +kernel
theorem d_X9_way_20 : decode cX9_way 20 = .ok (.aload_n 0, 1) := by decide +kernel
theorem d_X9_way_21 : decode cX9_way 21 = .ok (.getfield 19, 3) := by decide +kernel
theorem d_X9_way_24 : decode cX9_way 24 = .ok (.getfield 159, 3) := by decide +kernel
theorem d_X9_way_27 : decode cX9_way 27 = .ok (.invokevirtual 293, 3) := by decide +kernel
theorem d_X9_way_30 : decode cX9_way 30 = .ok (.ldc2_w 296, 3) := by decide +kernel
theorem d_X9_way_33 : decode cX9_way 33 = .ok (.lxor, 1) := by decide +kernel
theorem d_X9_way_34 : decode cX9_way 34 = .ok (.land, 1) := by decide +kernel
theorem d_X9_way_35 : decode cX9_way 35 = .ok (.lstore 5, 2) := by decide +kernel
theorem d_X9_way_37 : decode cX9_way 37 = .ok (.iload_n 1, 1) := by decide +kernel
theorem d_X9_way_38 : decode cX9_way 38 = .ok (.iload_n 2, 1) := by decide +kernel
theorem d_X9_way_39 : decode cX9_way 39 = .ok (.invokestatic 213, 3) := by decide +kernel
theorem d_X9_way_42 : decode cX9_way 42 = .ok (.invokestatic 298, 3) := by decide +kernel
theorem d_X9_way_45 : decode cX9_way 45 = .ok (.lload 5, 2) := by decide +kernel
theorem d_X9_way_47 : decode cX9_way 47 = .ok (.land, 1) := by decide +kernel
theorem d_X9_way_48 : decode cX9_way 48 = .ok (.lstore 7, 2) := by decide +kernel
theorem d_X9_way_50 : decode cX9_way 50 = .ok (.iconst 0, 1) := by decide +kernel
theorem d_X9_way_51 : decode cX9_way 51 = .ok (.istore 9, 2) := by decide +kernel
theorem d_X9_way_53 : decode cX9_way 53 = .ok (.iload 9, 2) := by decide +kernel
theorem d_X9_way_55 : decode cX9_way 55 = .ok (.bipush 64, 2) := by decide +kernel
theorem d_X9_way_57 : decode cX9_way 57 = .ok (.if_icmp .ge 35, 3) := by decide +kernel
theorem d_X9_way_60 : decode cX9_way 60 = .ok (.lload 7, 2) := by decide +kernel
theorem d_X9_way_62 : decode cX9_way 62 = .ok (.iload_n 3, 1) := by decide +kernel
theorem d_X9_way_63 : decode cX9_way 63 = .ok (.iload 4, 2) := by decide +kernel
theorem d_X9_way_65 : decode cX9_way 65 = .ok (.invokestatic 213, 3) := by decide +kernel
theorem d_X9_way_68 : decode cX9_way 68 = .ok (.invokestatic 231, 3) := by decide +kernel
theorem d_X9_way_71 : decode cX9_way 71 = .ok (.ifCond .eq 6, 3) := by decide +kernel
theorem d_X9_way_74 : decode cX9_way 74 = .ok (.iload 9, 2) := by decide +kernel
theorem d_X9_way_76 : decode cX9_way 76 = .ok (.ireturn, 1) := by decide +kernel
theorem d_X9_way_77 : decode cX9_way 77 = .ok (.lload 7, 2) := by decide +kernel
theorem d_X9_way_79 : decode cX9_way 79 = .ok (.lload 5, 2) := by decide +kernel
theorem d_X9_way_81 : decode cX9_way 81 = .ok (.invokestatic 301, 3) := by decide +kernel
theorem d_X9_way_84 : decode cX9_way 84 = .ok (.lstore 7, 2) := by decide +kernel
theorem d_X9_way_86 : decode cX9_way 86 = .ok (.iinc 9 1, 3) := by decide +kernel
theorem d_X9_way_89 : decode cX9_way 89 = .ok (.goto (-36), 3) := by decide +kernel
theorem d_X9_way_92 : decode cX9_way 92 = .ok (.iconst (-1), 1) := by decide +kernel
theorem d_X9_way_93 : decode cX9_way 93 = .ok (.ireturn, 1) := by decide +kernel
noncomputable def F_X9_way_53 (p0 : Int32) (p1 : Int32) (p2 : Int32) (p3 : Int32) (self53 : Int32 → Int32 → Int64 → Int64 → Int32 → zMem → Option (Nat × Int32 × zMem)) (b53_L3 : Int32) (b53_L4 : Int32) (b53_L5 : Int64) (b53_L7 : Int64) (b53_L9 : Int32) (M : zMem) : Option (Nat × Int32 × zMem) :=
  if (64 : Int32) ≤ b53_L9 then
    some (0, (-1 : Int32), M)
  else
    zb (F_X9_placeOf M b53_L3 b53_L4) fun v2 M1 =>
    zb (F_X9_has M1 b53_L7 v2) fun v4 M3 =>
    if v4 = 0 then
      zb (F_X9_spread M3 b53_L7 b53_L5) fun v6 M5 =>
      self53 b53_L3 b53_L4 b53_L5 v6 (b53_L9 + 1) M5
    else
      some (0, b53_L9, M3)
noncomputable def F_X9_way (M : zMem) (p0 : Int32) (p1 : Int32) (p2 : Int32) (p3 : Int32) : Option (Nat × Int32 × zMem) :=
  zbx (F_X9_needPlace M p0 p1) (g := zxp) fun _ M7 =>
  zbx (F_X9_needPlace M7 p2 p3) (g := zxp) fun _ M12 =>
  gd (shX (M12.2.2 0 8) == 6) <|
  zb (F_X4_brinePlaces M12 4) fun v19 M18 =>
  zl ((M12.2.1 (M12.2.2 0 8) 3) &&& (v19 ^^^ (-1 : Int64))) fun v20 =>
  zb (F_X9_placeOf M18 p0 p1) fun v22 M21 =>
  zb (F_X9_bit M21 v22) fun v24 M23 =>
  zl (v24 &&& v20) fun v25 =>
  itF (fun _ _ _ _ _ _ => none) (F_X9_way_53 p0 p1 p2 p3) zFuel p2 p3 v20 v25 (0 : Int32) M23
def rm_X9_way : Room := { frames := 11, cells := 2, slots := 12, locals := 183 }
set_option maxHeartbeats 4000000 in
set_option maxRecDepth 100000 in
theorem c_X9_way (l : Launch) {G : zG} {ad : Nat → Nat} {n : Nat} (hA : zInj ad n) (M : zMem) (p0 : Int32) (p1 : Int32) (p2 : Int32) (p3 : Int32) (hl : l.stackTraces = false) (hT : zT shX n 0 10) {k9 : Nat} {r9 : Int32} {M9 : zMem} (hF : F_X9_way M p0 p1 p2 p3 = some (k9, r9, M9)) : zMX l yX9_way cX9_way 10 (some .int) rm_X9_way 2 12 G shX ad n M [.ref (ad 0), .int p0, .int p1, .int p2, .int p3] k9 (some (.int r9)) M9 := by
  refine zM_ofX hA (by decide +kernel) (lv := [(0, .ref (ad 0)), (1, .int p0), (2, .int p1), (3, .int p2), (4, .int p3)]) (Nat.le_of_ble_eq_true rfl) rfl (fun p e s m args below meth c A cx hr ht => ?_)
  have hL53 : ∀ (fuel : Nat), ∀ (b53_L3 : Int32) (b53_L4 : Int32) (b53_L5 : Int64) (b53_L7 : Int64) (b53_L9 : Int32) (M : zMem), itF (fun _ _ _ _ _ _ => none) (F_X9_way_53 p0 p1 p2 p3) fuel b53_L3 b53_L4 b53_L5 b53_L7 b53_L9 M = some (k9, r9, M9) → zJ p l e rm_X9_way s m args below meth c G shX ad n A 10 (vx_MQ below (zQX G shX ad n M9 k9 (some (.int r9)) A) (zXC G shX ad n M9 k9 A) args s 2 12 A) 2 12 M 53 [(3, .int b53_L3), (4, .int b53_L4), (5, .long b53_L5), (7, .long b53_L7), (9, .int b53_L9)] [] := by
    intro fuel
    induction fuel with
    | zero => intro b53_L3 b53_L4 b53_L5 b53_L7 b53_L9 M hF; cases hF
    | succ fuel hs53 =>
      intro b53_L3 b53_L4 b53_L5 b53_L7 b53_L9 M hF
      have hF : F_X9_way_53 p0 p1 p2 p3 (itF (fun _ _ _ _ _ _ => none) (F_X9_way_53 p0 p1 p2 p3) fuel) b53_L3 b53_L4 b53_L5 b53_L7 b53_L9 M = some (k9, r9, M9) := hF
      generalize itF (fun _ _ _ _ _ _ => none) (F_X9_way_53 p0 p1 p2 p3) fuel = self53 at hs53 hF
      unfold F_X9_way_53 at hF
      refine z_iload cx d_X9_way_53 4 rfl ?_
      refine z_bipush (v := 64) cx d_X9_way_55 kb_64 ?_
      refine z_icmp_ge cx 92 d_X9_way_57 (by decide) hF (fun hF => ?_) (fun hF => ?_)
      · refine z_iconst (v := -1) cx d_X9_way_92 ki_m1 ?_
        exact z_iretX cx hr rfl hF ⟨Nat.le_of_ble_eq_true rfl, Nat.le_of_ble_eq_true rfl⟩ d_X9_way_93
      refine z_lload cx d_X9_way_60 3 rfl ?_
      refine z_iload_n cx d_X9_way_62 0 rfl ?_
      refine z_iload cx d_X9_way_63 1 rfl ?_
      obtain ⟨v2, M1, hc, hF⟩ := zb_inv hF
      refine z_callS cx (As := [.int b53_L3, .int b53_L4]) (rest := [.long b53_L7]) (c_X9_placeOf l cx.2.2.2.1.1 M b53_L3 b53_L4  hc) cs_SunnyPans_213 ⟨rfl, rfl, Nat.le_of_ble_eq_true rfl, Nat.le_of_ble_eq_true rfl⟩ rfl rfl ⟨Nat.le_of_ble_eq_true rfl, Nat.le_of_ble_eq_true rfl⟩ (Nat.le_of_ble_eq_true rfl) d_X9_way_65 ?_
      obtain ⟨v4, M3, hc, hF⟩ := zb_inv hF
      refine z_callS cx (As := [.long b53_L7, .int v2]) (rest := []) (c_X9_has l cx.2.2.2.1.1 M1 b53_L7 v2  hc) cs_SunnyPans_231 ⟨rfl, rfl, Nat.le_of_ble_eq_true rfl, Nat.le_of_ble_eq_true rfl⟩ rfl rfl ⟨Nat.le_of_ble_eq_true rfl, Nat.le_of_ble_eq_true rfl⟩ (Nat.le_of_ble_eq_true rfl) d_X9_way_68 ?_
      refine z_if_eq cx 77 d_X9_way_71 (by decide) hF (fun hF => ?_) (fun hF => ?_)
      · refine z_lload cx d_X9_way_77 3 rfl ?_
        refine z_lload cx d_X9_way_79 2 rfl ?_
        obtain ⟨v6, M5, hc, hF⟩ := zb_inv hF
        refine z_callS cx (As := [.long b53_L7, .long b53_L5]) (rest := []) (c_X9_spread l cx.2.2.2.1.1 M3 b53_L7 b53_L5  hc) cs_SunnyPans_301 ⟨rfl, rfl, Nat.le_of_ble_eq_true rfl, Nat.le_of_ble_eq_true rfl⟩ rfl rfl ⟨Nat.le_of_ble_eq_true rfl, Nat.le_of_ble_eq_true rfl⟩ (Nat.le_of_ble_eq_true rfl) d_X9_way_81 ?_
        refine z_lstore cx 7 [(7, .long v6), (3, .int b53_L3), (4, .int b53_L4), (5, .long b53_L5), (9, .int b53_L9)] d_X9_way_84 (by decide) rfl ?_
        refine z_iinc cx 9 1 [(9, .int (b53_L9 + 1)), (7, .long v6), (3, .int b53_L3), (4, .int b53_L4), (5, .long b53_L5)] d_X9_way_86 4 rfl ki_1 (by decide) rfl ?_
        refine z_goto cx 53 d_X9_way_89 (by decide) ?_
        exact z_lv [2, 3, 4, 1, 0] _ rfl (hs53 b53_L3 b53_L4 b53_L5 v6 (b53_L9 + 1) M5 hF)
      refine z_iload cx d_X9_way_74 4 rfl ?_
      exact z_iretX cx hr rfl hF ⟨Nat.le_of_ble_eq_true rfl, Nat.le_of_ble_eq_true rfl⟩ d_X9_way_76
  unfold F_X9_way at hF
  refine z_aload_n cx d_X9_way_0 0 rfl ?_
  refine z_iload_n cx d_X9_way_1 1 rfl ?_
  refine z_iload_n cx d_X9_way_2 2 rfl ?_
  obtain ⟨k8, v9, M7, hc, hF, hX10⟩ := zbx_inv hF
  refine z_callVX cx ht (As := [.int p0, .int p1]) (rest := []) (c_X9_needPlace l cx.2.2.2.1.1 M p0 p1 hl hT hc) (fun q => zxp_inv (hX10 q)) hT zo_10 cv_SunnyPans_210 ⟨rfl, rfl, Nat.le_of_ble_eq_true rfl, Nat.le_of_ble_eq_true rfl⟩ rfl rfl ⟨Nat.le_of_ble_eq_true rfl, Nat.le_of_ble_eq_true rfl⟩ ⟨Nat.le_of_ble_eq_true rfl, Nat.le_of_ble_eq_true rfl⟩ (Nat.le_of_ble_eq_true rfl) d_X9_way_3 (fun kq11 => ?_)
  have hF := hF kq11
  refine z_aload_n cx d_X9_way_6 0 rfl ?_
  refine z_iload_n cx d_X9_way_7 3 rfl ?_
  refine z_iload cx d_X9_way_8 4 rfl ?_
  obtain ⟨k13, v14, M12, hc, hF, hX15⟩ := zbx_inv hF
  refine z_callVX cx ht (As := [.int p2, .int p3]) (rest := []) (c_X9_needPlace l cx.2.2.2.1.1 M7 p2 p3 hl hT hc) (fun q => zxp_inv (hX15 q)) hT zo_10 cv_SunnyPans_210 ⟨rfl, rfl, Nat.le_of_ble_eq_true rfl, Nat.le_of_ble_eq_true rfl⟩ rfl rfl ⟨Nat.le_of_ble_eq_true rfl, Nat.le_of_ble_eq_true rfl⟩ ⟨Nat.le_of_ble_eq_true rfl, Nat.le_of_ble_eq_true rfl⟩ (Nat.le_of_ble_eq_true rfl) d_X9_way_10 (fun kq16 => ?_)
  have hF := hF kq16
  refine z_aload_n cx d_X9_way_13 0 rfl ?_
  obtain ⟨hg17, hF⟩ := gd_inv hF
  refine z_getD cx hT fg_SunnyPans_62 d_X9_way_14 ?_
  refine z_getL cx (td_6 hT hg17) fg_SunnyPans_200 d_X9_way_17 ?_
  refine z_aload_n cx d_X9_way_20 0 rfl ?_
  refine z_getR cx hT fg_SunnyPans_19 3 rfl d_X9_way_21 ?_
  refine z_getR cx (tfX_10_3 hT) fg_SunnyPans_159 4 rfl d_X9_way_24 ?_
  obtain ⟨v19, M18, hc, hF⟩ := zb_inv hF
  refine z_callV cx (As := []) (rest := [.long (M12.2.1 (M12.2.2 0 8) 3)]) (c_X4_brinePlaces l cx.2.2.2.1.1 M12 4 (tfX_8_1 (tfX_10_3 hT)) hc) (tfX_8_1 (tfX_10_3 hT)) zo_5 cv_SunnyPans_293 ⟨rfl, rfl, Nat.le_of_ble_eq_true rfl, Nat.le_of_ble_eq_true rfl⟩ rfl rfl ⟨Nat.le_of_ble_eq_true rfl, Nat.le_of_ble_eq_true rfl⟩ (Nat.le_of_ble_eq_true rfl) d_X9_way_27 ?_
  refine z_ldc2 cx wd_1209 d_X9_way_30 ?_
  refine z_lxor cx d_X9_way_33 ?_
  refine z_land cx d_X9_way_34 ?_
  refine z_nml hF (fun v20 hF => ?_)
  refine z_lstore cx 5 [(5, .long v20), (0, .ref (ad 0)), (1, .int p0), (2, .int p1), (3, .int p2), (4, .int p3)] d_X9_way_35 (by decide) rfl ?_
  refine z_iload_n cx d_X9_way_37 2 rfl ?_
  refine z_iload_n cx d_X9_way_38 3 rfl ?_
  obtain ⟨v22, M21, hc, hF⟩ := zb_inv hF
  refine z_callS cx (As := [.int p0, .int p1]) (rest := []) (c_X9_placeOf l cx.2.2.2.1.1 M18 p0 p1  hc) cs_SunnyPans_213 ⟨rfl, rfl, Nat.le_of_ble_eq_true rfl, Nat.le_of_ble_eq_true rfl⟩ rfl rfl ⟨Nat.le_of_ble_eq_true rfl, Nat.le_of_ble_eq_true rfl⟩ (Nat.le_of_ble_eq_true rfl) d_X9_way_39 ?_
  obtain ⟨v24, M23, hc, hF⟩ := zb_inv hF
  refine z_callS cx (As := [.int v22]) (rest := []) (c_X9_bit l cx.2.2.2.1.1 M21 v22  hc) cs_SunnyPans_298 ⟨rfl, rfl, Nat.le_of_ble_eq_true rfl, Nat.le_of_ble_eq_true rfl⟩ rfl rfl ⟨Nat.le_of_ble_eq_true rfl, Nat.le_of_ble_eq_true rfl⟩ (Nat.le_of_ble_eq_true rfl) d_X9_way_42 ?_
  refine z_lload cx d_X9_way_45 0 rfl ?_
  refine z_land cx d_X9_way_47 ?_
  refine z_nml hF (fun v25 hF => ?_)
  refine z_lstore cx 7 [(7, .long v25), (5, .long v20), (0, .ref (ad 0)), (1, .int p0), (2, .int p1), (3, .int p2), (4, .int p3)] d_X9_way_48 (by decide) rfl ?_
  refine z_iconst (v := 0) cx d_X9_way_50 ki_0 ?_
  refine z_istore cx 9 [(9, .int (0 : Int32)), (7, .long v25), (5, .long v20), (0, .ref (ad 0)), (1, .int p0), (2, .int p1), (3, .int p2), (4, .int p3)] d_X9_way_51 (by decide) rfl ?_
  exact z_lv [6, 7, 2, 1, 0] _ rfl (hL53 zFuel p2 p3 v20 v25 (0 : Int32) M23 hF)
/-! SunnyPans.dryland -/
theorem d_X9_dryland_0 : decode cX9_dryland 0 = .ok (.aload_n 0, 1) := by decide +kernel
theorem d_X9_dryland_1 : decode cX9_dryland 1 = .ok (.iload_n 1, 1) := by decide +kernel
theorem d_X9_dryland_2 : decode cX9_dryland 2 = .ok (.iload_n 2, 1) := by decide +kernel
theorem d_X9_dryland_3 : decode cX9_dryland 3 = .ok (.invokevirtual 210, 3) := by decide +kernel
theorem d_X9_dryland_6 : decode cX9_dryland 6 = .ok (.aload_n 0, 1) := by decide +kernel
theorem d_X9_dryland_7 : decode cX9_dryland 7 = .ok (.getfield 62, 3) := by decide +kernel
theorem d_X9_dryland_10 : decode cX9_dryland 10 = .ok (.getfield 200, 3) := by decide +kernel
theorem d_X9_dryland_13 : decode cX9_dryland 13 = .ok (.aload_n 0, 1) := by decide +kernel
theorem d_X9_dryland_14 : decode cX9_dryland 14 = .ok (.getfield 19, 3) := by decide +kernel
theorem d_X9_dryland_17 : decode cX9_dryland 17 = .ok (.getfield 159, 3) := by decide +kernel
theorem d_X9_dryland_20 : decode cX9_dryland 20 = .ok (.invokevirtual 293, 3) := by decide +kernel
theorem d_X9_dryland_23 : decode cX9_dryland 23 = .ok (.ldc2_w 296, 3) := by decide +kernel
theorem d_X9_dryland_26 : decode cX9_dryland 26 = .ok (.lxor, 1) := by decide +kernel
theorem d_X9_dryland_27 : decode cX9_dryland 27 = .ok (.land, 1) := by decide +kernel
theorem d_X9_dryland_28 : decode cX9_dryland 28 = .ok (.lstore_n 3, 1) := by decide +kernel
theorem d_X9_dryland_29 : decode cX9_dryland 29 = .ok (.iload_n 1, 1) := by decide +kernel
theorem d_X9_dryland_30 : decode cX9_dryland 30 = .ok (.iload_n 2, 1) := by decide +kernel
theorem d_X9_dryland_31 : decode cX9_dryland 31 = .ok (.invokestatic 213, 3) := by decide +kernel
theorem d_X9_dryland_34 : decode cX9_dryland 34 = .ok (.invokestatic 298, 3) := by decide +kernel
theorem d_X9_dryland_37 : decode cX9_dryland 37 = .ok (.lload_n 3, 1) := by decide +kernel
theorem d_X9_dryland_38 : decode cX9_dryland 38 = .ok (.land, 1) := by decide +kernel
theorem d_X9_dryland_39 : decode cX9_dryland 39 = .ok (.lstore 5, 2) := by decide +kernel
theorem d_X9_dryland_41 : decode cX9_dryland 41 = .ok (.iconst 0, 1) := by decide +kernel
theorem d_X9_dryland_42 : decode cX9_dryland 42 = .ok (.istore 7, 2) := by decide +kernel
theorem d_X9_dryland_44 : decode cX9_dryland 44 = .ok (.iload 7, 2) := by decide +kernel
theorem d_X9_dryland_46 : decode cX9_dryland 46 = .ok (.bipush 64, 2) := by decide +kernel
theorem d_X9_dryland_48 : decode cX9_dryland 48 = .ok (.if_icmp .ge 17, 3) := by decide +kernel
theorem d_X9_dryland_51 : decode cX9_dryland 51 = .ok (.lload 5, 2) := by decide +kernel
theorem d_X9_dryland_53 : decode cX9_dryland 53 = .ok (.lload_n 3, 1) := by decide +kernel
theorem d_X9_dryland_54 : decode cX9_dryland 54 = .ok (.invokestatic 301, 3) := by decide +kernel
theorem d_X9_dryland_57 : decode cX9_dryland 57 = .ok (.lstore 5, 2) := by decide +kernel
theorem d_X9_dryland_59 : decode cX9_dryland 59 = .ok (.iinc 7 1, 3) := by decide +kernel
theorem d_X9_dryland_62 : decode cX9_dryland 62 = .ok (.goto (-18), 3) := by decide +kernel
theorem d_X9_dryland_65 : decode cX9_dryland 65 = .ok (.lload 5, 2) := by decide +kernel
theorem d_X9_dryland_67 : decode cX9_dryland 67 = .ok (.invokestatic 194, 3) := by decide +kernel
theorem d_X9_dryland_70 : decode cX9_dryland 70 = .ok (.ireturn, 1) := by decide +kernel
noncomputable def F_X9_dryland_44 (p0 : Int32) (p1 : Int32) (self44 : Int64 → Int64 → Int32 → zMem → Option (Nat × Int32 × zMem)) (b44_L3 : Int64) (b44_L5 : Int64) (b44_L7 : Int32) (M : zMem) : Option (Nat × Int32 × zMem) :=
  if (64 : Int32) ≤ b44_L7 then
    zb (F_J13_bitCount_95d88 M b44_L5) fun v2 M1 =>
    some (0, v2, M1)
  else
    zb (F_X9_spread M b44_L5 b44_L3) fun v4 M3 =>
    self44 b44_L3 v4 (b44_L7 + 1) M3
noncomputable def F_X9_dryland (M : zMem) (p0 : Int32) (p1 : Int32) : Option (Nat × Int32 × zMem) :=
  zbx (F_X9_needPlace M p0 p1) (g := zxp) fun _ M5 =>
  gd (shX (M5.2.2 0 8) == 6) <|
  zb (F_X4_brinePlaces M5 4) fun v12 M11 =>
  zl ((M5.2.1 (M5.2.2 0 8) 3) &&& (v12 ^^^ (-1 : Int64))) fun v13 =>
  zb (F_X9_placeOf M11 p0 p1) fun v15 M14 =>
  zb (F_X9_bit M14 v15) fun v17 M16 =>
  zl (v17 &&& v13) fun v18 =>
  itF (fun _ _ _ _ => none) (F_X9_dryland_44 p0 p1) zFuel v13 v18 (0 : Int32) M16
def rm_X9_dryland : Room := { frames := 11, cells := 1, slots := 6, locals := 183 }
set_option maxHeartbeats 4000000 in
set_option maxRecDepth 100000 in
theorem c_X9_dryland (l : Launch) {G : zG} {ad : Nat → Nat} {n : Nat} (hA : zInj ad n) (M : zMem) (p0 : Int32) (p1 : Int32) (hl : l.stackTraces = false) (hT : zT shX n 0 10) {k9 : Nat} {r9 : Int32} {M9 : zMem} (hF : F_X9_dryland M p0 p1 = some (k9, r9, M9)) : zMX l yX9_dryland cX9_dryland 8 (some .int) rm_X9_dryland 1 6 G shX ad n M [.ref (ad 0), .int p0, .int p1] k9 (some (.int r9)) M9 := by
  refine zM_ofX hA (by decide +kernel) (lv := [(0, .ref (ad 0)), (1, .int p0), (2, .int p1)]) (Nat.le_of_ble_eq_true rfl) rfl (fun p e s m args below meth c A cx hr ht => ?_)
  have hL44 : ∀ (fuel : Nat), ∀ (b44_L3 : Int64) (b44_L5 : Int64) (b44_L7 : Int32) (M : zMem), itF (fun _ _ _ _ => none) (F_X9_dryland_44 p0 p1) fuel b44_L3 b44_L5 b44_L7 M = some (k9, r9, M9) → zJ p l e rm_X9_dryland s m args below meth c G shX ad n A 8 (vx_MQ below (zQX G shX ad n M9 k9 (some (.int r9)) A) (zXC G shX ad n M9 k9 A) args s 1 6 A) 1 6 M 44 [(3, .long b44_L3), (5, .long b44_L5), (7, .int b44_L7)] [] := by
    intro fuel
    induction fuel with
    | zero => intro b44_L3 b44_L5 b44_L7 M hF; cases hF
    | succ fuel hs44 =>
      intro b44_L3 b44_L5 b44_L7 M hF
      have hF : F_X9_dryland_44 p0 p1 (itF (fun _ _ _ _ => none) (F_X9_dryland_44 p0 p1) fuel) b44_L3 b44_L5 b44_L7 M = some (k9, r9, M9) := hF
      generalize itF (fun _ _ _ _ => none) (F_X9_dryland_44 p0 p1) fuel = self44 at hs44 hF
      unfold F_X9_dryland_44 at hF
      refine z_iload cx d_X9_dryland_44 2 rfl ?_
      refine z_bipush (v := 64) cx d_X9_dryland_46 kb_64 ?_
      refine z_icmp_ge cx 65 d_X9_dryland_48 (by decide) hF (fun hF => ?_) (fun hF => ?_)
      · refine z_lload cx d_X9_dryland_65 1 rfl ?_
        obtain ⟨v2, M1, hc, hF⟩ := zb_inv hF
        refine z_callS cx (As := [.long b44_L5]) (rest := []) (c_J13_bitCount_95d88 l cx.2.2.2.1.1 M b44_L5  hc) cs_SunnyPans_194 ⟨rfl, rfl, Nat.le_of_ble_eq_true rfl, Nat.le_of_ble_eq_true rfl⟩ rfl rfl ⟨Nat.le_of_ble_eq_true rfl, Nat.le_of_ble_eq_true rfl⟩ (Nat.le_of_ble_eq_true rfl) d_X9_dryland_67 ?_
        exact z_iretX cx hr rfl hF ⟨Nat.le_of_ble_eq_true rfl, Nat.le_of_ble_eq_true rfl⟩ d_X9_dryland_70
      refine z_lload cx d_X9_dryland_51 1 rfl ?_
      refine z_lload_n cx d_X9_dryland_53 0 rfl ?_
      obtain ⟨v4, M3, hc, hF⟩ := zb_inv hF
      refine z_callS cx (As := [.long b44_L5, .long b44_L3]) (rest := []) (c_X9_spread l cx.2.2.2.1.1 M b44_L5 b44_L3  hc) cs_SunnyPans_301 ⟨rfl, rfl, Nat.le_of_ble_eq_true rfl, Nat.le_of_ble_eq_true rfl⟩ rfl rfl ⟨Nat.le_of_ble_eq_true rfl, Nat.le_of_ble_eq_true rfl⟩ (Nat.le_of_ble_eq_true rfl) d_X9_dryland_54 ?_
      refine z_lstore cx 5 [(5, .long v4), (3, .long b44_L3), (7, .int b44_L7)] d_X9_dryland_57 (by decide) rfl ?_
      refine z_iinc cx 7 1 [(7, .int (b44_L7 + 1)), (5, .long v4), (3, .long b44_L3)] d_X9_dryland_59 2 rfl ki_1 (by decide) rfl ?_
      refine z_goto cx 44 d_X9_dryland_62 (by decide) ?_
      exact z_lv [2, 1, 0] _ rfl (hs44 b44_L3 v4 (b44_L7 + 1) M3 hF)
  unfold F_X9_dryland at hF
  refine z_aload_n cx d_X9_dryland_0 0 rfl ?_
  refine z_iload_n cx d_X9_dryland_1 1 rfl ?_
  refine z_iload_n cx d_X9_dryland_2 2 rfl ?_
  obtain ⟨k6, v7, M5, hc, hF, hX8⟩ := zbx_inv hF
  refine z_callVX cx ht (As := [.int p0, .int p1]) (rest := []) (c_X9_needPlace l cx.2.2.2.1.1 M p0 p1 hl hT hc) (fun q => zxp_inv (hX8 q)) hT zo_10 cv_SunnyPans_210 ⟨rfl, rfl, Nat.le_of_ble_eq_true rfl, Nat.le_of_ble_eq_true rfl⟩ rfl rfl ⟨Nat.le_of_ble_eq_true rfl, Nat.le_of_ble_eq_true rfl⟩ ⟨Nat.le_of_ble_eq_true rfl, Nat.le_of_ble_eq_true rfl⟩ (Nat.le_of_ble_eq_true rfl) d_X9_dryland_3 (fun kq9 => ?_)
  have hF := hF kq9
  refine z_aload_n cx d_X9_dryland_6 0 rfl ?_
  obtain ⟨hg10, hF⟩ := gd_inv hF
  refine z_getD cx hT fg_SunnyPans_62 d_X9_dryland_7 ?_
  refine z_getL cx (td_6 hT hg10) fg_SunnyPans_200 d_X9_dryland_10 ?_
  refine z_aload_n cx d_X9_dryland_13 0 rfl ?_
  refine z_getR cx hT fg_SunnyPans_19 3 rfl d_X9_dryland_14 ?_
  refine z_getR cx (tfX_10_3 hT) fg_SunnyPans_159 4 rfl d_X9_dryland_17 ?_
  obtain ⟨v12, M11, hc, hF⟩ := zb_inv hF
  refine z_callV cx (As := []) (rest := [.long (M5.2.1 (M5.2.2 0 8) 3)]) (c_X4_brinePlaces l cx.2.2.2.1.1 M5 4 (tfX_8_1 (tfX_10_3 hT)) hc) (tfX_8_1 (tfX_10_3 hT)) zo_5 cv_SunnyPans_293 ⟨rfl, rfl, Nat.le_of_ble_eq_true rfl, Nat.le_of_ble_eq_true rfl⟩ rfl rfl ⟨Nat.le_of_ble_eq_true rfl, Nat.le_of_ble_eq_true rfl⟩ (Nat.le_of_ble_eq_true rfl) d_X9_dryland_20 ?_
  refine z_ldc2 cx wd_1209 d_X9_dryland_23 ?_
  refine z_lxor cx d_X9_dryland_26 ?_
  refine z_land cx d_X9_dryland_27 ?_
  refine z_nml hF (fun v13 hF => ?_)
  refine z_lstore_n cx 3 [(3, .long v13), (0, .ref (ad 0)), (1, .int p0), (2, .int p1)] d_X9_dryland_28 rfl (by decide) rfl ?_
  refine z_iload_n cx d_X9_dryland_29 2 rfl ?_
  refine z_iload_n cx d_X9_dryland_30 3 rfl ?_
  obtain ⟨v15, M14, hc, hF⟩ := zb_inv hF
  refine z_callS cx (As := [.int p0, .int p1]) (rest := []) (c_X9_placeOf l cx.2.2.2.1.1 M11 p0 p1  hc) cs_SunnyPans_213 ⟨rfl, rfl, Nat.le_of_ble_eq_true rfl, Nat.le_of_ble_eq_true rfl⟩ rfl rfl ⟨Nat.le_of_ble_eq_true rfl, Nat.le_of_ble_eq_true rfl⟩ (Nat.le_of_ble_eq_true rfl) d_X9_dryland_31 ?_
  obtain ⟨v17, M16, hc, hF⟩ := zb_inv hF
  refine z_callS cx (As := [.int v15]) (rest := []) (c_X9_bit l cx.2.2.2.1.1 M14 v15  hc) cs_SunnyPans_298 ⟨rfl, rfl, Nat.le_of_ble_eq_true rfl, Nat.le_of_ble_eq_true rfl⟩ rfl rfl ⟨Nat.le_of_ble_eq_true rfl, Nat.le_of_ble_eq_true rfl⟩ (Nat.le_of_ble_eq_true rfl) d_X9_dryland_34 ?_
  refine z_lload_n cx d_X9_dryland_37 0 rfl ?_
  refine z_land cx d_X9_dryland_38 ?_
  refine z_nml hF (fun v18 hF => ?_)
  refine z_lstore cx 5 [(5, .long v18), (3, .long v13), (0, .ref (ad 0)), (1, .int p0), (2, .int p1)] d_X9_dryland_39 (by decide) rfl ?_
  refine z_iconst (v := 0) cx d_X9_dryland_41 ki_0 ?_
  refine z_istore cx 7 [(7, .int (0 : Int32)), (5, .long v18), (3, .long v13), (0, .ref (ad 0)), (1, .int p0), (2, .int p1)] d_X9_dryland_42 (by decide) rfl ?_
  exact z_lv [2, 1, 0] _ rfl (hL44 zFuel v13 v18 (0 : Int32) M16 hF)
/-! SunnyPans.ahead -/
theorem tfX_10_99 {n k : Nat} (h : zT shX n k 10) : zT shX n (k + 99) 5 := zT_off h (shX_f (by decide) (by decide +kernel)) (by decide) (by decide)
set_option maxRecDepth 100000 in
theorem wd_413 : Cond.fieldLink "SunnyPans" 37 "SunnyPans" "trial" "LSunnyPans$Pans;" ∈ tbG := tw2 73 rfl rfl
theorem fg_SunnyPans_37 : zGetR "SunnyPans" 37 9 10 4 99 := ⟨RX9, TX9, 19, rfl, by decide, uw_9, wd_413, fun _ _ _ _ _ _ => ⟨_, rfl, rfl⟩⟩
set_option maxRecDepth 100000 in
theorem wd_1106 : Cond.methodLink "SunnyPans" 307 yX4_copyFrom ∈ tbG := tw5 46 rfl rfl
theorem cv_SunnyPans_307 : zCV "SunnyPans" 307 "SunnyPans$Pans" yX4_copyFrom cX4_copyFrom 2 none 1 := zCV_of wd_1106 wd_488 wd_489 wd_104 wd_490 (by decide +kernel)
theorem ks_500 : (Int16.ofInt (500)).toInt32 = (500 : Int32) := by decide +kernel
theorem d_X9_ahead_0 : decode cX9_ahead 0 = .ok (.aload_n 0, 1) := by decide +kernel
theorem d_X9_ahead_1 : decode cX9_ahead 1 = .ok (.iload_n 1, 1) := by decide +kernel
theorem d_X9_ahead_2 : decode cX9_ahead 2 = .ok (.iconst 0, 1) := by decide +kernel
theorem d_X9_ahead_3 : decode cX9_ahead 3 = .ok (.sipush 500, 3) := by decide +kernel
theorem d_X9_ahead_6 : decode cX9_ahead 6 = .ok (.invokestatic 255, 3) := by decide +kernel
theorem d_X9_ahead_9 : decode cX9_ahead 9 = .ok (.ifCond .eq 16, 3) := by decide +kernel
theorem d_X9_ahead_12 : decode cX9_ahead 12 = .ok (.iload_n 2, 1) := by decide +kernel
theorem d_X9_ahead_13 : decode cX9_ahead 13 = .ok (.iconst 0, 1) := by decide +kernel
theorem d_X9_ahead_14 : decode cX9_ahead 14 = .ok (.iconst 2, 1) := by decide +kernel
theorem d_X9_ahead_15 : decode cX9_ahead 15 = .ok (.invokestatic 255, 3) := by decide +kernel
theorem d_X9_ahead_18 : decode cX9_ahead 18 = .ok (.ifCond .eq 7, 3) := by decide +kernel
theorem d_X9_ahead_21 : decode cX9_ahead 21 = .ok (.iconst 1, 1) := by decide +kernel
theorem d_X9_ahead_22 : decode cX9_ahead 22 = .ok (.goto 4, 3) := by decide +kernel
theorem d_X9_ahead_25 : decode cX9_ahead 25 = .ok (.iconst 0, 1) := by decide +kernel
theorem d_X9_ahead_26 : decode cX9_ahead 26 = .ok (.invokevirtual 155, 3) := by decide +kernel
theorem d_X9_ahead_29 : decode cX9_ahead 29 = .ok (.aload_n 0, 1) := by decide +kernel
theorem d_X9_ahead_30 : decode cX9_ahead 30 = .ok (.getfield 37, 3) := by decide +kernel
theorem d_X9_ahead_33 : decode cX9_ahead 33 = .ok (.aload_n 0, 1) := by decide +kernel
theorem d_X9_ahead_34 : decode cX9_ahead 34 = .ok (.getfield 19, 3) := by decide +kernel
theorem d_X9_ahead_37 : decode cX9_ahead 37 = .ok (.getfield 159, 3) := by decide +kernel
theorem d_X9_ahead_40 : decode cX9_ahead 40 = .ok (.invokevirtual 307, 3) := by decide +kernel
theorem d_X9_ahead_43 : decode cX9_ahead 43 = .ok (.iconst 0, 1) := by decide +kernel
theorem d_X9_ahead_44 : decode cX9_ahead 44 = .ok (.istore_n 3, 1) := by decide +kernel
theorem d_X9_ahead_45 : decode cX9_ahead 45 = .ok (.iload_n 3, 1) := by decide +kernel
theorem d_X9_ahead_46 : decode cX9_ahead 46 = .ok (.iload_n 1, 1) := by decide +kernel
theorem d_X9_ahead_47 : decode cX9_ahead 47 = .ok (.if_icmp .ge 27, 3) := by decide +kernel
theorem d_X9_ahead_50 : decode cX9_ahead 50 = .ok (.aload_n 0, 1) := by decide +kernel
theorem d_X9_ahead_51 : decode cX9_ahead 51 = .ok (.getfield 62, 3) := by decide +kernel
theorem d_X9_ahead_54 : decode cX9_ahead 54 = .ok (.getfield 127, 3) := by decide +kernel
theorem d_X9_ahead_57 : decode cX9_ahead 57 = .ok (.ifCond .le 17, 3) := by decide +kernel
theorem d_X9_ahead_60 : decode cX9_ahead 60 = .ok (.aload_n 0, 1) := by decide +kernel
theorem d_X9_ahead_61 : decode cX9_ahead 61 = .ok (.aload_n 0, 1) := by decide +kernel
theorem d_X9_ahead_62 : decode cX9_ahead 62 = .ok (.getfield 37, 3) := by decide +kernel
theorem d_X9_ahead_65 : decode cX9_ahead 65 = .ok (.invokevirtual 311, 3) := by decide +kernel
theorem d_X9_ahead_68 : decode cX9_ahead 68 = .ok (.iinc 3 1, 3) := by decide +kernel
theorem d_X9_ahead_71 : decode cX9_ahead 71 = .ok (.goto (-26), 3) := by decide +kernel
theorem d_X9_ahead_74 : decode cX9_ahead 74 = .ok (.iload_n 2, 1) := by decide +kernel
theorem d_X9_ahead_75 : decode cX9_ahead 75 = .ok (.ifCond .ne 14, 3) := by decide +kernel
theorem d_X9_ahead_78 : decode cX9_ahead 78 = .ok (.aload_n 0, 1) := by decide +kernel
theorem d_X9_ahead_79 : decode cX9_ahead 79 = .ok (.getfield 37, 3) := by decide +kernel
theorem d_X9_ahead_82 : decode cX9_ahead 82 = .ok (.getfield 174, 3) := by decide +kernel
theorem d_X9_ahead_85 : decode cX9_ahead 85 = .ok (.invokestatic 177, 3) := by decide +kernel
theorem d_X9_ahead_88 : decode cX9_ahead 88 = .ok (.ireturn, 1) := by decide +kernel
theorem d_X9_ahead_89 : decode cX9_ahead 89 = .ok (.iload_n 2, 1) := by decide +kernel
theorem d_X9_ahead_90 : decode cX9_ahead 90 = .ok (.iconst 1, 1) := by decide +kernel
theorem d_X9_ahead_91 : decode cX9_ahead 91 = .ok (.if_icmp .ne 24, 3) := by decide +kernel
theorem d_X9_ahead_94 : decode cX9_ahead 94 = .ok (.aload_n 0, 1) := by decide +kernel
theorem d_X9_ahead_95 : decode cX9_ahead 95 = .ok (.getfield 62, 3) := by decide +kernel
theorem d_X9_ahead_98 : decode cX9_ahead 98 = .ok (.getfield 200, 3) := by decide +kernel
theorem d_X9_ahead_101 : decode cX9_ahead 101 = .ok (.aload_n 0, 1) := by decide +kernel
theorem d_X9_ahead_102 : decode cX9_ahead 102 = .ok (.getfield 37, 3) := by decide +kernel
theorem d_X9_ahead_105 : decode cX9_ahead 105 = .ok (.invokevirtual 204, 3) := by decide +kernel
theorem d_X9_ahead_108 : decode cX9_ahead 108 = .ok (.land, 1) := by decide +kernel
theorem d_X9_ahead_109 : decode cX9_ahead 109 = .ok (.invokestatic 194, 3) := by decide +kernel
theorem d_X9_ahead_112 : decode cX9_ahead 112 = .ok (.goto 10, 3) := by decide +kernel
theorem d_X9_ahead_115 : decode cX9_ahead 115 = .ok (.aload_n 0, 1) := by decide +kernel
theorem d_X9_ahead_116 : decode cX9_ahead 116 = .ok (.getfield 37, 3) := by decide +kernel
theorem d_X9_ahead_119 : decode cX9_ahead 119 = .ok (.getfield 168, 3) := by decide +kernel
theorem d_X9_ahead_122 : decode cX9_ahead 122 = .ok (.ireturn, 1) := by decide +kernel
noncomputable def F_X9_ahead_74 (p0 : Int32) (p1 : Int32) (b74_L2 : Int32) (M : zMem) : Option (Nat × Int32 × zMem) :=
  if b74_L2 = 0 then
    zb (F_X9_sumOf M 100) fun v7 M6 =>
    some (0, v7, M6)
  else
    if b74_L2 = (1 : Int32) then
      gd (shX (M.2.2 0 8) == 6) <|
      zb (F_X4_dryPlaces M 99) fun v3 M2 =>
      zb (F_J13_bitCount_95d88 M2 ((M.2.1 (M.2.2 0 8) 3) &&& v3)) fun v5 M4 =>
      some (0, v5, M4)
    else
      some (0, (M.1 99 4), M)
noncomputable def F_X9_ahead_45 (p0 : Int32) (p1 : Int32) (self45 : Int32 → Int32 → Int32 → zMem → Option (Nat × Int32 × zMem)) (b45_L1 : Int32) (b45_L2 : Int32) (b45_L3 : Int32) (M : zMem) : Option (Nat × Int32 × zMem) :=
  if b45_L1 ≤ b45_L3 then
    F_X9_ahead_74 p0 p1 b45_L2 M
  else
    gd (shX (M.2.2 0 8) == 6) <|
    if (M.1 (M.2.2 0 8) 2) ≤ 0 then
      F_X9_ahead_74 p0 p1 b45_L2 M
    else
      zbv (F_X9_passHour M 99) fun M9 =>
      self45 b45_L1 b45_L2 (b45_L3 + 1) M9
noncomputable def F_X9_ahead_26 (p0 : Int32) (p1 : Int32) (b26_L1 : Int32) (b26_L2 : Int32) (b26_S1 : Int32) (M : zMem) : Option (Nat × Int32 × zMem) :=
  zbx (F_X9_need M b26_S1) (g := zxp) fun _ M10 =>
  zbv (F_X4_copyFrom M10 99 4) fun M15 =>
  itF (fun _ _ _ _ => none) (F_X9_ahead_45 p0 p1) zFuel b26_L1 b26_L2 (0 : Int32) M15
noncomputable def F_X9_ahead_25 (p0 : Int32) (p1 : Int32) (b25_L1 : Int32) (b25_L2 : Int32) (M : zMem) : Option (Nat × Int32 × zMem) :=
  F_X9_ahead_26 p0 p1 b25_L1 b25_L2 (0 : Int32) M
noncomputable def F_X9_ahead (M : zMem) (p0 : Int32) (p1 : Int32) : Option (Nat × Int32 × zMem) :=
  zb (F_X9_within M p0 (0 : Int32) (500 : Int32)) fun v17 M16 =>
  if v17 = 0 then
    F_X9_ahead_25 p0 p1 p0 p1 M16
  else
    zb (F_X9_within M16 p1 (0 : Int32) (2 : Int32)) fun v19 M18 =>
    if v19 = 0 then
      F_X9_ahead_25 p0 p1 p0 p1 M18
    else
      F_X9_ahead_26 p0 p1 p0 p1 (1 : Int32) M18
def rm_X9_ahead : Room := { frames := 10, cells := 1, slots := 6, locals := 180 }
set_option maxHeartbeats 4000000 in
set_option maxRecDepth 100000 in
theorem c_X9_ahead (l : Launch) {G : zG} {ad : Nat → Nat} {n : Nat} (hA : zInj ad n) (M : zMem) (p0 : Int32) (p1 : Int32) (hl : l.stackTraces = false) (hT : zT shX n 0 10) {k9 : Nat} {r9 : Int32} {M9 : zMem} (hF : F_X9_ahead M p0 p1 = some (k9, r9, M9)) : zMX l yX9_ahead cX9_ahead 4 (some .int) rm_X9_ahead 1 6 G shX ad n M [.ref (ad 0), .int p0, .int p1] k9 (some (.int r9)) M9 := by
  refine zM_ofX hA (by decide +kernel) (lv := [(0, .ref (ad 0)), (1, .int p0), (2, .int p1)]) (Nat.le_of_ble_eq_true rfl) rfl (fun p e s m args below meth c A cx hr ht => ?_)
  have hb74 : ∀ (b74_L2 : Int32) (M : zMem), F_X9_ahead_74 p0 p1 b74_L2 M = some (k9, r9, M9) → zJ p l e rm_X9_ahead s m args below meth c G shX ad n A 4 (vx_MQ below (zQX G shX ad n M9 k9 (some (.int r9)) A) (zXC G shX ad n M9 k9 A) args s 1 6 A) 1 6 M 74 [(0, .ref (ad 0)), (2, .int b74_L2)] [] := by
    intro b74_L2 M hF
    unfold F_X9_ahead_74 at hF
    refine z_iload_n cx d_X9_ahead_74 1 rfl ?_
    refine z_if_ne cx 89 d_X9_ahead_75 (by decide) hF (fun hF => ?_) (fun hF => ?_)
    · refine z_iload_n cx d_X9_ahead_89 1 rfl ?_
      refine z_iconst (v := 1) cx d_X9_ahead_90 ki_1 ?_
      refine z_icmp_ne cx 115 d_X9_ahead_91 (by decide) hF (fun hF => ?_) (fun hF => ?_)
      · refine z_aload_n cx d_X9_ahead_115 0 rfl ?_
        refine z_getR cx hT fg_SunnyPans_37 99 rfl d_X9_ahead_116 ?_
        refine z_getI cx (tfX_10_99 hT) fg_SunnyPans_168 d_X9_ahead_119 ?_
        exact z_iretX cx hr rfl hF ⟨Nat.le_of_ble_eq_true rfl, Nat.le_of_ble_eq_true rfl⟩ d_X9_ahead_122
      refine z_aload_n cx d_X9_ahead_94 0 rfl ?_
      obtain ⟨hg1, hF⟩ := gd_inv hF
      refine z_getD cx hT fg_SunnyPans_62 d_X9_ahead_95 ?_
      refine z_getL cx (td_6 hT hg1) fg_SunnyPans_200 d_X9_ahead_98 ?_
      refine z_aload_n cx d_X9_ahead_101 0 rfl ?_
      refine z_getR cx hT fg_SunnyPans_37 99 rfl d_X9_ahead_102 ?_
      obtain ⟨v3, M2, hc, hF⟩ := zb_inv hF
      refine z_callV cx (As := []) (rest := [.long (M.2.1 (M.2.2 0 8) 3)]) (c_X4_dryPlaces l cx.2.2.2.1.1 M 99 (tfX_10_99 hT) hc) (tfX_10_99 hT) zo_5 cv_SunnyPans_204 ⟨rfl, rfl, Nat.le_of_ble_eq_true rfl, Nat.le_of_ble_eq_true rfl⟩ rfl rfl ⟨Nat.le_of_ble_eq_true rfl, Nat.le_of_ble_eq_true rfl⟩ (Nat.le_of_ble_eq_true rfl) d_X9_ahead_105 ?_
      refine z_land cx d_X9_ahead_108 ?_
      obtain ⟨v5, M4, hc, hF⟩ := zb_inv hF
      refine z_callS cx (As := [.long ((M.2.1 (M.2.2 0 8) 3) &&& v3)]) (rest := []) (c_J13_bitCount_95d88 l cx.2.2.2.1.1 M2 ((M.2.1 (M.2.2 0 8) 3) &&& v3)  hc) cs_SunnyPans_194 ⟨rfl, rfl, Nat.le_of_ble_eq_true rfl, Nat.le_of_ble_eq_true rfl⟩ rfl rfl ⟨Nat.le_of_ble_eq_true rfl, Nat.le_of_ble_eq_true rfl⟩ (Nat.le_of_ble_eq_true rfl) d_X9_ahead_109 ?_
      refine z_goto cx 122 d_X9_ahead_112 (by decide) ?_
      exact z_iretX cx hr rfl hF ⟨Nat.le_of_ble_eq_true rfl, Nat.le_of_ble_eq_true rfl⟩ d_X9_ahead_122
    refine z_aload_n cx d_X9_ahead_78 0 rfl ?_
    refine z_getR cx hT fg_SunnyPans_37 99 rfl d_X9_ahead_79 ?_
    refine z_getR cx (tfX_10_99 hT) fg_SunnyPans_174 100 rfl d_X9_ahead_82 ?_
    obtain ⟨v7, M6, hc, hF⟩ := zb_inv hF
    refine z_callS cx (As := [.ref (ad 100)]) (rest := []) (c_X9_sumOf l cx.2.2.2.1.1 M 100 (tfX_5_1 (tfX_10_99 hT)) hc) cs_SunnyPans_177 ⟨rfl, rfl, Nat.le_of_ble_eq_true rfl, Nat.le_of_ble_eq_true rfl⟩ rfl rfl ⟨Nat.le_of_ble_eq_true rfl, Nat.le_of_ble_eq_true rfl⟩ (Nat.le_of_ble_eq_true rfl) d_X9_ahead_85 ?_
    exact z_iretX cx hr rfl hF ⟨Nat.le_of_ble_eq_true rfl, Nat.le_of_ble_eq_true rfl⟩ d_X9_ahead_88
  have hL45 : ∀ (fuel : Nat), ∀ (b45_L1 : Int32) (b45_L2 : Int32) (b45_L3 : Int32) (M : zMem), itF (fun _ _ _ _ => none) (F_X9_ahead_45 p0 p1) fuel b45_L1 b45_L2 b45_L3 M = some (k9, r9, M9) → zJ p l e rm_X9_ahead s m args below meth c G shX ad n A 4 (vx_MQ below (zQX G shX ad n M9 k9 (some (.int r9)) A) (zXC G shX ad n M9 k9 A) args s 1 6 A) 1 6 M 45 [(0, .ref (ad 0)), (1, .int b45_L1), (2, .int b45_L2), (3, .int b45_L3)] [] := by
    intro fuel
    induction fuel with
    | zero => intro b45_L1 b45_L2 b45_L3 M hF; cases hF
    | succ fuel hs45 =>
      intro b45_L1 b45_L2 b45_L3 M hF
      have hF : F_X9_ahead_45 p0 p1 (itF (fun _ _ _ _ => none) (F_X9_ahead_45 p0 p1) fuel) b45_L1 b45_L2 b45_L3 M = some (k9, r9, M9) := hF
      generalize itF (fun _ _ _ _ => none) (F_X9_ahead_45 p0 p1) fuel = self45 at hs45 hF
      unfold F_X9_ahead_45 at hF
      refine z_iload_n cx d_X9_ahead_45 3 rfl ?_
      refine z_iload_n cx d_X9_ahead_46 1 rfl ?_
      refine z_icmp_ge cx 74 d_X9_ahead_47 (by decide) hF (fun hF => ?_) (fun hF => ?_)
      · exact z_lv [0, 2] _ rfl (hb74 b45_L2 M hF)
      refine z_aload_n cx d_X9_ahead_50 0 rfl ?_
      obtain ⟨hg8, hF⟩ := gd_inv hF
      refine z_getD cx hT fg_SunnyPans_62 d_X9_ahead_51 ?_
      refine z_getI cx (td_6 hT hg8) fg_SunnyPans_127 d_X9_ahead_54 ?_
      refine z_if_le cx 74 d_X9_ahead_57 (by decide) hF (fun hF => ?_) (fun hF => ?_)
      · exact z_lv [0, 2] _ rfl (hb74 b45_L2 M hF)
      refine z_aload_n cx d_X9_ahead_60 0 rfl ?_
      refine z_aload_n cx d_X9_ahead_61 0 rfl ?_
      refine z_getR cx hT fg_SunnyPans_37 99 rfl d_X9_ahead_62 ?_
      obtain ⟨M9, hc, hF⟩ := zbv_inv hF
      refine z_callV cx (As := [.ref (ad 99)]) (rest := []) (c_X9_passHour l cx.2.2.2.1.1 M 99 hT (tfX_10_99 hT) hc) hT zo_10 cv_SunnyPans_311 ⟨rfl, rfl, Nat.le_of_ble_eq_true rfl, Nat.le_of_ble_eq_true rfl⟩ rfl rfl ⟨Nat.le_of_ble_eq_true rfl, Nat.le_of_ble_eq_true rfl⟩ (Nat.le_of_ble_eq_true rfl) d_X9_ahead_65 ?_
      refine z_iinc cx 3 1 [(3, .int (b45_L3 + 1)), (0, .ref (ad 0)), (1, .int b45_L1), (2, .int b45_L2)] d_X9_ahead_68 3 rfl ki_1 (by decide) rfl ?_
      refine z_goto cx 45 d_X9_ahead_71 (by decide) ?_
      exact z_lv [1, 2, 3, 0] _ rfl (hs45 b45_L1 b45_L2 (b45_L3 + 1) M9 hF)
  have hb26 : ∀ (b26_L1 : Int32) (b26_L2 : Int32) (b26_S1 : Int32) (M : zMem), F_X9_ahead_26 p0 p1 b26_L1 b26_L2 b26_S1 M = some (k9, r9, M9) → zJ p l e rm_X9_ahead s m args below meth c G shX ad n A 4 (vx_MQ below (zQX G shX ad n M9 k9 (some (.int r9)) A) (zXC G shX ad n M9 k9 A) args s 1 6 A) 0 0 M 26 [(0, .ref (ad 0)), (1, .int b26_L1), (2, .int b26_L2)] [.int b26_S1, .ref (ad 0)] := by
    intro b26_L1 b26_L2 b26_S1 M hF
    unfold F_X9_ahead_26 at hF
    obtain ⟨k11, v12, M10, hc, hF, hX13⟩ := zbx_inv hF
    refine z_callVX cx ht (As := [.int b26_S1]) (rest := []) (c_X9_need l cx.2.2.2.1.1 M b26_S1 hl hT hc) (fun q => zxp_inv (hX13 q)) hT zo_10 cv_SunnyPans_155 ⟨rfl, rfl, Nat.le_of_ble_eq_true rfl, Nat.le_of_ble_eq_true rfl⟩ rfl rfl ⟨Nat.le_of_ble_eq_true rfl, Nat.le_of_ble_eq_true rfl⟩ ⟨Nat.le_of_ble_eq_true rfl, Nat.le_of_ble_eq_true rfl⟩ (Nat.le_of_ble_eq_true rfl) d_X9_ahead_26 (fun kq14 => ?_)
    have hF := hF kq14
    refine z_aload_n cx d_X9_ahead_29 0 rfl ?_
    refine z_getR cx hT fg_SunnyPans_37 99 rfl d_X9_ahead_30 ?_
    refine z_aload_n cx d_X9_ahead_33 0 rfl ?_
    refine z_getR cx hT fg_SunnyPans_19 3 rfl d_X9_ahead_34 ?_
    refine z_getR cx (tfX_10_3 hT) fg_SunnyPans_159 4 rfl d_X9_ahead_37 ?_
    obtain ⟨M15, hc, hF⟩ := zbv_inv hF
    refine z_callV cx (As := [.ref (ad 4)]) (rest := []) (c_X4_copyFrom l cx.2.2.2.1.1 M10 99 4 (tfX_10_99 hT) (tfX_8_1 (tfX_10_3 hT)) hc) (tfX_10_99 hT) zo_5 cv_SunnyPans_307 ⟨rfl, rfl, Nat.le_of_ble_eq_true rfl, Nat.le_of_ble_eq_true rfl⟩ rfl rfl ⟨Nat.le_of_ble_eq_true rfl, Nat.le_of_ble_eq_true rfl⟩ (Nat.le_of_ble_eq_true rfl) d_X9_ahead_40 ?_
    refine z_iconst (v := 0) cx d_X9_ahead_43 ki_0 ?_
    refine z_istore_n cx 3 [(3, .int (0 : Int32)), (0, .ref (ad 0)), (1, .int b26_L1), (2, .int b26_L2)] d_X9_ahead_44 rfl (by decide) rfl ?_
    exact z_lv [1, 2, 3, 0] _ rfl (hL45 zFuel b26_L1 b26_L2 (0 : Int32) M15 hF)
  have hb25 : ∀ (b25_L1 : Int32) (b25_L2 : Int32) (M : zMem), F_X9_ahead_25 p0 p1 b25_L1 b25_L2 M = some (k9, r9, M9) → zJ p l e rm_X9_ahead s m args below meth c G shX ad n A 4 (vx_MQ below (zQX G shX ad n M9 k9 (some (.int r9)) A) (zXC G shX ad n M9 k9 A) args s 1 6 A) 0 0 M 25 [(0, .ref (ad 0)), (1, .int b25_L1), (2, .int b25_L2)] [.ref (ad 0)] := by
    intro b25_L1 b25_L2 M hF
    unfold F_X9_ahead_25 at hF
    refine z_iconst (v := 0) cx d_X9_ahead_25 ki_0 ?_
    exact hb26 b25_L1 b25_L2 (0 : Int32) M hF
  unfold F_X9_ahead at hF
  refine z_aload_n cx d_X9_ahead_0 0 rfl ?_
  refine z_iload_n cx d_X9_ahead_1 1 rfl ?_
  refine z_iconst (v := 0) cx d_X9_ahead_2 ki_0 ?_
  refine z_sipush (v := 500) cx d_X9_ahead_3 ks_500 ?_
  obtain ⟨v17, M16, hc, hF⟩ := zb_inv hF
  refine z_callS cx (As := [.int p0, .int (0 : Int32), .int (500 : Int32)]) (rest := [.ref (ad 0)]) (c_X9_within l cx.2.2.2.1.1 M p0 (0 : Int32) (500 : Int32)  hc) cs_SunnyPans_255 ⟨rfl, rfl, Nat.le_of_ble_eq_true rfl, Nat.le_of_ble_eq_true rfl⟩ rfl rfl ⟨Nat.le_of_ble_eq_true rfl, Nat.le_of_ble_eq_true rfl⟩ (Nat.le_of_ble_eq_true rfl) d_X9_ahead_6 ?_
  refine z_if_eq cx 25 d_X9_ahead_9 (by decide) hF (fun hF => ?_) (fun hF => ?_)
  · exact hb25 p0 p1 M16 hF
  refine z_iload_n cx d_X9_ahead_12 2 rfl ?_
  refine z_iconst (v := 0) cx d_X9_ahead_13 ki_0 ?_
  refine z_iconst (v := 2) cx d_X9_ahead_14 ki_2 ?_
  obtain ⟨v19, M18, hc, hF⟩ := zb_inv hF
  refine z_callS cx (As := [.int p1, .int (0 : Int32), .int (2 : Int32)]) (rest := [.ref (ad 0)]) (c_X9_within l cx.2.2.2.1.1 M16 p1 (0 : Int32) (2 : Int32)  hc) cs_SunnyPans_255 ⟨rfl, rfl, Nat.le_of_ble_eq_true rfl, Nat.le_of_ble_eq_true rfl⟩ rfl rfl ⟨Nat.le_of_ble_eq_true rfl, Nat.le_of_ble_eq_true rfl⟩ (Nat.le_of_ble_eq_true rfl) d_X9_ahead_15 ?_
  refine z_if_eq cx 25 d_X9_ahead_18 (by decide) hF (fun hF => ?_) (fun hF => ?_)
  · exact hb25 p0 p1 M18 hF
  refine z_iconst (v := 1) cx d_X9_ahead_21 ki_1 ?_
  refine z_goto cx 26 d_X9_ahead_22 (by decide) ?_
  exact hb26 p0 p1 (1 : Int32) M18 hF
/-! SunnyPans.dryingOf -/
theorem d_X9_dryingOf_0 : decode cX9_dryingOf 0 = .ok (.aload_n 0, 1) := by decide +kernel
theorem d_X9_dryingOf_1 : decode cX9_dryingOf 1 = .ok (.getfield 19, 3) := by decide +kernel
theorem d_X9_dryingOf_4 : decode cX9_dryingOf 4 = .ok (.getfield 159, 3) := by decide +kernel
theorem d_X9_dryingOf_7 : decode cX9_dryingOf 7 = .ok (.astore_n 3, 1) := by decide +kernel
theorem d_X9_dryingOf_8 : decode cX9_dryingOf 8 = .ok (.aload_n 3, 1) := by decide +kernel
theorem d_X9_dryingOf_9 : decode cX9_dryingOf 9 = .ok (.getfield 174, 3) := by decide +kernel
theorem d_X9_dryingOf_12 : decode cX9_dryingOf 12 = .ok (.iload_n 1, 1) := by decide +kernel
theorem d_X9_dryingOf_13 : decode cX9_dryingOf 13 = .ok (.iaload, 1) := by decide +kernel
theorem d_X9_dryingOf_14 : decode cX9_dryingOf 14 = .ok (.istore 4, 2) := by decide +kernel
theorem d_X9_dryingOf_16 : decode cX9_dryingOf 16 = .ok (.aload_n 3, 1) := by decide +kernel
theorem d_X9_dryingOf_17 : decode cX9_dryingOf 17 = .ok (.getfield 184, 3) := by decide +kernel
theorem d_X9_dryingOf_20 : decode cX9_dryingOf 20 = .ok (.iload_n 1, 1) := by decide +kernel
theorem d_X9_dryingOf_21 : decode cX9_dryingOf 21 = .ok (.iaload, 1) := by decide +kernel
theorem d_X9_dryingOf_22 : decode cX9_dryingOf 22 = .ok (.ifCond .le 5, 3) := by decide +kernel
theorem d_X9_dryingOf_25 : decode cX9_dryingOf 25 = .ok (.iconst (-1), 1) := by decide +kernel
theorem d_X9_dryingOf_26 : decode cX9_dryingOf 26 = .ok (.ireturn, 1) := by decide +kernel
theorem d_X9_dryingOf_27 : decode cX9_dryingOf 27 = .ok (.iload 4, 2) := by decide +kernel
theorem d_X9_dryingOf_29 : decode cX9_dryingOf 29 = .ok (.ifCond .ne 5, 3) := by decide +kernel
theorem d_X9_dryingOf_32 : decode cX9_dryingOf 32 = .ok (.iconst 0, 1) := by decide +kernel
theorem d_X9_dryingOf_33 : decode cX9_dryingOf 33 = .ok (.ireturn, 1) := by decide +kernel
theorem d_X9_dryingOf_34 : decode cX9_dryingOf 34 = .ok (.aload_n 3, 1) := by decide +kernel
theorem d_X9_dryingOf_35 : decode cX9_dryingOf 35 = .ok (.getfield 171, 3) := by decide +kernel
theorem d_X9_dryingOf_38 : decode cX9_dryingOf 38 = .ok (.istore 5, 2) := by decide +kernel
theorem d_X9_dryingOf_40 : decode cX9_dryingOf 40 = .ok (.aload_n 3, 1) := by decide +kernel
theorem d_X9_dryingOf_41 : decode cX9_dryingOf 41 = .ok (.getfield 168, 3) := by decide +kernel
theorem d_X9_dryingOf_44 : decode cX9_dryingOf 44 = .ok (.istore 6, 2) := by decide +kernel
theorem d_X9_dryingOf_46 : decode cX9_dryingOf 46 = .ok (.iconst 1, 1) := by decide +kernel
theorem d_X9_dryingOf_47 : decode cX9_dryingOf 47 = .ok (.istore 7, 2) := by decide +kernel
theorem d_X9_dryingOf_49 : decode cX9_dryingOf 49 = .ok (.iload 7, 2) := by decide +kernel
theorem d_X9_dryingOf_51 : decode cX9_dryingOf 51 = .ok (.iload_n 2, 1) := by decide +kernel
theorem d_X9_dryingOf_52 : decode cX9_dryingOf 52 = .ok (.if_icmp .gt 65, 3) := by decide +kernel
theorem d_X9_dryingOf_55 : decode cX9_dryingOf 55 = .ok (.aload_n 0, 1) := by decide +kernel
theorem d_X9_dryingOf_56 : decode cX9_dryingOf 56 = .ok (.getfield 62, 3) := by decide +kernel
theorem d_X9_dryingOf_59 : decode cX9_dryingOf 59 = .ok (.getfield 127, 3) := by decide +kernel
theorem d_X9_dryingOf_62 : decode cX9_dryingOf 62 = .ok (.ifCond .le 55, 3) := by decide +kernel
theorem d_X9_dryingOf_65 : decode cX9_dryingOf 65 = .ok (.iload 4, 2) := by decide +kernel
theorem d_X9_dryingOf_67 : decode cX9_dryingOf 67 = .ok (.aload_n 0, 1) := by decide +kernel
theorem d_X9_dryingOf_68 : decode cX9_dryingOf 68 = .ok (.aload_n 3, 1) := by decide +kernel
theorem d_X9_dryingOf_69 : decode cX9_dryingOf 69 = .ok (.iload_n 1, 1) := by decide +kernel
theorem d_X9_dryingOf_70 : decode cX9_dryingOf 70 = .ok (.iload 4, 2) := by decide +kernel
theorem d_X9_dryingOf_72 : decode cX9_dryingOf 72 = .ok (.iload 5, 2) := by decide +kernel
theorem d_X9_dryingOf_74 : decode cX9_dryingOf 74 = .ok (.iload 6, 2) := by decide +kernel
theorem d_X9_dryingOf_76 : decode cX9_dryingOf 76 = .ok (.invokevirtual 326, 3) := by decide +kernel
theorem d_X9_dryingOf_79 : decode cX9_dryingOf 79 = .ok (.isub, 1) := by decide +kernel
theorem d_X9_dryingOf_80 : decode cX9_dryingOf 80 = .ok (.istore 4, 2) := by decide +kernel
theorem d_X9_dryingOf_82 : decode cX9_dryingOf 82 = .ok (.iload 4, 2) := by decide +kernel
theorem d_X9_dryingOf_84 : decode cX9_dryingOf 84 = .ok (.ifCond .ne 6, 3) := by decide +kernel
theorem d_X9_dryingOf_87 : decode cX9_dryingOf 87 = .ok (.iload 7, 2) := by decide +kernel
theorem d_X9_dryingOf_89 : decode cX9_dryingOf 89 = .ok (.ireturn, 1) := by decide +kernel
theorem d_X9_dryingOf_90 : decode cX9_dryingOf 90 = .ok (.iinc 5 1, 3) := by decide +kernel
theorem d_X9_dryingOf_93 : decode cX9_dryingOf 93 = .ok (.iload 5, 2) := by decide +kernel
theorem d_X9_dryingOf_95 : decode cX9_dryingOf 95 = .ok (.aload_n 0, 1) := by decide +kernel
theorem d_X9_dryingOf_96 : decode cX9_dryingOf 96 = .ok (.getfield 62, 3) := by decide +kernel
theorem d_X9_dryingOf_99 : decode cX9_dryingOf 99 = .ok (.getfield 127, 3) := by decide +kernel
theorem d_X9_dryingOf_102 : decode cX9_dryingOf 102 = .ok (.if_icmp .lt 9, 3) := by decide +kernel
theorem d_X9_dryingOf_105 : decode cX9_dryingOf 105 = .ok (.iconst 0, 1) := by decide +kernel
theorem d_X9_dryingOf_106 : decode cX9_dryingOf 106 = .ok (.istore 5, 2) := by decide +kernel
theorem d_X9_dryingOf_108 : decode cX9_dryingOf 108 = .ok (.iinc 6 1, 3) := by decide +kernel
theorem d_X9_dryingOf_111 : decode cX9_dryingOf 111 = .ok (.iinc 7 1, 3) := by decide +kernel
theorem d_X9_dryingOf_114 : decode cX9_dryingOf 114 = .ok (.goto (-65), 3) := by decide +kernel
theorem d_X9_dryingOf_117 : decode cX9_dryingOf 117 = .ok (.iconst (-1), 1) := by decide +kernel
theorem d_X9_dryingOf_118 : decode cX9_dryingOf 118 = .ok (.ireturn, 1) := by decide +kernel
noncomputable def F_X9_dryingOf_111 (p0 : Int32) (p1 : Int32) (self49 : Int32 → Int32 → Int32 → Int32 → Int32 → Int32 → zMem → Option (Int32 × zMem)) (b111_L1 : Int32) (b111_L2 : Int32) (b111_L4 : Int32) (b111_L5 : Int32) (b111_L6 : Int32) (b111_L7 : Int32) (M : zMem) : Option (Int32 × zMem) :=
  self49 b111_L1 b111_L2 b111_L4 b111_L5 b111_L6 (b111_L7 + 1) M
noncomputable def F_X9_dryingOf_49 (p0 : Int32) (p1 : Int32) (self49 : Int32 → Int32 → Int32 → Int32 → Int32 → Int32 → zMem → Option (Int32 × zMem)) (b49_L1 : Int32) (b49_L2 : Int32) (b49_L4 : Int32) (b49_L5 : Int32) (b49_L6 : Int32) (b49_L7 : Int32) (M : zMem) : Option (Int32 × zMem) :=
  if b49_L2 < b49_L7 then
    some ((-1 : Int32), M)
  else
    gd (shX (M.2.2 0 8) == 6) <|
    if (M.1 (M.2.2 0 8) 2) ≤ 0 then
      some ((-1 : Int32), M)
    else
      zb (F_X9_lossOf M 4 b49_L1 b49_L4 b49_L5 b49_L6) fun v3 M2 =>
      zl (b49_L4 - v3) fun v4 =>
      if v4 = 0 then
        some (b49_L7, M2)
      else
        gd (shX (M2.2.2 0 8) == 6) <|
        if (b49_L5 + 1) < (M2.1 (M2.2.2 0 8) 2) then
          F_X9_dryingOf_111 p0 p1 self49 b49_L1 b49_L2 v4 (b49_L5 + 1) b49_L6 b49_L7 M2
        else
          F_X9_dryingOf_111 p0 p1 self49 b49_L1 b49_L2 v4 (0 : Int32) (b49_L6 + 1) b49_L7 M2
noncomputable def F_X9_dryingOf (M : zMem) (p0 : Int32) (p1 : Int32) : Option (Int32 × zMem) :=
  gin p0 64 <|
  zl (M.1 5 p0.toNatClampNeg) fun v7 =>
  if (M.1 7 p0.toNatClampNeg) ≤ 0 then
    if v7 = 0 then
      some ((0 : Int32), M)
    else
      zl (M.1 4 5) fun v8 =>
      zl (M.1 4 4) fun v9 =>
      itF (fun _ _ _ _ _ _ _ => none) (F_X9_dryingOf_49 p0 p1) zFuel p0 p1 v7 v8 v9 (1 : Int32) M
  else
    some ((-1 : Int32), M)
def rm_X9_dryingOf : Room := { frames := 6, cells := 0, slots := 0, locals := 158 }
set_option maxHeartbeats 4000000 in
set_option maxRecDepth 100000 in
theorem c_X9_dryingOf (l : Launch) {G : zG} {ad : Nat → Nat} {n : Nat} (hA : zInj ad n) (M : zMem) (p0 : Int32) (p1 : Int32) (hT : zT shX n 0 10) {r9 : Int32} {M9 : zMem} (hF : F_X9_dryingOf M p0 p1 = some (r9, M9)) : zM l yX9_dryingOf cX9_dryingOf 8 (some .int) rm_X9_dryingOf G shX ad n M [.ref (ad 0), .int p0, .int p1] (some (.int r9)) M9 := by
  refine zM_of hA (by decide +kernel) (lv := [(0, .ref (ad 0)), (1, .int p0), (2, .int p1)]) (Nat.le_of_ble_eq_true rfl) rfl (fun p e s m args below meth c A cx hr => ?_)
  have hb111 : ∀ (self49 : Int32 → Int32 → Int32 → Int32 → Int32 → Int32 → zMem → Option (Int32 × zMem)) (hs49 : ∀ (b49_L1 : Int32) (b49_L2 : Int32) (b49_L4 : Int32) (b49_L5 : Int32) (b49_L6 : Int32) (b49_L7 : Int32) (M : zMem), self49 b49_L1 b49_L2 b49_L4 b49_L5 b49_L6 b49_L7 M = some (r9, M9) → zJ p l e rm_X9_dryingOf s m args below meth c G shX ad n A 8 (MQ below (zQ G shX ad n M9 (some (.int r9)) A) args s 0 0 A) 0 0 M 49 [(0, .ref (ad 0)), (1, .int b49_L1), (2, .int b49_L2), (3, .ref (ad 4)), (4, .int b49_L4), (5, .int b49_L5), (6, .int b49_L6), (7, .int b49_L7)] []), ∀ (b111_L1 : Int32) (b111_L2 : Int32) (b111_L4 : Int32) (b111_L5 : Int32) (b111_L6 : Int32) (b111_L7 : Int32) (M : zMem), F_X9_dryingOf_111 p0 p1 self49 b111_L1 b111_L2 b111_L4 b111_L5 b111_L6 b111_L7 M = some (r9, M9) → zJ p l e rm_X9_dryingOf s m args below meth c G shX ad n A 8 (MQ below (zQ G shX ad n M9 (some (.int r9)) A) args s 0 0 A) 0 0 M 111 [(0, .ref (ad 0)), (1, .int b111_L1), (2, .int b111_L2), (3, .ref (ad 4)), (4, .int b111_L4), (5, .int b111_L5), (6, .int b111_L6), (7, .int b111_L7)] [] := by
    intro self49 hs49 b111_L1 b111_L2 b111_L4 b111_L5 b111_L6 b111_L7 M hF
    unfold F_X9_dryingOf_111 at hF
    refine z_iinc cx 7 1 [(7, .int (b111_L7 + 1)), (0, .ref (ad 0)), (1, .int b111_L1), (2, .int b111_L2), (3, .ref (ad 4)), (4, .int b111_L4), (5, .int b111_L5), (6, .int b111_L6)] d_X9_dryingOf_111 7 rfl ki_1 (by decide) rfl ?_
    refine z_goto cx 49 d_X9_dryingOf_114 (by decide) ?_
    exact z_lv [1, 2, 3, 4, 5, 6, 7, 0] _ rfl (hs49 b111_L1 b111_L2 b111_L4 b111_L5 b111_L6 (b111_L7 + 1) M hF)
  have hL49 : ∀ (fuel : Nat), ∀ (b49_L1 : Int32) (b49_L2 : Int32) (b49_L4 : Int32) (b49_L5 : Int32) (b49_L6 : Int32) (b49_L7 : Int32) (M : zMem), itF (fun _ _ _ _ _ _ _ => none) (F_X9_dryingOf_49 p0 p1) fuel b49_L1 b49_L2 b49_L4 b49_L5 b49_L6 b49_L7 M = some (r9, M9) → zJ p l e rm_X9_dryingOf s m args below meth c G shX ad n A 8 (MQ below (zQ G shX ad n M9 (some (.int r9)) A) args s 0 0 A) 0 0 M 49 [(0, .ref (ad 0)), (1, .int b49_L1), (2, .int b49_L2), (3, .ref (ad 4)), (4, .int b49_L4), (5, .int b49_L5), (6, .int b49_L6), (7, .int b49_L7)] [] := by
    intro fuel
    induction fuel with
    | zero => intro b49_L1 b49_L2 b49_L4 b49_L5 b49_L6 b49_L7 M hF; cases hF
    | succ fuel hs49 =>
      intro b49_L1 b49_L2 b49_L4 b49_L5 b49_L6 b49_L7 M hF
      have hF : F_X9_dryingOf_49 p0 p1 (itF (fun _ _ _ _ _ _ _ => none) (F_X9_dryingOf_49 p0 p1) fuel) b49_L1 b49_L2 b49_L4 b49_L5 b49_L6 b49_L7 M = some (r9, M9) := hF
      generalize itF (fun _ _ _ _ _ _ _ => none) (F_X9_dryingOf_49 p0 p1) fuel = self49 at hs49 hF
      unfold F_X9_dryingOf_49 at hF
      refine z_iload cx d_X9_dryingOf_49 7 rfl ?_
      refine z_iload_n cx d_X9_dryingOf_51 2 rfl ?_
      refine z_icmp_gt cx 117 d_X9_dryingOf_52 (by decide) hF (fun hF => ?_) (fun hF => ?_)
      · refine z_iconst (v := -1) cx d_X9_dryingOf_117 ki_m1 ?_
        exact z_iret cx hr rfl hF d_X9_dryingOf_118
      refine z_aload_n cx d_X9_dryingOf_55 0 rfl ?_
      obtain ⟨hg1, hF⟩ := gd_inv hF
      refine z_getD cx hT fg_SunnyPans_62 d_X9_dryingOf_56 ?_
      refine z_getI cx (td_6 hT hg1) fg_SunnyPans_127 d_X9_dryingOf_59 ?_
      refine z_if_le cx 117 d_X9_dryingOf_62 (by decide) hF (fun hF => ?_) (fun hF => ?_)
      · refine z_iconst (v := -1) cx d_X9_dryingOf_117 ki_m1 ?_
        exact z_iret cx hr rfl hF d_X9_dryingOf_118
      refine z_iload cx d_X9_dryingOf_65 4 rfl ?_
      refine z_aload_n cx d_X9_dryingOf_67 0 rfl ?_
      refine z_aload_n cx d_X9_dryingOf_68 3 rfl ?_
      refine z_iload_n cx d_X9_dryingOf_69 1 rfl ?_
      refine z_iload cx d_X9_dryingOf_70 4 rfl ?_
      refine z_iload cx d_X9_dryingOf_72 5 rfl ?_
      refine z_iload cx d_X9_dryingOf_74 6 rfl ?_
      obtain ⟨v3, M2, hc, hF⟩ := zb_inv hF
      refine z_callV cx (As := [.ref (ad 4), .int b49_L1, .int b49_L4, .int b49_L5, .int b49_L6]) (rest := [.int b49_L4]) (c_X9_lossOf l cx.2.2.2.1.1 M 4 b49_L1 b49_L4 b49_L5 b49_L6 hT (tfX_8_1 (tfX_10_3 hT)) hc) hT zo_10 cv_SunnyPans_326 ⟨rfl, rfl, Nat.le_of_ble_eq_true rfl, Nat.le_of_ble_eq_true rfl⟩ rfl rfl ⟨Nat.zero_le _, Nat.zero_le _⟩ (Nat.le_of_ble_eq_true rfl) d_X9_dryingOf_76 ?_
      refine z_isub cx d_X9_dryingOf_79 ?_
      refine z_nm hF (fun v4 hF => ?_)
      refine z_istore cx 4 [(4, .int v4), (0, .ref (ad 0)), (1, .int b49_L1), (2, .int b49_L2), (3, .ref (ad 4)), (5, .int b49_L5), (6, .int b49_L6), (7, .int b49_L7)] d_X9_dryingOf_80 (by decide) rfl ?_
      refine z_iload cx d_X9_dryingOf_82 0 rfl ?_
      refine z_if_ne cx 90 d_X9_dryingOf_84 (by decide) hF (fun hF => ?_) (fun hF => ?_)
      · refine z_iinc cx 5 1 [(5, .int (b49_L5 + 1)), (4, .int v4), (0, .ref (ad 0)), (1, .int b49_L1), (2, .int b49_L2), (3, .ref (ad 4)), (6, .int b49_L6), (7, .int b49_L7)] d_X9_dryingOf_90 5 rfl ki_1 (by decide) rfl ?_
        refine z_iload cx d_X9_dryingOf_93 0 rfl ?_
        refine z_aload_n cx d_X9_dryingOf_95 2 rfl ?_
        obtain ⟨hg5, hF⟩ := gd_inv hF
        refine z_getD cx hT fg_SunnyPans_62 d_X9_dryingOf_96 ?_
        refine z_getI cx (td_6 hT hg5) fg_SunnyPans_127 d_X9_dryingOf_99 ?_
        refine z_icmp_lt cx 111 d_X9_dryingOf_102 (by decide) hF (fun hF => ?_) (fun hF => ?_)
        · exact z_lv [2, 3, 4, 5, 1, 0, 6, 7] _ rfl (hb111 self49 hs49 b49_L1 b49_L2 v4 (b49_L5 + 1) b49_L6 b49_L7 M2 hF)
        refine z_iconst (v := 0) cx d_X9_dryingOf_105 ki_0 ?_
        refine z_istore cx 5 [(5, .int (0 : Int32)), (4, .int v4), (0, .ref (ad 0)), (1, .int b49_L1), (2, .int b49_L2), (3, .ref (ad 4)), (6, .int b49_L6), (7, .int b49_L7)] d_X9_dryingOf_106 (by decide) rfl ?_
        refine z_iinc cx 6 1 [(6, .int (b49_L6 + 1)), (5, .int (0 : Int32)), (4, .int v4), (0, .ref (ad 0)), (1, .int b49_L1), (2, .int b49_L2), (3, .ref (ad 4)), (7, .int b49_L7)] d_X9_dryingOf_108 6 rfl ki_1 (by decide) rfl ?_
        exact z_lv [3, 4, 5, 6, 2, 1, 0, 7] _ rfl (hb111 self49 hs49 b49_L1 b49_L2 v4 (0 : Int32) (b49_L6 + 1) b49_L7 M2 hF)
      refine z_iload cx d_X9_dryingOf_87 7 rfl ?_
      exact z_iret cx hr rfl hF d_X9_dryingOf_89
  unfold F_X9_dryingOf at hF
  refine z_aload_n cx d_X9_dryingOf_0 0 rfl ?_
  refine z_getR cx hT fg_SunnyPans_19 3 rfl d_X9_dryingOf_1 ?_
  refine z_getR cx (tfX_10_3 hT) fg_SunnyPans_159 4 rfl d_X9_dryingOf_4 ?_
  refine z_astore_n cx 3 [(3, .ref (ad 4)), (0, .ref (ad 0)), (1, .int p0), (2, .int p1)] d_X9_dryingOf_7 rfl (by decide) rfl ?_
  refine z_aload_n cx d_X9_dryingOf_8 0 rfl ?_
  refine z_getR cx (tfX_8_1 (tfX_10_3 hT)) fg_SunnyPans_174 5 rfl d_X9_dryingOf_9 ?_
  refine z_iload_n cx d_X9_dryingOf_12 2 rfl ?_
  obtain ⟨hi6, hF⟩ := gin_inv hF
  refine z_iald cx (tfX_5_1 (tfX_8_1 (tfX_10_3 hT))) za_16 hi6 p0.toNatClampNeg rfl d_X9_dryingOf_13 ?_
  refine z_nm hF (fun v7 hF => ?_)
  refine z_istore cx 4 [(4, .int v7), (3, .ref (ad 4)), (0, .ref (ad 0)), (1, .int p0), (2, .int p1)] d_X9_dryingOf_14 (by decide) rfl ?_
  refine z_aload_n cx d_X9_dryingOf_16 1 rfl ?_
  refine z_getR cx (tfX_8_1 (tfX_10_3 hT)) fg_SunnyPans_184 7 rfl d_X9_dryingOf_17 ?_
  refine z_iload_n cx d_X9_dryingOf_20 3 rfl ?_
  refine z_iald cx (tfX_5_3 (tfX_8_1 (tfX_10_3 hT))) za_16 hi6 p0.toNatClampNeg rfl d_X9_dryingOf_21 ?_
  refine z_if_le cx 27 d_X9_dryingOf_22 (by decide) hF (fun hF => ?_) (fun hF => ?_)
  · refine z_iload cx d_X9_dryingOf_27 0 rfl ?_
    refine z_if_ne cx 34 d_X9_dryingOf_29 (by decide) hF (fun hF => ?_) (fun hF => ?_)
    · refine z_aload_n cx d_X9_dryingOf_34 1 rfl ?_
      refine z_getI cx (tfX_8_1 (tfX_10_3 hT)) fg_SunnyPans_171 d_X9_dryingOf_35 ?_
      refine z_nm hF (fun v8 hF => ?_)
      refine z_istore cx 5 [(5, .int v8), (4, .int v7), (3, .ref (ad 4)), (0, .ref (ad 0)), (1, .int p0), (2, .int p1)] d_X9_dryingOf_38 (by decide) rfl ?_
      refine z_aload_n cx d_X9_dryingOf_40 2 rfl ?_
      refine z_getI cx (tfX_8_1 (tfX_10_3 hT)) fg_SunnyPans_168 d_X9_dryingOf_41 ?_
      refine z_nm hF (fun v9 hF => ?_)
      refine z_istore cx 6 [(6, .int v9), (5, .int v8), (4, .int v7), (3, .ref (ad 4)), (0, .ref (ad 0)), (1, .int p0), (2, .int p1)] d_X9_dryingOf_44 (by decide) rfl ?_
      refine z_iconst (v := 1) cx d_X9_dryingOf_46 ki_1 ?_
      refine z_istore cx 7 [(7, .int (1 : Int32)), (6, .int v9), (5, .int v8), (4, .int v7), (3, .ref (ad 4)), (0, .ref (ad 0)), (1, .int p0), (2, .int p1)] d_X9_dryingOf_47 (by decide) rfl ?_
      exact z_lv [5, 6, 7, 4, 3, 2, 1, 0] _ rfl (hL49 zFuel p0 p1 v7 v8 v9 (1 : Int32) M hF)
    refine z_iconst (v := 0) cx d_X9_dryingOf_32 ki_0 ?_
    exact z_iret cx hr rfl hF d_X9_dryingOf_33
  refine z_iconst (v := -1) cx d_X9_dryingOf_25 ki_m1 ?_
  exact z_iret cx hr rfl hF d_X9_dryingOf_26
/-! SunnyPans.drying -/
set_option maxRecDepth 100000 in
theorem wd_1117 : Cond.code yX9_dryingOf cX9_dryingOf 8 (some .int) ∈ tbG := tw5 57 rfl rfl
set_option maxRecDepth 100000 in
theorem wd_1114 : Cond.methodLink "SunnyPans" 314 yX9_dryingOf ∈ tbG := tw5 54 rfl rfl
set_option maxRecDepth 100000 in
theorem wd_1116 : Cond.instanceMethod yX9_dryingOf ∈ tbG := tw5 56 rfl rfl
theorem wd_30 : Cond.selects "SunnyPans" yX9_dryingOf yX9_dryingOf ∈ tbG := tw 30 (by decide +kernel) rfl
theorem cv_SunnyPans_314 : zCV "SunnyPans" 314 "SunnyPans" yX9_dryingOf cX9_dryingOf 8 (some .int) 2 := zCV_of wd_1114 wd_1116 wd_30 wd_101 wd_1117 (by decide +kernel)
theorem d_X9_drying_0 : decode cX9_drying 0 = .ok (.aload_n 0, 1) := by decide +kernel
theorem d_X9_drying_1 : decode cX9_drying 1 = .ok (.iload_n 1, 1) := by decide +kernel
theorem d_X9_drying_2 : decode cX9_drying 2 = .ok (.iload_n 2, 1) := by decide +kernel
theorem d_X9_drying_3 : decode cX9_drying 3 = .ok (.invokevirtual 210, 3) := by decide +kernel
theorem d_X9_drying_6 : decode cX9_drying 6 = .ok (.aload_n 0, 1) := by decide +kernel
theorem d_X9_drying_7 : decode cX9_drying 7 = .ok (.iload_n 1, 1) := by decide +kernel
theorem d_X9_drying_8 : decode cX9_drying 8 = .ok (.iload_n 2, 1) := by decide +kernel
theorem d_X9_drying_9 : decode cX9_drying 9 = .ok (.invokestatic 213, 3) := by decide +kernel
theorem d_X9_drying_12 : decode cX9_drying 12 = .ok (.sipush 500, 3) := by decide +kernel
theorem d_X9_drying_15 : decode cX9_drying 15 = .ok (.invokevirtual 314, 3) := by decide +kernel
theorem d_X9_drying_18 : decode cX9_drying 18 = .ok (.ireturn, 1) := by decide +kernel
noncomputable def F_X9_drying (M : zMem) (p0 : Int32) (p1 : Int32) : Option (Nat × Int32 × zMem) :=
  zbx (F_X9_needPlace M p0 p1) (g := zxp) fun _ M1 =>
  zb (F_X9_placeOf M1 p0 p1) fun v7 M6 =>
  zb (F_X9_dryingOf M6 v7 (500 : Int32)) fun v9 M8 =>
  some (0, v9, M8)
def rm_X9_drying : Room := { frames := 11, cells := 1, slots := 6, locals := 185 }
set_option maxHeartbeats 4000000 in
set_option maxRecDepth 100000 in
theorem c_X9_drying (l : Launch) {G : zG} {ad : Nat → Nat} {n : Nat} (hA : zInj ad n) (M : zMem) (p0 : Int32) (p1 : Int32) (hl : l.stackTraces = false) (hT : zT shX n 0 10) {k9 : Nat} {r9 : Int32} {M9 : zMem} (hF : F_X9_drying M p0 p1 = some (k9, r9, M9)) : zMX l yX9_drying cX9_drying 3 (some .int) rm_X9_drying 1 6 G shX ad n M [.ref (ad 0), .int p0, .int p1] k9 (some (.int r9)) M9 := by
  refine zM_ofX hA (by decide +kernel) (lv := [(0, .ref (ad 0)), (1, .int p0), (2, .int p1)]) (Nat.le_of_ble_eq_true rfl) rfl (fun p e s m args below meth c A cx hr ht => ?_)
  unfold F_X9_drying at hF
  refine z_aload_n cx d_X9_drying_0 0 rfl ?_
  refine z_iload_n cx d_X9_drying_1 1 rfl ?_
  refine z_iload_n cx d_X9_drying_2 2 rfl ?_
  obtain ⟨k2, v3, M1, hc, hF, hX4⟩ := zbx_inv hF
  refine z_callVX cx ht (As := [.int p0, .int p1]) (rest := []) (c_X9_needPlace l cx.2.2.2.1.1 M p0 p1 hl hT hc) (fun q => zxp_inv (hX4 q)) hT zo_10 cv_SunnyPans_210 ⟨rfl, rfl, Nat.le_of_ble_eq_true rfl, Nat.le_of_ble_eq_true rfl⟩ rfl rfl ⟨Nat.le_of_ble_eq_true rfl, Nat.le_of_ble_eq_true rfl⟩ ⟨Nat.le_of_ble_eq_true rfl, Nat.le_of_ble_eq_true rfl⟩ (Nat.le_of_ble_eq_true rfl) d_X9_drying_3 (fun kq5 => ?_)
  have hF := hF kq5
  refine z_aload_n cx d_X9_drying_6 0 rfl ?_
  refine z_iload_n cx d_X9_drying_7 1 rfl ?_
  refine z_iload_n cx d_X9_drying_8 2 rfl ?_
  obtain ⟨v7, M6, hc, hF⟩ := zb_inv hF
  refine z_callS cx (As := [.int p0, .int p1]) (rest := [.ref (ad 0)]) (c_X9_placeOf l cx.2.2.2.1.1 M1 p0 p1  hc) cs_SunnyPans_213 ⟨rfl, rfl, Nat.le_of_ble_eq_true rfl, Nat.le_of_ble_eq_true rfl⟩ rfl rfl ⟨Nat.le_of_ble_eq_true rfl, Nat.le_of_ble_eq_true rfl⟩ (Nat.le_of_ble_eq_true rfl) d_X9_drying_9 ?_
  refine z_sipush (v := 500) cx d_X9_drying_12 ks_500 ?_
  obtain ⟨v9, M8, hc, hF⟩ := zb_inv hF
  refine z_callV cx (As := [.int v7, .int (500 : Int32)]) (rest := []) (c_X9_dryingOf l cx.2.2.2.1.1 M6 v7 (500 : Int32) hT hc) hT zo_10 cv_SunnyPans_314 ⟨rfl, rfl, Nat.le_of_ble_eq_true rfl, Nat.le_of_ble_eq_true rfl⟩ rfl rfl ⟨Nat.le_of_ble_eq_true rfl, Nat.le_of_ble_eq_true rfl⟩ (Nat.le_of_ble_eq_true rfl) d_X9_drying_15 ?_
  exact z_iretX cx hr rfl hF ⟨Nat.le_of_ble_eq_true rfl, Nat.le_of_ble_eq_true rfl⟩ d_X9_drying_18
/-! SunnyPans.first -/
theorem d_X9_first_0 : decode cX9_first 0 = .ok (.aload_n 0, 1) := by decide +kernel
theorem d_X9_first_1 : decode cX9_first 1 = .ok (.iload_n 1, 1) := by decide +kernel
theorem d_X9_first_2 : decode cX9_first 2 = .ok (.ifCond .eq 8, 3) := by decide +kernel
theorem d_X9_first_5 : decode cX9_first 5 = .ok (.iload_n 1, 1) := by decide +kernel
theorem d_X9_first_6 : decode cX9_first 6 = .ok (.iconst 1, 1) := by decide +kernel
theorem d_X9_first_7 : decode cX9_first 7 = .ok (.if_icmp .ne 7, 3) := by decide +kernel
theorem d_X9_first_10 : decode cX9_first 10 = .ok (.iconst 1, 1) := by decide +kernel
theorem d_X9_first_11 : decode cX9_first 11 = .ok (.goto 4, 3) := by decide +kernel
theorem d_X9_first_14 : decode cX9_first 14 = .ok (.iconst 0, 1) := by decide +kernel
theorem d_X9_first_15 : decode cX9_first 15 = .ok (.invokevirtual 155, 3) := by decide +kernel
theorem d_X9_first_18 : decode cX9_first 18 = .ok (.aload_n 0, 1) := by decide +kernel
theorem d_X9_first_19 : decode cX9_first 19 = .ok (.getfield 51, 3) := by decide +kernel
theorem d_X9_first_22 : decode cX9_first 22 = .ok (.invokevirtual 259, 3) := by decide +kernel
theorem d_X9_first_25 : decode cX9_first 25 = .ok (.sipush 500, 3) := by decide +kernel
theorem d_X9_first_28 : decode cX9_first 28 = .ok (.istore_n 2, 1) := by decide +kernel
theorem d_X9_first_29 : decode cX9_first 29 = .ok (.iconst 0, 1) := by decide +kernel
theorem d_X9_first_30 : decode cX9_first 30 = .ok (.istore_n 3, 1) := by decide +kernel
theorem d_X9_first_31 : decode cX9_first 31 = .ok (.iload_n 3, 1) := by decide +kernel
theorem d_X9_first_32 : decode cX9_first 32 = .ok (.bipush 64, 2) := by decide +kernel
theorem d_X9_first_34 : decode cX9_first 34 = .ok (.if_icmp .ge 57, 3) := by decide +kernel
theorem d_X9_first_37 : decode cX9_first 37 = .ok (.aload_n 0, 1) := by decide +kernel
theorem d_X9_first_38 : decode cX9_first 38 = .ok (.getfield 19, 3) := by decide +kernel
theorem d_X9_first_41 : decode cX9_first 41 = .ok (.getfield 159, 3) := by decide +kernel
theorem d_X9_first_44 : decode cX9_first 44 = .ok (.getfield 174, 3) := by decide +kernel
theorem d_X9_first_47 : decode cX9_first 47 = .ok (.iload_n 3, 1) := by decide +kernel
theorem d_X9_first_48 : decode cX9_first 48 = .ok (.iaload, 1) := by decide +kernel
theorem d_X9_first_49 : decode cX9_first 49 = .ok (.ifCond .le 12, 3) := by decide +kernel
theorem d_X9_first_52 : decode cX9_first 52 = .ok (.aload_n 0, 1) := by decide +kernel
theorem d_X9_first_53 : decode cX9_first 53 = .ok (.iload_n 3, 1) := by decide +kernel
theorem d_X9_first_54 : decode cX9_first 54 = .ok (.iload_n 2, 1) := by decide +kernel
theorem d_X9_first_55 : decode cX9_first 55 = .ok (.invokevirtual 314, 3) := by decide +kernel
theorem d_X9_first_58 : decode cX9_first 58 = .ok (.goto 4, 3) := by decide +kernel
theorem d_X9_first_61 : decode cX9_first 61 = .ok (.iconst (-1), 1) := by decide +kernel
theorem d_X9_first_62 : decode cX9_first 62 = .ok (.istore 4, 2) := by decide +kernel
theorem d_X9_first_64 : decode cX9_first 64 = .ok (.iload 4, 2) := by decide +kernel
theorem d_X9_first_66 : decode cX9_first 66 = .ok (.iconst (-1), 1) := by decide +kernel
theorem d_X9_first_67 : decode cX9_first 67 = .ok (.if_icmp .eq 18, 3) := by decide +kernel
theorem d_X9_first_70 : decode cX9_first 70 = .ok (.aload_n 0, 1) := by decide +kernel
theorem d_X9_first_71 : decode cX9_first 71 = .ok (.getfield 51, 3) := by decide +kernel
theorem d_X9_first_74 : decode cX9_first 74 = .ok (.iload_n 3, 1) := by decide +kernel
theorem d_X9_first_75 : decode cX9_first 75 = .ok (.iload 4, 2) := by decide +kernel
theorem d_X9_first_77 : decode cX9_first 77 = .ok (.invokevirtual 279, 3) := by decide +kernel
theorem d_X9_first_80 : decode cX9_first 80 = .ok (.iload 4, 2) := by decide +kernel
theorem d_X9_first_82 : decode cX9_first 82 = .ok (.iconst 1, 1) := by decide +kernel
theorem d_X9_first_83 : decode cX9_first 83 = .ok (.isub, 1) := by decide +kernel
theorem d_X9_first_84 : decode cX9_first 84 = .ok (.istore_n 2, 1) := by decide +kernel
theorem d_X9_first_85 : decode cX9_first 85 = .ok (.iinc 3 1, 3) := by decide +kernel
theorem d_X9_first_88 : decode cX9_first 88 = .ok (.goto (-57), 3) := by decide +kernel
theorem d_X9_first_91 : decode cX9_first 91 = .ok (.aload_n 0, 1) := by decide +kernel
theorem d_X9_first_92 : decode cX9_first 92 = .ok (.getfield 51, 3) := by decide +kernel
theorem d_X9_first_95 : decode cX9_first 95 = .ok (.iload_n 1, 1) := by decide +kernel
theorem d_X9_first_96 : decode cX9_first 96 = .ok (.invokevirtual 263, 3) := by decide +kernel
theorem d_X9_first_99 : decode cX9_first 99 = .ok (.ireturn, 1) := by decide +kernel
noncomputable def F_X9_first_85 (p0 : Int32) (self31 : Int32 → Int32 → Int32 → zMem → Option (Nat × Int32 × zMem)) (b85_L1 : Int32) (b85_L2 : Int32) (b85_L3 : Int32) (M : zMem) : Option (Nat × Int32 × zMem) :=
  self31 b85_L1 b85_L2 (b85_L3 + 1) M
noncomputable def F_X9_first_62 (p0 : Int32) (self31 : Int32 → Int32 → Int32 → zMem → Option (Nat × Int32 × zMem)) (b62_L1 : Int32) (b62_L2 : Int32) (b62_L3 : Int32) (b62_S0 : Int32) (M : zMem) : Option (Nat × Int32 × zMem) :=
  if b62_S0 = (-1 : Int32) then
    F_X9_first_85 p0 self31 b62_L1 b62_L2 b62_L3 M
  else
    zbv (F_X0_offerLeast M 172 b62_L3 b62_S0) fun M1 =>
    zl (b62_S0 - (1 : Int32)) fun v2 =>
    F_X9_first_85 p0 self31 b62_L1 v2 b62_L3 M1
noncomputable def F_X9_first_31 (p0 : Int32) (self31 : Int32 → Int32 → Int32 → zMem → Option (Nat × Int32 × zMem)) (b31_L1 : Int32) (b31_L2 : Int32) (b31_L3 : Int32) (M : zMem) : Option (Nat × Int32 × zMem) :=
  if (64 : Int32) ≤ b31_L3 then
    zb (F_X0_placeOrAmount M 172 b31_L1) fun v4 M3 =>
    some (0, v4, M3)
  else
    gin b31_L3 64 <|
    if (M.1 5 b31_L3.toNatClampNeg) ≤ 0 then
      F_X9_first_62 p0 self31 b31_L1 b31_L2 b31_L3 (-1 : Int32) M
    else
      zb (F_X9_dryingOf M b31_L3 b31_L2) fun v7 M6 =>
      F_X9_first_62 p0 self31 b31_L1 b31_L2 b31_L3 v7 M6
noncomputable def F_X9_first_15 (p0 : Int32) (b15_L1 : Int32) (b15_S1 : Int32) (M : zMem) : Option (Nat × Int32 × zMem) :=
  zbx (F_X9_need M b15_S1) (g := zxp) fun _ M8 =>
  zbv (F_X0_clear M8 172) fun M13 =>
  itF (fun _ _ _ _ => none) (F_X9_first_31 p0) zFuel b15_L1 (500 : Int32) (0 : Int32) M13
noncomputable def F_X9_first (M : zMem) (p0 : Int32) : Option (Nat × Int32 × zMem) :=
  if p0 = 0 then
    F_X9_first_15 p0 p0 (1 : Int32) M
  else
    if p0 = (1 : Int32) then
      F_X9_first_15 p0 p0 (1 : Int32) M
    else
      F_X9_first_15 p0 p0 (0 : Int32) M
def rm_X9_first : Room := { frames := 10, cells := 1, slots := 6, locals := 185 }
set_option maxHeartbeats 4000000 in
set_option maxRecDepth 100000 in
theorem c_X9_first (l : Launch) {G : zG} {ad : Nat → Nat} {n : Nat} (hA : zInj ad n) (M : zMem) (p0 : Int32) (hl : l.stackTraces = false) (hT : zT shX n 0 10) {k9 : Nat} {r9 : Int32} {M9 : zMem} (hF : F_X9_first M p0 = some (k9, r9, M9)) : zMX l yX9_first cX9_first 5 (some .int) rm_X9_first 1 6 G shX ad n M [.ref (ad 0), .int p0] k9 (some (.int r9)) M9 := by
  refine zM_ofX hA (by decide +kernel) (lv := [(0, .ref (ad 0)), (1, .int p0)]) (Nat.le_of_ble_eq_true rfl) rfl (fun p e s m args below meth c A cx hr ht => ?_)
  have hb85 : ∀ (self31 : Int32 → Int32 → Int32 → zMem → Option (Nat × Int32 × zMem)) (hs31 : ∀ (b31_L1 : Int32) (b31_L2 : Int32) (b31_L3 : Int32) (M : zMem), self31 b31_L1 b31_L2 b31_L3 M = some (k9, r9, M9) → zJ p l e rm_X9_first s m args below meth c G shX ad n A 5 (vx_MQ below (zQX G shX ad n M9 k9 (some (.int r9)) A) (zXC G shX ad n M9 k9 A) args s 1 6 A) 1 6 M 31 [(0, .ref (ad 0)), (1, .int b31_L1), (2, .int b31_L2), (3, .int b31_L3)] []), ∀ (b85_L1 : Int32) (b85_L2 : Int32) (b85_L3 : Int32) (M : zMem), F_X9_first_85 p0 self31 b85_L1 b85_L2 b85_L3 M = some (k9, r9, M9) → zJ p l e rm_X9_first s m args below meth c G shX ad n A 5 (vx_MQ below (zQX G shX ad n M9 k9 (some (.int r9)) A) (zXC G shX ad n M9 k9 A) args s 1 6 A) 1 6 M 85 [(0, .ref (ad 0)), (1, .int b85_L1), (2, .int b85_L2), (3, .int b85_L3)] [] := by
    intro self31 hs31 b85_L1 b85_L2 b85_L3 M hF
    unfold F_X9_first_85 at hF
    refine z_iinc cx 3 1 [(3, .int (b85_L3 + 1)), (0, .ref (ad 0)), (1, .int b85_L1), (2, .int b85_L2)] d_X9_first_85 3 rfl ki_1 (by decide) rfl ?_
    refine z_goto cx 31 d_X9_first_88 (by decide) ?_
    exact z_lv [1, 2, 3, 0] _ rfl (hs31 b85_L1 b85_L2 (b85_L3 + 1) M hF)
  have hb62 : ∀ (self31 : Int32 → Int32 → Int32 → zMem → Option (Nat × Int32 × zMem)) (hs31 : ∀ (b31_L1 : Int32) (b31_L2 : Int32) (b31_L3 : Int32) (M : zMem), self31 b31_L1 b31_L2 b31_L3 M = some (k9, r9, M9) → zJ p l e rm_X9_first s m args below meth c G shX ad n A 5 (vx_MQ below (zQX G shX ad n M9 k9 (some (.int r9)) A) (zXC G shX ad n M9 k9 A) args s 1 6 A) 1 6 M 31 [(0, .ref (ad 0)), (1, .int b31_L1), (2, .int b31_L2), (3, .int b31_L3)] []), ∀ (b62_L1 : Int32) (b62_L2 : Int32) (b62_L3 : Int32) (b62_S0 : Int32) (M : zMem), F_X9_first_62 p0 self31 b62_L1 b62_L2 b62_L3 b62_S0 M = some (k9, r9, M9) → zJ p l e rm_X9_first s m args below meth c G shX ad n A 5 (vx_MQ below (zQX G shX ad n M9 k9 (some (.int r9)) A) (zXC G shX ad n M9 k9 A) args s 1 6 A) 1 6 M 62 [(0, .ref (ad 0)), (1, .int b62_L1), (2, .int b62_L2), (3, .int b62_L3)] [.int b62_S0] := by
    intro self31 hs31 b62_L1 b62_L2 b62_L3 b62_S0 M hF
    unfold F_X9_first_62 at hF
    refine z_istore cx 4 [(4, .int b62_S0), (0, .ref (ad 0)), (1, .int b62_L1), (2, .int b62_L2), (3, .int b62_L3)] d_X9_first_62 (by decide) rfl ?_
    refine z_iload cx d_X9_first_64 0 rfl ?_
    refine z_iconst (v := -1) cx d_X9_first_66 ki_m1 ?_
    refine z_icmp_eq cx 85 d_X9_first_67 (by decide) hF (fun hF => ?_) (fun hF => ?_)
    · exact z_lv [1, 2, 3, 4] _ rfl (hb85 self31 hs31 b62_L1 b62_L2 b62_L3 M hF)
    refine z_aload_n cx d_X9_first_70 1 rfl ?_
    refine z_getR cx hT fg_SunnyPans_51 172 rfl d_X9_first_71 ?_
    refine z_iload_n cx d_X9_first_74 4 rfl ?_
    refine z_iload cx d_X9_first_75 0 rfl ?_
    obtain ⟨M1, hc, hF⟩ := zbv_inv hF
    refine z_callV cx (As := [.int b62_L3, .int b62_S0]) (rest := []) (c_X0_offerLeast l cx.2.2.2.1.1 M 172 b62_L3 b62_S0 (tfX_10_172 hT) hc) (tfX_10_172 hT) zo_1 cv_SunnyPans_279 ⟨rfl, rfl, Nat.le_of_ble_eq_true rfl, Nat.le_of_ble_eq_true rfl⟩ rfl rfl ⟨Nat.le_of_ble_eq_true rfl, Nat.le_of_ble_eq_true rfl⟩ (Nat.le_of_ble_eq_true rfl) d_X9_first_77 ?_
    refine z_iload cx d_X9_first_80 0 rfl ?_
    refine z_iconst (v := 1) cx d_X9_first_82 ki_1 ?_
    refine z_isub cx d_X9_first_83 ?_
    refine z_nm hF (fun v2 hF => ?_)
    refine z_istore_n cx 2 [(2, .int v2), (4, .int b62_S0), (0, .ref (ad 0)), (1, .int b62_L1), (3, .int b62_L3)] d_X9_first_84 rfl (by decide) rfl ?_
    exact z_lv [2, 3, 0, 4] _ rfl (hb85 self31 hs31 b62_L1 v2 b62_L3 M1 hF)
  have hL31 : ∀ (fuel : Nat), ∀ (b31_L1 : Int32) (b31_L2 : Int32) (b31_L3 : Int32) (M : zMem), itF (fun _ _ _ _ => none) (F_X9_first_31 p0) fuel b31_L1 b31_L2 b31_L3 M = some (k9, r9, M9) → zJ p l e rm_X9_first s m args below meth c G shX ad n A 5 (vx_MQ below (zQX G shX ad n M9 k9 (some (.int r9)) A) (zXC G shX ad n M9 k9 A) args s 1 6 A) 1 6 M 31 [(0, .ref (ad 0)), (1, .int b31_L1), (2, .int b31_L2), (3, .int b31_L3)] [] := by
    intro fuel
    induction fuel with
    | zero => intro b31_L1 b31_L2 b31_L3 M hF; cases hF
    | succ fuel hs31 =>
      intro b31_L1 b31_L2 b31_L3 M hF
      have hF : F_X9_first_31 p0 (itF (fun _ _ _ _ => none) (F_X9_first_31 p0) fuel) b31_L1 b31_L2 b31_L3 M = some (k9, r9, M9) := hF
      generalize itF (fun _ _ _ _ => none) (F_X9_first_31 p0) fuel = self31 at hs31 hF
      unfold F_X9_first_31 at hF
      refine z_iload_n cx d_X9_first_31 3 rfl ?_
      refine z_bipush (v := 64) cx d_X9_first_32 kb_64 ?_
      refine z_icmp_ge cx 91 d_X9_first_34 (by decide) hF (fun hF => ?_) (fun hF => ?_)
      · refine z_aload_n cx d_X9_first_91 0 rfl ?_
        refine z_getR cx hT fg_SunnyPans_51 172 rfl d_X9_first_92 ?_
        refine z_iload_n cx d_X9_first_95 1 rfl ?_
        obtain ⟨v4, M3, hc, hF⟩ := zb_inv hF
        refine z_callV cx (As := [.int b31_L1]) (rest := []) (c_X0_placeOrAmount l cx.2.2.2.1.1 M 172 b31_L1 (tfX_10_172 hT) hc) (tfX_10_172 hT) zo_1 cv_SunnyPans_263 ⟨rfl, rfl, Nat.le_of_ble_eq_true rfl, Nat.le_of_ble_eq_true rfl⟩ rfl rfl ⟨Nat.le_of_ble_eq_true rfl, Nat.le_of_ble_eq_true rfl⟩ (Nat.le_of_ble_eq_true rfl) d_X9_first_96 ?_
        exact z_iretX cx hr rfl hF ⟨Nat.le_of_ble_eq_true rfl, Nat.le_of_ble_eq_true rfl⟩ d_X9_first_99
      refine z_aload_n cx d_X9_first_37 0 rfl ?_
      refine z_getR cx hT fg_SunnyPans_19 3 rfl d_X9_first_38 ?_
      refine z_getR cx (tfX_10_3 hT) fg_SunnyPans_159 4 rfl d_X9_first_41 ?_
      refine z_getR cx (tfX_8_1 (tfX_10_3 hT)) fg_SunnyPans_174 5 rfl d_X9_first_44 ?_
      refine z_iload_n cx d_X9_first_47 3 rfl ?_
      obtain ⟨hi5, hF⟩ := gin_inv hF
      refine z_iald cx (tfX_5_1 (tfX_8_1 (tfX_10_3 hT))) za_16 hi5 b31_L3.toNatClampNeg rfl d_X9_first_48 ?_
      refine z_if_le cx 61 d_X9_first_49 (by decide) hF (fun hF => ?_) (fun hF => ?_)
      · refine z_iconst (v := -1) cx d_X9_first_61 ki_m1 ?_
        exact hb62 self31 hs31 b31_L1 b31_L2 b31_L3 (-1 : Int32) M hF
      refine z_aload_n cx d_X9_first_52 0 rfl ?_
      refine z_iload_n cx d_X9_first_53 3 rfl ?_
      refine z_iload_n cx d_X9_first_54 2 rfl ?_
      obtain ⟨v7, M6, hc, hF⟩ := zb_inv hF
      refine z_callV cx (As := [.int b31_L3, .int b31_L2]) (rest := []) (c_X9_dryingOf l cx.2.2.2.1.1 M b31_L3 b31_L2 hT hc) hT zo_10 cv_SunnyPans_314 ⟨rfl, rfl, Nat.le_of_ble_eq_true rfl, Nat.le_of_ble_eq_true rfl⟩ rfl rfl ⟨Nat.le_of_ble_eq_true rfl, Nat.le_of_ble_eq_true rfl⟩ (Nat.le_of_ble_eq_true rfl) d_X9_first_55 ?_
      refine z_goto cx 62 d_X9_first_58 (by decide) ?_
      exact hb62 self31 hs31 b31_L1 b31_L2 b31_L3 v7 M6 hF
  have hb15 : ∀ (b15_L1 : Int32) (b15_S1 : Int32) (M : zMem), F_X9_first_15 p0 b15_L1 b15_S1 M = some (k9, r9, M9) → zJ p l e rm_X9_first s m args below meth c G shX ad n A 5 (vx_MQ below (zQX G shX ad n M9 k9 (some (.int r9)) A) (zXC G shX ad n M9 k9 A) args s 1 6 A) 0 0 M 15 [(0, .ref (ad 0)), (1, .int b15_L1)] [.int b15_S1, .ref (ad 0)] := by
    intro b15_L1 b15_S1 M hF
    unfold F_X9_first_15 at hF
    obtain ⟨k9, v10, M8, hc, hF, hX11⟩ := zbx_inv hF
    refine z_callVX cx ht (As := [.int b15_S1]) (rest := []) (c_X9_need l cx.2.2.2.1.1 M b15_S1 hl hT hc) (fun q => zxp_inv (hX11 q)) hT zo_10 cv_SunnyPans_155 ⟨rfl, rfl, Nat.le_of_ble_eq_true rfl, Nat.le_of_ble_eq_true rfl⟩ rfl rfl ⟨Nat.le_of_ble_eq_true rfl, Nat.le_of_ble_eq_true rfl⟩ ⟨Nat.le_of_ble_eq_true rfl, Nat.le_of_ble_eq_true rfl⟩ (Nat.le_of_ble_eq_true rfl) d_X9_first_15 (fun kq12 => ?_)
    have hF := hF kq12
    refine z_aload_n cx d_X9_first_18 0 rfl ?_
    refine z_getR cx hT fg_SunnyPans_51 172 rfl d_X9_first_19 ?_
    obtain ⟨M13, hc, hF⟩ := zbv_inv hF
    refine z_callV cx (As := []) (rest := []) (c_X0_clear l cx.2.2.2.1.1 M8 172 (tfX_10_172 hT) hc) (tfX_10_172 hT) zo_1 cv_SunnyPans_259 ⟨rfl, rfl, Nat.le_of_ble_eq_true rfl, Nat.le_of_ble_eq_true rfl⟩ rfl rfl ⟨Nat.le_of_ble_eq_true rfl, Nat.le_of_ble_eq_true rfl⟩ (Nat.le_of_ble_eq_true rfl) d_X9_first_22 ?_
    refine z_sipush (v := 500) cx d_X9_first_25 ks_500 ?_
    refine z_istore_n cx 2 [(2, .int (500 : Int32)), (0, .ref (ad 0)), (1, .int b15_L1)] d_X9_first_28 rfl (by decide) rfl ?_
    refine z_iconst (v := 0) cx d_X9_first_29 ki_0 ?_
    refine z_istore_n cx 3 [(3, .int (0 : Int32)), (2, .int (500 : Int32)), (0, .ref (ad 0)), (1, .int b15_L1)] d_X9_first_30 rfl (by decide) rfl ?_
    exact z_lv [2, 3, 1, 0] _ rfl (hL31 zFuel b15_L1 (500 : Int32) (0 : Int32) M13 hF)
  unfold F_X9_first at hF
  refine z_aload_n cx d_X9_first_0 0 rfl ?_
  refine z_iload_n cx d_X9_first_1 1 rfl ?_
  refine z_if_eq cx 10 d_X9_first_2 (by decide) hF (fun hF => ?_) (fun hF => ?_)
  · refine z_iconst (v := 1) cx d_X9_first_10 ki_1 ?_
    refine z_goto cx 15 d_X9_first_11 (by decide) ?_
    exact hb15 p0 (1 : Int32) M hF
  refine z_iload_n cx d_X9_first_5 1 rfl ?_
  refine z_iconst (v := 1) cx d_X9_first_6 ki_1 ?_
  refine z_icmp_ne cx 14 d_X9_first_7 (by decide) hF (fun hF => ?_) (fun hF => ?_)
  · refine z_iconst (v := 0) cx d_X9_first_14 ki_0 ?_
    exact hb15 p0 (0 : Int32) M hF
  refine z_iconst (v := 1) cx d_X9_first_10 ki_1 ?_
  refine z_goto cx 15 d_X9_first_11 (by decide) ?_
  exact hb15 p0 (1 : Int32) M hF
/-! SunnyPans.lossBy -/
theorem d_X9_lossBy_0 : decode cX9_lossBy 0 = .ok (.aload_n 0, 1) := by decide +kernel
theorem d_X9_lossBy_1 : decode cX9_lossBy 1 = .ok (.getfield 19, 3) := by decide +kernel
theorem d_X9_lossBy_4 : decode cX9_lossBy 4 = .ok (.getfield 159, 3) := by decide +kernel
theorem d_X9_lossBy_7 : decode cX9_lossBy 7 = .ok (.astore_n 2, 1) := by decide +kernel
theorem d_X9_lossBy_8 : decode cX9_lossBy 8 = .ok (.iconst 0, 1) := by decide +kernel
theorem d_X9_lossBy_9 : decode cX9_lossBy 9 = .ok (.istore_n 3, 1) := by decide +kernel
theorem d_X9_lossBy_10 : decode cX9_lossBy 10 = .ok (.iconst 0, 1) := by decide +kernel
theorem d_X9_lossBy_11 : decode cX9_lossBy 11 = .ok (.istore 4, 2) := by decide +kernel
theorem d_X9_lossBy_13 : decode cX9_lossBy 13 = .ok (.iload 4, 2) := by decide +kernel
theorem d_X9_lossBy_15 : decode cX9_lossBy 15 = .ok (.bipush 64, 2) := by decide +kernel
theorem d_X9_lossBy_17 : decode cX9_lossBy 17 = .ok (.if_icmp .ge 31, 3) := by decide +kernel
theorem d_X9_lossBy_20 : decode cX9_lossBy 20 = .ok (.iload_n 3, 1) := by decide +kernel
theorem d_X9_lossBy_21 : decode cX9_lossBy 21 = .ok (.aload_n 0, 1) := by decide +kernel
theorem d_X9_lossBy_22 : decode cX9_lossBy 22 = .ok (.aload_n 2, 1) := by decide +kernel
theorem d_X9_lossBy_23 : decode cX9_lossBy 23 = .ok (.iload 4, 2) := by decide +kernel
theorem d_X9_lossBy_25 : decode cX9_lossBy 25 = .ok (.aload_n 2, 1) := by decide +kernel
theorem d_X9_lossBy_26 : decode cX9_lossBy 26 = .ok (.getfield 174, 3) := by decide +kernel
theorem d_X9_lossBy_29 : decode cX9_lossBy 29 = .ok (.iload 4, 2) := by decide +kernel
theorem d_X9_lossBy_31 : decode cX9_lossBy 31 = .ok (.iaload, 1) := by decide +kernel
theorem d_X9_lossBy_32 : decode cX9_lossBy 32 = .ok (.iload_n 1, 1) := by decide +kernel
theorem d_X9_lossBy_33 : decode cX9_lossBy 33 = .ok (.aload_n 2, 1) := by decide +kernel
theorem d_X9_lossBy_34 : decode cX9_lossBy 34 = .ok (.getfield 168, 3) := by decide +kernel
theorem d_X9_lossBy_37 : decode cX9_lossBy 37 = .ok (.invokevirtual 326, 3) := by decide +kernel
theorem d_X9_lossBy_40 : decode cX9_lossBy 40 = .ok (.iadd, 1) := by decide +kernel
theorem d_X9_lossBy_41 : decode cX9_lossBy 41 = .ok (.istore_n 3, 1) := by decide +kernel
theorem d_X9_lossBy_42 : decode cX9_lossBy 42 = .ok (.iinc 4 1, 3) := by decide +kernel
theorem d_X9_lossBy_45 : decode cX9_lossBy 45 = .ok (.goto (-32), 3) := by decide +kernel
theorem d_X9_lossBy_48 : decode cX9_lossBy 48 = .ok (.iload_n 3, 1) := by decide +kernel
theorem d_X9_lossBy_49 : decode cX9_lossBy 49 = .ok (.ireturn, 1) := by decide +kernel
noncomputable def F_X9_lossBy_13 (p0 : Int32) (self13 : Int32 → Int32 → Int32 → zMem → Option (Int32 × zMem)) (b13_L1 : Int32) (b13_L3 : Int32) (b13_L4 : Int32) (M : zMem) : Option (Int32 × zMem) :=
  if (64 : Int32) ≤ b13_L4 then
    some (b13_L3, M)
  else
    gin b13_L4 64 <|
    zb (F_X9_lossOf M 4 b13_L4 (M.1 5 b13_L4.toNatClampNeg) b13_L1 (M.1 4 4)) fun v3 M2 =>
    zl (b13_L3 + v3) fun v4 =>
    self13 b13_L1 v4 (b13_L4 + 1) M2
noncomputable def F_X9_lossBy (M : zMem) (p0 : Int32) : Option (Int32 × zMem) :=
  itF (fun _ _ _ _ => none) (F_X9_lossBy_13 p0) zFuel p0 (0 : Int32) (0 : Int32) M
def rm_X9_lossBy : Room := { frames := 6, cells := 0, slots := 0, locals := 158 }
set_option maxHeartbeats 4000000 in
set_option maxRecDepth 100000 in
theorem c_X9_lossBy (l : Launch) {G : zG} {ad : Nat → Nat} {n : Nat} (hA : zInj ad n) (M : zMem) (p0 : Int32) (hT : zT shX n 0 10) {r9 : Int32} {M9 : zMem} (hF : F_X9_lossBy M p0 = some (r9, M9)) : zM l yX9_lossBy cX9_lossBy 5 (some .int) rm_X9_lossBy G shX ad n M [.ref (ad 0), .int p0] (some (.int r9)) M9 := by
  refine zM_of hA (by decide +kernel) (lv := [(0, .ref (ad 0)), (1, .int p0)]) (Nat.le_of_ble_eq_true rfl) rfl (fun p e s m args below meth c A cx hr => ?_)
  have hL13 : ∀ (fuel : Nat), ∀ (b13_L1 : Int32) (b13_L3 : Int32) (b13_L4 : Int32) (M : zMem), itF (fun _ _ _ _ => none) (F_X9_lossBy_13 p0) fuel b13_L1 b13_L3 b13_L4 M = some (r9, M9) → zJ p l e rm_X9_lossBy s m args below meth c G shX ad n A 5 (MQ below (zQ G shX ad n M9 (some (.int r9)) A) args s 0 0 A) 0 0 M 13 [(0, .ref (ad 0)), (1, .int b13_L1), (2, .ref (ad 4)), (3, .int b13_L3), (4, .int b13_L4)] [] := by
    intro fuel
    induction fuel with
    | zero => intro b13_L1 b13_L3 b13_L4 M hF; cases hF
    | succ fuel hs13 =>
      intro b13_L1 b13_L3 b13_L4 M hF
      have hF : F_X9_lossBy_13 p0 (itF (fun _ _ _ _ => none) (F_X9_lossBy_13 p0) fuel) b13_L1 b13_L3 b13_L4 M = some (r9, M9) := hF
      generalize itF (fun _ _ _ _ => none) (F_X9_lossBy_13 p0) fuel = self13 at hs13 hF
      unfold F_X9_lossBy_13 at hF
      refine z_iload cx d_X9_lossBy_13 4 rfl ?_
      refine z_bipush (v := 64) cx d_X9_lossBy_15 kb_64 ?_
      refine z_icmp_ge cx 48 d_X9_lossBy_17 (by decide) hF (fun hF => ?_) (fun hF => ?_)
      · refine z_iload_n cx d_X9_lossBy_48 3 rfl ?_
        exact z_iret cx hr rfl hF d_X9_lossBy_49
      refine z_iload_n cx d_X9_lossBy_20 3 rfl ?_
      refine z_aload_n cx d_X9_lossBy_21 0 rfl ?_
      refine z_aload_n cx d_X9_lossBy_22 2 rfl ?_
      refine z_iload cx d_X9_lossBy_23 4 rfl ?_
      refine z_aload_n cx d_X9_lossBy_25 2 rfl ?_
      refine z_getR cx (tfX_8_1 (tfX_10_3 hT)) fg_SunnyPans_174 5 rfl d_X9_lossBy_26 ?_
      refine z_iload cx d_X9_lossBy_29 4 rfl ?_
      obtain ⟨hi1, hF⟩ := gin_inv hF
      refine z_iald cx (tfX_5_1 (tfX_8_1 (tfX_10_3 hT))) za_16 hi1 b13_L4.toNatClampNeg rfl d_X9_lossBy_31 ?_
      refine z_iload_n cx d_X9_lossBy_32 1 rfl ?_
      refine z_aload_n cx d_X9_lossBy_33 2 rfl ?_
      refine z_getI cx (tfX_8_1 (tfX_10_3 hT)) fg_SunnyPans_168 d_X9_lossBy_34 ?_
      obtain ⟨v3, M2, hc, hF⟩ := zb_inv hF
      refine z_callV cx (As := [.ref (ad 4), .int b13_L4, .int (M.1 5 b13_L4.toNatClampNeg), .int b13_L1, .int (M.1 4 4)]) (rest := [.int b13_L3]) (c_X9_lossOf l cx.2.2.2.1.1 M 4 b13_L4 (M.1 5 b13_L4.toNatClampNeg) b13_L1 (M.1 4 4) hT (tfX_8_1 (tfX_10_3 hT)) hc) hT zo_10 cv_SunnyPans_326 ⟨rfl, rfl, Nat.le_of_ble_eq_true rfl, Nat.le_of_ble_eq_true rfl⟩ rfl rfl ⟨Nat.zero_le _, Nat.zero_le _⟩ (Nat.le_of_ble_eq_true rfl) d_X9_lossBy_37 ?_
      refine z_iadd cx d_X9_lossBy_40 ?_
      refine z_nm hF (fun v4 hF => ?_)
      refine z_istore_n cx 3 [(3, .int v4), (0, .ref (ad 0)), (1, .int b13_L1), (2, .ref (ad 4)), (4, .int b13_L4)] d_X9_lossBy_41 rfl (by decide) rfl ?_
      refine z_iinc cx 4 1 [(4, .int (b13_L4 + 1)), (3, .int v4), (0, .ref (ad 0)), (1, .int b13_L1), (2, .ref (ad 4))] d_X9_lossBy_42 4 rfl ki_1 (by decide) rfl ?_
      refine z_goto cx 13 d_X9_lossBy_45 (by decide) ?_
      exact z_lv [2, 3, 4, 1, 0] _ rfl (hs13 b13_L1 v4 (b13_L4 + 1) M2 hF)
  unfold F_X9_lossBy at hF
  refine z_aload_n cx d_X9_lossBy_0 0 rfl ?_
  refine z_getR cx hT fg_SunnyPans_19 3 rfl d_X9_lossBy_1 ?_
  refine z_getR cx (tfX_10_3 hT) fg_SunnyPans_159 4 rfl d_X9_lossBy_4 ?_
  refine z_astore_n cx 2 [(2, .ref (ad 4)), (0, .ref (ad 0)), (1, .int p0)] d_X9_lossBy_7 rfl (by decide) rfl ?_
  refine z_iconst (v := 0) cx d_X9_lossBy_8 ki_0 ?_
  refine z_istore_n cx 3 [(3, .int (0 : Int32)), (2, .ref (ad 4)), (0, .ref (ad 0)), (1, .int p0)] d_X9_lossBy_9 rfl (by decide) rfl ?_
  refine z_iconst (v := 0) cx d_X9_lossBy_10 ki_0 ?_
  refine z_istore cx 4 [(4, .int (0 : Int32)), (3, .int (0 : Int32)), (2, .ref (ad 4)), (0, .ref (ad 0)), (1, .int p0)] d_X9_lossBy_11 (by decide) rfl ?_
  exact z_lv [3, 4, 2, 1, 0] _ rfl (hL13 zFuel p0 (0 : Int32) (0 : Int32) M hF)
/-! SunnyPans.loss -/
set_option maxRecDepth 100000 in
theorem wd_1327 : Cond.code yX9_lossBy cX9_lossBy 5 (some .int) ∈ tbG := tw6 27 rfl rfl
set_option maxRecDepth 100000 in
theorem wd_1324 : Cond.methodLink "SunnyPans" 317 yX9_lossBy ∈ tbG := tw6 24 rfl rfl
set_option maxRecDepth 100000 in
theorem wd_1326 : Cond.instanceMethod yX9_lossBy ∈ tbG := tw6 26 rfl rfl
theorem wd_38 : Cond.selects "SunnyPans" yX9_lossBy yX9_lossBy ∈ tbG := tw 38 (by decide +kernel) rfl
theorem cv_SunnyPans_317 : zCV "SunnyPans" 317 "SunnyPans" yX9_lossBy cX9_lossBy 5 (some .int) 1 := zCV_of wd_1324 wd_1326 wd_38 wd_101 wd_1327 (by decide +kernel)
theorem d_X9_loss_0 : decode cX9_loss 0 = .ok (.aload_n 0, 1) := by decide +kernel
theorem d_X9_loss_1 : decode cX9_loss 1 = .ok (.iload_n 1, 1) := by decide +kernel
theorem d_X9_loss_2 : decode cX9_loss 2 = .ok (.invokevirtual 235, 3) := by decide +kernel
theorem d_X9_loss_5 : decode cX9_loss 5 = .ok (.aload_n 0, 1) := by decide +kernel
theorem d_X9_loss_6 : decode cX9_loss 6 = .ok (.iload_n 1, 1) := by decide +kernel
theorem d_X9_loss_7 : decode cX9_loss 7 = .ok (.invokevirtual 317, 3) := by decide +kernel
theorem d_X9_loss_10 : decode cX9_loss 10 = .ok (.ireturn, 1) := by decide +kernel
noncomputable def F_X9_loss (M : zMem) (p0 : Int32) : Option (Nat × Int32 × zMem) :=
  zbx (F_X9_needHour M p0) (g := zxp) fun _ M1 =>
  zb (F_X9_lossBy M1 p0) fun v7 M6 =>
  some (0, v7, M6)
def rm_X9_loss : Room := { frames := 11, cells := 1, slots := 6, locals := 182 }
set_option maxHeartbeats 4000000 in
set_option maxRecDepth 100000 in
theorem c_X9_loss (l : Launch) {G : zG} {ad : Nat → Nat} {n : Nat} (hA : zInj ad n) (M : zMem) (p0 : Int32) (hl : l.stackTraces = false) (hT : zT shX n 0 10) {k9 : Nat} {r9 : Int32} {M9 : zMem} (hF : F_X9_loss M p0 = some (k9, r9, M9)) : zMX l yX9_loss cX9_loss 2 (some .int) rm_X9_loss 1 6 G shX ad n M [.ref (ad 0), .int p0] k9 (some (.int r9)) M9 := by
  refine zM_ofX hA (by decide +kernel) (lv := [(0, .ref (ad 0)), (1, .int p0)]) (Nat.le_of_ble_eq_true rfl) rfl (fun p e s m args below meth c A cx hr ht => ?_)
  unfold F_X9_loss at hF
  refine z_aload_n cx d_X9_loss_0 0 rfl ?_
  refine z_iload_n cx d_X9_loss_1 1 rfl ?_
  obtain ⟨k2, v3, M1, hc, hF, hX4⟩ := zbx_inv hF
  refine z_callVX cx ht (As := [.int p0]) (rest := []) (c_X9_needHour l cx.2.2.2.1.1 M p0 hl hT hc) (fun q => zxp_inv (hX4 q)) hT zo_10 cv_SunnyPans_235 ⟨rfl, rfl, Nat.le_of_ble_eq_true rfl, Nat.le_of_ble_eq_true rfl⟩ rfl rfl ⟨Nat.le_of_ble_eq_true rfl, Nat.le_of_ble_eq_true rfl⟩ ⟨Nat.le_of_ble_eq_true rfl, Nat.le_of_ble_eq_true rfl⟩ (Nat.le_of_ble_eq_true rfl) d_X9_loss_2 (fun kq5 => ?_)
  have hF := hF kq5
  refine z_aload_n cx d_X9_loss_5 0 rfl ?_
  refine z_iload_n cx d_X9_loss_6 1 rfl ?_
  obtain ⟨v7, M6, hc, hF⟩ := zb_inv hF
  refine z_callV cx (As := [.int p0]) (rest := []) (c_X9_lossBy l cx.2.2.2.1.1 M1 p0 hT hc) hT zo_10 cv_SunnyPans_317 ⟨rfl, rfl, Nat.le_of_ble_eq_true rfl, Nat.le_of_ble_eq_true rfl⟩ rfl rfl ⟨Nat.le_of_ble_eq_true rfl, Nat.le_of_ble_eq_true rfl⟩ (Nat.le_of_ble_eq_true rfl) d_X9_loss_7 ?_
  exact z_iretX cx hr rfl hF ⟨Nat.le_of_ble_eq_true rfl, Nat.le_of_ble_eq_true rfl⟩ d_X9_loss_10
/-! SunnyPans.noon -/
set_option maxRecDepth 100000 in
theorem wd_294 : Cond.fieldLink "SunnyPans" 323 "SunnyPans$Best" "amount" "I" ∈ tbG := tw1 194 rfl rfl
theorem fg_SunnyPans_323 : zGetI "SunnyPans" 323 0 1 1 := ⟨RX0, TX0, 2, rfl, by decide, uw_0, wd_294, fun _ _ _ _ _ _ => ⟨_, rfl, rfl⟩⟩
set_option maxRecDepth 100000 in
theorem wd_292 : Cond.fieldLink "SunnyPans" 320 "SunnyPans$Best" "found" "I" ∈ tbG := tw1 192 rfl rfl
theorem fg_SunnyPans_320 : zGetI "SunnyPans" 320 0 1 0 := ⟨RX0, TX0, 2, rfl, by decide, uw_0, wd_292, fun _ _ _ _ _ _ => ⟨_, rfl, rfl⟩⟩
theorem d_X9_noon_0 : decode cX9_noon 0 = .ok (.aload_n 0, 1) := by decide +kernel
theorem d_X9_noon_1 : decode cX9_noon 1 = .ok (.iload_n 1, 1) := by decide +kernel
theorem d_X9_noon_2 : decode cX9_noon 2 = .ok (.ifCond .eq 8, 3) := by decide +kernel
theorem d_X9_noon_5 : decode cX9_noon 5 = .ok (.iload_n 1, 1) := by decide +kernel
theorem d_X9_noon_6 : decode cX9_noon 6 = .ok (.iconst 1, 1) := by decide +kernel
theorem d_X9_noon_7 : decode cX9_noon 7 = .ok (.if_icmp .ne 7, 3) := by decide +kernel
theorem d_X9_noon_10 : decode cX9_noon 10 = .ok (.iconst 1, 1) := by decide +kernel
theorem d_X9_noon_11 : decode cX9_noon 11 = .ok (.goto 4, 3) := by decide +kernel
theorem d_X9_noon_14 : decode cX9_noon 14 = .ok (.iconst 0, 1) := by decide +kernel
theorem d_X9_noon_15 : decode cX9_noon 15 = .ok (.invokevirtual 155, 3) := by decide +kernel
theorem d_X9_noon_18 : decode cX9_noon 18 = .ok (.aload_n 0, 1) := by decide +kernel
theorem d_X9_noon_19 : decode cX9_noon 19 = .ok (.getfield 51, 3) := by decide +kernel
theorem d_X9_noon_22 : decode cX9_noon 22 = .ok (.invokevirtual 259, 3) := by decide +kernel
theorem d_X9_noon_25 : decode cX9_noon 25 = .ok (.iconst 0, 1) := by decide +kernel
theorem d_X9_noon_26 : decode cX9_noon 26 = .ok (.istore_n 2, 1) := by decide +kernel
theorem d_X9_noon_27 : decode cX9_noon 27 = .ok (.iload_n 2, 1) := by decide +kernel
theorem d_X9_noon_28 : decode cX9_noon 28 = .ok (.aload_n 0, 1) := by decide +kernel
theorem d_X9_noon_29 : decode cX9_noon 29 = .ok (.getfield 62, 3) := by decide +kernel
theorem d_X9_noon_32 : decode cX9_noon 32 = .ok (.getfield 127, 3) := by decide +kernel
theorem d_X9_noon_35 : decode cX9_noon 35 = .ok (.if_icmp .ge 22, 3) := by decide +kernel
theorem d_X9_noon_38 : decode cX9_noon 38 = .ok (.aload_n 0, 1) := by decide +kernel
theorem d_X9_noon_39 : decode cX9_noon 39 = .ok (.getfield 51, 3) := by decide +kernel
theorem d_X9_noon_42 : decode cX9_noon 42 = .ok (.iload_n 2, 1) := by decide +kernel
theorem d_X9_noon_43 : decode cX9_noon 43 = .ok (.aload_n 0, 1) := by decide +kernel
theorem d_X9_noon_44 : decode cX9_noon 44 = .ok (.iload_n 2, 1) := by decide +kernel
theorem d_X9_noon_45 : decode cX9_noon 45 = .ok (.invokevirtual 317, 3) := by decide +kernel
theorem d_X9_noon_48 : decode cX9_noon 48 = .ok (.invokevirtual 260, 3) := by decide +kernel
theorem d_X9_noon_51 : decode cX9_noon 51 = .ok (.iinc 2 1, 3) := by decide +kernel
theorem d_X9_noon_54 : decode cX9_noon 54 = .ok (.goto (-27), 3) := by decide +kernel
theorem d_X9_noon_57 : decode cX9_noon 57 = .ok (.iload_n 1, 1) := by decide +kernel
theorem d_X9_noon_58 : decode cX9_noon 58 = .ok (.ifCond .ne 13, 3) := by decide +kernel
theorem d_X9_noon_61 : decode cX9_noon 61 = .ok (.aload_n 0, 1) := by decide +kernel
theorem d_X9_noon_62 : decode cX9_noon 62 = .ok (.getfield 51, 3) := by decide +kernel
theorem d_X9_noon_65 : decode cX9_noon 65 = .ok (.getfield 320, 3) := by decide +kernel
theorem d_X9_noon_68 : decode cX9_noon 68 = .ok (.goto 10, 3) := by decide +kernel
theorem d_X9_noon_71 : decode cX9_noon 71 = .ok (.aload_n 0, 1) := by decide +kernel
theorem d_X9_noon_72 : decode cX9_noon 72 = .ok (.getfield 51, 3) := by decide +kernel
theorem d_X9_noon_75 : decode cX9_noon 75 = .ok (.getfield 323, 3) := by decide +kernel
theorem d_X9_noon_78 : decode cX9_noon 78 = .ok (.ireturn, 1) := by decide +kernel
noncomputable def F_X9_noon_27 (p0 : Int32) (self27 : Int32 → Int32 → zMem → Option (Nat × Int32 × zMem)) (b27_L1 : Int32) (b27_L2 : Int32) (M : zMem) : Option (Nat × Int32 × zMem) :=
  gd (shX (M.2.2 0 8) == 6) <|
  if (M.1 (M.2.2 0 8) 2) ≤ b27_L2 then
    if b27_L1 = 0 then
      some (0, (M.1 172 0), M)
    else
      some (0, (M.1 172 1), M)
  else
    zb (F_X9_lossBy M b27_L2) fun v3 M2 =>
    zbv (F_X0_offerMost M2 172 b27_L2 v3) fun M4 =>
    self27 b27_L1 (b27_L2 + 1) M4
noncomputable def F_X9_noon_15 (p0 : Int32) (b15_L1 : Int32) (b15_S1 : Int32) (M : zMem) : Option (Nat × Int32 × zMem) :=
  zbx (F_X9_need M b15_S1) (g := zxp) fun _ M5 =>
  zbv (F_X0_clear M5 172) fun M10 =>
  itF (fun _ _ _ => none) (F_X9_noon_27 p0) zFuel b15_L1 (0 : Int32) M10
noncomputable def F_X9_noon (M : zMem) (p0 : Int32) : Option (Nat × Int32 × zMem) :=
  if p0 = 0 then
    F_X9_noon_15 p0 p0 (1 : Int32) M
  else
    if p0 = (1 : Int32) then
      F_X9_noon_15 p0 p0 (1 : Int32) M
    else
      F_X9_noon_15 p0 p0 (0 : Int32) M
def rm_X9_noon : Room := { frames := 10, cells := 1, slots := 6, locals := 182 }
set_option maxHeartbeats 4000000 in
set_option maxRecDepth 100000 in
theorem c_X9_noon (l : Launch) {G : zG} {ad : Nat → Nat} {n : Nat} (hA : zInj ad n) (M : zMem) (p0 : Int32) (hl : l.stackTraces = false) (hT : zT shX n 0 10) {k9 : Nat} {r9 : Int32} {M9 : zMem} (hF : F_X9_noon M p0 = some (k9, r9, M9)) : zMX l yX9_noon cX9_noon 3 (some .int) rm_X9_noon 1 6 G shX ad n M [.ref (ad 0), .int p0] k9 (some (.int r9)) M9 := by
  refine zM_ofX hA (by decide +kernel) (lv := [(0, .ref (ad 0)), (1, .int p0)]) (Nat.le_of_ble_eq_true rfl) rfl (fun p e s m args below meth c A cx hr ht => ?_)
  have hL27 : ∀ (fuel : Nat), ∀ (b27_L1 : Int32) (b27_L2 : Int32) (M : zMem), itF (fun _ _ _ => none) (F_X9_noon_27 p0) fuel b27_L1 b27_L2 M = some (k9, r9, M9) → zJ p l e rm_X9_noon s m args below meth c G shX ad n A 3 (vx_MQ below (zQX G shX ad n M9 k9 (some (.int r9)) A) (zXC G shX ad n M9 k9 A) args s 1 6 A) 1 6 M 27 [(0, .ref (ad 0)), (1, .int b27_L1), (2, .int b27_L2)] [] := by
    intro fuel
    induction fuel with
    | zero => intro b27_L1 b27_L2 M hF; cases hF
    | succ fuel hs27 =>
      intro b27_L1 b27_L2 M hF
      have hF : F_X9_noon_27 p0 (itF (fun _ _ _ => none) (F_X9_noon_27 p0) fuel) b27_L1 b27_L2 M = some (k9, r9, M9) := hF
      generalize itF (fun _ _ _ => none) (F_X9_noon_27 p0) fuel = self27 at hs27 hF
      unfold F_X9_noon_27 at hF
      refine z_iload_n cx d_X9_noon_27 2 rfl ?_
      refine z_aload_n cx d_X9_noon_28 0 rfl ?_
      obtain ⟨hg1, hF⟩ := gd_inv hF
      refine z_getD cx hT fg_SunnyPans_62 d_X9_noon_29 ?_
      refine z_getI cx (td_6 hT hg1) fg_SunnyPans_127 d_X9_noon_32 ?_
      refine z_icmp_ge cx 57 d_X9_noon_35 (by decide) hF (fun hF => ?_) (fun hF => ?_)
      · refine z_iload_n cx d_X9_noon_57 1 rfl ?_
        refine z_if_ne cx 71 d_X9_noon_58 (by decide) hF (fun hF => ?_) (fun hF => ?_)
        · refine z_aload_n cx d_X9_noon_71 0 rfl ?_
          refine z_getR cx hT fg_SunnyPans_51 172 rfl d_X9_noon_72 ?_
          refine z_getI cx (tfX_10_172 hT) fg_SunnyPans_323 d_X9_noon_75 ?_
          exact z_iretX cx hr rfl hF ⟨Nat.le_of_ble_eq_true rfl, Nat.le_of_ble_eq_true rfl⟩ d_X9_noon_78
        refine z_aload_n cx d_X9_noon_61 0 rfl ?_
        refine z_getR cx hT fg_SunnyPans_51 172 rfl d_X9_noon_62 ?_
        refine z_getI cx (tfX_10_172 hT) fg_SunnyPans_320 d_X9_noon_65 ?_
        refine z_goto cx 78 d_X9_noon_68 (by decide) ?_
        exact z_iretX cx hr rfl hF ⟨Nat.le_of_ble_eq_true rfl, Nat.le_of_ble_eq_true rfl⟩ d_X9_noon_78
      refine z_aload_n cx d_X9_noon_38 0 rfl ?_
      refine z_getR cx hT fg_SunnyPans_51 172 rfl d_X9_noon_39 ?_
      refine z_iload_n cx d_X9_noon_42 2 rfl ?_
      refine z_aload_n cx d_X9_noon_43 0 rfl ?_
      refine z_iload_n cx d_X9_noon_44 2 rfl ?_
      obtain ⟨v3, M2, hc, hF⟩ := zb_inv hF
      refine z_callV cx (As := [.int b27_L2]) (rest := [.int b27_L2, .ref (ad 172)]) (c_X9_lossBy l cx.2.2.2.1.1 M b27_L2 hT hc) hT zo_10 cv_SunnyPans_317 ⟨rfl, rfl, Nat.le_of_ble_eq_true rfl, Nat.le_of_ble_eq_true rfl⟩ rfl rfl ⟨Nat.le_of_ble_eq_true rfl, Nat.le_of_ble_eq_true rfl⟩ (Nat.le_of_ble_eq_true rfl) d_X9_noon_45 ?_
      obtain ⟨M4, hc, hF⟩ := zbv_inv hF
      refine z_callV cx (As := [.int b27_L2, .int v3]) (rest := []) (c_X0_offerMost l cx.2.2.2.1.1 M2 172 b27_L2 v3 (tfX_10_172 hT) hc) (tfX_10_172 hT) zo_1 cv_SunnyPans_260 ⟨rfl, rfl, Nat.le_of_ble_eq_true rfl, Nat.le_of_ble_eq_true rfl⟩ rfl rfl ⟨Nat.le_of_ble_eq_true rfl, Nat.le_of_ble_eq_true rfl⟩ (Nat.le_of_ble_eq_true rfl) d_X9_noon_48 ?_
      refine z_iinc cx 2 1 [(2, .int (b27_L2 + 1)), (0, .ref (ad 0)), (1, .int b27_L1)] d_X9_noon_51 2 rfl ki_1 (by decide) rfl ?_
      refine z_goto cx 27 d_X9_noon_54 (by decide) ?_
      exact z_lv [1, 2, 0] _ rfl (hs27 b27_L1 (b27_L2 + 1) M4 hF)
  have hb15 : ∀ (b15_L1 : Int32) (b15_S1 : Int32) (M : zMem), F_X9_noon_15 p0 b15_L1 b15_S1 M = some (k9, r9, M9) → zJ p l e rm_X9_noon s m args below meth c G shX ad n A 3 (vx_MQ below (zQX G shX ad n M9 k9 (some (.int r9)) A) (zXC G shX ad n M9 k9 A) args s 1 6 A) 0 0 M 15 [(0, .ref (ad 0)), (1, .int b15_L1)] [.int b15_S1, .ref (ad 0)] := by
    intro b15_L1 b15_S1 M hF
    unfold F_X9_noon_15 at hF
    obtain ⟨k6, v7, M5, hc, hF, hX8⟩ := zbx_inv hF
    refine z_callVX cx ht (As := [.int b15_S1]) (rest := []) (c_X9_need l cx.2.2.2.1.1 M b15_S1 hl hT hc) (fun q => zxp_inv (hX8 q)) hT zo_10 cv_SunnyPans_155 ⟨rfl, rfl, Nat.le_of_ble_eq_true rfl, Nat.le_of_ble_eq_true rfl⟩ rfl rfl ⟨Nat.le_of_ble_eq_true rfl, Nat.le_of_ble_eq_true rfl⟩ ⟨Nat.le_of_ble_eq_true rfl, Nat.le_of_ble_eq_true rfl⟩ (Nat.le_of_ble_eq_true rfl) d_X9_noon_15 (fun kq9 => ?_)
    have hF := hF kq9
    refine z_aload_n cx d_X9_noon_18 0 rfl ?_
    refine z_getR cx hT fg_SunnyPans_51 172 rfl d_X9_noon_19 ?_
    obtain ⟨M10, hc, hF⟩ := zbv_inv hF
    refine z_callV cx (As := []) (rest := []) (c_X0_clear l cx.2.2.2.1.1 M5 172 (tfX_10_172 hT) hc) (tfX_10_172 hT) zo_1 cv_SunnyPans_259 ⟨rfl, rfl, Nat.le_of_ble_eq_true rfl, Nat.le_of_ble_eq_true rfl⟩ rfl rfl ⟨Nat.le_of_ble_eq_true rfl, Nat.le_of_ble_eq_true rfl⟩ (Nat.le_of_ble_eq_true rfl) d_X9_noon_22 ?_
    refine z_iconst (v := 0) cx d_X9_noon_25 ki_0 ?_
    refine z_istore_n cx 2 [(2, .int (0 : Int32)), (0, .ref (ad 0)), (1, .int b15_L1)] d_X9_noon_26 rfl (by decide) rfl ?_
    exact z_lv [1, 2, 0] _ rfl (hL27 zFuel b15_L1 (0 : Int32) M10 hF)
  unfold F_X9_noon at hF
  refine z_aload_n cx d_X9_noon_0 0 rfl ?_
  refine z_iload_n cx d_X9_noon_1 1 rfl ?_
  refine z_if_eq cx 10 d_X9_noon_2 (by decide) hF (fun hF => ?_) (fun hF => ?_)
  · refine z_iconst (v := 1) cx d_X9_noon_10 ki_1 ?_
    refine z_goto cx 15 d_X9_noon_11 (by decide) ?_
    exact hb15 p0 (1 : Int32) M hF
  refine z_iload_n cx d_X9_noon_5 1 rfl ?_
  refine z_iconst (v := 1) cx d_X9_noon_6 ki_1 ?_
  refine z_icmp_ne cx 14 d_X9_noon_7 (by decide) hF (fun hF => ?_) (fun hF => ?_)
  · refine z_iconst (v := 0) cx d_X9_noon_14 ki_0 ?_
    exact hb15 p0 (0 : Int32) M hF
  refine z_iconst (v := 1) cx d_X9_noon_10 ki_1 ?_
  refine z_goto cx 15 d_X9_noon_11 (by decide) ?_
  exact hb15 p0 (1 : Int32) M hF
/-! SunnyPans.layEverywhere -/
theorem tfX_10_104 {n k : Nat} (h : zT shX n k 10) : zT shX n (k + 104) 7 := zT_off h (shX_f (by decide) (by decide +kernel)) (by decide) (by decide)
set_option maxRecDepth 100000 in
theorem wd_1154 : Cond.code yX4_freePlaces cX4_freePlaces 1 (some .long) ∈ tbG := tw5 94 rfl rfl
set_option maxRecDepth 100000 in
theorem wd_1151 : Cond.methodLink "SunnyPans" 361 yX4_freePlaces ∈ tbG := tw5 91 rfl rfl
set_option maxRecDepth 100000 in
theorem wd_1152 : Cond.instanceMethod yX4_freePlaces ∈ tbG := tw5 92 rfl rfl
set_option maxRecDepth 100000 in
theorem wd_1153 : Cond.selects "SunnyPans$Pans" yX4_freePlaces yX4_freePlaces ∈ tbG := tw5 93 rfl rfl
theorem cv_SunnyPans_361 : zCV "SunnyPans" 361 "SunnyPans$Pans" yX4_freePlaces cX4_freePlaces 1 (some .long) 0 := zCV_of wd_1151 wd_1152 wd_1153 wd_104 wd_1154 (by decide +kernel)
set_option maxRecDepth 100000 in
theorem wd_414 : Cond.fieldLink "SunnyPans" 44 "SunnyPans" "shadows" "LSunnyPans$Shadows;" ∈ tbG := tw2 74 rfl rfl
theorem fg_SunnyPans_44 : zGetR "SunnyPans" 44 9 10 5 104 := ⟨RX9, TX9, 19, rfl, by decide, uw_9, wd_414, fun _ _ _ _ _ _ => ⟨_, rfl, rfl⟩⟩
set_option maxRecDepth 100000 in
theorem wd_1159 : Cond.code yX6_lay cX6_lay 8 none ∈ tbG := tw5 99 rfl rfl
set_option maxRecDepth 100000 in
theorem wd_1156 : Cond.methodLink "SunnyPans" 364 yX6_lay ∈ tbG := tw5 96 rfl rfl
set_option maxRecDepth 100000 in
theorem wd_1157 : Cond.instanceMethod yX6_lay ∈ tbG := tw5 97 rfl rfl
set_option maxRecDepth 100000 in
theorem wd_1158 : Cond.selects "SunnyPans$Shadows" yX6_lay yX6_lay ∈ tbG := tw5 98 rfl rfl
theorem cv_SunnyPans_364 : zCV "SunnyPans" 364 "SunnyPans$Shadows" yX6_lay cX6_lay 8 none 4 := zCV_of wd_1156 wd_1157 wd_1158 wd_106 wd_1159 (by decide +kernel)
theorem d_X9_layEverywhere_0 : decode cX9_layEverywhere 0 = .ok (.aload_n 0, 1) := by decide +kernel
theorem d_X9_layEverywhere_1 : decode cX9_layEverywhere 1 = .ok (.getfield 19, 3) := by decide +kernel
theorem d_X9_layEverywhere_4 : decode cX9_layEverywhere 4 = .ok (.getfield 159, 3) := by decide +kernel
theorem d_X9_layEverywhere_7 : decode cX9_layEverywhere 7 = .ok (.invokevirtual 361, 3) := by decide +kernel
theorem d_X9_layEverywhere_10 : decode cX9_layEverywhere 10 = .ok (.aload_n 0, 1) := by decide +kernel
theorem d_X9_layEverywhere_11 : decode cX9_layEverywhere 11 = .ok (.getfield 62, 3) := by decide +kernel
theorem d_X9_layEverywhere_14 : decode cX9_layEverywhere 14 = .ok (.getfield 200, 3) := by decide +kernel
theorem d_X9_layEverywhere_17 : decode cX9_layEverywhere 17 = .ok (.land, 1) := by decide +kernel
theorem d_X9_layEverywhere_18 : decode cX9_layEverywhere 18 = .ok (.lstore_n 2, 1) := by decide +kernel
theorem d_X9_layEverywhere_19 : decode cX9_layEverywhere 19 = .ok (.aload_n 0, 1) := by decide +kernel
theorem d_X9_layEverywhere_20 : decode cX9_layEverywhere 20 = .ok (.getfield 44, 3) := by decide +kernel
theorem d_X9_layEverywhere_23 : decode cX9_layEverywhere 23 = .ok (.aload_n 0, 1) := by decide +kernel
theorem d_X9_layEverywhere_24 : decode cX9_layEverywhere 24 = .ok (.getfield 62, 3) := by decide +kernel
theorem d_X9_layEverywhere_27 : decode cX9_layEverywhere 27 = .ok (.aload_n 0, 1) := by decide +kernel
theorem d_X9_layEverywhere_28 : decode cX9_layEverywhere 28 = .ok (.getfield 19, 3) := by decide +kernel
theorem d_X9_layEverywhere_31 : decode cX9_layEverywhere 31 = .ok (.getfield 159, 3) := by decide +kernel
theorem d_X9_layEverywhere_34 : decode cX9_layEverywhere 34 = .ok (.lload_n 2, 1) := by decide +kernel
theorem d_X9_layEverywhere_35 : decode cX9_layEverywhere 35 = .ok (.iload_n 1, 1) := by decide +kernel
theorem d_X9_layEverywhere_36 : decode cX9_layEverywhere 36 = .ok (.invokevirtual 364, 3) := by decide +kernel
theorem d_X9_layEverywhere_39 : decode cX9_layEverywhere 39 = .ok (.lload_n 2, 1) := by decide +kernel
theorem d_X9_layEverywhere_40 : decode cX9_layEverywhere 40 = .ok (.lreturn, 1) := by decide +kernel
noncomputable def F_X9_layEverywhere (M : zMem) (p0 : Int32) : Option (Int64 × zMem) :=
  zb (F_X4_freePlaces M 4) fun v2 M1 =>
  gd (shX (M1.2.2 0 8) == 6) <|
  zl (v2 &&& (M1.2.1 (M1.2.2 0 8) 3)) fun v4 =>
  zbv (F_X6_lay M1 104 (M1.2.2 0 8) 4 v4 p0) fun M5 =>
  some (v4, M5)
def rm_X9_layEverywhere : Room := { frames := 6, cells := 0, slots := 0, locals := 163 }
set_option maxHeartbeats 4000000 in
set_option maxRecDepth 100000 in
theorem c_X9_layEverywhere (l : Launch) {G : zG} {ad : Nat → Nat} {n : Nat} (hA : zInj ad n) (M : zMem) (p0 : Int32) (hT : zT shX n 0 10) {r9 : Int64} {M9 : zMem} (hF : F_X9_layEverywhere M p0 = some (r9, M9)) : zM l yX9_layEverywhere cX9_layEverywhere 4 (some .long) rm_X9_layEverywhere G shX ad n M [.ref (ad 0), .int p0] (some (.long r9)) M9 := by
  refine zM_of hA (by decide +kernel) (lv := [(0, .ref (ad 0)), (1, .int p0)]) (Nat.le_of_ble_eq_true rfl) rfl (fun p e s m args below meth c A cx hr => ?_)
  unfold F_X9_layEverywhere at hF
  refine z_aload_n cx d_X9_layEverywhere_0 0 rfl ?_
  refine z_getR cx hT fg_SunnyPans_19 3 rfl d_X9_layEverywhere_1 ?_
  refine z_getR cx (tfX_10_3 hT) fg_SunnyPans_159 4 rfl d_X9_layEverywhere_4 ?_
  obtain ⟨v2, M1, hc, hF⟩ := zb_inv hF
  refine z_callV cx (As := []) (rest := []) (c_X4_freePlaces l cx.2.2.2.1.1 M 4 (tfX_8_1 (tfX_10_3 hT)) hc) (tfX_8_1 (tfX_10_3 hT)) zo_5 cv_SunnyPans_361 ⟨rfl, rfl, Nat.le_of_ble_eq_true rfl, Nat.le_of_ble_eq_true rfl⟩ rfl rfl ⟨Nat.zero_le _, Nat.zero_le _⟩ (Nat.le_of_ble_eq_true rfl) d_X9_layEverywhere_7 ?_
  refine z_aload_n cx d_X9_layEverywhere_10 0 rfl ?_
  obtain ⟨hg3, hF⟩ := gd_inv hF
  refine z_getD cx hT fg_SunnyPans_62 d_X9_layEverywhere_11 ?_
  refine z_getL cx (td_6 hT hg3) fg_SunnyPans_200 d_X9_layEverywhere_14 ?_
  refine z_land cx d_X9_layEverywhere_17 ?_
  refine z_nml hF (fun v4 hF => ?_)
  refine z_lstore_n cx 2 [(2, .long v4), (0, .ref (ad 0)), (1, .int p0)] d_X9_layEverywhere_18 rfl (by decide) rfl ?_
  refine z_aload_n cx d_X9_layEverywhere_19 1 rfl ?_
  refine z_getR cx hT fg_SunnyPans_44 104 rfl d_X9_layEverywhere_20 ?_
  refine z_aload_n cx d_X9_layEverywhere_23 1 rfl ?_
  refine z_getD cx hT fg_SunnyPans_62 d_X9_layEverywhere_24 ?_
  refine z_aload_n cx d_X9_layEverywhere_27 1 rfl ?_
  refine z_getR cx hT fg_SunnyPans_19 3 rfl d_X9_layEverywhere_28 ?_
  refine z_getR cx (tfX_10_3 hT) fg_SunnyPans_159 4 rfl d_X9_layEverywhere_31 ?_
  refine z_lload_n cx d_X9_layEverywhere_34 0 rfl ?_
  refine z_iload_n cx d_X9_layEverywhere_35 2 rfl ?_
  obtain ⟨M5, hc, hF⟩ := zbv_inv hF
  refine z_callV cx (As := [.ref (ad (M1.2.2 0 8)), .ref (ad 4), .long v4, .int p0]) (rest := []) (c_X6_lay l cx.2.2.2.1.1 M1 104 (M1.2.2 0 8) 4 v4 p0 (tfX_10_104 hT) (td_6 hT hg3) (tfX_8_1 (tfX_10_3 hT)) hc) (tfX_10_104 hT) zo_7 cv_SunnyPans_364 ⟨rfl, rfl, Nat.le_of_ble_eq_true rfl, Nat.le_of_ble_eq_true rfl⟩ rfl rfl ⟨Nat.zero_le _, Nat.zero_le _⟩ (Nat.le_of_ble_eq_true rfl) d_X9_layEverywhere_36 ?_
  refine z_lload_n cx d_X9_layEverywhere_39 0 rfl ?_
  exact z_lret cx hr hF d_X9_layEverywhere_40
/-! SunnyPans.site -/
set_option maxRecDepth 100000 in
theorem wd_1167 : Cond.code yX6_together cX6_together 6 (some .int) ∈ tbG := tw5 107 rfl rfl
set_option maxRecDepth 100000 in
theorem wd_1164 : Cond.methodLink "SunnyPans" 336 yX6_together ∈ tbG := tw5 104 rfl rfl
set_option maxRecDepth 100000 in
theorem wd_1165 : Cond.instanceMethod yX6_together ∈ tbG := tw5 105 rfl rfl
set_option maxRecDepth 100000 in
theorem wd_1166 : Cond.selects "SunnyPans$Shadows" yX6_together yX6_together ∈ tbG := tw5 106 rfl rfl
theorem cv_SunnyPans_336 : zCV "SunnyPans" 336 "SunnyPans$Shadows" yX6_together cX6_together 6 (some .int) 3 := zCV_of wd_1164 wd_1165 wd_1166 wd_106 wd_1167 (by decide +kernel)
set_option maxRecDepth 100000 in
theorem wd_1150 : Cond.code yX9_layEverywhere cX9_layEverywhere 4 (some .long) ∈ tbG := tw5 90 rfl rfl
set_option maxRecDepth 100000 in
theorem wd_1147 : Cond.methodLink "SunnyPans" 333 yX9_layEverywhere ∈ tbG := tw5 87 rfl rfl
set_option maxRecDepth 100000 in
theorem wd_1149 : Cond.instanceMethod yX9_layEverywhere ∈ tbG := tw5 89 rfl rfl
theorem wd_31 : Cond.selects "SunnyPans" yX9_layEverywhere yX9_layEverywhere ∈ tbG := tw 31 (by decide +kernel) rfl
theorem cv_SunnyPans_333 : zCV "SunnyPans" 333 "SunnyPans" yX9_layEverywhere cX9_layEverywhere 4 (some .long) 1 := zCV_of wd_1147 wd_1149 wd_31 wd_101 wd_1150 (by decide +kernel)
theorem d_X9_site_0 : decode cX9_site 0 = .ok (.aload_n 0, 1) := by decide +kernel
theorem d_X9_site_1 : decode cX9_site 1 = .ok (.iload_n 1, 1) := by decide +kernel
theorem d_X9_site_2 : decode cX9_site 2 = .ok (.iconst 1, 1) := by decide +kernel
theorem d_X9_site_3 : decode cX9_site 3 = .ok (.sipush 999, 3) := by decide +kernel
theorem d_X9_site_6 : decode cX9_site 6 = .ok (.invokestatic 255, 3) := by decide +kernel
theorem d_X9_site_9 : decode cX9_site 9 = .ok (.ifCond .eq 16, 3) := by decide +kernel
theorem d_X9_site_12 : decode cX9_site 12 = .ok (.iload_n 2, 1) := by decide +kernel
theorem d_X9_site_13 : decode cX9_site 13 = .ok (.iconst 0, 1) := by decide +kernel
theorem d_X9_site_14 : decode cX9_site 14 = .ok (.iconst 1, 1) := by decide +kernel
theorem d_X9_site_15 : decode cX9_site 15 = .ok (.invokestatic 255, 3) := by decide +kernel
theorem d_X9_site_18 : decode cX9_site 18 = .ok (.ifCond .eq 7, 3) := by decide +kernel
theorem d_X9_site_21 : decode cX9_site 21 = .ok (.iconst 1, 1) := by decide +kernel
theorem d_X9_site_22 : decode cX9_site 22 = .ok (.goto 4, 3) := by decide +kernel
theorem d_X9_site_25 : decode cX9_site 25 = .ok (.iconst 0, 1) := by decide +kernel
theorem d_X9_site_26 : decode cX9_site 26 = .ok (.invokevirtual 155, 3) := by decide +kernel
theorem d_X9_site_29 : decode cX9_site 29 = .ok (.aload_n 0, 1) := by decide +kernel
theorem d_X9_site_30 : decode cX9_site 30 = .ok (.iload_n 1, 1) := by decide +kernel
theorem d_X9_site_31 : decode cX9_site 31 = .ok (.invokevirtual 333, 3) := by decide +kernel
theorem d_X9_site_34 : decode cX9_site 34 = .ok (.lstore_n 3, 1) := by decide +kernel
theorem d_X9_site_35 : decode cX9_site 35 = .ok (.aload_n 0, 1) := by decide +kernel
theorem d_X9_site_36 : decode cX9_site 36 = .ok (.getfield 51, 3) := by decide +kernel
theorem d_X9_site_39 : decode cX9_site 39 = .ok (.invokevirtual 259, 3) := by decide +kernel
theorem d_X9_site_42 : decode cX9_site 42 = .ok (.iconst 0, 1) := by decide +kernel
theorem d_X9_site_43 : decode cX9_site 43 = .ok (.istore 5, 2) := by decide +kernel
theorem d_X9_site_45 : decode cX9_site 45 = .ok (.iload 5, 2) := by decide +kernel
theorem d_X9_site_47 : decode cX9_site 47 = .ok (.bipush 64, 2) := by decide +kernel
theorem d_X9_site_49 : decode cX9_site 49 = .ok (.if_icmp .ge 45, 3) := by decide +kernel
theorem d_X9_site_52 : decode cX9_site 52 = .ok (.lload_n 3, 1) := by decide +kernel
theorem d_X9_site_53 : decode cX9_site 53 = .ok (.iload 5, 2) := by decide +kernel
theorem d_X9_site_55 : decode cX9_site 55 = .ok (.invokestatic 231, 3) := by decide +kernel
theorem d_X9_site_58 : decode cX9_site 58 = .ok (.ifCond .eq 30, 3) := by decide +kernel
theorem d_X9_site_61 : decode cX9_site 61 = .ok (.aload_n 0, 1) := by decide +kernel
theorem d_X9_site_62 : decode cX9_site 62 = .ok (.getfield 51, 3) := by decide +kernel
theorem d_X9_site_65 : decode cX9_site 65 = .ok (.iload 5, 2) := by decide +kernel
theorem d_X9_site_67 : decode cX9_site 67 = .ok (.aload_n 0, 1) := by decide +kernel
theorem d_X9_site_68 : decode cX9_site 68 = .ok (.getfield 44, 3) := by decide +kernel
theorem d_X9_site_71 : decode cX9_site 71 = .ok (.iload 5, 2) := by decide +kernel
theorem d_X9_site_73 : decode cX9_site 73 = .ok (.iload 5, 2) := by decide +kernel
theorem d_X9_site_75 : decode cX9_site 75 = .ok (.aload_n 0, 1) := by decide +kernel
theorem d_X9_site_76 : decode cX9_site 76 = .ok (.getfield 62, 3) := by decide +kernel
theorem d_X9_site_79 : decode cX9_site 79 = .ok (.getfield 127, 3) := by decide +kernel
theorem d_X9_site_82 : decode cX9_site 82 = .ok (.invokevirtual 336, 3) := by decide +kernel
theorem d_X9_site_85 : decode cX9_site 85 = .ok (.invokevirtual 279, 3) := by decide +kernel
theorem d_X9_site_88 : decode cX9_site 88 = .ok (.iinc 5 1, 3) := by decide +kernel
theorem d_X9_site_91 : decode cX9_site 91 = .ok (.goto (-46), 3) := by decide +kernel
theorem d_X9_site_94 : decode cX9_site 94 = .ok (.aload_n 0, 1) := by decide +kernel
theorem d_X9_site_95 : decode cX9_site 95 = .ok (.getfield 51, 3) := by decide +kernel
theorem d_X9_site_98 : decode cX9_site 98 = .ok (.iload_n 2, 1) := by decide +kernel
theorem d_X9_site_99 : decode cX9_site 99 = .ok (.invokevirtual 263, 3) := by decide +kernel
theorem d_X9_site_102 : decode cX9_site 102 = .ok (.ireturn, 1) := by decide +kernel
noncomputable def F_X9_site_88 (p0 : Int32) (p1 : Int32) (self45 : Int32 → Int64 → Int32 → zMem → Option (Nat × Int32 × zMem)) (b88_L2 : Int32) (b88_L3 : Int64) (b88_L5 : Int32) (M : zMem) : Option (Nat × Int32 × zMem) :=
  self45 b88_L2 b88_L3 (b88_L5 + 1) M
noncomputable def F_X9_site_45 (p0 : Int32) (p1 : Int32) (self45 : Int32 → Int64 → Int32 → zMem → Option (Nat × Int32 × zMem)) (b45_L2 : Int32) (b45_L3 : Int64) (b45_L5 : Int32) (M : zMem) : Option (Nat × Int32 × zMem) :=
  if (64 : Int32) ≤ b45_L5 then
    zb (F_X0_placeOrAmount M 172 b45_L2) fun v2 M1 =>
    some (0, v2, M1)
  else
    zb (F_X9_has M b45_L3 b45_L5) fun v4 M3 =>
    if v4 = 0 then
      F_X9_site_88 p0 p1 self45 b45_L2 b45_L3 b45_L5 M3
    else
      gd (shX (M3.2.2 0 8) == 6) <|
      zb (F_X6_together M3 104 b45_L5 b45_L5 (M3.1 (M3.2.2 0 8) 2)) fun v7 M6 =>
      zbv (F_X0_offerLeast M6 172 b45_L5 v7) fun M8 =>
      F_X9_site_88 p0 p1 self45 b45_L2 b45_L3 b45_L5 M8
noncomputable def F_X9_site_26 (p0 : Int32) (p1 : Int32) (b26_L1 : Int32) (b26_L2 : Int32) (b26_S1 : Int32) (M : zMem) : Option (Nat × Int32 × zMem) :=
  zbx (F_X9_need M b26_S1) (g := zxp) fun _ M9 =>
  zb (F_X9_layEverywhere M9 b26_L1) fun v15 M14 =>
  zbv (F_X0_clear M14 172) fun M16 =>
  itF (fun _ _ _ _ => none) (F_X9_site_45 p0 p1) zFuel b26_L2 v15 (0 : Int32) M16
noncomputable def F_X9_site_25 (p0 : Int32) (p1 : Int32) (b25_L1 : Int32) (b25_L2 : Int32) (M : zMem) : Option (Nat × Int32 × zMem) :=
  F_X9_site_26 p0 p1 b25_L1 b25_L2 (0 : Int32) M
noncomputable def F_X9_site (M : zMem) (p0 : Int32) (p1 : Int32) : Option (Nat × Int32 × zMem) :=
  zb (F_X9_within M p0 (1 : Int32) (999 : Int32)) fun v18 M17 =>
  if v18 = 0 then
    F_X9_site_25 p0 p1 p0 p1 M17
  else
    zb (F_X9_within M17 p1 (0 : Int32) (1 : Int32)) fun v20 M19 =>
    if v20 = 0 then
      F_X9_site_25 p0 p1 p0 p1 M19
    else
      F_X9_site_26 p0 p1 p0 p1 (1 : Int32) M19
def rm_X9_site : Room := { frames := 10, cells := 1, slots := 6, locals := 186 }
set_option maxHeartbeats 4000000 in
set_option maxRecDepth 100000 in
theorem c_X9_site (l : Launch) {G : zG} {ad : Nat → Nat} {n : Nat} (hA : zInj ad n) (M : zMem) (p0 : Int32) (p1 : Int32) (hl : l.stackTraces = false) (hT : zT shX n 0 10) {k9 : Nat} {r9 : Int32} {M9 : zMem} (hF : F_X9_site M p0 p1 = some (k9, r9, M9)) : zMX l yX9_site cX9_site 6 (some .int) rm_X9_site 1 6 G shX ad n M [.ref (ad 0), .int p0, .int p1] k9 (some (.int r9)) M9 := by
  refine zM_ofX hA (by decide +kernel) (lv := [(0, .ref (ad 0)), (1, .int p0), (2, .int p1)]) (Nat.le_of_ble_eq_true rfl) rfl (fun p e s m args below meth c A cx hr ht => ?_)
  have hb88 : ∀ (self45 : Int32 → Int64 → Int32 → zMem → Option (Nat × Int32 × zMem)) (hs45 : ∀ (b45_L2 : Int32) (b45_L3 : Int64) (b45_L5 : Int32) (M : zMem), self45 b45_L2 b45_L3 b45_L5 M = some (k9, r9, M9) → zJ p l e rm_X9_site s m args below meth c G shX ad n A 6 (vx_MQ below (zQX G shX ad n M9 k9 (some (.int r9)) A) (zXC G shX ad n M9 k9 A) args s 1 6 A) 1 6 M 45 [(0, .ref (ad 0)), (2, .int b45_L2), (3, .long b45_L3), (5, .int b45_L5)] []), ∀ (b88_L2 : Int32) (b88_L3 : Int64) (b88_L5 : Int32) (M : zMem), F_X9_site_88 p0 p1 self45 b88_L2 b88_L3 b88_L5 M = some (k9, r9, M9) → zJ p l e rm_X9_site s m args below meth c G shX ad n A 6 (vx_MQ below (zQX G shX ad n M9 k9 (some (.int r9)) A) (zXC G shX ad n M9 k9 A) args s 1 6 A) 1 6 M 88 [(0, .ref (ad 0)), (2, .int b88_L2), (3, .long b88_L3), (5, .int b88_L5)] [] := by
    intro self45 hs45 b88_L2 b88_L3 b88_L5 M hF
    unfold F_X9_site_88 at hF
    refine z_iinc cx 5 1 [(5, .int (b88_L5 + 1)), (0, .ref (ad 0)), (2, .int b88_L2), (3, .long b88_L3)] d_X9_site_88 3 rfl ki_1 (by decide) rfl ?_
    refine z_goto cx 45 d_X9_site_91 (by decide) ?_
    exact z_lv [1, 2, 3, 0] _ rfl (hs45 b88_L2 b88_L3 (b88_L5 + 1) M hF)
  have hL45 : ∀ (fuel : Nat), ∀ (b45_L2 : Int32) (b45_L3 : Int64) (b45_L5 : Int32) (M : zMem), itF (fun _ _ _ _ => none) (F_X9_site_45 p0 p1) fuel b45_L2 b45_L3 b45_L5 M = some (k9, r9, M9) → zJ p l e rm_X9_site s m args below meth c G shX ad n A 6 (vx_MQ below (zQX G shX ad n M9 k9 (some (.int r9)) A) (zXC G shX ad n M9 k9 A) args s 1 6 A) 1 6 M 45 [(0, .ref (ad 0)), (2, .int b45_L2), (3, .long b45_L3), (5, .int b45_L5)] [] := by
    intro fuel
    induction fuel with
    | zero => intro b45_L2 b45_L3 b45_L5 M hF; cases hF
    | succ fuel hs45 =>
      intro b45_L2 b45_L3 b45_L5 M hF
      have hF : F_X9_site_45 p0 p1 (itF (fun _ _ _ _ => none) (F_X9_site_45 p0 p1) fuel) b45_L2 b45_L3 b45_L5 M = some (k9, r9, M9) := hF
      generalize itF (fun _ _ _ _ => none) (F_X9_site_45 p0 p1) fuel = self45 at hs45 hF
      unfold F_X9_site_45 at hF
      refine z_iload cx d_X9_site_45 3 rfl ?_
      refine z_bipush (v := 64) cx d_X9_site_47 kb_64 ?_
      refine z_icmp_ge cx 94 d_X9_site_49 (by decide) hF (fun hF => ?_) (fun hF => ?_)
      · refine z_aload_n cx d_X9_site_94 0 rfl ?_
        refine z_getR cx hT fg_SunnyPans_51 172 rfl d_X9_site_95 ?_
        refine z_iload_n cx d_X9_site_98 1 rfl ?_
        obtain ⟨v2, M1, hc, hF⟩ := zb_inv hF
        refine z_callV cx (As := [.int b45_L2]) (rest := []) (c_X0_placeOrAmount l cx.2.2.2.1.1 M 172 b45_L2 (tfX_10_172 hT) hc) (tfX_10_172 hT) zo_1 cv_SunnyPans_263 ⟨rfl, rfl, Nat.le_of_ble_eq_true rfl, Nat.le_of_ble_eq_true rfl⟩ rfl rfl ⟨Nat.le_of_ble_eq_true rfl, Nat.le_of_ble_eq_true rfl⟩ (Nat.le_of_ble_eq_true rfl) d_X9_site_99 ?_
        exact z_iretX cx hr rfl hF ⟨Nat.le_of_ble_eq_true rfl, Nat.le_of_ble_eq_true rfl⟩ d_X9_site_102
      refine z_lload_n cx d_X9_site_52 2 rfl ?_
      refine z_iload cx d_X9_site_53 3 rfl ?_
      obtain ⟨v4, M3, hc, hF⟩ := zb_inv hF
      refine z_callS cx (As := [.long b45_L3, .int b45_L5]) (rest := []) (c_X9_has l cx.2.2.2.1.1 M b45_L3 b45_L5  hc) cs_SunnyPans_231 ⟨rfl, rfl, Nat.le_of_ble_eq_true rfl, Nat.le_of_ble_eq_true rfl⟩ rfl rfl ⟨Nat.le_of_ble_eq_true rfl, Nat.le_of_ble_eq_true rfl⟩ (Nat.le_of_ble_eq_true rfl) d_X9_site_55 ?_
      refine z_if_eq cx 88 d_X9_site_58 (by decide) hF (fun hF => ?_) (fun hF => ?_)
      · exact hb88 self45 hs45 b45_L2 b45_L3 b45_L5 M3 hF
      refine z_aload_n cx d_X9_site_61 0 rfl ?_
      refine z_getR cx hT fg_SunnyPans_51 172 rfl d_X9_site_62 ?_
      refine z_iload cx d_X9_site_65 3 rfl ?_
      refine z_aload_n cx d_X9_site_67 0 rfl ?_
      refine z_getR cx hT fg_SunnyPans_44 104 rfl d_X9_site_68 ?_
      refine z_iload cx d_X9_site_71 3 rfl ?_
      refine z_iload cx d_X9_site_73 3 rfl ?_
      refine z_aload_n cx d_X9_site_75 0 rfl ?_
      obtain ⟨hg5, hF⟩ := gd_inv hF
      refine z_getD cx hT fg_SunnyPans_62 d_X9_site_76 ?_
      refine z_getI cx (td_6 hT hg5) fg_SunnyPans_127 d_X9_site_79 ?_
      obtain ⟨v7, M6, hc, hF⟩ := zb_inv hF
      refine z_callV cx (As := [.int b45_L5, .int b45_L5, .int (M3.1 (M3.2.2 0 8) 2)]) (rest := [.int b45_L5, .ref (ad 172)]) (c_X6_together l cx.2.2.2.1.1 M3 104 b45_L5 b45_L5 (M3.1 (M3.2.2 0 8) 2) (tfX_10_104 hT) hc) (tfX_10_104 hT) zo_7 cv_SunnyPans_336 ⟨rfl, rfl, Nat.le_of_ble_eq_true rfl, Nat.le_of_ble_eq_true rfl⟩ rfl rfl ⟨Nat.le_of_ble_eq_true rfl, Nat.le_of_ble_eq_true rfl⟩ (Nat.le_of_ble_eq_true rfl) d_X9_site_82 ?_
      obtain ⟨M8, hc, hF⟩ := zbv_inv hF
      refine z_callV cx (As := [.int b45_L5, .int v7]) (rest := []) (c_X0_offerLeast l cx.2.2.2.1.1 M6 172 b45_L5 v7 (tfX_10_172 hT) hc) (tfX_10_172 hT) zo_1 cv_SunnyPans_279 ⟨rfl, rfl, Nat.le_of_ble_eq_true rfl, Nat.le_of_ble_eq_true rfl⟩ rfl rfl ⟨Nat.le_of_ble_eq_true rfl, Nat.le_of_ble_eq_true rfl⟩ (Nat.le_of_ble_eq_true rfl) d_X9_site_85 ?_
      exact hb88 self45 hs45 b45_L2 b45_L3 b45_L5 M8 hF
  have hb26 : ∀ (b26_L1 : Int32) (b26_L2 : Int32) (b26_S1 : Int32) (M : zMem), F_X9_site_26 p0 p1 b26_L1 b26_L2 b26_S1 M = some (k9, r9, M9) → zJ p l e rm_X9_site s m args below meth c G shX ad n A 6 (vx_MQ below (zQX G shX ad n M9 k9 (some (.int r9)) A) (zXC G shX ad n M9 k9 A) args s 1 6 A) 0 0 M 26 [(0, .ref (ad 0)), (1, .int b26_L1), (2, .int b26_L2)] [.int b26_S1, .ref (ad 0)] := by
    intro b26_L1 b26_L2 b26_S1 M hF
    unfold F_X9_site_26 at hF
    obtain ⟨k10, v11, M9, hc, hF, hX12⟩ := zbx_inv hF
    refine z_callVX cx ht (As := [.int b26_S1]) (rest := []) (c_X9_need l cx.2.2.2.1.1 M b26_S1 hl hT hc) (fun q => zxp_inv (hX12 q)) hT zo_10 cv_SunnyPans_155 ⟨rfl, rfl, Nat.le_of_ble_eq_true rfl, Nat.le_of_ble_eq_true rfl⟩ rfl rfl ⟨Nat.le_of_ble_eq_true rfl, Nat.le_of_ble_eq_true rfl⟩ ⟨Nat.le_of_ble_eq_true rfl, Nat.le_of_ble_eq_true rfl⟩ (Nat.le_of_ble_eq_true rfl) d_X9_site_26 (fun kq13 => ?_)
    have hF := hF kq13
    refine z_aload_n cx d_X9_site_29 0 rfl ?_
    refine z_iload_n cx d_X9_site_30 1 rfl ?_
    obtain ⟨v15, M14, hc, hF⟩ := zb_inv hF
    refine z_callV cx (As := [.int b26_L1]) (rest := []) (c_X9_layEverywhere l cx.2.2.2.1.1 M9 b26_L1 hT hc) hT zo_10 cv_SunnyPans_333 ⟨rfl, rfl, Nat.le_of_ble_eq_true rfl, Nat.le_of_ble_eq_true rfl⟩ rfl rfl ⟨Nat.le_of_ble_eq_true rfl, Nat.le_of_ble_eq_true rfl⟩ (Nat.le_of_ble_eq_true rfl) d_X9_site_31 ?_
    refine z_lstore_n cx 3 [(3, .long v15), (0, .ref (ad 0)), (1, .int b26_L1), (2, .int b26_L2)] d_X9_site_34 rfl (by decide) rfl ?_
    refine z_aload_n cx d_X9_site_35 1 rfl ?_
    refine z_getR cx hT fg_SunnyPans_51 172 rfl d_X9_site_36 ?_
    obtain ⟨M16, hc, hF⟩ := zbv_inv hF
    refine z_callV cx (As := []) (rest := []) (c_X0_clear l cx.2.2.2.1.1 M14 172 (tfX_10_172 hT) hc) (tfX_10_172 hT) zo_1 cv_SunnyPans_259 ⟨rfl, rfl, Nat.le_of_ble_eq_true rfl, Nat.le_of_ble_eq_true rfl⟩ rfl rfl ⟨Nat.le_of_ble_eq_true rfl, Nat.le_of_ble_eq_true rfl⟩ (Nat.le_of_ble_eq_true rfl) d_X9_site_39 ?_
    refine z_iconst (v := 0) cx d_X9_site_42 ki_0 ?_
    refine z_istore cx 5 [(5, .int (0 : Int32)), (3, .long v15), (0, .ref (ad 0)), (1, .int b26_L1), (2, .int b26_L2)] d_X9_site_43 (by decide) rfl ?_
    exact z_lv [2, 4, 1, 0] _ rfl (hL45 zFuel b26_L2 v15 (0 : Int32) M16 hF)
  have hb25 : ∀ (b25_L1 : Int32) (b25_L2 : Int32) (M : zMem), F_X9_site_25 p0 p1 b25_L1 b25_L2 M = some (k9, r9, M9) → zJ p l e rm_X9_site s m args below meth c G shX ad n A 6 (vx_MQ below (zQX G shX ad n M9 k9 (some (.int r9)) A) (zXC G shX ad n M9 k9 A) args s 1 6 A) 0 0 M 25 [(0, .ref (ad 0)), (1, .int b25_L1), (2, .int b25_L2)] [.ref (ad 0)] := by
    intro b25_L1 b25_L2 M hF
    unfold F_X9_site_25 at hF
    refine z_iconst (v := 0) cx d_X9_site_25 ki_0 ?_
    exact hb26 b25_L1 b25_L2 (0 : Int32) M hF
  unfold F_X9_site at hF
  refine z_aload_n cx d_X9_site_0 0 rfl ?_
  refine z_iload_n cx d_X9_site_1 1 rfl ?_
  refine z_iconst (v := 1) cx d_X9_site_2 ki_1 ?_
  refine z_sipush (v := 999) cx d_X9_site_3 ks_999 ?_
  obtain ⟨v18, M17, hc, hF⟩ := zb_inv hF
  refine z_callS cx (As := [.int p0, .int (1 : Int32), .int (999 : Int32)]) (rest := [.ref (ad 0)]) (c_X9_within l cx.2.2.2.1.1 M p0 (1 : Int32) (999 : Int32)  hc) cs_SunnyPans_255 ⟨rfl, rfl, Nat.le_of_ble_eq_true rfl, Nat.le_of_ble_eq_true rfl⟩ rfl rfl ⟨Nat.le_of_ble_eq_true rfl, Nat.le_of_ble_eq_true rfl⟩ (Nat.le_of_ble_eq_true rfl) d_X9_site_6 ?_
  refine z_if_eq cx 25 d_X9_site_9 (by decide) hF (fun hF => ?_) (fun hF => ?_)
  · exact hb25 p0 p1 M17 hF
  refine z_iload_n cx d_X9_site_12 2 rfl ?_
  refine z_iconst (v := 0) cx d_X9_site_13 ki_0 ?_
  refine z_iconst (v := 1) cx d_X9_site_14 ki_1 ?_
  obtain ⟨v20, M19, hc, hF⟩ := zb_inv hF
  refine z_callS cx (As := [.int p1, .int (0 : Int32), .int (1 : Int32)]) (rest := [.ref (ad 0)]) (c_X9_within l cx.2.2.2.1.1 M17 p1 (0 : Int32) (1 : Int32)  hc) cs_SunnyPans_255 ⟨rfl, rfl, Nat.le_of_ble_eq_true rfl, Nat.le_of_ble_eq_true rfl⟩ rfl rfl ⟨Nat.le_of_ble_eq_true rfl, Nat.le_of_ble_eq_true rfl⟩ (Nat.le_of_ble_eq_true rfl) d_X9_site_15 ?_
  refine z_if_eq cx 25 d_X9_site_18 (by decide) hF (fun hF => ?_) (fun hF => ?_)
  · exact hb25 p0 p1 M19 hF
  refine z_iconst (v := 1) cx d_X9_site_21 ki_1 ?_
  refine z_goto cx 26 d_X9_site_22 (by decide) ?_
  exact hb26 p0 p1 (1 : Int32) M19 hF
/-! SunnyPans.pair -/
set_option maxRecDepth 100000 in
theorem wd_1181 : Cond.methodLink "SunnyPans" 339 yX9_tellPlace ∈ tbG := tw5 121 rfl rfl
theorem cs_SunnyPans_339 : zCS "SunnyPans" 339 yX9_tellPlace cX9_tellPlace 1 (some .int) 1 := zCS_of wd_1181 wd_1138 wd_101 wd_1139 (by decide +kernel)
theorem d_X9_pair_0 : decode cX9_pair 0 = .ok (.aload_n 0, 1) := by decide +kernel
theorem d_X9_pair_1 : decode cX9_pair 1 = .ok (.iload_n 1, 1) := by decide +kernel
theorem d_X9_pair_2 : decode cX9_pair 2 = .ok (.iconst 1, 1) := by decide +kernel
theorem d_X9_pair_3 : decode cX9_pair 3 = .ok (.sipush 999, 3) := by decide +kernel
theorem d_X9_pair_6 : decode cX9_pair 6 = .ok (.invokestatic 255, 3) := by decide +kernel
theorem d_X9_pair_9 : decode cX9_pair 9 = .ok (.ifCond .eq 16, 3) := by decide +kernel
theorem d_X9_pair_12 : decode cX9_pair 12 = .ok (.iload_n 2, 1) := by decide +kernel
theorem d_X9_pair_13 : decode cX9_pair 13 = .ok (.iconst 0, 1) := by decide +kernel
theorem d_X9_pair_14 : decode cX9_pair 14 = .ok (.iconst 2, 1) := by decide +kernel
theorem d_X9_pair_15 : decode cX9_pair 15 = .ok (.invokestatic 255, 3) := by decide +kernel
theorem d_X9_pair_18 : decode cX9_pair 18 = .ok (.ifCond .eq 7, 3) := by decide +kernel
theorem d_X9_pair_21 : decode cX9_pair 21 = .ok (.iconst 1, 1) := by decide +kernel
theorem d_X9_pair_22 : decode cX9_pair 22 = .ok (.goto 4, 3) := by decide +kernel
theorem d_X9_pair_25 : decode cX9_pair 25 = .ok (.iconst 0, 1) := by decide +kernel
theorem d_X9_pair_26 : decode cX9_pair 26 = .ok (.invokevirtual 155, 3) := by decide +kernel
theorem d_X9_pair_29 : decode cX9_pair 29 = .ok (.aload_n 0, 1) := by decide +kernel
theorem d_X9_pair_30 : decode cX9_pair 30 = .ok (.iload_n 1, 1) := by decide +kernel
theorem d_X9_pair_31 : decode cX9_pair 31 = .ok (.invokevirtual 333, 3) := by decide +kernel
theorem d_X9_pair_34 : decode cX9_pair 34 = .ok (.lstore_n 3, 1) := by decide +kernel
theorem d_X9_pair_35 : decode cX9_pair 35 = .ok (.aload_n 0, 1) := by decide +kernel
theorem d_X9_pair_36 : decode cX9_pair 36 = .ok (.getfield 51, 3) := by decide +kernel
theorem d_X9_pair_39 : decode cX9_pair 39 = .ok (.invokevirtual 259, 3) := by decide +kernel
theorem d_X9_pair_42 : decode cX9_pair 42 = .ok (.iconst 0, 1) := by decide +kernel
theorem d_X9_pair_43 : decode cX9_pair 43 = .ok (.istore 5, 2) := by decide +kernel
theorem d_X9_pair_45 : decode cX9_pair 45 = .ok (.iload 5, 2) := by decide +kernel
theorem d_X9_pair_47 : decode cX9_pair 47 = .ok (.bipush 64, 2) := by decide +kernel
theorem d_X9_pair_49 : decode cX9_pair 49 = .ok (.if_icmp .ge 79, 3) := by decide +kernel
theorem d_X9_pair_52 : decode cX9_pair 52 = .ok (.iload 5, 2) := by decide +kernel
theorem d_X9_pair_54 : decode cX9_pair 54 = .ok (.iconst 1, 1) := by decide +kernel
theorem d_X9_pair_55 : decode cX9_pair 55 = .ok (.iadd, 1) := by decide +kernel
theorem d_X9_pair_56 : decode cX9_pair 56 = .ok (.istore 6, 2) := by decide +kernel
theorem d_X9_pair_58 : decode cX9_pair 58 = .ok (.iload 6, 2) := by decide +kernel
theorem d_X9_pair_60 : decode cX9_pair 60 = .ok (.bipush 64, 2) := by decide +kernel
theorem d_X9_pair_62 : decode cX9_pair 62 = .ok (.if_icmp .ge 60, 3) := by decide +kernel
theorem d_X9_pair_65 : decode cX9_pair 65 = .ok (.lload_n 3, 1) := by decide +kernel
theorem d_X9_pair_66 : decode cX9_pair 66 = .ok (.iload 5, 2) := by decide +kernel
theorem d_X9_pair_68 : decode cX9_pair 68 = .ok (.invokestatic 231, 3) := by decide +kernel
theorem d_X9_pair_71 : decode cX9_pair 71 = .ok (.ifCond .eq 51, 3) := by decide +kernel
theorem d_X9_pair_74 : decode cX9_pair 74 = .ok (.lload_n 3, 1) := by decide +kernel
theorem d_X9_pair_75 : decode cX9_pair 75 = .ok (.iload 6, 2) := by decide +kernel
theorem d_X9_pair_77 : decode cX9_pair 77 = .ok (.invokestatic 231, 3) := by decide +kernel
theorem d_X9_pair_80 : decode cX9_pair 80 = .ok (.ifCond .eq 36, 3) := by decide +kernel
theorem d_X9_pair_83 : decode cX9_pair 83 = .ok (.aload_n 0, 1) := by decide +kernel
theorem d_X9_pair_84 : decode cX9_pair 84 = .ok (.getfield 51, 3) := by decide +kernel
theorem d_X9_pair_87 : decode cX9_pair 87 = .ok (.iload 5, 2) := by decide +kernel
theorem d_X9_pair_89 : decode cX9_pair 89 = .ok (.bipush 64, 2) := by decide +kernel
theorem d_X9_pair_91 : decode cX9_pair 91 = .ok (.imul, 1) := by decide +kernel
theorem d_X9_pair_92 : decode cX9_pair 92 = .ok (.iload 6, 2) := by decide +kernel
theorem d_X9_pair_94 : decode cX9_pair 94 = .ok (.iadd, 1) := by decide +kernel
theorem d_X9_pair_95 : decode cX9_pair 95 = .ok (.aload_n 0, 1) := by decide +kernel
theorem d_X9_pair_96 : decode cX9_pair 96 = .ok (.getfield 44, 3) := by decide +kernel
theorem d_X9_pair_99 : decode cX9_pair 99 = .ok (.iload 5, 2) := by decide +kernel
theorem d_X9_pair_101 : decode cX9_pair 101 = .ok (.iload 6, 2) := by decide +kernel
theorem d_X9_pair_103 : decode cX9_pair 103 = .ok (.aload_n 0, 1) := by decide +kernel
theorem d_X9_pair_104 : decode cX9_pair 104 = .ok (.getfield 62, 3) := by decide +kernel
theorem d_X9_pair_107 : decode cX9_pair 107 = .ok (.getfield 127, 3) := by decide +kernel
theorem d_X9_pair_110 : decode cX9_pair 110 = .ok (.invokevirtual 336, 3) := by decide +kernel
theorem d_X9_pair_113 : decode cX9_pair 113 = .ok (.invokevirtual 279, 3) := by decide +kernel
theorem d_X9_pair_116 : decode cX9_pair 116 = .ok (.iinc 6 1, 3) := by decide +kernel
theorem d_X9_pair_119 : decode cX9_pair 119 = .ok (.goto (-61), 3) := by decide +kernel
theorem d_X9_pair_122 : decode cX9_pair 122 = .ok (.iinc 5 1, 3) := by decide +kernel
theorem d_X9_pair_125 : decode cX9_pair 125 = .ok (.goto (-80), 3) := by decide +kernel
theorem d_X9_pair_128 : decode cX9_pair 128 = .ok (.iload_n 2, 1) := by decide +kernel
theorem d_X9_pair_129 : decode cX9_pair 129 = .ok (.iconst 2, 1) := by decide +kernel
theorem d_X9_pair_130 : decode cX9_pair 130 = .ok (.if_icmp .eq 14, 3) := by decide +kernel
theorem d_X9_pair_133 : decode cX9_pair 133 = .ok (.aload_n 0, 1) := by decide +kernel
theorem d_X9_pair_134 : decode cX9_pair 134 = .ok (.getfield 51, 3) := by decide +kernel
theorem d_X9_pair_137 : decode cX9_pair 137 = .ok (.getfield 320, 3) := by decide +kernel
theorem d_X9_pair_140 : decode cX9_pair 140 = .ok (.iconst (-1), 1) := by decide +kernel
theorem d_X9_pair_141 : decode cX9_pair 141 = .ok (.if_icmp .ne 11, 3) := by decide +kernel
theorem d_X9_pair_144 : decode cX9_pair 144 = .ok (.aload_n 0, 1) := by decide +kernel
theorem d_X9_pair_145 : decode cX9_pair 145 = .ok (.getfield 51, 3) := by decide +kernel
theorem d_X9_pair_148 : decode cX9_pair 148 = .ok (.getfield 323, 3) := by decide +kernel
theorem d_X9_pair_151 : decode cX9_pair 151 = .ok (.ireturn, 1) := by decide +kernel
theorem d_X9_pair_152 : decode cX9_pair 152 = .ok (.iload_n 2, 1) := by decide +kernel
theorem d_X9_pair_153 : decode cX9_pair 153 = .ok (.ifCond .ne 16, 3) := by decide +kernel
theorem d_X9_pair_156 : decode cX9_pair 156 = .ok (.aload_n 0, 1) := by decide +kernel
theorem d_X9_pair_157 : decode cX9_pair 157 = .ok (.getfield 51, 3) := by decide +kernel
theorem d_X9_pair_160 : decode cX9_pair 160 = .ok (.getfield 320, 3) := by decide +kernel
theorem d_X9_pair_163 : decode cX9_pair 163 = .ok (.bipush 64, 2) := by decide +kernel
theorem d_X9_pair_165 : decode cX9_pair 165 = .ok (.idiv, 1) := by decide +kernel
theorem d_X9_pair_166 : decode cX9_pair 166 = .ok (.goto 13, 3) := by decide +kernel
theorem d_X9_pair_169 : decode cX9_pair 169 = .ok (.aload_n 0, 1) := by decide +kernel
theorem d_X9_pair_170 : decode cX9_pair 170 = .ok (.getfield 51, 3) := by decide +kernel
theorem d_X9_pair_173 : decode cX9_pair 173 = .ok (.getfield 320, 3) := by decide +kernel
theorem d_X9_pair_176 : decode cX9_pair 176 = .ok (.bipush 64, 2) := by decide +kernel
theorem d_X9_pair_178 : decode cX9_pair 178 = .ok (.irem, 1) := by decide +kernel
theorem d_X9_pair_179 : decode cX9_pair 179 = .ok (.invokestatic 339, 3) := by decide +kernel
theorem d_X9_pair_182 : decode cX9_pair 182 = .ok (.ireturn, 1) := by decide +kernel
noncomputable def F_X9_pair_179 (p0 : Int32) (p1 : Int32) (b179_S0 : Int32) (M : zMem) : Option (Nat × Int32 × zMem) :=
  zb (F_X9_tellPlace M b179_S0) fun v2 M1 =>
  some (0, v2, M1)
noncomputable def F_X9_pair_144 (p0 : Int32) (p1 : Int32) (M : zMem) : Option (Nat × Int32 × zMem) :=
  some (0, (M.1 172 1), M)
noncomputable def F_X9_pair_122 (p0 : Int32) (p1 : Int32) (self45 : Int32 → Int64 → Int32 → zMem → Option (Nat × Int32 × zMem)) (b122_L2 : Int32) (b122_L3 : Int64) (b122_L5 : Int32) (M : zMem) : Option (Nat × Int32 × zMem) :=
  self45 b122_L2 b122_L3 (b122_L5 + 1) M
noncomputable def F_X9_pair_116 (p0 : Int32) (p1 : Int32) (self45 : Int32 → Int64 → Int32 → zMem → Option (Nat × Int32 × zMem)) (self58 : Int32 → Int64 → Int32 → Int32 → zMem → Option (Nat × Int32 × zMem)) (b116_L2 : Int32) (b116_L3 : Int64) (b116_L5 : Int32) (b116_L6 : Int32) (M : zMem) : Option (Nat × Int32 × zMem) :=
  self58 b116_L2 b116_L3 b116_L5 (b116_L6 + 1) M
noncomputable def F_X9_pair_58 (p0 : Int32) (p1 : Int32) (self45 : Int32 → Int64 → Int32 → zMem → Option (Nat × Int32 × zMem)) (self58 : Int32 → Int64 → Int32 → Int32 → zMem → Option (Nat × Int32 × zMem)) (b58_L2 : Int32) (b58_L3 : Int64) (b58_L5 : Int32) (b58_L6 : Int32) (M : zMem) : Option (Nat × Int32 × zMem) :=
  if (64 : Int32) ≤ b58_L6 then
    F_X9_pair_122 p0 p1 self45 b58_L2 b58_L3 b58_L5 M
  else
    zb (F_X9_has M b58_L3 b58_L5) fun v4 M3 =>
    if v4 = 0 then
      F_X9_pair_122 p0 p1 self45 b58_L2 b58_L3 b58_L5 M3
    else
      zb (F_X9_has M3 b58_L3 b58_L6) fun v6 M5 =>
      if v6 = 0 then
        F_X9_pair_116 p0 p1 self45 self58 b58_L2 b58_L3 b58_L5 b58_L6 M5
      else
        gd (shX (M5.2.2 0 8) == 6) <|
        zb (F_X6_together M5 104 b58_L5 b58_L6 (M5.1 (M5.2.2 0 8) 2)) fun v9 M8 =>
        zbv (F_X0_offerLeast M8 172 ((b58_L5 * (64 : Int32)) + b58_L6) v9) fun M10 =>
        F_X9_pair_116 p0 p1 self45 self58 b58_L2 b58_L3 b58_L5 b58_L6 M10
noncomputable def F_X9_pair_45 (p0 : Int32) (p1 : Int32) (self45 : Int32 → Int64 → Int32 → zMem → Option (Nat × Int32 × zMem)) (b45_L2 : Int32) (b45_L3 : Int64) (b45_L5 : Int32) (M : zMem) : Option (Nat × Int32 × zMem) :=
  if (64 : Int32) ≤ b45_L5 then
    if b45_L2 = (2 : Int32) then
      F_X9_pair_144 p0 p1 M
    else
      if (M.1 172 0) = (-1 : Int32) then
        F_X9_pair_144 p0 p1 M
      else
        if b45_L2 = 0 then
          F_X9_pair_179 p0 p1 ((M.1 172 0) / (64 : Int32)) M
        else
          F_X9_pair_179 p0 p1 ((M.1 172 0) - (M.1 172 0) / (64 : Int32) * (64 : Int32)) M
  else
    zl (b45_L5 + (1 : Int32)) fun v11 =>
    itF (fun _ _ _ _ _ => none) (F_X9_pair_58 p0 p1 self45) zFuel b45_L2 b45_L3 b45_L5 v11 M
noncomputable def F_X9_pair_26 (p0 : Int32) (p1 : Int32) (b26_L1 : Int32) (b26_L2 : Int32) (b26_S1 : Int32) (M : zMem) : Option (Nat × Int32 × zMem) :=
  zbx (F_X9_need M b26_S1) (g := zxp) fun _ M12 =>
  zb (F_X9_layEverywhere M12 b26_L1) fun v18 M17 =>
  zbv (F_X0_clear M17 172) fun M19 =>
  itF (fun _ _ _ _ => none) (F_X9_pair_45 p0 p1) zFuel b26_L2 v18 (0 : Int32) M19
noncomputable def F_X9_pair_25 (p0 : Int32) (p1 : Int32) (b25_L1 : Int32) (b25_L2 : Int32) (M : zMem) : Option (Nat × Int32 × zMem) :=
  F_X9_pair_26 p0 p1 b25_L1 b25_L2 (0 : Int32) M
noncomputable def F_X9_pair (M : zMem) (p0 : Int32) (p1 : Int32) : Option (Nat × Int32 × zMem) :=
  zb (F_X9_within M p0 (1 : Int32) (999 : Int32)) fun v21 M20 =>
  if v21 = 0 then
    F_X9_pair_25 p0 p1 p0 p1 M20
  else
    zb (F_X9_within M20 p1 (0 : Int32) (2 : Int32)) fun v23 M22 =>
    if v23 = 0 then
      F_X9_pair_25 p0 p1 p0 p1 M22
    else
      F_X9_pair_26 p0 p1 p0 p1 (1 : Int32) M22
def rm_X9_pair : Room := { frames := 10, cells := 1, slots := 6, locals := 186 }
set_option maxHeartbeats 4000000 in
set_option maxRecDepth 100000 in
theorem c_X9_pair (l : Launch) {G : zG} {ad : Nat → Nat} {n : Nat} (hA : zInj ad n) (M : zMem) (p0 : Int32) (p1 : Int32) (hl : l.stackTraces = false) (hT : zT shX n 0 10) {k9 : Nat} {r9 : Int32} {M9 : zMem} (hF : F_X9_pair M p0 p1 = some (k9, r9, M9)) : zMX l yX9_pair cX9_pair 7 (some .int) rm_X9_pair 1 6 G shX ad n M [.ref (ad 0), .int p0, .int p1] k9 (some (.int r9)) M9 := by
  refine zM_ofX hA (by decide +kernel) (lv := [(0, .ref (ad 0)), (1, .int p0), (2, .int p1)]) (Nat.le_of_ble_eq_true rfl) rfl (fun p e s m args below meth c A cx hr ht => ?_)
  have hb179 : ∀ (b179_S0 : Int32) (M : zMem), F_X9_pair_179 p0 p1 b179_S0 M = some (k9, r9, M9) → zJ p l e rm_X9_pair s m args below meth c G shX ad n A 7 (vx_MQ below (zQX G shX ad n M9 k9 (some (.int r9)) A) (zXC G shX ad n M9 k9 A) args s 1 6 A) 1 6 M 179 [] [.int b179_S0] := by
    intro b179_S0 M hF
    unfold F_X9_pair_179 at hF
    obtain ⟨v2, M1, hc, hF⟩ := zb_inv hF
    refine z_callS cx (As := [.int b179_S0]) (rest := []) (c_X9_tellPlace l cx.2.2.2.1.1 M b179_S0  hc) cs_SunnyPans_339 ⟨rfl, rfl, Nat.le_of_ble_eq_true rfl, Nat.le_of_ble_eq_true rfl⟩ rfl rfl ⟨Nat.le_of_ble_eq_true rfl, Nat.le_of_ble_eq_true rfl⟩ (Nat.le_of_ble_eq_true rfl) d_X9_pair_179 ?_
    exact z_iretX cx hr rfl hF ⟨Nat.le_of_ble_eq_true rfl, Nat.le_of_ble_eq_true rfl⟩ d_X9_pair_182
  have hb144 : ∀ (M : zMem), F_X9_pair_144 p0 p1 M = some (k9, r9, M9) → zJ p l e rm_X9_pair s m args below meth c G shX ad n A 7 (vx_MQ below (zQX G shX ad n M9 k9 (some (.int r9)) A) (zXC G shX ad n M9 k9 A) args s 1 6 A) 1 6 M 144 [(0, .ref (ad 0))] [] := by
    intro M hF
    unfold F_X9_pair_144 at hF
    refine z_aload_n cx d_X9_pair_144 0 rfl ?_
    refine z_getR cx hT fg_SunnyPans_51 172 rfl d_X9_pair_145 ?_
    refine z_getI cx (tfX_10_172 hT) fg_SunnyPans_323 d_X9_pair_148 ?_
    exact z_iretX cx hr rfl hF ⟨Nat.le_of_ble_eq_true rfl, Nat.le_of_ble_eq_true rfl⟩ d_X9_pair_151
  have hb122 : ∀ (self45 : Int32 → Int64 → Int32 → zMem → Option (Nat × Int32 × zMem)) (hs45 : ∀ (b45_L2 : Int32) (b45_L3 : Int64) (b45_L5 : Int32) (M : zMem), self45 b45_L2 b45_L3 b45_L5 M = some (k9, r9, M9) → zJ p l e rm_X9_pair s m args below meth c G shX ad n A 7 (vx_MQ below (zQX G shX ad n M9 k9 (some (.int r9)) A) (zXC G shX ad n M9 k9 A) args s 1 6 A) 1 6 M 45 [(0, .ref (ad 0)), (2, .int b45_L2), (3, .long b45_L3), (5, .int b45_L5)] []), ∀ (b122_L2 : Int32) (b122_L3 : Int64) (b122_L5 : Int32) (M : zMem), F_X9_pair_122 p0 p1 self45 b122_L2 b122_L3 b122_L5 M = some (k9, r9, M9) → zJ p l e rm_X9_pair s m args below meth c G shX ad n A 7 (vx_MQ below (zQX G shX ad n M9 k9 (some (.int r9)) A) (zXC G shX ad n M9 k9 A) args s 1 6 A) 1 6 M 122 [(0, .ref (ad 0)), (2, .int b122_L2), (3, .long b122_L3), (5, .int b122_L5)] [] := by
    intro self45 hs45 b122_L2 b122_L3 b122_L5 M hF
    unfold F_X9_pair_122 at hF
    refine z_iinc cx 5 1 [(5, .int (b122_L5 + 1)), (0, .ref (ad 0)), (2, .int b122_L2), (3, .long b122_L3)] d_X9_pair_122 3 rfl ki_1 (by decide) rfl ?_
    refine z_goto cx 45 d_X9_pair_125 (by decide) ?_
    exact z_lv [1, 2, 3, 0] _ rfl (hs45 b122_L2 b122_L3 (b122_L5 + 1) M hF)
  have hb116 : ∀ (self45 : Int32 → Int64 → Int32 → zMem → Option (Nat × Int32 × zMem)) (hs45 : ∀ (b45_L2 : Int32) (b45_L3 : Int64) (b45_L5 : Int32) (M : zMem), self45 b45_L2 b45_L3 b45_L5 M = some (k9, r9, M9) → zJ p l e rm_X9_pair s m args below meth c G shX ad n A 7 (vx_MQ below (zQX G shX ad n M9 k9 (some (.int r9)) A) (zXC G shX ad n M9 k9 A) args s 1 6 A) 1 6 M 45 [(0, .ref (ad 0)), (2, .int b45_L2), (3, .long b45_L3), (5, .int b45_L5)] []) (self58 : Int32 → Int64 → Int32 → Int32 → zMem → Option (Nat × Int32 × zMem)) (hs58 : ∀ (b58_L2 : Int32) (b58_L3 : Int64) (b58_L5 : Int32) (b58_L6 : Int32) (M : zMem), self58 b58_L2 b58_L3 b58_L5 b58_L6 M = some (k9, r9, M9) → zJ p l e rm_X9_pair s m args below meth c G shX ad n A 7 (vx_MQ below (zQX G shX ad n M9 k9 (some (.int r9)) A) (zXC G shX ad n M9 k9 A) args s 1 6 A) 1 6 M 58 [(0, .ref (ad 0)), (2, .int b58_L2), (3, .long b58_L3), (5, .int b58_L5), (6, .int b58_L6)] []), ∀ (b116_L2 : Int32) (b116_L3 : Int64) (b116_L5 : Int32) (b116_L6 : Int32) (M : zMem), F_X9_pair_116 p0 p1 self45 self58 b116_L2 b116_L3 b116_L5 b116_L6 M = some (k9, r9, M9) → zJ p l e rm_X9_pair s m args below meth c G shX ad n A 7 (vx_MQ below (zQX G shX ad n M9 k9 (some (.int r9)) A) (zXC G shX ad n M9 k9 A) args s 1 6 A) 1 6 M 116 [(0, .ref (ad 0)), (2, .int b116_L2), (3, .long b116_L3), (5, .int b116_L5), (6, .int b116_L6)] [] := by
    intro self45 hs45 self58 hs58 b116_L2 b116_L3 b116_L5 b116_L6 M hF
    unfold F_X9_pair_116 at hF
    refine z_iinc cx 6 1 [(6, .int (b116_L6 + 1)), (0, .ref (ad 0)), (2, .int b116_L2), (3, .long b116_L3), (5, .int b116_L5)] d_X9_pair_116 4 rfl ki_1 (by decide) rfl ?_
    refine z_goto cx 58 d_X9_pair_119 (by decide) ?_
    exact z_lv [1, 2, 3, 4, 0] _ rfl (hs58 b116_L2 b116_L3 b116_L5 (b116_L6 + 1) M hF)
  have hL58 : ∀ (self45 : Int32 → Int64 → Int32 → zMem → Option (Nat × Int32 × zMem)) (hs45 : ∀ (b45_L2 : Int32) (b45_L3 : Int64) (b45_L5 : Int32) (M : zMem), self45 b45_L2 b45_L3 b45_L5 M = some (k9, r9, M9) → zJ p l e rm_X9_pair s m args below meth c G shX ad n A 7 (vx_MQ below (zQX G shX ad n M9 k9 (some (.int r9)) A) (zXC G shX ad n M9 k9 A) args s 1 6 A) 1 6 M 45 [(0, .ref (ad 0)), (2, .int b45_L2), (3, .long b45_L3), (5, .int b45_L5)] []) (fuel : Nat), ∀ (b58_L2 : Int32) (b58_L3 : Int64) (b58_L5 : Int32) (b58_L6 : Int32) (M : zMem), itF (fun _ _ _ _ _ => none) (F_X9_pair_58 p0 p1 self45) fuel b58_L2 b58_L3 b58_L5 b58_L6 M = some (k9, r9, M9) → zJ p l e rm_X9_pair s m args below meth c G shX ad n A 7 (vx_MQ below (zQX G shX ad n M9 k9 (some (.int r9)) A) (zXC G shX ad n M9 k9 A) args s 1 6 A) 1 6 M 58 [(0, .ref (ad 0)), (2, .int b58_L2), (3, .long b58_L3), (5, .int b58_L5), (6, .int b58_L6)] [] := by
    intro self45 hs45 fuel
    induction fuel with
    | zero => intro b58_L2 b58_L3 b58_L5 b58_L6 M hF; cases hF
    | succ fuel hs58 =>
      intro b58_L2 b58_L3 b58_L5 b58_L6 M hF
      have hF : F_X9_pair_58 p0 p1 self45 (itF (fun _ _ _ _ _ => none) (F_X9_pair_58 p0 p1 self45) fuel) b58_L2 b58_L3 b58_L5 b58_L6 M = some (k9, r9, M9) := hF
      generalize itF (fun _ _ _ _ _ => none) (F_X9_pair_58 p0 p1 self45) fuel = self58 at hs58 hF
      unfold F_X9_pair_58 at hF
      refine z_iload cx d_X9_pair_58 4 rfl ?_
      refine z_bipush (v := 64) cx d_X9_pair_60 kb_64 ?_
      refine z_icmp_ge cx 122 d_X9_pair_62 (by decide) hF (fun hF => ?_) (fun hF => ?_)
      · exact z_lv [0, 1, 2, 3] _ rfl (hb122 self45 hs45 b58_L2 b58_L3 b58_L5 M hF)
      refine z_lload_n cx d_X9_pair_65 2 rfl ?_
      refine z_iload cx d_X9_pair_66 3 rfl ?_
      obtain ⟨v4, M3, hc, hF⟩ := zb_inv hF
      refine z_callS cx (As := [.long b58_L3, .int b58_L5]) (rest := []) (c_X9_has l cx.2.2.2.1.1 M b58_L3 b58_L5  hc) cs_SunnyPans_231 ⟨rfl, rfl, Nat.le_of_ble_eq_true rfl, Nat.le_of_ble_eq_true rfl⟩ rfl rfl ⟨Nat.le_of_ble_eq_true rfl, Nat.le_of_ble_eq_true rfl⟩ (Nat.le_of_ble_eq_true rfl) d_X9_pair_68 ?_
      refine z_if_eq cx 122 d_X9_pair_71 (by decide) hF (fun hF => ?_) (fun hF => ?_)
      · exact z_lv [0, 1, 2, 3] _ rfl (hb122 self45 hs45 b58_L2 b58_L3 b58_L5 M3 hF)
      refine z_lload_n cx d_X9_pair_74 2 rfl ?_
      refine z_iload cx d_X9_pair_75 4 rfl ?_
      obtain ⟨v6, M5, hc, hF⟩ := zb_inv hF
      refine z_callS cx (As := [.long b58_L3, .int b58_L6]) (rest := []) (c_X9_has l cx.2.2.2.1.1 M3 b58_L3 b58_L6  hc) cs_SunnyPans_231 ⟨rfl, rfl, Nat.le_of_ble_eq_true rfl, Nat.le_of_ble_eq_true rfl⟩ rfl rfl ⟨Nat.le_of_ble_eq_true rfl, Nat.le_of_ble_eq_true rfl⟩ (Nat.le_of_ble_eq_true rfl) d_X9_pair_77 ?_
      refine z_if_eq cx 116 d_X9_pair_80 (by decide) hF (fun hF => ?_) (fun hF => ?_)
      · exact hb116 self45 hs45 self58 hs58 b58_L2 b58_L3 b58_L5 b58_L6 M5 hF
      refine z_aload_n cx d_X9_pair_83 0 rfl ?_
      refine z_getR cx hT fg_SunnyPans_51 172 rfl d_X9_pair_84 ?_
      refine z_iload cx d_X9_pair_87 3 rfl ?_
      refine z_bipush (v := 64) cx d_X9_pair_89 kb_64 ?_
      refine z_imul cx d_X9_pair_91 ?_
      refine z_iload cx d_X9_pair_92 4 rfl ?_
      refine z_iadd cx d_X9_pair_94 ?_
      refine z_aload_n cx d_X9_pair_95 0 rfl ?_
      refine z_getR cx hT fg_SunnyPans_44 104 rfl d_X9_pair_96 ?_
      refine z_iload cx d_X9_pair_99 3 rfl ?_
      refine z_iload cx d_X9_pair_101 4 rfl ?_
      refine z_aload_n cx d_X9_pair_103 0 rfl ?_
      obtain ⟨hg7, hF⟩ := gd_inv hF
      refine z_getD cx hT fg_SunnyPans_62 d_X9_pair_104 ?_
      refine z_getI cx (td_6 hT hg7) fg_SunnyPans_127 d_X9_pair_107 ?_
      obtain ⟨v9, M8, hc, hF⟩ := zb_inv hF
      refine z_callV cx (As := [.int b58_L5, .int b58_L6, .int (M5.1 (M5.2.2 0 8) 2)]) (rest := [.int ((b58_L5 * (64 : Int32)) + b58_L6), .ref (ad 172)]) (c_X6_together l cx.2.2.2.1.1 M5 104 b58_L5 b58_L6 (M5.1 (M5.2.2 0 8) 2) (tfX_10_104 hT) hc) (tfX_10_104 hT) zo_7 cv_SunnyPans_336 ⟨rfl, rfl, Nat.le_of_ble_eq_true rfl, Nat.le_of_ble_eq_true rfl⟩ rfl rfl ⟨Nat.le_of_ble_eq_true rfl, Nat.le_of_ble_eq_true rfl⟩ (Nat.le_of_ble_eq_true rfl) d_X9_pair_110 ?_
      obtain ⟨M10, hc, hF⟩ := zbv_inv hF
      refine z_callV cx (As := [.int ((b58_L5 * (64 : Int32)) + b58_L6), .int v9]) (rest := []) (c_X0_offerLeast l cx.2.2.2.1.1 M8 172 ((b58_L5 * (64 : Int32)) + b58_L6) v9 (tfX_10_172 hT) hc) (tfX_10_172 hT) zo_1 cv_SunnyPans_279 ⟨rfl, rfl, Nat.le_of_ble_eq_true rfl, Nat.le_of_ble_eq_true rfl⟩ rfl rfl ⟨Nat.le_of_ble_eq_true rfl, Nat.le_of_ble_eq_true rfl⟩ (Nat.le_of_ble_eq_true rfl) d_X9_pair_113 ?_
      exact hb116 self45 hs45 self58 hs58 b58_L2 b58_L3 b58_L5 b58_L6 M10 hF
  have hL45 : ∀ (fuel : Nat), ∀ (b45_L2 : Int32) (b45_L3 : Int64) (b45_L5 : Int32) (M : zMem), itF (fun _ _ _ _ => none) (F_X9_pair_45 p0 p1) fuel b45_L2 b45_L3 b45_L5 M = some (k9, r9, M9) → zJ p l e rm_X9_pair s m args below meth c G shX ad n A 7 (vx_MQ below (zQX G shX ad n M9 k9 (some (.int r9)) A) (zXC G shX ad n M9 k9 A) args s 1 6 A) 1 6 M 45 [(0, .ref (ad 0)), (2, .int b45_L2), (3, .long b45_L3), (5, .int b45_L5)] [] := by
    intro fuel
    induction fuel with
    | zero => intro b45_L2 b45_L3 b45_L5 M hF; cases hF
    | succ fuel hs45 =>
      intro b45_L2 b45_L3 b45_L5 M hF
      have hF : F_X9_pair_45 p0 p1 (itF (fun _ _ _ _ => none) (F_X9_pair_45 p0 p1) fuel) b45_L2 b45_L3 b45_L5 M = some (k9, r9, M9) := hF
      generalize itF (fun _ _ _ _ => none) (F_X9_pair_45 p0 p1) fuel = self45 at hs45 hF
      unfold F_X9_pair_45 at hF
      refine z_iload cx d_X9_pair_45 3 rfl ?_
      refine z_bipush (v := 64) cx d_X9_pair_47 kb_64 ?_
      refine z_icmp_ge cx 128 d_X9_pair_49 (by decide) hF (fun hF => ?_) (fun hF => ?_)
      · refine z_iload_n cx d_X9_pair_128 1 rfl ?_
        refine z_iconst (v := 2) cx d_X9_pair_129 ki_2 ?_
        refine z_icmp_eq cx 144 d_X9_pair_130 (by decide) hF (fun hF => ?_) (fun hF => ?_)
        · exact z_lv [0] _ rfl (hb144 M hF)
        refine z_aload_n cx d_X9_pair_133 0 rfl ?_
        refine z_getR cx hT fg_SunnyPans_51 172 rfl d_X9_pair_134 ?_
        refine z_getI cx (tfX_10_172 hT) fg_SunnyPans_320 d_X9_pair_137 ?_
        refine z_iconst (v := -1) cx d_X9_pair_140 ki_m1 ?_
        refine z_icmp_ne cx 152 d_X9_pair_141 (by decide) hF (fun hF => ?_) (fun hF => ?_)
        · refine z_iload_n cx d_X9_pair_152 1 rfl ?_
          refine z_if_ne cx 169 d_X9_pair_153 (by decide) hF (fun hF => ?_) (fun hF => ?_)
          · refine z_aload_n cx d_X9_pair_169 0 rfl ?_
            refine z_getR cx hT fg_SunnyPans_51 172 rfl d_X9_pair_170 ?_
            refine z_getI cx (tfX_10_172 hT) fg_SunnyPans_320 d_X9_pair_173 ?_
            refine z_bipush (v := 64) cx d_X9_pair_176 kb_64 ?_
            refine z_irem cx d_X9_pair_178 (by decide) ?_
            exact z_lv [] _ rfl (hb179 ((M.1 172 0) - (M.1 172 0) / (64 : Int32) * (64 : Int32)) M hF)
          refine z_aload_n cx d_X9_pair_156 0 rfl ?_
          refine z_getR cx hT fg_SunnyPans_51 172 rfl d_X9_pair_157 ?_
          refine z_getI cx (tfX_10_172 hT) fg_SunnyPans_320 d_X9_pair_160 ?_
          refine z_bipush (v := 64) cx d_X9_pair_163 kb_64 ?_
          refine z_idiv cx d_X9_pair_165 (by decide) ?_
          refine z_goto cx 179 d_X9_pair_166 (by decide) ?_
          exact z_lv [] _ rfl (hb179 ((M.1 172 0) / (64 : Int32)) M hF)
        exact z_lv [0] _ rfl (hb144 M hF)
      refine z_iload cx d_X9_pair_52 3 rfl ?_
      refine z_iconst (v := 1) cx d_X9_pair_54 ki_1 ?_
      refine z_iadd cx d_X9_pair_55 ?_
      refine z_nm hF (fun v11 hF => ?_)
      refine z_istore cx 6 [(6, .int v11), (0, .ref (ad 0)), (2, .int b45_L2), (3, .long b45_L3), (5, .int b45_L5)] d_X9_pair_56 (by decide) rfl ?_
      exact z_lv [1, 2, 3, 4, 0] _ rfl (hL58 self45 hs45 zFuel b45_L2 b45_L3 b45_L5 v11 M hF)
  have hb26 : ∀ (b26_L1 : Int32) (b26_L2 : Int32) (b26_S1 : Int32) (M : zMem), F_X9_pair_26 p0 p1 b26_L1 b26_L2 b26_S1 M = some (k9, r9, M9) → zJ p l e rm_X9_pair s m args below meth c G shX ad n A 7 (vx_MQ below (zQX G shX ad n M9 k9 (some (.int r9)) A) (zXC G shX ad n M9 k9 A) args s 1 6 A) 0 0 M 26 [(0, .ref (ad 0)), (1, .int b26_L1), (2, .int b26_L2)] [.int b26_S1, .ref (ad 0)] := by
    intro b26_L1 b26_L2 b26_S1 M hF
    unfold F_X9_pair_26 at hF
    obtain ⟨k13, v14, M12, hc, hF, hX15⟩ := zbx_inv hF
    refine z_callVX cx ht (As := [.int b26_S1]) (rest := []) (c_X9_need l cx.2.2.2.1.1 M b26_S1 hl hT hc) (fun q => zxp_inv (hX15 q)) hT zo_10 cv_SunnyPans_155 ⟨rfl, rfl, Nat.le_of_ble_eq_true rfl, Nat.le_of_ble_eq_true rfl⟩ rfl rfl ⟨Nat.le_of_ble_eq_true rfl, Nat.le_of_ble_eq_true rfl⟩ ⟨Nat.le_of_ble_eq_true rfl, Nat.le_of_ble_eq_true rfl⟩ (Nat.le_of_ble_eq_true rfl) d_X9_pair_26 (fun kq16 => ?_)
    have hF := hF kq16
    refine z_aload_n cx d_X9_pair_29 0 rfl ?_
    refine z_iload_n cx d_X9_pair_30 1 rfl ?_
    obtain ⟨v18, M17, hc, hF⟩ := zb_inv hF
    refine z_callV cx (As := [.int b26_L1]) (rest := []) (c_X9_layEverywhere l cx.2.2.2.1.1 M12 b26_L1 hT hc) hT zo_10 cv_SunnyPans_333 ⟨rfl, rfl, Nat.le_of_ble_eq_true rfl, Nat.le_of_ble_eq_true rfl⟩ rfl rfl ⟨Nat.le_of_ble_eq_true rfl, Nat.le_of_ble_eq_true rfl⟩ (Nat.le_of_ble_eq_true rfl) d_X9_pair_31 ?_
    refine z_lstore_n cx 3 [(3, .long v18), (0, .ref (ad 0)), (1, .int b26_L1), (2, .int b26_L2)] d_X9_pair_34 rfl (by decide) rfl ?_
    refine z_aload_n cx d_X9_pair_35 1 rfl ?_
    refine z_getR cx hT fg_SunnyPans_51 172 rfl d_X9_pair_36 ?_
    obtain ⟨M19, hc, hF⟩ := zbv_inv hF
    refine z_callV cx (As := []) (rest := []) (c_X0_clear l cx.2.2.2.1.1 M17 172 (tfX_10_172 hT) hc) (tfX_10_172 hT) zo_1 cv_SunnyPans_259 ⟨rfl, rfl, Nat.le_of_ble_eq_true rfl, Nat.le_of_ble_eq_true rfl⟩ rfl rfl ⟨Nat.le_of_ble_eq_true rfl, Nat.le_of_ble_eq_true rfl⟩ (Nat.le_of_ble_eq_true rfl) d_X9_pair_39 ?_
    refine z_iconst (v := 0) cx d_X9_pair_42 ki_0 ?_
    refine z_istore cx 5 [(5, .int (0 : Int32)), (3, .long v18), (0, .ref (ad 0)), (1, .int b26_L1), (2, .int b26_L2)] d_X9_pair_43 (by decide) rfl ?_
    exact z_lv [2, 4, 1, 0] _ rfl (hL45 zFuel b26_L2 v18 (0 : Int32) M19 hF)
  have hb25 : ∀ (b25_L1 : Int32) (b25_L2 : Int32) (M : zMem), F_X9_pair_25 p0 p1 b25_L1 b25_L2 M = some (k9, r9, M9) → zJ p l e rm_X9_pair s m args below meth c G shX ad n A 7 (vx_MQ below (zQX G shX ad n M9 k9 (some (.int r9)) A) (zXC G shX ad n M9 k9 A) args s 1 6 A) 0 0 M 25 [(0, .ref (ad 0)), (1, .int b25_L1), (2, .int b25_L2)] [.ref (ad 0)] := by
    intro b25_L1 b25_L2 M hF
    unfold F_X9_pair_25 at hF
    refine z_iconst (v := 0) cx d_X9_pair_25 ki_0 ?_
    exact hb26 b25_L1 b25_L2 (0 : Int32) M hF
  unfold F_X9_pair at hF
  refine z_aload_n cx d_X9_pair_0 0 rfl ?_
  refine z_iload_n cx d_X9_pair_1 1 rfl ?_
  refine z_iconst (v := 1) cx d_X9_pair_2 ki_1 ?_
  refine z_sipush (v := 999) cx d_X9_pair_3 ks_999 ?_
  obtain ⟨v21, M20, hc, hF⟩ := zb_inv hF
  refine z_callS cx (As := [.int p0, .int (1 : Int32), .int (999 : Int32)]) (rest := [.ref (ad 0)]) (c_X9_within l cx.2.2.2.1.1 M p0 (1 : Int32) (999 : Int32)  hc) cs_SunnyPans_255 ⟨rfl, rfl, Nat.le_of_ble_eq_true rfl, Nat.le_of_ble_eq_true rfl⟩ rfl rfl ⟨Nat.le_of_ble_eq_true rfl, Nat.le_of_ble_eq_true rfl⟩ (Nat.le_of_ble_eq_true rfl) d_X9_pair_6 ?_
  refine z_if_eq cx 25 d_X9_pair_9 (by decide) hF (fun hF => ?_) (fun hF => ?_)
  · exact hb25 p0 p1 M20 hF
  refine z_iload_n cx d_X9_pair_12 2 rfl ?_
  refine z_iconst (v := 0) cx d_X9_pair_13 ki_0 ?_
  refine z_iconst (v := 2) cx d_X9_pair_14 ki_2 ?_
  obtain ⟨v23, M22, hc, hF⟩ := zb_inv hF
  refine z_callS cx (As := [.int p1, .int (0 : Int32), .int (2 : Int32)]) (rest := [.ref (ad 0)]) (c_X9_within l cx.2.2.2.1.1 M20 p1 (0 : Int32) (2 : Int32)  hc) cs_SunnyPans_255 ⟨rfl, rfl, Nat.le_of_ble_eq_true rfl, Nat.le_of_ble_eq_true rfl⟩ rfl rfl ⟨Nat.le_of_ble_eq_true rfl, Nat.le_of_ble_eq_true rfl⟩ (Nat.le_of_ble_eq_true rfl) d_X9_pair_15 ?_
  refine z_if_eq cx 25 d_X9_pair_18 (by decide) hF (fun hF => ?_) (fun hF => ?_)
  · exact hb25 p0 p1 M22 hF
  refine z_iconst (v := 1) cx d_X9_pair_21 ki_1 ?_
  refine z_goto cx 26 d_X9_pair_22 (by decide) ?_
  exact hb26 p0 p1 (1 : Int32) M22 hF
