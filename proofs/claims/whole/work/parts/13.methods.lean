/-! SunnyPans.undo -/
set_option maxRecDepth 100000 in
theorem wd_486 : Cond.code yX7_takeBack cX7_takeBack 2 (some .boolean) ∈ tbG := tw2 146 rfl rfl
set_option maxRecDepth 100000 in
theorem wd_483 : Cond.methodLink "SunnyPans" 151 yX7_takeBack ∈ tbG := tw2 143 rfl rfl
set_option maxRecDepth 100000 in
theorem wd_484 : Cond.instanceMethod yX7_takeBack ∈ tbG := tw2 144 rfl rfl
set_option maxRecDepth 100000 in
theorem wd_485 : Cond.selects "SunnyPans$Stand" yX7_takeBack yX7_takeBack ∈ tbG := tw2 145 rfl rfl
theorem cv_SunnyPans_151 : zCV "SunnyPans" 151 "SunnyPans$Stand" yX7_takeBack cX7_takeBack 2 (some .boolean) 0 := zCV_of wd_483 wd_484 wd_485 wd_103 wd_486 (by decide +kernel)
theorem d_X9_undo_0 : decode cX9_undo 0 = .ok (.aload_n 0, 1) := by decide +kernel
theorem d_X9_undo_1 : decode cX9_undo 1 = .ok (.getfield 19, 3) := by decide +kernel
theorem d_X9_undo_4 : decode cX9_undo 4 = .ok (.invokevirtual 151, 3) := by decide +kernel
theorem d_X9_undo_7 : decode cX9_undo 7 = .ok (.ifCond .ne 5, 3) := by decide +kernel
theorem d_X9_undo_10 : decode cX9_undo 10 = .ok (.iconst (-1), 1) := by decide +kernel
theorem d_X9_undo_11 : decode cX9_undo 11 = .ok (.ireturn, 1) := by decide +kernel
theorem d_X9_undo_12 : decode cX9_undo 12 = .ok (.aload_n 0, 1) := by decide +kernel
theorem d_X9_undo_13 : decode cX9_undo 13 = .ok (.iconst 0, 1) := by decide +kernel
theorem d_X9_undo_14 : decode cX9_undo 14 = .ok (.putfield 124, 3) := by decide +kernel
theorem d_X9_undo_17 : decode cX9_undo 17 = .ok (.aload_n 0, 1) := by decide +kernel
theorem d_X9_undo_18 : decode cX9_undo 18 = .ok (.getfield 19, 3) := by decide +kernel
theorem d_X9_undo_21 : decode cX9_undo 21 = .ok (.getfield 131, 3) := by decide +kernel
theorem d_X9_undo_24 : decode cX9_undo 24 = .ok (.ireturn, 1) := by decide +kernel
noncomputable def F_X9_undo (M : zMem)  : Option (Int32 × zMem) :=
  zb (F_X7_takeBack M 3) fun v2 M1 =>
  if v2 = 0 then
    some ((-1 : Int32), M1)
  else
    zl (zI M1 0 15 (0 : Int32)) fun M3 =>
    some ((M3.1 3 1), M3)
def rm_X9_undo : Room := { frames := 4, cells := 0, slots := 0, locals := 122 }
set_option maxHeartbeats 4000000 in
set_option maxRecDepth 100000 in
theorem c_X9_undo (l : Launch) {G : zG} {ad : Nat → Nat} {n : Nat} (hA : zInj ad n) (M : zMem)  (hT : zT shX n 0 10) {r9 : Int32} {M9 : zMem} (hF : F_X9_undo M  = some (r9, M9)) : zM l yX9_undo cX9_undo 1 (some .int) rm_X9_undo G shX ad n M [.ref (ad 0)] (some (.int r9)) M9 := by
  refine zM_of hA (by decide +kernel) (lv := [(0, .ref (ad 0))]) (Nat.le_of_ble_eq_true rfl) rfl (fun p e s m args below meth c A cx hr => ?_)
  unfold F_X9_undo at hF
  refine z_aload_n cx d_X9_undo_0 0 rfl ?_
  refine z_getR cx hT fg_SunnyPans_19 3 rfl d_X9_undo_1 ?_
  obtain ⟨v2, M1, hc, hF⟩ := zb_inv hF
  refine z_callV cx (As := []) (rest := []) (c_X7_takeBack l cx.2.2.2.1.1 M 3 (tfX_10_3 hT) hc) (tfX_10_3 hT) zo_8 cv_SunnyPans_151 ⟨rfl, rfl, Nat.le_of_ble_eq_true rfl, Nat.le_of_ble_eq_true rfl⟩ rfl rfl ⟨Nat.zero_le _, Nat.zero_le _⟩ (Nat.le_of_ble_eq_true rfl) d_X9_undo_4 ?_
  refine z_if_ne cx 12 d_X9_undo_7 (by decide) hF (fun hF => ?_) (fun hF => ?_)
  · refine z_aload_n cx d_X9_undo_12 0 rfl ?_
    refine z_iconst (v := 0) cx d_X9_undo_13 ki_0 ?_
    refine z_putI cx hT fp_SunnyPans_124 d_X9_undo_14 ?_
    refine z_nmM hF (fun M3 hF => ?_)
    refine z_aload_n cx d_X9_undo_17 0 rfl ?_
    refine z_getR cx hT fg_SunnyPans_19 3 rfl d_X9_undo_18 ?_
    refine z_getI cx (tfX_10_3 hT) fg_SunnyPans_131 d_X9_undo_21 ?_
    exact z_iret cx hr rfl hF d_X9_undo_24
  refine z_iconst (v := -1) cx d_X9_undo_10 ki_m1 ?_
  exact z_iret cx hr rfl hF d_X9_undo_11
/-! SunnyPans.sumOf -/
theorem d_X9_sumOf_0 : decode cX9_sumOf 0 = .ok (.iconst 0, 1) := by decide +kernel
theorem d_X9_sumOf_1 : decode cX9_sumOf 1 = .ok (.istore_n 1, 1) := by decide +kernel
theorem d_X9_sumOf_2 : decode cX9_sumOf 2 = .ok (.iconst 0, 1) := by decide +kernel
theorem d_X9_sumOf_3 : decode cX9_sumOf 3 = .ok (.istore_n 2, 1) := by decide +kernel
theorem d_X9_sumOf_4 : decode cX9_sumOf 4 = .ok (.iload_n 2, 1) := by decide +kernel
theorem d_X9_sumOf_5 : decode cX9_sumOf 5 = .ok (.aload_n 0, 1) := by decide +kernel
theorem d_X9_sumOf_6 : decode cX9_sumOf 6 = .ok (.arraylength, 1) := by decide +kernel
theorem d_X9_sumOf_7 : decode cX9_sumOf 7 = .ok (.if_icmp .ge 15, 3) := by decide +kernel
theorem d_X9_sumOf_10 : decode cX9_sumOf 10 = .ok (.iload_n 1, 1) := by decide +kernel
theorem d_X9_sumOf_11 : decode cX9_sumOf 11 = .ok (.aload_n 0, 1) := by decide +kernel
theorem d_X9_sumOf_12 : decode cX9_sumOf 12 = .ok (.iload_n 2, 1) := by decide +kernel
theorem d_X9_sumOf_13 : decode cX9_sumOf 13 = .ok (.iaload, 1) := by decide +kernel
theorem d_X9_sumOf_14 : decode cX9_sumOf 14 = .ok (.iadd, 1) := by decide +kernel
theorem d_X9_sumOf_15 : decode cX9_sumOf 15 = .ok (.istore_n 1, 1) := by decide +kernel
theorem d_X9_sumOf_16 : decode cX9_sumOf 16 = .ok (.iinc 2 1, 3) := by decide +kernel
theorem d_X9_sumOf_19 : decode cX9_sumOf 19 = .ok (.goto (-15), 3) := by decide +kernel
theorem d_X9_sumOf_22 : decode cX9_sumOf 22 = .ok (.iload_n 1, 1) := by decide +kernel
theorem d_X9_sumOf_23 : decode cX9_sumOf 23 = .ok (.ireturn, 1) := by decide +kernel
noncomputable def F_X9_sumOf_4 (p0 : Nat) (self4 : Int32 → Int32 → zMem → Option (Int32 × zMem)) (b4_L1 : Int32) (b4_L2 : Int32) (M : zMem) : Option (Int32 × zMem) :=
  if (nI 64) ≤ b4_L2 then
    some (b4_L1, M)
  else
    gin b4_L2 64 <|
    zl (b4_L1 + (M.1 p0 b4_L2.toNatClampNeg)) fun v2 =>
    self4 v2 (b4_L2 + 1) M
noncomputable def F_X9_sumOf (M : zMem) (p0 : Nat) : Option (Int32 × zMem) :=
  itF (fun _ _ _ => none) (F_X9_sumOf_4 p0) zFuel (0 : Int32) (0 : Int32) M
def rm_X9_sumOf : Room := { frames := 2, cells := 0, slots := 0, locals := 80 }
set_option maxHeartbeats 4000000 in
set_option maxRecDepth 100000 in
theorem c_X9_sumOf (l : Launch) {G : zG} {ad : Nat → Nat} {n : Nat} (hA : zInj ad n) (M : zMem) (p0 : Nat) (hT_p0 : zT shX n p0 16) {r9 : Int32} {M9 : zMem} (hF : F_X9_sumOf M p0 = some (r9, M9)) : zM l yX9_sumOf cX9_sumOf 3 (some .int) rm_X9_sumOf G shX ad n M [.ref (ad p0)] (some (.int r9)) M9 := by
  refine zM_of hA (by decide +kernel) (lv := [(0, .ref (ad p0))]) (Nat.le_of_ble_eq_true rfl) rfl (fun p e s m args below meth c A cx hr => ?_)
  have hL4 : ∀ (fuel : Nat), ∀ (b4_L1 : Int32) (b4_L2 : Int32) (M : zMem), itF (fun _ _ _ => none) (F_X9_sumOf_4 p0) fuel b4_L1 b4_L2 M = some (r9, M9) → zJ p l e rm_X9_sumOf s m args below meth c G shX ad n A 3 (MQ below (zQ G shX ad n M9 (some (.int r9)) A) args s 0 0 A) 0 0 M 4 [(0, .ref (ad p0)), (1, .int b4_L1), (2, .int b4_L2)] [] := by
    intro fuel
    induction fuel with
    | zero => intro b4_L1 b4_L2 M hF; cases hF
    | succ fuel hs4 =>
      intro b4_L1 b4_L2 M hF
      have hF : F_X9_sumOf_4 p0 (itF (fun _ _ _ => none) (F_X9_sumOf_4 p0) fuel) b4_L1 b4_L2 M = some (r9, M9) := hF
      generalize itF (fun _ _ _ => none) (F_X9_sumOf_4 p0) fuel = self4 at hs4 hF
      unfold F_X9_sumOf_4 at hF
      refine z_iload_n cx d_X9_sumOf_4 2 rfl ?_
      refine z_aload_n cx d_X9_sumOf_5 0 rfl ?_
      refine z_alenI cx hT_p0 za_16 d_X9_sumOf_6 ?_
      refine z_icmp_ge cx 22 d_X9_sumOf_7 (by decide) hF (fun hF => ?_) (fun hF => ?_)
      · refine z_iload_n cx d_X9_sumOf_22 1 rfl ?_
        exact z_iret cx hr rfl hF d_X9_sumOf_23
      refine z_iload_n cx d_X9_sumOf_10 1 rfl ?_
      refine z_aload_n cx d_X9_sumOf_11 0 rfl ?_
      refine z_iload_n cx d_X9_sumOf_12 2 rfl ?_
      obtain ⟨hi1, hF⟩ := gin_inv hF
      refine z_iald cx hT_p0 za_16 hi1 b4_L2.toNatClampNeg rfl d_X9_sumOf_13 ?_
      refine z_iadd cx d_X9_sumOf_14 ?_
      refine z_nm hF (fun v2 hF => ?_)
      refine z_istore_n cx 1 [(1, .int v2), (0, .ref (ad p0)), (2, .int b4_L2)] d_X9_sumOf_15 rfl (by decide) rfl ?_
      refine z_iinc cx 2 1 [(2, .int (b4_L2 + 1)), (1, .int v2), (0, .ref (ad p0))] d_X9_sumOf_16 2 rfl ki_1 (by decide) rfl ?_
      refine z_goto cx 4 d_X9_sumOf_19 (by decide) ?_
      exact z_lv [2, 1, 0] _ rfl (hs4 v2 (b4_L2 + 1) M hF)
  unfold F_X9_sumOf at hF
  refine z_iconst (v := 0) cx d_X9_sumOf_0 ki_0 ?_
  refine z_istore_n cx 1 [(1, .int (0 : Int32)), (0, .ref (ad p0))] d_X9_sumOf_1 rfl (by decide) rfl ?_
  refine z_iconst (v := 0) cx d_X9_sumOf_2 ki_0 ?_
  refine z_istore_n cx 2 [(2, .int (0 : Int32)), (1, .int (0 : Int32)), (0, .ref (ad p0))] d_X9_sumOf_3 rfl (by decide) rfl ?_
  exact z_lv [2, 1, 0] _ rfl (hL4 zFuel (0 : Int32) (0 : Int32) M hF)
/-! SunnyPans.told -/
set_option maxRecDepth 100000 in
theorem wd_328 : Cond.fieldLink "SunnyPans" 200 "SunnyPans$Plan" "places" "J" ∈ tbG := tw1 228 rfl rfl
theorem fg_SunnyPans_200 : zGetL "SunnyPans" 200 5 6 3 := ⟨RX5, TX5, 9, rfl, by decide, uw_5, wd_328, fun _ _ _ _ _ _ => ⟨_, rfl, rfl⟩⟩
set_option maxRecDepth 100000 in
theorem wd_1000 : Cond.code yX4_dryPlaces cX4_dryPlaces 1 (some .long) ∈ tbG := tw4 180 rfl rfl
set_option maxRecDepth 100000 in
theorem wd_997 : Cond.methodLink "SunnyPans" 204 yX4_dryPlaces ∈ tbG := tw4 177 rfl rfl
set_option maxRecDepth 100000 in
theorem wd_998 : Cond.instanceMethod yX4_dryPlaces ∈ tbG := tw4 178 rfl rfl
set_option maxRecDepth 100000 in
theorem wd_999 : Cond.selects "SunnyPans$Pans" yX4_dryPlaces yX4_dryPlaces ∈ tbG := tw4 179 rfl rfl
theorem cv_SunnyPans_204 : zCV "SunnyPans" 204 "SunnyPans$Pans" yX4_dryPlaces cX4_dryPlaces 1 (some .long) 0 := zCV_of wd_997 wd_998 wd_999 wd_104 wd_1000 (by decide +kernel)
set_option maxRecDepth 100000 in
theorem wd_1007 : Cond.methodLink "SunnyPans" 207 yX4_saltPlaces ∈ tbG := tw4 187 rfl rfl
theorem cv_SunnyPans_207 : zCV "SunnyPans" 207 "SunnyPans$Pans" yX4_saltPlaces cX4_saltPlaces 1 (some .long) 0 := zCV_of wd_1007 wd_1008 wd_1009 wd_104 wd_1010 (by decide +kernel)
set_option maxRecDepth 100000 in
theorem wd_991 : Cond.methodLink "SunnyPans" 194 yJ13_bitCount_95d88 ∈ tbG := tw4 171 rfl rfl
theorem cs_SunnyPans_194 : zCS "SunnyPans" 194 yJ13_bitCount_95d88 cJ13_bitCount_95d88 2 (some .int) 1 := zCS_of wd_991 wd_992 wd_122 wd_993 (by decide +kernel)
set_option maxRecDepth 100000 in
theorem wd_983 : Cond.methodLink "SunnyPans" 190 yX4_heapPlaces ∈ tbG := tw4 163 rfl rfl
theorem cv_SunnyPans_190 : zCV "SunnyPans" 190 "SunnyPans$Pans" yX4_heapPlaces cX4_heapPlaces 1 (some .long) 0 := zCV_of wd_983 wd_984 wd_985 wd_104 wd_986 (by decide +kernel)
set_option maxRecDepth 100000 in
theorem wd_191 : Cond.fieldLink "SunnyPans" 187 "SunnyPans$Pans" "store" "I" ∈ tbG := tw1 91 rfl rfl
theorem fg_SunnyPans_187 : zGetI "SunnyPans" 187 4 5 3 := ⟨RX4, TX4, 7, rfl, by decide, uw_4, wd_191, fun _ _ _ _ _ _ => ⟨_, rfl, rfl⟩⟩
set_option maxRecDepth 100000 in
theorem wd_189 : Cond.fieldLink "SunnyPans" 184 "SunnyPans$Pans" "grams" "[I" ∈ tbG := tw1 89 rfl rfl
theorem fg_SunnyPans_184 : zGetR "SunnyPans" 184 4 5 2 3 := ⟨RX4, TX4, 7, rfl, by decide, uw_4, wd_189, fun _ _ _ _ _ _ => ⟨_, rfl, rfl⟩⟩
set_option maxRecDepth 100000 in
theorem wd_982 : Cond.code yX9_sumOf cX9_sumOf 3 (some .int) ∈ tbG := tw4 162 rfl rfl
set_option maxRecDepth 100000 in
theorem wd_980 : Cond.methodLink "SunnyPans" 177 yX9_sumOf ∈ tbG := tw4 160 rfl rfl
set_option maxRecDepth 100000 in
theorem wd_981 : Cond.static yX9_sumOf ∈ tbG := tw4 161 rfl rfl
theorem cs_SunnyPans_177 : zCS "SunnyPans" 177 yX9_sumOf cX9_sumOf 3 (some .int) 1 := zCS_of wd_980 wd_981 wd_101 wd_982 (by decide +kernel)
set_option maxRecDepth 100000 in
theorem wd_322 : Cond.fieldLink "SunnyPans" 165 "SunnyPans$Plan" "high" "I" ∈ tbG := tw1 222 rfl rfl
theorem fg_SunnyPans_165 : zGetI "SunnyPans" 165 5 6 1 := ⟨RX5, TX5, 9, rfl, by decide, uw_5, wd_322, fun _ _ _ _ _ _ => ⟨_, rfl, rfl⟩⟩
set_option maxRecDepth 100000 in
theorem wd_318 : Cond.fieldLink "SunnyPans" 162 "SunnyPans$Plan" "wide" "I" ∈ tbG := tw1 218 rfl rfl
theorem fg_SunnyPans_162 : zGetI "SunnyPans" 162 5 6 0 := ⟨RX5, TX5, 9, rfl, by decide, uw_5, wd_318, fun _ _ _ _ _ _ => ⟨_, rfl, rfl⟩⟩
theorem kb_12 : (Int8.ofInt (12)).toInt32 = (12 : Int32) := by decide +kernel
theorem d_X9_told_0 : decode cX9_told 0 = .ok (.aload_n 0, 1) := by decide +kernel
theorem d_X9_told_1 : decode cX9_told 1 = .ok (.iload_n 1, 1) := by decide +kernel
theorem d_X9_told_2 : decode cX9_told 2 = .ok (.ifCond .lt 13, 3) := by decide +kernel
theorem d_X9_told_5 : decode cX9_told 5 = .ok (.iload_n 1, 1) := by decide +kernel
theorem d_X9_told_6 : decode cX9_told 6 = .ok (.bipush 12, 2) := by decide +kernel
theorem d_X9_told_8 : decode cX9_told 8 = .ok (.if_icmp .gt 7, 3) := by decide +kernel
theorem d_X9_told_11 : decode cX9_told 11 = .ok (.iconst 1, 1) := by decide +kernel
theorem d_X9_told_12 : decode cX9_told 12 = .ok (.goto 4, 3) := by decide +kernel
theorem d_X9_told_15 : decode cX9_told 15 = .ok (.iconst 0, 1) := by decide +kernel
theorem d_X9_told_16 : decode cX9_told 16 = .ok (.invokevirtual 155, 3) := by decide +kernel
theorem d_X9_told_19 : decode cX9_told 19 = .ok (.aload_n 0, 1) := by decide +kernel
theorem d_X9_told_20 : decode cX9_told 20 = .ok (.getfield 19, 3) := by decide +kernel
theorem d_X9_told_23 : decode cX9_told 23 = .ok (.getfield 159, 3) := by decide +kernel
theorem d_X9_told_26 : decode cX9_told 26 = .ok (.astore_n 2, 1) := by decide +kernel
theorem d_X9_told_27 : decode cX9_told 27 = .ok (.iload_n 1, 1) := by decide +kernel
theorem d_X9_told_28 : decode cX9_told 28 = .ok (.tableswitch 162 0 11 #[64, 72, 80, 88, 93, 112, 120, 128, 136, 141, 149, 154], 64) := by decide +kernel
theorem d_X9_told_92 : decode cX9_told 92 = .ok (.aload_n 0, 1) := by decide +kernel
theorem d_X9_told_93 : decode cX9_told 93 = .ok (.getfield 62, 3) := by decide +kernel
theorem d_X9_told_96 : decode cX9_told 96 = .ok (.getfield 162, 3) := by decide +kernel
theorem d_X9_told_99 : decode cX9_told 99 = .ok (.ireturn, 1) := by decide +kernel
theorem d_X9_told_100 : decode cX9_told 100 = .ok (.aload_n 0, 1) := by decide +kernel
theorem d_X9_told_101 : decode cX9_told 101 = .ok (.getfield 62, 3) := by decide +kernel
theorem d_X9_told_104 : decode cX9_told 104 = .ok (.getfield 165, 3) := by decide +kernel
theorem d_X9_told_107 : decode cX9_told 107 = .ok (.ireturn, 1) := by decide +kernel
theorem d_X9_told_108 : decode cX9_told 108 = .ok (.aload_n 0, 1) := by decide +kernel
theorem d_X9_told_109 : decode cX9_told 109 = .ok (.getfield 62, 3) := by decide +kernel
theorem d_X9_told_112 : decode cX9_told 112 = .ok (.getfield 127, 3) := by decide +kernel
theorem d_X9_told_115 : decode cX9_told 115 = .ok (.ireturn, 1) := by decide +kernel
theorem d_X9_told_116 : decode cX9_told 116 = .ok (.aload_n 2, 1) := by decide +kernel
theorem d_X9_told_117 : decode cX9_told 117 = .ok (.getfield 168, 3) := by decide +kernel
theorem d_X9_told_120 : decode cX9_told 120 = .ok (.ireturn, 1) := by decide +kernel
theorem d_X9_told_121 : decode cX9_told 121 = .ok (.aload_n 0, 1) := by decide +kernel
theorem d_X9_told_122 : decode cX9_told 122 = .ok (.getfield 62, 3) := by decide +kernel
theorem d_X9_told_125 : decode cX9_told 125 = .ok (.getfield 127, 3) := by decide +kernel
theorem d_X9_told_128 : decode cX9_told 128 = .ok (.ifCond .ne 7, 3) := by decide +kernel
theorem d_X9_told_131 : decode cX9_told 131 = .ok (.iconst (-1), 1) := by decide +kernel
theorem d_X9_told_132 : decode cX9_told 132 = .ok (.goto 7, 3) := by decide +kernel
theorem d_X9_told_135 : decode cX9_told 135 = .ok (.aload_n 2, 1) := by decide +kernel
theorem d_X9_told_136 : decode cX9_told 136 = .ok (.getfield 171, 3) := by decide +kernel
theorem d_X9_told_139 : decode cX9_told 139 = .ok (.ireturn, 1) := by decide +kernel
theorem d_X9_told_140 : decode cX9_told 140 = .ok (.aload_n 2, 1) := by decide +kernel
theorem d_X9_told_141 : decode cX9_told 141 = .ok (.getfield 174, 3) := by decide +kernel
theorem d_X9_told_144 : decode cX9_told 144 = .ok (.invokestatic 177, 3) := by decide +kernel
theorem d_X9_told_147 : decode cX9_told 147 = .ok (.ireturn, 1) := by decide +kernel
theorem d_X9_told_148 : decode cX9_told 148 = .ok (.aload_n 2, 1) := by decide +kernel
theorem d_X9_told_149 : decode cX9_told 149 = .ok (.getfield 181, 3) := by decide +kernel
theorem d_X9_told_152 : decode cX9_told 152 = .ok (.invokestatic 177, 3) := by decide +kernel
theorem d_X9_told_155 : decode cX9_told 155 = .ok (.ireturn, 1) := by decide +kernel
theorem d_X9_told_156 : decode cX9_told 156 = .ok (.aload_n 2, 1) := by decide +kernel
theorem d_X9_told_157 : decode cX9_told 157 = .ok (.getfield 184, 3) := by decide +kernel
theorem d_X9_told_160 : decode cX9_told 160 = .ok (.invokestatic 177, 3) := by decide +kernel
theorem d_X9_told_163 : decode cX9_told 163 = .ok (.ireturn, 1) := by decide +kernel
theorem d_X9_told_164 : decode cX9_told 164 = .ok (.aload_n 2, 1) := by decide +kernel
theorem d_X9_told_165 : decode cX9_told 165 = .ok (.getfield 187, 3) := by decide +kernel
theorem d_X9_told_168 : decode cX9_told 168 = .ok (.ireturn, 1) := by decide +kernel
theorem d_X9_told_169 : decode cX9_told 169 = .ok (.aload_n 0, 1) := by decide +kernel
theorem d_X9_told_170 : decode cX9_told 170 = .ok (.getfield 82, 3) := by decide +kernel
theorem d_X9_told_173 : decode cX9_told 173 = .ok (.getfield 145, 3) := by decide +kernel
theorem d_X9_told_176 : decode cX9_told 176 = .ok (.ireturn, 1) := by decide +kernel
theorem d_X9_told_177 : decode cX9_told 177 = .ok (.aload_n 0, 1) := by decide +kernel
theorem d_X9_told_178 : decode cX9_told 178 = .ok (.getfield 124, 3) := by decide +kernel
theorem d_X9_told_181 : decode cX9_told 181 = .ok (.ireturn, 1) := by decide +kernel
theorem d_X9_told_182 : decode cX9_told 182 = .ok (.aload_n 2, 1) := by decide +kernel
theorem d_X9_told_183 : decode cX9_told 183 = .ok (.invokevirtual 190, 3) := by decide +kernel
theorem d_X9_told_186 : decode cX9_told 186 = .ok (.invokestatic 194, 3) := by decide +kernel
theorem d_X9_told_189 : decode cX9_told 189 = .ok (.ireturn, 1) := by decide +kernel
theorem d_X9_told_190 : decode cX9_told 190 = .ok (.aload_n 0, 1) := by decide +kernel
theorem d_X9_told_191 : decode cX9_told 191 = .ok (.getfield 62, 3) := by decide +kernel
theorem d_X9_told_194 : decode cX9_told 194 = .ok (.getfield 200, 3) := by decide +kernel
theorem d_X9_told_197 : decode cX9_told 197 = .ok (.aload_n 2, 1) := by decide +kernel
theorem d_X9_told_198 : decode cX9_told 198 = .ok (.invokevirtual 204, 3) := by decide +kernel
theorem d_X9_told_201 : decode cX9_told 201 = .ok (.land, 1) := by decide +kernel
theorem d_X9_told_202 : decode cX9_told 202 = .ok (.aload_n 2, 1) := by decide +kernel
theorem d_X9_told_203 : decode cX9_told 203 = .ok (.invokevirtual 207, 3) := by decide +kernel
theorem d_X9_told_206 : decode cX9_told 206 = .ok (.land, 1) := by decide +kernel
theorem d_X9_told_207 : decode cX9_told 207 = .ok (.invokestatic 194, 3) := by decide +kernel
theorem d_X9_told_210 : decode cX9_told 210 = .ok (.ireturn, 1) := by decide +kernel
noncomputable def F_X9_told_190 (p0 : Int32) (M : zMem) : Option (Nat × Int32 × zMem) :=
  gd (shX (M.2.2 0 8) == 6) <|
  zb (F_X4_dryPlaces M 4) fun v3 M2 =>
  zb (F_X4_saltPlaces M2 4) fun v5 M4 =>
  zb (F_J13_bitCount_95d88 M4 (((M.2.1 (M.2.2 0 8) 3) &&& v3) &&& v5)) fun v7 M6 =>
  some (0, v7, M6)
noncomputable def F_X9_told_182 (p0 : Int32) (M : zMem) : Option (Nat × Int32 × zMem) :=
  zb (F_X4_heapPlaces M 4) fun v9 M8 =>
  zb (F_J13_bitCount_95d88 M8 v9) fun v11 M10 =>
  some (0, v11, M10)
noncomputable def F_X9_told_177 (p0 : Int32) (M : zMem) : Option (Nat × Int32 × zMem) :=
  some (0, (M.1 0 15), M)
noncomputable def F_X9_told_169 (p0 : Int32) (M : zMem) : Option (Nat × Int32 × zMem) :=
  gd (shX (M.2.2 0 12) == 2) <|
  some (0, (M.1 (M.2.2 0 12) 2), M)
noncomputable def F_X9_told_164 (p0 : Int32) (M : zMem) : Option (Nat × Int32 × zMem) :=
  some (0, (M.1 4 3), M)
noncomputable def F_X9_told_156 (p0 : Int32) (M : zMem) : Option (Nat × Int32 × zMem) :=
  zb (F_X9_sumOf M 7) fun v14 M13 =>
  some (0, v14, M13)
noncomputable def F_X9_told_148 (p0 : Int32) (M : zMem) : Option (Nat × Int32 × zMem) :=
  zb (F_X9_sumOf M 6) fun v16 M15 =>
  some (0, v16, M15)
noncomputable def F_X9_told_140 (p0 : Int32) (M : zMem) : Option (Nat × Int32 × zMem) :=
  zb (F_X9_sumOf M 5) fun v18 M17 =>
  some (0, v18, M17)
noncomputable def F_X9_told_121 (p0 : Int32) (M : zMem) : Option (Nat × Int32 × zMem) :=
  gd (shX (M.2.2 0 8) == 6) <|
  if (M.1 (M.2.2 0 8) 2) = 0 then
    some (0, (-1 : Int32), M)
  else
    some (0, (M.1 4 5), M)
noncomputable def F_X9_told_116 (p0 : Int32) (M : zMem) : Option (Nat × Int32 × zMem) :=
  some (0, (M.1 4 4), M)
noncomputable def F_X9_told_108 (p0 : Int32) (M : zMem) : Option (Nat × Int32 × zMem) :=
  gd (shX (M.2.2 0 8) == 6) <|
  some (0, (M.1 (M.2.2 0 8) 2), M)
noncomputable def F_X9_told_100 (p0 : Int32) (M : zMem) : Option (Nat × Int32 × zMem) :=
  gd (shX (M.2.2 0 8) == 6) <|
  some (0, (M.1 (M.2.2 0 8) 1), M)
noncomputable def F_X9_told_92 (p0 : Int32) (M : zMem) : Option (Nat × Int32 × zMem) :=
  gd (shX (M.2.2 0 8) == 6) <|
  some (0, (M.1 (M.2.2 0 8) 0), M)
noncomputable def F_X9_told_16 (p0 : Int32) (b16_L1 : Int32) (b16_S1 : Int32) (M : zMem) : Option (Nat × Int32 × zMem) :=
  zbx (F_X9_need M b16_S1) (g := zxp) fun _ M23 =>
  if b16_L1 = 0 then
    F_X9_told_92 p0 M23
  else
  if b16_L1 = 1 then
    F_X9_told_100 p0 M23
  else
  if b16_L1 = 2 then
    F_X9_told_108 p0 M23
  else
  if b16_L1 = 3 then
    F_X9_told_116 p0 M23
  else
  if b16_L1 = 4 then
    F_X9_told_121 p0 M23
  else
  if b16_L1 = 5 then
    F_X9_told_140 p0 M23
  else
  if b16_L1 = 6 then
    F_X9_told_148 p0 M23
  else
  if b16_L1 = 7 then
    F_X9_told_156 p0 M23
  else
  if b16_L1 = 8 then
    F_X9_told_164 p0 M23
  else
  if b16_L1 = 9 then
    F_X9_told_169 p0 M23
  else
  if b16_L1 = 10 then
    F_X9_told_177 p0 M23
  else
  if b16_L1 = 11 then
    F_X9_told_182 p0 M23
  else
  F_X9_told_190 p0 M23
noncomputable def F_X9_told_15 (p0 : Int32) (b15_L1 : Int32) (M : zMem) : Option (Nat × Int32 × zMem) :=
  F_X9_told_16 p0 b15_L1 (0 : Int32) M
noncomputable def F_X9_told (M : zMem) (p0 : Int32) : Option (Nat × Int32 × zMem) :=
  if p0 < 0 then
    F_X9_told_15 p0 p0 M
  else
    if (12 : Int32) < p0 then
      F_X9_told_15 p0 p0 M
    else
      F_X9_told_16 p0 p0 (1 : Int32) M
def rm_X9_told : Room := { frames := 10, cells := 1, slots := 6, locals := 163 }
set_option maxHeartbeats 4000000 in
set_option maxRecDepth 100000 in
theorem c_X9_told (l : Launch) {G : zG} {ad : Nat → Nat} {n : Nat} (hA : zInj ad n) (M : zMem) (p0 : Int32) (hl : l.stackTraces = false) (hT : zT shX n 0 10) {k9 : Nat} {r9 : Int32} {M9 : zMem} (hF : F_X9_told M p0 = some (k9, r9, M9)) : zMX l yX9_told cX9_told 3 (some .int) rm_X9_told 1 6 G shX ad n M [.ref (ad 0), .int p0] k9 (some (.int r9)) M9 := by
  refine zM_ofX hA (by decide +kernel) (lv := [(0, .ref (ad 0)), (1, .int p0)]) (Nat.le_of_ble_eq_true rfl) rfl (fun p e s m args below meth c A cx hr ht => ?_)
  have hb190 : ∀ (M : zMem), F_X9_told_190 p0 M = some (k9, r9, M9) → zJ p l e rm_X9_told s m args below meth c G shX ad n A 3 (vx_MQ below (zQX G shX ad n M9 k9 (some (.int r9)) A) (zXC G shX ad n M9 k9 A) args s 1 6 A) 1 6 M 190 [(0, .ref (ad 0)), (2, .ref (ad 4))] [] := by
    intro M hF
    unfold F_X9_told_190 at hF
    refine z_aload_n cx d_X9_told_190 0 rfl ?_
    obtain ⟨hg1, hF⟩ := gd_inv hF
    refine z_getD cx hT fg_SunnyPans_62 d_X9_told_191 ?_
    refine z_getL cx (td_6 hT hg1) fg_SunnyPans_200 d_X9_told_194 ?_
    refine z_aload_n cx d_X9_told_197 1 rfl ?_
    obtain ⟨v3, M2, hc, hF⟩ := zb_inv hF
    refine z_callV cx (As := []) (rest := [.long (M.2.1 (M.2.2 0 8) 3)]) (c_X4_dryPlaces l cx.2.2.2.1.1 M 4 (tfX_8_1 (tfX_10_3 hT)) hc) (tfX_8_1 (tfX_10_3 hT)) zo_5 cv_SunnyPans_204 ⟨rfl, rfl, Nat.le_of_ble_eq_true rfl, Nat.le_of_ble_eq_true rfl⟩ rfl rfl ⟨Nat.le_of_ble_eq_true rfl, Nat.le_of_ble_eq_true rfl⟩ (Nat.le_of_ble_eq_true rfl) d_X9_told_198 ?_
    refine z_land cx d_X9_told_201 ?_
    refine z_aload_n cx d_X9_told_202 1 rfl ?_
    obtain ⟨v5, M4, hc, hF⟩ := zb_inv hF
    refine z_callV cx (As := []) (rest := [.long ((M.2.1 (M.2.2 0 8) 3) &&& v3)]) (c_X4_saltPlaces l cx.2.2.2.1.1 M2 4 (tfX_8_1 (tfX_10_3 hT)) hc) (tfX_8_1 (tfX_10_3 hT)) zo_5 cv_SunnyPans_207 ⟨rfl, rfl, Nat.le_of_ble_eq_true rfl, Nat.le_of_ble_eq_true rfl⟩ rfl rfl ⟨Nat.le_of_ble_eq_true rfl, Nat.le_of_ble_eq_true rfl⟩ (Nat.le_of_ble_eq_true rfl) d_X9_told_203 ?_
    refine z_land cx d_X9_told_206 ?_
    obtain ⟨v7, M6, hc, hF⟩ := zb_inv hF
    refine z_callS cx (As := [.long (((M.2.1 (M.2.2 0 8) 3) &&& v3) &&& v5)]) (rest := []) (c_J13_bitCount_95d88 l cx.2.2.2.1.1 M4 (((M.2.1 (M.2.2 0 8) 3) &&& v3) &&& v5)  hc) cs_SunnyPans_194 ⟨rfl, rfl, Nat.le_of_ble_eq_true rfl, Nat.le_of_ble_eq_true rfl⟩ rfl rfl ⟨Nat.le_of_ble_eq_true rfl, Nat.le_of_ble_eq_true rfl⟩ (Nat.le_of_ble_eq_true rfl) d_X9_told_207 ?_
    exact z_iretX cx hr rfl hF ⟨Nat.le_of_ble_eq_true rfl, Nat.le_of_ble_eq_true rfl⟩ d_X9_told_210
  have hb182 : ∀ (M : zMem), F_X9_told_182 p0 M = some (k9, r9, M9) → zJ p l e rm_X9_told s m args below meth c G shX ad n A 3 (vx_MQ below (zQX G shX ad n M9 k9 (some (.int r9)) A) (zXC G shX ad n M9 k9 A) args s 1 6 A) 1 6 M 182 [(2, .ref (ad 4))] [] := by
    intro M hF
    unfold F_X9_told_182 at hF
    refine z_aload_n cx d_X9_told_182 0 rfl ?_
    obtain ⟨v9, M8, hc, hF⟩ := zb_inv hF
    refine z_callV cx (As := []) (rest := []) (c_X4_heapPlaces l cx.2.2.2.1.1 M 4 (tfX_8_1 (tfX_10_3 hT)) hc) (tfX_8_1 (tfX_10_3 hT)) zo_5 cv_SunnyPans_190 ⟨rfl, rfl, Nat.le_of_ble_eq_true rfl, Nat.le_of_ble_eq_true rfl⟩ rfl rfl ⟨Nat.le_of_ble_eq_true rfl, Nat.le_of_ble_eq_true rfl⟩ (Nat.le_of_ble_eq_true rfl) d_X9_told_183 ?_
    obtain ⟨v11, M10, hc, hF⟩ := zb_inv hF
    refine z_callS cx (As := [.long v9]) (rest := []) (c_J13_bitCount_95d88 l cx.2.2.2.1.1 M8 v9  hc) cs_SunnyPans_194 ⟨rfl, rfl, Nat.le_of_ble_eq_true rfl, Nat.le_of_ble_eq_true rfl⟩ rfl rfl ⟨Nat.le_of_ble_eq_true rfl, Nat.le_of_ble_eq_true rfl⟩ (Nat.le_of_ble_eq_true rfl) d_X9_told_186 ?_
    exact z_iretX cx hr rfl hF ⟨Nat.le_of_ble_eq_true rfl, Nat.le_of_ble_eq_true rfl⟩ d_X9_told_189
  have hb177 : ∀ (M : zMem), F_X9_told_177 p0 M = some (k9, r9, M9) → zJ p l e rm_X9_told s m args below meth c G shX ad n A 3 (vx_MQ below (zQX G shX ad n M9 k9 (some (.int r9)) A) (zXC G shX ad n M9 k9 A) args s 1 6 A) 1 6 M 177 [(0, .ref (ad 0))] [] := by
    intro M hF
    unfold F_X9_told_177 at hF
    refine z_aload_n cx d_X9_told_177 0 rfl ?_
    refine z_getI cx hT fg_SunnyPans_124 d_X9_told_178 ?_
    exact z_iretX cx hr rfl hF ⟨Nat.le_of_ble_eq_true rfl, Nat.le_of_ble_eq_true rfl⟩ d_X9_told_181
  have hb169 : ∀ (M : zMem), F_X9_told_169 p0 M = some (k9, r9, M9) → zJ p l e rm_X9_told s m args below meth c G shX ad n A 3 (vx_MQ below (zQX G shX ad n M9 k9 (some (.int r9)) A) (zXC G shX ad n M9 k9 A) args s 1 6 A) 1 6 M 169 [(0, .ref (ad 0))] [] := by
    intro M hF
    unfold F_X9_told_169 at hF
    refine z_aload_n cx d_X9_told_169 0 rfl ?_
    obtain ⟨hg12, hF⟩ := gd_inv hF
    refine z_getD cx hT fg_SunnyPans_82 d_X9_told_170 ?_
    refine z_getI cx (td_2 hT hg12) fg_SunnyPans_145 d_X9_told_173 ?_
    exact z_iretX cx hr rfl hF ⟨Nat.le_of_ble_eq_true rfl, Nat.le_of_ble_eq_true rfl⟩ d_X9_told_176
  have hb164 : ∀ (M : zMem), F_X9_told_164 p0 M = some (k9, r9, M9) → zJ p l e rm_X9_told s m args below meth c G shX ad n A 3 (vx_MQ below (zQX G shX ad n M9 k9 (some (.int r9)) A) (zXC G shX ad n M9 k9 A) args s 1 6 A) 1 6 M 164 [(2, .ref (ad 4))] [] := by
    intro M hF
    unfold F_X9_told_164 at hF
    refine z_aload_n cx d_X9_told_164 0 rfl ?_
    refine z_getI cx (tfX_8_1 (tfX_10_3 hT)) fg_SunnyPans_187 d_X9_told_165 ?_
    exact z_iretX cx hr rfl hF ⟨Nat.le_of_ble_eq_true rfl, Nat.le_of_ble_eq_true rfl⟩ d_X9_told_168
  have hb156 : ∀ (M : zMem), F_X9_told_156 p0 M = some (k9, r9, M9) → zJ p l e rm_X9_told s m args below meth c G shX ad n A 3 (vx_MQ below (zQX G shX ad n M9 k9 (some (.int r9)) A) (zXC G shX ad n M9 k9 A) args s 1 6 A) 1 6 M 156 [(2, .ref (ad 4))] [] := by
    intro M hF
    unfold F_X9_told_156 at hF
    refine z_aload_n cx d_X9_told_156 0 rfl ?_
    refine z_getR cx (tfX_8_1 (tfX_10_3 hT)) fg_SunnyPans_184 7 rfl d_X9_told_157 ?_
    obtain ⟨v14, M13, hc, hF⟩ := zb_inv hF
    refine z_callS cx (As := [.ref (ad 7)]) (rest := []) (c_X9_sumOf l cx.2.2.2.1.1 M 7 (tfX_5_3 (tfX_8_1 (tfX_10_3 hT))) hc) cs_SunnyPans_177 ⟨rfl, rfl, Nat.le_of_ble_eq_true rfl, Nat.le_of_ble_eq_true rfl⟩ rfl rfl ⟨Nat.le_of_ble_eq_true rfl, Nat.le_of_ble_eq_true rfl⟩ (Nat.le_of_ble_eq_true rfl) d_X9_told_160 ?_
    exact z_iretX cx hr rfl hF ⟨Nat.le_of_ble_eq_true rfl, Nat.le_of_ble_eq_true rfl⟩ d_X9_told_163
  have hb148 : ∀ (M : zMem), F_X9_told_148 p0 M = some (k9, r9, M9) → zJ p l e rm_X9_told s m args below meth c G shX ad n A 3 (vx_MQ below (zQX G shX ad n M9 k9 (some (.int r9)) A) (zXC G shX ad n M9 k9 A) args s 1 6 A) 1 6 M 148 [(2, .ref (ad 4))] [] := by
    intro M hF
    unfold F_X9_told_148 at hF
    refine z_aload_n cx d_X9_told_148 0 rfl ?_
    refine z_getR cx (tfX_8_1 (tfX_10_3 hT)) fg_SunnyPans_181 6 rfl d_X9_told_149 ?_
    obtain ⟨v16, M15, hc, hF⟩ := zb_inv hF
    refine z_callS cx (As := [.ref (ad 6)]) (rest := []) (c_X9_sumOf l cx.2.2.2.1.1 M 6 (tfX_5_2 (tfX_8_1 (tfX_10_3 hT))) hc) cs_SunnyPans_177 ⟨rfl, rfl, Nat.le_of_ble_eq_true rfl, Nat.le_of_ble_eq_true rfl⟩ rfl rfl ⟨Nat.le_of_ble_eq_true rfl, Nat.le_of_ble_eq_true rfl⟩ (Nat.le_of_ble_eq_true rfl) d_X9_told_152 ?_
    exact z_iretX cx hr rfl hF ⟨Nat.le_of_ble_eq_true rfl, Nat.le_of_ble_eq_true rfl⟩ d_X9_told_155
  have hb140 : ∀ (M : zMem), F_X9_told_140 p0 M = some (k9, r9, M9) → zJ p l e rm_X9_told s m args below meth c G shX ad n A 3 (vx_MQ below (zQX G shX ad n M9 k9 (some (.int r9)) A) (zXC G shX ad n M9 k9 A) args s 1 6 A) 1 6 M 140 [(2, .ref (ad 4))] [] := by
    intro M hF
    unfold F_X9_told_140 at hF
    refine z_aload_n cx d_X9_told_140 0 rfl ?_
    refine z_getR cx (tfX_8_1 (tfX_10_3 hT)) fg_SunnyPans_174 5 rfl d_X9_told_141 ?_
    obtain ⟨v18, M17, hc, hF⟩ := zb_inv hF
    refine z_callS cx (As := [.ref (ad 5)]) (rest := []) (c_X9_sumOf l cx.2.2.2.1.1 M 5 (tfX_5_1 (tfX_8_1 (tfX_10_3 hT))) hc) cs_SunnyPans_177 ⟨rfl, rfl, Nat.le_of_ble_eq_true rfl, Nat.le_of_ble_eq_true rfl⟩ rfl rfl ⟨Nat.le_of_ble_eq_true rfl, Nat.le_of_ble_eq_true rfl⟩ (Nat.le_of_ble_eq_true rfl) d_X9_told_144 ?_
    exact z_iretX cx hr rfl hF ⟨Nat.le_of_ble_eq_true rfl, Nat.le_of_ble_eq_true rfl⟩ d_X9_told_147
  have hb121 : ∀ (M : zMem), F_X9_told_121 p0 M = some (k9, r9, M9) → zJ p l e rm_X9_told s m args below meth c G shX ad n A 3 (vx_MQ below (zQX G shX ad n M9 k9 (some (.int r9)) A) (zXC G shX ad n M9 k9 A) args s 1 6 A) 1 6 M 121 [(0, .ref (ad 0)), (2, .ref (ad 4))] [] := by
    intro M hF
    unfold F_X9_told_121 at hF
    refine z_aload_n cx d_X9_told_121 0 rfl ?_
    obtain ⟨hg19, hF⟩ := gd_inv hF
    refine z_getD cx hT fg_SunnyPans_62 d_X9_told_122 ?_
    refine z_getI cx (td_6 hT hg19) fg_SunnyPans_127 d_X9_told_125 ?_
    refine z_if_ne cx 135 d_X9_told_128 (by decide) hF (fun hF => ?_) (fun hF => ?_)
    · refine z_aload_n cx d_X9_told_135 1 rfl ?_
      refine z_getI cx (tfX_8_1 (tfX_10_3 hT)) fg_SunnyPans_171 d_X9_told_136 ?_
      exact z_iretX cx hr rfl hF ⟨Nat.le_of_ble_eq_true rfl, Nat.le_of_ble_eq_true rfl⟩ d_X9_told_139
    refine z_iconst (v := -1) cx d_X9_told_131 ki_m1 ?_
    refine z_goto cx 139 d_X9_told_132 (by decide) ?_
    exact z_iretX cx hr rfl hF ⟨Nat.le_of_ble_eq_true rfl, Nat.le_of_ble_eq_true rfl⟩ d_X9_told_139
  have hb116 : ∀ (M : zMem), F_X9_told_116 p0 M = some (k9, r9, M9) → zJ p l e rm_X9_told s m args below meth c G shX ad n A 3 (vx_MQ below (zQX G shX ad n M9 k9 (some (.int r9)) A) (zXC G shX ad n M9 k9 A) args s 1 6 A) 1 6 M 116 [(2, .ref (ad 4))] [] := by
    intro M hF
    unfold F_X9_told_116 at hF
    refine z_aload_n cx d_X9_told_116 0 rfl ?_
    refine z_getI cx (tfX_8_1 (tfX_10_3 hT)) fg_SunnyPans_168 d_X9_told_117 ?_
    exact z_iretX cx hr rfl hF ⟨Nat.le_of_ble_eq_true rfl, Nat.le_of_ble_eq_true rfl⟩ d_X9_told_120
  have hb108 : ∀ (M : zMem), F_X9_told_108 p0 M = some (k9, r9, M9) → zJ p l e rm_X9_told s m args below meth c G shX ad n A 3 (vx_MQ below (zQX G shX ad n M9 k9 (some (.int r9)) A) (zXC G shX ad n M9 k9 A) args s 1 6 A) 1 6 M 108 [(0, .ref (ad 0))] [] := by
    intro M hF
    unfold F_X9_told_108 at hF
    refine z_aload_n cx d_X9_told_108 0 rfl ?_
    obtain ⟨hg20, hF⟩ := gd_inv hF
    refine z_getD cx hT fg_SunnyPans_62 d_X9_told_109 ?_
    refine z_getI cx (td_6 hT hg20) fg_SunnyPans_127 d_X9_told_112 ?_
    exact z_iretX cx hr rfl hF ⟨Nat.le_of_ble_eq_true rfl, Nat.le_of_ble_eq_true rfl⟩ d_X9_told_115
  have hb100 : ∀ (M : zMem), F_X9_told_100 p0 M = some (k9, r9, M9) → zJ p l e rm_X9_told s m args below meth c G shX ad n A 3 (vx_MQ below (zQX G shX ad n M9 k9 (some (.int r9)) A) (zXC G shX ad n M9 k9 A) args s 1 6 A) 1 6 M 100 [(0, .ref (ad 0))] [] := by
    intro M hF
    unfold F_X9_told_100 at hF
    refine z_aload_n cx d_X9_told_100 0 rfl ?_
    obtain ⟨hg21, hF⟩ := gd_inv hF
    refine z_getD cx hT fg_SunnyPans_62 d_X9_told_101 ?_
    refine z_getI cx (td_6 hT hg21) fg_SunnyPans_165 d_X9_told_104 ?_
    exact z_iretX cx hr rfl hF ⟨Nat.le_of_ble_eq_true rfl, Nat.le_of_ble_eq_true rfl⟩ d_X9_told_107
  have hb92 : ∀ (M : zMem), F_X9_told_92 p0 M = some (k9, r9, M9) → zJ p l e rm_X9_told s m args below meth c G shX ad n A 3 (vx_MQ below (zQX G shX ad n M9 k9 (some (.int r9)) A) (zXC G shX ad n M9 k9 A) args s 1 6 A) 1 6 M 92 [(0, .ref (ad 0))] [] := by
    intro M hF
    unfold F_X9_told_92 at hF
    refine z_aload_n cx d_X9_told_92 0 rfl ?_
    obtain ⟨hg22, hF⟩ := gd_inv hF
    refine z_getD cx hT fg_SunnyPans_62 d_X9_told_93 ?_
    refine z_getI cx (td_6 hT hg22) fg_SunnyPans_162 d_X9_told_96 ?_
    exact z_iretX cx hr rfl hF ⟨Nat.le_of_ble_eq_true rfl, Nat.le_of_ble_eq_true rfl⟩ d_X9_told_99
  have hb16 : ∀ (b16_L1 : Int32) (b16_S1 : Int32) (M : zMem), F_X9_told_16 p0 b16_L1 b16_S1 M = some (k9, r9, M9) → zJ p l e rm_X9_told s m args below meth c G shX ad n A 3 (vx_MQ below (zQX G shX ad n M9 k9 (some (.int r9)) A) (zXC G shX ad n M9 k9 A) args s 1 6 A) 0 0 M 16 [(0, .ref (ad 0)), (1, .int b16_L1)] [.int b16_S1, .ref (ad 0)] := by
    intro b16_L1 b16_S1 M hF
    unfold F_X9_told_16 at hF
    obtain ⟨k24, v25, M23, hc, hF, hX26⟩ := zbx_inv hF
    refine z_callVX cx ht (As := [.int b16_S1]) (rest := []) (c_X9_need l cx.2.2.2.1.1 M b16_S1 hl hT hc) (fun q => zxp_inv (hX26 q)) hT zo_10 cv_SunnyPans_155 ⟨rfl, rfl, Nat.le_of_ble_eq_true rfl, Nat.le_of_ble_eq_true rfl⟩ rfl rfl ⟨Nat.le_of_ble_eq_true rfl, Nat.le_of_ble_eq_true rfl⟩ ⟨Nat.le_of_ble_eq_true rfl, Nat.le_of_ble_eq_true rfl⟩ (Nat.le_of_ble_eq_true rfl) d_X9_told_16 (fun kq27 => ?_)
    have hF := hF kq27
    refine z_aload_n cx d_X9_told_19 0 rfl ?_
    refine z_getR cx hT fg_SunnyPans_19 3 rfl d_X9_told_20 ?_
    refine z_getR cx (tfX_10_3 hT) fg_SunnyPans_159 4 rfl d_X9_told_23 ?_
    refine z_astore_n cx 2 [(2, .ref (ad 4)), (0, .ref (ad 0)), (1, .int b16_L1)] d_X9_told_26 rfl (by decide) rfl ?_
    refine z_iload_n cx d_X9_told_27 2 rfl ?_
    by_cases q0 : b16_L1 = 0
    · rw [if_pos q0] at hF
      refine z_tabIn cx 92 d_X9_told_28 (by rw [q0]; decide +kernel) (by rw [q0]; decide +kernel) (by rw [q0]; rfl) (by decide) ?_
      exact z_lv [1] _ rfl (hb92 M23 hF)
    rw [if_neg q0] at hF
    by_cases q1 : b16_L1 = 1
    · rw [if_pos q1] at hF
      refine z_tabIn cx 100 d_X9_told_28 (by rw [q1]; decide +kernel) (by rw [q1]; decide +kernel) (by rw [q1]; rfl) (by decide) ?_
      exact z_lv [1] _ rfl (hb100 M23 hF)
    rw [if_neg q1] at hF
    by_cases q2 : b16_L1 = 2
    · rw [if_pos q2] at hF
      refine z_tabIn cx 108 d_X9_told_28 (by rw [q2]; decide +kernel) (by rw [q2]; decide +kernel) (by rw [q2]; rfl) (by decide) ?_
      exact z_lv [1] _ rfl (hb108 M23 hF)
    rw [if_neg q2] at hF
    by_cases q3 : b16_L1 = 3
    · rw [if_pos q3] at hF
      refine z_tabIn cx 116 d_X9_told_28 (by rw [q3]; decide +kernel) (by rw [q3]; decide +kernel) (by rw [q3]; rfl) (by decide) ?_
      exact z_lv [0] _ rfl (hb116 M23 hF)
    rw [if_neg q3] at hF
    by_cases q4 : b16_L1 = 4
    · rw [if_pos q4] at hF
      refine z_tabIn cx 121 d_X9_told_28 (by rw [q4]; decide +kernel) (by rw [q4]; decide +kernel) (by rw [q4]; rfl) (by decide) ?_
      exact z_lv [1, 0] _ rfl (hb121 M23 hF)
    rw [if_neg q4] at hF
    by_cases q5 : b16_L1 = 5
    · rw [if_pos q5] at hF
      refine z_tabIn cx 140 d_X9_told_28 (by rw [q5]; decide +kernel) (by rw [q5]; decide +kernel) (by rw [q5]; rfl) (by decide) ?_
      exact z_lv [0] _ rfl (hb140 M23 hF)
    rw [if_neg q5] at hF
    by_cases q6 : b16_L1 = 6
    · rw [if_pos q6] at hF
      refine z_tabIn cx 148 d_X9_told_28 (by rw [q6]; decide +kernel) (by rw [q6]; decide +kernel) (by rw [q6]; rfl) (by decide) ?_
      exact z_lv [0] _ rfl (hb148 M23 hF)
    rw [if_neg q6] at hF
    by_cases q7 : b16_L1 = 7
    · rw [if_pos q7] at hF
      refine z_tabIn cx 156 d_X9_told_28 (by rw [q7]; decide +kernel) (by rw [q7]; decide +kernel) (by rw [q7]; rfl) (by decide) ?_
      exact z_lv [0] _ rfl (hb156 M23 hF)
    rw [if_neg q7] at hF
    by_cases q8 : b16_L1 = 8
    · rw [if_pos q8] at hF
      refine z_tabIn cx 164 d_X9_told_28 (by rw [q8]; decide +kernel) (by rw [q8]; decide +kernel) (by rw [q8]; rfl) (by decide) ?_
      exact z_lv [0] _ rfl (hb164 M23 hF)
    rw [if_neg q8] at hF
    by_cases q9 : b16_L1 = 9
    · rw [if_pos q9] at hF
      refine z_tabIn cx 169 d_X9_told_28 (by rw [q9]; decide +kernel) (by rw [q9]; decide +kernel) (by rw [q9]; rfl) (by decide) ?_
      exact z_lv [1] _ rfl (hb169 M23 hF)
    rw [if_neg q9] at hF
    by_cases q10 : b16_L1 = 10
    · rw [if_pos q10] at hF
      refine z_tabIn cx 177 d_X9_told_28 (by rw [q10]; decide +kernel) (by rw [q10]; decide +kernel) (by rw [q10]; rfl) (by decide) ?_
      exact z_lv [1] _ rfl (hb177 M23 hF)
    rw [if_neg q10] at hF
    by_cases q11 : b16_L1 = 11
    · rw [if_pos q11] at hF
      refine z_tabIn cx 182 d_X9_told_28 (by rw [q11]; decide +kernel) (by rw [q11]; decide +kernel) (by rw [q11]; rfl) (by decide) ?_
      exact z_lv [0] _ rfl (hb182 M23 hF)
    rw [if_neg q11] at hF
    refine z_tabOut cx 190 d_X9_told_28 (by have w0 := lv_neT q0 (a := 0) (by decide +kernel); have w1 := lv_neT q1 (a := 1) (by decide +kernel); have w2 := lv_neT q2 (a := 2) (by decide +kernel); have w3 := lv_neT q3 (a := 3) (by decide +kernel); have w4 := lv_neT q4 (a := 4) (by decide +kernel); have w5 := lv_neT q5 (a := 5) (by decide +kernel); have w6 := lv_neT q6 (a := 6) (by decide +kernel); have w7 := lv_neT q7 (a := 7) (by decide +kernel); have w8 := lv_neT q8 (a := 8) (by decide +kernel); have w9 := lv_neT q9 (a := 9) (by decide +kernel); have w10 := lv_neT q10 (a := 10) (by decide +kernel); have w11 := lv_neT q11 (a := 11) (by decide +kernel); omega) (by decide) ?_
    exact z_lv [1, 0] _ rfl (hb190 M23 hF)
  have hb15 : ∀ (b15_L1 : Int32) (M : zMem), F_X9_told_15 p0 b15_L1 M = some (k9, r9, M9) → zJ p l e rm_X9_told s m args below meth c G shX ad n A 3 (vx_MQ below (zQX G shX ad n M9 k9 (some (.int r9)) A) (zXC G shX ad n M9 k9 A) args s 1 6 A) 0 0 M 15 [(0, .ref (ad 0)), (1, .int b15_L1)] [.ref (ad 0)] := by
    intro b15_L1 M hF
    unfold F_X9_told_15 at hF
    refine z_iconst (v := 0) cx d_X9_told_15 ki_0 ?_
    exact hb16 b15_L1 (0 : Int32) M hF
  unfold F_X9_told at hF
  refine z_aload_n cx d_X9_told_0 0 rfl ?_
  refine z_iload_n cx d_X9_told_1 1 rfl ?_
  refine z_if_lt cx 15 d_X9_told_2 (by decide) hF (fun hF => ?_) (fun hF => ?_)
  · exact hb15 p0 M hF
  refine z_iload_n cx d_X9_told_5 1 rfl ?_
  refine z_bipush (v := 12) cx d_X9_told_6 kb_12 ?_
  refine z_icmp_gt cx 15 d_X9_told_8 (by decide) hF (fun hF => ?_) (fun hF => ?_)
  · exact hb15 p0 M hF
  refine z_iconst (v := 1) cx d_X9_told_11 ki_1 ?_
  refine z_goto cx 16 d_X9_told_12 (by decide) ?_
  exact hb16 p0 (1 : Int32) M hF
/-! SunnyPans.needThing -/
set_option maxRecDepth 100000 in
theorem wd_425 : Cond.fieldLink "SunnyPans" 410 "SunnyPans" "refusedPlaces" "I" ∈ tbG := tw2 85 rfl rfl
theorem fg_SunnyPans_410 : zGetI "SunnyPans" 410 9 10 16 := ⟨RX9, TX9, 19, rfl, by decide, uw_9, wd_425, fun _ _ _ _ _ _ => ⟨_, rfl, rfl⟩⟩
theorem fp_SunnyPans_410 : zPutI "SunnyPans" 410 9 10 16 := ⟨zc_9, fg_SunnyPans_410, ⟨RX9, TX9, 19, rfl, rfl, by decide +kernel⟩, fun _ _ _ _ _ _ _ => ⟨_, rfl, Nat.le_of_ble_eq_true rfl, rfl⟩⟩
theorem d_X9_needThing_0 : decode cX9_needThing 0 = .ok (.iload_n 1, 1) := by decide +kernel
theorem d_X9_needThing_1 : decode cX9_needThing 1 = .ok (.ifCond .ne 24, 3) := by decide +kernel
theorem d_X9_needThing_4 : decode cX9_needThing 4 = .ok (.aload_n 0, 1) := by decide +kernel
theorem d_X9_needThing_5 : decode cX9_needThing 5 = .ok (.dup, 1) := by decide +kernel
theorem d_X9_needThing_6 : decode cX9_needThing 6 = .ok (.getfield 410, 3) := by decide +kernel
theorem d_X9_needThing_9 : decode cX9_needThing 9 = .ok (.iconst 1, 1) := by decide +kernel
theorem d_X9_needThing_10 : decode cX9_needThing 10 = .ok (.iadd, 1) := by decide +kernel
theorem d_X9_needThing_11 : decode cX9_needThing 11 = .ok (.putfield 410, 3) := by decide +kernel
theorem d_X9_needThing_14 : decode cX9_needThing 14 = .ok (.new 429, 3) := by decide +kernel
theorem d_X9_needThing_17 : decode cX9_needThing 17 = .ok (.dup, 1) := by decide +kernel
theorem d_X9_needThing_18 : decode cX9_needThing 18 = .ok (.ldc_w 431, 3) := by decide +kernel
theorem d_X9_needThing_21 : decode cX9_needThing 21 = .ok (.invokespecial 433, 3) := by decide +kernel
theorem d_X9_needThing_24 : decode cX9_needThing 24 = .ok (.athrow, 1) := by decide +kernel
theorem d_X9_needThing_25 : decode cX9_needThing 25 = .ok (.return_, 1) := by decide +kernel
noncomputable def F_X9_needThing (M : zMem) (p0 : Int32) : Option (Nat × Int32 × zMem) :=
  if p0 = 0 then
    zl (zI M 0 16 ((M.1 0 16) + (1 : Int32))) fun M1 =>
    some (2, 0, M1)
  else
    some (0, 0, M)
def rm_X9_needThing : Room := { frames := 9, cells := 1, slots := 6, locals := 140 }
set_option maxHeartbeats 4000000 in
set_option maxRecDepth 100000 in
theorem c_X9_needThing (l : Launch) {G : zG} {ad : Nat → Nat} {n : Nat} (hA : zInj ad n) (M : zMem) (p0 : Int32) (hl : l.stackTraces = false) (hT : zT shX n 0 10) {k9 : Nat} {r9 : Int32} {M9 : zMem} (hF : F_X9_needThing M p0 = some (k9, r9, M9)) : zMX l yX9_needThing cX9_needThing 2 none rm_X9_needThing 1 6 G shX ad n M [.ref (ad 0), .int p0] k9 none M9 := by
  refine zM_ofX hA (by decide +kernel) (lv := [(0, .ref (ad 0)), (1, .int p0)]) (Nat.le_of_ble_eq_true rfl) rfl (fun p e s m args below meth c A cx hr ht => ?_)
  unfold F_X9_needThing at hF
  refine z_iload_n cx d_X9_needThing_0 1 rfl ?_
  refine z_if_ne cx 25 d_X9_needThing_1 (by decide) hF (fun hF => ?_) (fun hF => ?_)
  · exact z_vretX cx hr hF ⟨Nat.le_of_ble_eq_true rfl, Nat.le_of_ble_eq_true rfl⟩ d_X9_needThing_25
  refine z_aload_n cx d_X9_needThing_4 0 rfl ?_
  refine z_dup cx d_X9_needThing_5 rfl ?_
  refine z_getI cx hT fg_SunnyPans_410 d_X9_needThing_6 ?_
  refine z_iconst (v := 1) cx d_X9_needThing_9 ki_1 ?_
  refine z_iadd cx d_X9_needThing_10 ?_
  refine z_putI cx hT fp_SunnyPans_410 d_X9_needThing_11 ?_
  refine z_nmM hF (fun M1 hF => ?_)
  exact z_throwSX cx ht hl (i := 19) (ix := 13) (rx := prog_28_method_4_code) (names := ["java/lang/RuntimeException", "java/lang/Exception"]) 2 (by decide) hF (by decide +kernel) (by decide +kernel) (by decide +kernel) (by decide +kernel) (by decide +kernel) (by decide +kernel) (by decide) zThN zThN2 d_X9_needThing_14 d_X9_needThing_17 d_X9_needThing_18 d_X9_needThing_21 d_X9_needThing_24 (Nat.le_of_ble_eq_true rfl) (Nat.le_of_ble_eq_true rfl) ⟨Nat.le_of_ble_eq_true rfl, Nat.le_of_ble_eq_true rfl⟩ ⟨Nat.le_of_ble_eq_true rfl, Nat.le_of_ble_eq_true rfl⟩
/-! SunnyPans.needPlace -/
set_option maxRecDepth 100000 in
theorem wd_1023 : Cond.methodLink "SunnyPans" 423 yX5_holds ∈ tbG := tw4 203 rfl rfl
theorem cv_SunnyPans_423 : zCV "SunnyPans" 423 "SunnyPans$Plan" yX5_holds cX5_holds 3 (some .boolean) 2 := zCV_of wd_1023 wd_767 wd_768 wd_108 wd_769 (by decide +kernel)
set_option maxRecDepth 100000 in
theorem wd_1027 : Cond.code yX9_needThing cX9_needThing 2 none ∈ tbG := tw4 207 rfl rfl
set_option maxRecDepth 100000 in
theorem wd_1024 : Cond.methodLink "SunnyPans" 426 yX9_needThing ∈ tbG := tw4 204 rfl rfl
set_option maxRecDepth 100000 in
theorem wd_1026 : Cond.instanceMethod yX9_needThing ∈ tbG := tw4 206 rfl rfl
theorem wd_25 : Cond.selects "SunnyPans" yX9_needThing yX9_needThing ∈ tbG := tw 25 (by decide +kernel) rfl
theorem cv_SunnyPans_426 : zCV "SunnyPans" 426 "SunnyPans" yX9_needThing cX9_needThing 2 none 1 := zCV_of wd_1024 wd_1026 wd_25 wd_101 wd_1027 (by decide +kernel)
theorem d_X9_needPlace_0 : decode cX9_needPlace 0 = .ok (.aload_n 0, 1) := by decide +kernel
theorem d_X9_needPlace_1 : decode cX9_needPlace 1 = .ok (.aload_n 0, 1) := by decide +kernel
theorem d_X9_needPlace_2 : decode cX9_needPlace 2 = .ok (.getfield 62, 3) := by decide +kernel
theorem d_X9_needPlace_5 : decode cX9_needPlace 5 = .ok (.iload_n 1, 1) := by decide +kernel
theorem d_X9_needPlace_6 : decode cX9_needPlace 6 = .ok (.iload_n 2, 1) := by decide +kernel
theorem d_X9_needPlace_7 : decode cX9_needPlace 7 = .ok (.invokevirtual 423, 3) := by decide +kernel
theorem d_X9_needPlace_10 : decode cX9_needPlace 10 = .ok (.invokevirtual 426, 3) := by decide +kernel
theorem d_X9_needPlace_13 : decode cX9_needPlace 13 = .ok (.return_, 1) := by decide +kernel
noncomputable def F_X9_needPlace (M : zMem) (p0 : Int32) (p1 : Int32) : Option (Nat × Int32 × zMem) :=
  gd (shX (M.2.2 0 8) == 6) <|
  zb (F_X5_holds M (M.2.2 0 8) p0 p1) fun v3 M2 =>
  zbx (F_X9_needThing M2 v3) (g := zxp) fun _ M4 =>
  some (0, 0, M4)
def rm_X9_needPlace : Room := { frames := 10, cells := 1, slots := 6, locals := 161 }
set_option maxHeartbeats 4000000 in
set_option maxRecDepth 100000 in
theorem c_X9_needPlace (l : Launch) {G : zG} {ad : Nat → Nat} {n : Nat} (hA : zInj ad n) (M : zMem) (p0 : Int32) (p1 : Int32) (hl : l.stackTraces = false) (hT : zT shX n 0 10) {k9 : Nat} {r9 : Int32} {M9 : zMem} (hF : F_X9_needPlace M p0 p1 = some (k9, r9, M9)) : zMX l yX9_needPlace cX9_needPlace 3 none rm_X9_needPlace 1 6 G shX ad n M [.ref (ad 0), .int p0, .int p1] k9 none M9 := by
  refine zM_ofX hA (by decide +kernel) (lv := [(0, .ref (ad 0)), (1, .int p0), (2, .int p1)]) (Nat.le_of_ble_eq_true rfl) rfl (fun p e s m args below meth c A cx hr ht => ?_)
  unfold F_X9_needPlace at hF
  refine z_aload_n cx d_X9_needPlace_0 0 rfl ?_
  refine z_aload_n cx d_X9_needPlace_1 0 rfl ?_
  obtain ⟨hg1, hF⟩ := gd_inv hF
  refine z_getD cx hT fg_SunnyPans_62 d_X9_needPlace_2 ?_
  refine z_iload_n cx d_X9_needPlace_5 1 rfl ?_
  refine z_iload_n cx d_X9_needPlace_6 2 rfl ?_
  obtain ⟨v3, M2, hc, hF⟩ := zb_inv hF
  refine z_callV cx (As := [.int p0, .int p1]) (rest := [.ref (ad 0)]) (c_X5_holds l cx.2.2.2.1.1 M (M.2.2 0 8) p0 p1 (td_6 hT hg1) hc) (td_6 hT hg1) zo_6 cv_SunnyPans_423 ⟨rfl, rfl, Nat.le_of_ble_eq_true rfl, Nat.le_of_ble_eq_true rfl⟩ rfl rfl ⟨Nat.le_of_ble_eq_true rfl, Nat.le_of_ble_eq_true rfl⟩ (Nat.le_of_ble_eq_true rfl) d_X9_needPlace_7 ?_
  obtain ⟨k5, v6, M4, hc, hF, hX7⟩ := zbx_inv hF
  refine z_callVX cx ht (As := [.int v3]) (rest := []) (c_X9_needThing l cx.2.2.2.1.1 M2 v3 hl hT hc) (fun q => zxp_inv (hX7 q)) hT zo_10 cv_SunnyPans_426 ⟨rfl, rfl, Nat.le_of_ble_eq_true rfl, Nat.le_of_ble_eq_true rfl⟩ rfl rfl ⟨Nat.le_of_ble_eq_true rfl, Nat.le_of_ble_eq_true rfl⟩ ⟨Nat.le_of_ble_eq_true rfl, Nat.le_of_ble_eq_true rfl⟩ (Nat.le_of_ble_eq_true rfl) d_X9_needPlace_10 (fun kq8 => ?_)
  have hF := hF kq8
  exact z_vretX cx hr hF ⟨Nat.le_of_ble_eq_true rfl, Nat.le_of_ble_eq_true rfl⟩ d_X9_needPlace_13
/-! SunnyPans.strengthOf -/
theorem d_X9_strengthOf_0 : decode cX9_strengthOf 0 = .ok (.iload_n 0, 1) := by decide +kernel
theorem d_X9_strengthOf_1 : decode cX9_strengthOf 1 = .ok (.iload_n 1, 1) := by decide +kernel
theorem d_X9_strengthOf_2 : decode cX9_strengthOf 2 = .ok (.iadd, 1) := by decide +kernel
theorem d_X9_strengthOf_3 : decode cX9_strengthOf 3 = .ok (.istore_n 2, 1) := by decide +kernel
theorem d_X9_strengthOf_4 : decode cX9_strengthOf 4 = .ok (.iload_n 2, 1) := by decide +kernel
theorem d_X9_strengthOf_5 : decode cX9_strengthOf 5 = .ok (.ifCond .le 13, 3) := by decide +kernel
theorem d_X9_strengthOf_8 : decode cX9_strengthOf 8 = .ok (.sipush 1000, 3) := by decide +kernel
theorem d_X9_strengthOf_11 : decode cX9_strengthOf 11 = .ok (.iload_n 0, 1) := by decide +kernel
theorem d_X9_strengthOf_12 : decode cX9_strengthOf 12 = .ok (.imul, 1) := by decide +kernel
theorem d_X9_strengthOf_13 : decode cX9_strengthOf 13 = .ok (.iload_n 2, 1) := by decide +kernel
theorem d_X9_strengthOf_14 : decode cX9_strengthOf 14 = .ok (.idiv, 1) := by decide +kernel
theorem d_X9_strengthOf_15 : decode cX9_strengthOf 15 = .ok (.goto 4, 3) := by decide +kernel
theorem d_X9_strengthOf_18 : decode cX9_strengthOf 18 = .ok (.iconst 0, 1) := by decide +kernel
theorem d_X9_strengthOf_19 : decode cX9_strengthOf 19 = .ok (.ireturn, 1) := by decide +kernel
noncomputable def F_X9_strengthOf (M : zMem) (p0 : Int32) (p1 : Int32) : Option (Int32 × zMem) :=
  zl (p0 + p1) fun v1 =>
  if v1 ≤ 0 then
    some ((0 : Int32), M)
  else
    gd (!(v1 == 0)) <|
    some ((((1000 : Int32) * p0) / v1), M)
def rm_X9_strengthOf : Room := { frames := 2, cells := 0, slots := 0, locals := 80 }
set_option maxHeartbeats 4000000 in
set_option maxRecDepth 100000 in
theorem c_X9_strengthOf (l : Launch) {G : zG} {ad : Nat → Nat} {n : Nat} (hA : zInj ad n) (M : zMem) (p0 : Int32) (p1 : Int32) {r9 : Int32} {M9 : zMem} (hF : F_X9_strengthOf M p0 p1 = some (r9, M9)) : zM l yX9_strengthOf cX9_strengthOf 3 (some .int) rm_X9_strengthOf G shX ad n M [.int p0, .int p1] (some (.int r9)) M9 := by
  refine zM_of hA (by decide +kernel) (lv := [(0, .int p0), (1, .int p1)]) (Nat.le_of_ble_eq_true rfl) rfl (fun p e s m args below meth c A cx hr => ?_)
  unfold F_X9_strengthOf at hF
  refine z_iload_n cx d_X9_strengthOf_0 0 rfl ?_
  refine z_iload_n cx d_X9_strengthOf_1 1 rfl ?_
  refine z_iadd cx d_X9_strengthOf_2 ?_
  refine z_nm hF (fun v1 hF => ?_)
  refine z_istore_n cx 2 [(2, .int v1), (0, .int p0), (1, .int p1)] d_X9_strengthOf_3 rfl (by decide) rfl ?_
  refine z_iload_n cx d_X9_strengthOf_4 0 rfl ?_
  refine z_if_le cx 18 d_X9_strengthOf_5 (by decide) hF (fun hF => ?_) (fun hF => ?_)
  · refine z_iconst (v := 0) cx d_X9_strengthOf_18 ki_0 ?_
    exact z_iret cx hr rfl hF d_X9_strengthOf_19
  refine z_sipush (v := 1000) cx d_X9_strengthOf_8 ks_1000 ?_
  refine z_iload_n cx d_X9_strengthOf_11 1 rfl ?_
  refine z_imul cx d_X9_strengthOf_12 ?_
  refine z_iload_n cx d_X9_strengthOf_13 0 rfl ?_
  obtain ⟨hz2, hF⟩ := gd_inv hF
  refine z_idiv cx d_X9_strengthOf_14 (zne hz2) ?_
  refine z_goto cx 19 d_X9_strengthOf_15 (by decide) ?_
  exact z_iret cx hr rfl hF d_X9_strengthOf_19
/-! SunnyPans.shadeNow -/
theorem d_X9_shadeNow_0 : decode cX9_shadeNow 0 = .ok (.aload_n 0, 1) := by decide +kernel
theorem d_X9_shadeNow_1 : decode cX9_shadeNow 1 = .ok (.getfield 19, 3) := by decide +kernel
theorem d_X9_shadeNow_4 : decode cX9_shadeNow 4 = .ok (.getfield 159, 3) := by decide +kernel
theorem d_X9_shadeNow_7 : decode cX9_shadeNow 7 = .ok (.iload_n 1, 1) := by decide +kernel
theorem d_X9_shadeNow_8 : decode cX9_shadeNow 8 = .ok (.invokevirtual 330, 3) := by decide +kernel
theorem d_X9_shadeNow_11 : decode cX9_shadeNow 11 = .ok (.lreturn, 1) := by decide +kernel
noncomputable def F_X9_shadeNow (M : zMem) (p0 : Int32) : Option (Int64 × zMem) :=
  zb (F_X4_shadeAt M 4 p0) fun v2 M1 =>
  some (v2, M1)
def rm_X9_shadeNow : Room := { frames := 3, cells := 0, slots := 0, locals := 101 }
set_option maxHeartbeats 4000000 in
set_option maxRecDepth 100000 in
theorem c_X9_shadeNow (l : Launch) {G : zG} {ad : Nat → Nat} {n : Nat} (hA : zInj ad n) (M : zMem) (p0 : Int32) (hT : zT shX n 0 10) {r9 : Int64} {M9 : zMem} (hF : F_X9_shadeNow M p0 = some (r9, M9)) : zM l yX9_shadeNow cX9_shadeNow 2 (some .long) rm_X9_shadeNow G shX ad n M [.ref (ad 0), .int p0] (some (.long r9)) M9 := by
  refine zM_of hA (by decide +kernel) (lv := [(0, .ref (ad 0)), (1, .int p0)]) (Nat.le_of_ble_eq_true rfl) rfl (fun p e s m args below meth c A cx hr => ?_)
  unfold F_X9_shadeNow at hF
  refine z_aload_n cx d_X9_shadeNow_0 0 rfl ?_
  refine z_getR cx hT fg_SunnyPans_19 3 rfl d_X9_shadeNow_1 ?_
  refine z_getR cx (tfX_10_3 hT) fg_SunnyPans_159 4 rfl d_X9_shadeNow_4 ?_
  refine z_iload_n cx d_X9_shadeNow_7 1 rfl ?_
  obtain ⟨v2, M1, hc, hF⟩ := zb_inv hF
  refine z_callV cx (As := [.int p0]) (rest := []) (c_X4_shadeAt l cx.2.2.2.1.1 M 4 p0 (tfX_8_1 (tfX_10_3 hT)) hc) (tfX_8_1 (tfX_10_3 hT)) zo_5 cv_SunnyPans_330 ⟨rfl, rfl, Nat.le_of_ble_eq_true rfl, Nat.le_of_ble_eq_true rfl⟩ rfl rfl ⟨Nat.zero_le _, Nat.zero_le _⟩ (Nat.le_of_ble_eq_true rfl) d_X9_shadeNow_8 ?_
  exact z_lret cx hr hF d_X9_shadeNow_11
/-! SunnyPans.sunOf -/
set_option maxRecDepth 100000 in
theorem wd_1056 : Cond.code yX9_shadeNow cX9_shadeNow 2 (some .long) ∈ tbG := tw4 236 rfl rfl
set_option maxRecDepth 100000 in
theorem wd_1053 : Cond.methodLink "SunnyPans" 227 yX9_shadeNow ∈ tbG := tw4 233 rfl rfl
set_option maxRecDepth 100000 in
theorem wd_1055 : Cond.instanceMethod yX9_shadeNow ∈ tbG := tw4 235 rfl rfl
theorem wd_27 : Cond.selects "SunnyPans" yX9_shadeNow yX9_shadeNow ∈ tbG := tw 27 (by decide +kernel) rfl
theorem cv_SunnyPans_227 : zCV "SunnyPans" 227 "SunnyPans" yX9_shadeNow cX9_shadeNow 2 (some .long) 1 := zCV_of wd_1053 wd_1055 wd_27 wd_101 wd_1056 (by decide +kernel)
theorem d_X9_sunOf_0 : decode cX9_sunOf 0 = .ok (.iconst 0, 1) := by decide +kernel
theorem d_X9_sunOf_1 : decode cX9_sunOf 1 = .ok (.istore_n 2, 1) := by decide +kernel
theorem d_X9_sunOf_2 : decode cX9_sunOf 2 = .ok (.iconst 0, 1) := by decide +kernel
theorem d_X9_sunOf_3 : decode cX9_sunOf 3 = .ok (.istore_n 3, 1) := by decide +kernel
theorem d_X9_sunOf_4 : decode cX9_sunOf 4 = .ok (.iload_n 3, 1) := by decide +kernel
theorem d_X9_sunOf_5 : decode cX9_sunOf 5 = .ok (.aload_n 0, 1) := by decide +kernel
theorem d_X9_sunOf_6 : decode cX9_sunOf 6 = .ok (.getfield 62, 3) := by decide +kernel
theorem d_X9_sunOf_9 : decode cX9_sunOf 9 = .ok (.getfield 127, 3) := by decide +kernel
theorem d_X9_sunOf_12 : decode cX9_sunOf 12 = .ok (.if_icmp .ge 29, 3) := by decide +kernel
theorem d_X9_sunOf_15 : decode cX9_sunOf 15 = .ok (.iload_n 2, 1) := by decide +kernel
theorem d_X9_sunOf_16 : decode cX9_sunOf 16 = .ok (.aload_n 0, 1) := by decide +kernel
theorem d_X9_sunOf_17 : decode cX9_sunOf 17 = .ok (.iload_n 3, 1) := by decide +kernel
theorem d_X9_sunOf_18 : decode cX9_sunOf 18 = .ok (.invokevirtual 227, 3) := by decide +kernel
theorem d_X9_sunOf_21 : decode cX9_sunOf 21 = .ok (.iload_n 1, 1) := by decide +kernel
theorem d_X9_sunOf_22 : decode cX9_sunOf 22 = .ok (.invokestatic 231, 3) := by decide +kernel
theorem d_X9_sunOf_25 : decode cX9_sunOf 25 = .ok (.ifCond .eq 7, 3) := by decide +kernel
theorem d_X9_sunOf_28 : decode cX9_sunOf 28 = .ok (.iconst 0, 1) := by decide +kernel
theorem d_X9_sunOf_29 : decode cX9_sunOf 29 = .ok (.goto 4, 3) := by decide +kernel
theorem d_X9_sunOf_32 : decode cX9_sunOf 32 = .ok (.iconst 1, 1) := by decide +kernel
theorem d_X9_sunOf_33 : decode cX9_sunOf 33 = .ok (.iadd, 1) := by decide +kernel
theorem d_X9_sunOf_34 : decode cX9_sunOf 34 = .ok (.istore_n 2, 1) := by decide +kernel
theorem d_X9_sunOf_35 : decode cX9_sunOf 35 = .ok (.iinc 3 1, 3) := by decide +kernel
theorem d_X9_sunOf_38 : decode cX9_sunOf 38 = .ok (.goto (-34), 3) := by decide +kernel
theorem d_X9_sunOf_41 : decode cX9_sunOf 41 = .ok (.iload_n 2, 1) := by decide +kernel
theorem d_X9_sunOf_42 : decode cX9_sunOf 42 = .ok (.ireturn, 1) := by decide +kernel
noncomputable def F_X9_sunOf_33 (p0 : Int32) (self4 : Int32 → Int32 → Int32 → zMem → Option (Int32 × zMem)) (b33_L1 : Int32) (b33_L3 : Int32) (b33_S0 : Int32) (b33_S1 : Int32) (M : zMem) : Option (Int32 × zMem) :=
  zl (b33_S0 + b33_S1) fun v1 =>
  self4 b33_L1 v1 (b33_L3 + 1) M
noncomputable def F_X9_sunOf_4 (p0 : Int32) (self4 : Int32 → Int32 → Int32 → zMem → Option (Int32 × zMem)) (b4_L1 : Int32) (b4_L2 : Int32) (b4_L3 : Int32) (M : zMem) : Option (Int32 × zMem) :=
  gd (shX (M.2.2 0 8) == 6) <|
  if (M.1 (M.2.2 0 8) 2) ≤ b4_L3 then
    some (b4_L2, M)
  else
    zb (F_X9_shadeNow M b4_L3) fun v4 M3 =>
    zb (F_X9_has M3 v4 b4_L1) fun v6 M5 =>
    if v6 = 0 then
      F_X9_sunOf_33 p0 self4 b4_L1 b4_L3 b4_L2 (1 : Int32) M5
    else
      F_X9_sunOf_33 p0 self4 b4_L1 b4_L3 b4_L2 (0 : Int32) M5
noncomputable def F_X9_sunOf (M : zMem) (p0 : Int32) : Option (Int32 × zMem) :=
  itF (fun _ _ _ _ => none) (F_X9_sunOf_4 p0) zFuel p0 (0 : Int32) (0 : Int32) M
def rm_X9_sunOf : Room := { frames := 4, cells := 0, slots := 0, locals := 122 }
set_option maxHeartbeats 4000000 in
set_option maxRecDepth 100000 in
theorem c_X9_sunOf (l : Launch) {G : zG} {ad : Nat → Nat} {n : Nat} (hA : zInj ad n) (M : zMem) (p0 : Int32) (hT : zT shX n 0 10) {r9 : Int32} {M9 : zMem} (hF : F_X9_sunOf M p0 = some (r9, M9)) : zM l yX9_sunOf cX9_sunOf 4 (some .int) rm_X9_sunOf G shX ad n M [.ref (ad 0), .int p0] (some (.int r9)) M9 := by
  refine zM_of hA (by decide +kernel) (lv := [(0, .ref (ad 0)), (1, .int p0)]) (Nat.le_of_ble_eq_true rfl) rfl (fun p e s m args below meth c A cx hr => ?_)
  have hb33 : ∀ (self4 : Int32 → Int32 → Int32 → zMem → Option (Int32 × zMem)) (hs4 : ∀ (b4_L1 : Int32) (b4_L2 : Int32) (b4_L3 : Int32) (M : zMem), self4 b4_L1 b4_L2 b4_L3 M = some (r9, M9) → zJ p l e rm_X9_sunOf s m args below meth c G shX ad n A 4 (MQ below (zQ G shX ad n M9 (some (.int r9)) A) args s 0 0 A) 0 0 M 4 [(0, .ref (ad 0)), (1, .int b4_L1), (2, .int b4_L2), (3, .int b4_L3)] []), ∀ (b33_L1 : Int32) (b33_L3 : Int32) (b33_S0 : Int32) (b33_S1 : Int32) (M : zMem), F_X9_sunOf_33 p0 self4 b33_L1 b33_L3 b33_S0 b33_S1 M = some (r9, M9) → zJ p l e rm_X9_sunOf s m args below meth c G shX ad n A 4 (MQ below (zQ G shX ad n M9 (some (.int r9)) A) args s 0 0 A) 0 0 M 33 [(0, .ref (ad 0)), (1, .int b33_L1), (3, .int b33_L3)] [.int b33_S1, .int b33_S0] := by
    intro self4 hs4 b33_L1 b33_L3 b33_S0 b33_S1 M hF
    unfold F_X9_sunOf_33 at hF
    refine z_iadd cx d_X9_sunOf_33 ?_
    refine z_nm hF (fun v1 hF => ?_)
    refine z_istore_n cx 2 [(2, .int v1), (0, .ref (ad 0)), (1, .int b33_L1), (3, .int b33_L3)] d_X9_sunOf_34 rfl (by decide) rfl ?_
    refine z_iinc cx 3 1 [(3, .int (b33_L3 + 1)), (2, .int v1), (0, .ref (ad 0)), (1, .int b33_L1)] d_X9_sunOf_35 3 rfl ki_1 (by decide) rfl ?_
    refine z_goto cx 4 d_X9_sunOf_38 (by decide) ?_
    exact z_lv [2, 3, 1, 0] _ rfl (hs4 b33_L1 v1 (b33_L3 + 1) M hF)
  have hL4 : ∀ (fuel : Nat), ∀ (b4_L1 : Int32) (b4_L2 : Int32) (b4_L3 : Int32) (M : zMem), itF (fun _ _ _ _ => none) (F_X9_sunOf_4 p0) fuel b4_L1 b4_L2 b4_L3 M = some (r9, M9) → zJ p l e rm_X9_sunOf s m args below meth c G shX ad n A 4 (MQ below (zQ G shX ad n M9 (some (.int r9)) A) args s 0 0 A) 0 0 M 4 [(0, .ref (ad 0)), (1, .int b4_L1), (2, .int b4_L2), (3, .int b4_L3)] [] := by
    intro fuel
    induction fuel with
    | zero => intro b4_L1 b4_L2 b4_L3 M hF; cases hF
    | succ fuel hs4 =>
      intro b4_L1 b4_L2 b4_L3 M hF
      have hF : F_X9_sunOf_4 p0 (itF (fun _ _ _ _ => none) (F_X9_sunOf_4 p0) fuel) b4_L1 b4_L2 b4_L3 M = some (r9, M9) := hF
      generalize itF (fun _ _ _ _ => none) (F_X9_sunOf_4 p0) fuel = self4 at hs4 hF
      unfold F_X9_sunOf_4 at hF
      refine z_iload_n cx d_X9_sunOf_4 3 rfl ?_
      refine z_aload_n cx d_X9_sunOf_5 0 rfl ?_
      obtain ⟨hg2, hF⟩ := gd_inv hF
      refine z_getD cx hT fg_SunnyPans_62 d_X9_sunOf_6 ?_
      refine z_getI cx (td_6 hT hg2) fg_SunnyPans_127 d_X9_sunOf_9 ?_
      refine z_icmp_ge cx 41 d_X9_sunOf_12 (by decide) hF (fun hF => ?_) (fun hF => ?_)
      · refine z_iload_n cx d_X9_sunOf_41 2 rfl ?_
        exact z_iret cx hr rfl hF d_X9_sunOf_42
      refine z_iload_n cx d_X9_sunOf_15 2 rfl ?_
      refine z_aload_n cx d_X9_sunOf_16 0 rfl ?_
      refine z_iload_n cx d_X9_sunOf_17 3 rfl ?_
      obtain ⟨v4, M3, hc, hF⟩ := zb_inv hF
      refine z_callV cx (As := [.int b4_L3]) (rest := [.int b4_L2]) (c_X9_shadeNow l cx.2.2.2.1.1 M b4_L3 hT hc) hT zo_10 cv_SunnyPans_227 ⟨rfl, rfl, Nat.le_of_ble_eq_true rfl, Nat.le_of_ble_eq_true rfl⟩ rfl rfl ⟨Nat.zero_le _, Nat.zero_le _⟩ (Nat.le_of_ble_eq_true rfl) d_X9_sunOf_18 ?_
      refine z_iload_n cx d_X9_sunOf_21 1 rfl ?_
      obtain ⟨v6, M5, hc, hF⟩ := zb_inv hF
      refine z_callS cx (As := [.long v4, .int b4_L1]) (rest := [.int b4_L2]) (c_X9_has l cx.2.2.2.1.1 M3 v4 b4_L1  hc) cs_SunnyPans_231 ⟨rfl, rfl, Nat.le_of_ble_eq_true rfl, Nat.le_of_ble_eq_true rfl⟩ rfl rfl ⟨Nat.zero_le _, Nat.zero_le _⟩ (Nat.le_of_ble_eq_true rfl) d_X9_sunOf_22 ?_
      refine z_if_eq cx 32 d_X9_sunOf_25 (by decide) hF (fun hF => ?_) (fun hF => ?_)
      · refine z_iconst (v := 1) cx d_X9_sunOf_32 ki_1 ?_
        exact z_lv [0, 1, 3] _ rfl (hb33 self4 hs4 b4_L1 b4_L3 b4_L2 (1 : Int32) M5 hF)
      refine z_iconst (v := 0) cx d_X9_sunOf_28 ki_0 ?_
      refine z_goto cx 33 d_X9_sunOf_29 (by decide) ?_
      exact z_lv [0, 1, 3] _ rfl (hb33 self4 hs4 b4_L1 b4_L3 b4_L2 (0 : Int32) M5 hF)
  unfold F_X9_sunOf at hF
  refine z_iconst (v := 0) cx d_X9_sunOf_0 ki_0 ?_
  refine z_istore_n cx 2 [(2, .int (0 : Int32)), (0, .ref (ad 0)), (1, .int p0)] d_X9_sunOf_1 rfl (by decide) rfl ?_
  refine z_iconst (v := 0) cx d_X9_sunOf_2 ki_0 ?_
  refine z_istore_n cx 3 [(3, .int (0 : Int32)), (2, .int (0 : Int32)), (0, .ref (ad 0)), (1, .int p0)] d_X9_sunOf_3 rfl (by decide) rfl ?_
  exact z_lv [2, 3, 1, 0] _ rfl (hL4 zFuel p0 (0 : Int32) (0 : Int32) M hF)
/-! SunnyPans.pan -/
set_option maxRecDepth 100000 in
theorem wd_1052 : Cond.code yX9_sunOf cX9_sunOf 4 (some .int) ∈ tbG := tw4 232 rfl rfl
set_option maxRecDepth 100000 in
theorem wd_1049 : Cond.methodLink "SunnyPans" 224 yX9_sunOf ∈ tbG := tw4 229 rfl rfl
set_option maxRecDepth 100000 in
theorem wd_1051 : Cond.instanceMethod yX9_sunOf ∈ tbG := tw4 231 rfl rfl
theorem wd_26 : Cond.selects "SunnyPans" yX9_sunOf yX9_sunOf ∈ tbG := tw 26 (by decide +kernel) rfl
theorem cv_SunnyPans_224 : zCV "SunnyPans" 224 "SunnyPans" yX9_sunOf cX9_sunOf 4 (some .int) 1 := zCV_of wd_1049 wd_1051 wd_26 wd_101 wd_1052 (by decide +kernel)
set_option maxRecDepth 100000 in
theorem wd_1048 : Cond.methodLink "SunnyPans" 220 yX9_heightOf ∈ tbG := tw4 228 rfl rfl
theorem cs_SunnyPans_220 : zCS "SunnyPans" 220 yX9_heightOf cX9_heightOf 1 (some .int) 1 := zCS_of wd_1048 wd_760 wd_101 wd_761 (by decide +kernel)
set_option maxRecDepth 100000 in
theorem wd_1047 : Cond.code yX9_strengthOf cX9_strengthOf 3 (some .int) ∈ tbG := tw4 227 rfl rfl
set_option maxRecDepth 100000 in
theorem wd_1045 : Cond.methodLink "SunnyPans" 217 yX9_strengthOf ∈ tbG := tw4 225 rfl rfl
set_option maxRecDepth 100000 in
theorem wd_1046 : Cond.static yX9_strengthOf ∈ tbG := tw4 226 rfl rfl
theorem cs_SunnyPans_217 : zCS "SunnyPans" 217 yX9_strengthOf cX9_strengthOf 3 (some .int) 2 := zCS_of wd_1045 wd_1046 wd_101 wd_1047 (by decide +kernel)
set_option maxRecDepth 100000 in
theorem wd_1044 : Cond.methodLink "SunnyPans" 213 yX9_placeOf ∈ tbG := tw4 224 rfl rfl
theorem cs_SunnyPans_213 : zCS "SunnyPans" 213 yX9_placeOf cX9_placeOf 2 (some .int) 2 := zCS_of wd_1044 wd_310 wd_101 wd_311 (by decide +kernel)
set_option maxRecDepth 100000 in
theorem wd_1022 : Cond.code yX9_needPlace cX9_needPlace 3 none ∈ tbG := tw4 202 rfl rfl
set_option maxRecDepth 100000 in
theorem wd_1019 : Cond.methodLink "SunnyPans" 210 yX9_needPlace ∈ tbG := tw4 199 rfl rfl
set_option maxRecDepth 100000 in
theorem wd_1021 : Cond.instanceMethod yX9_needPlace ∈ tbG := tw4 201 rfl rfl
theorem wd_24 : Cond.selects "SunnyPans" yX9_needPlace yX9_needPlace ∈ tbG := tw 24 (by decide +kernel) rfl
theorem cv_SunnyPans_210 : zCV "SunnyPans" 210 "SunnyPans" yX9_needPlace cX9_needPlace 3 none 2 := zCV_of wd_1019 wd_1021 wd_24 wd_101 wd_1022 (by decide +kernel)
theorem d_X9_pan_0 : decode cX9_pan 0 = .ok (.aload_n 0, 1) := by decide +kernel
theorem d_X9_pan_1 : decode cX9_pan 1 = .ok (.iload_n 1, 1) := by decide +kernel
theorem d_X9_pan_2 : decode cX9_pan 2 = .ok (.iload_n 2, 1) := by decide +kernel
theorem d_X9_pan_3 : decode cX9_pan 3 = .ok (.invokevirtual 210, 3) := by decide +kernel
theorem d_X9_pan_6 : decode cX9_pan 6 = .ok (.aload_n 0, 1) := by decide +kernel
theorem d_X9_pan_7 : decode cX9_pan 7 = .ok (.iload_n 3, 1) := by decide +kernel
theorem d_X9_pan_8 : decode cX9_pan 8 = .ok (.ifCond .lt 13, 3) := by decide +kernel
theorem d_X9_pan_11 : decode cX9_pan 11 = .ok (.iload_n 3, 1) := by decide +kernel
theorem d_X9_pan_12 : decode cX9_pan 12 = .ok (.bipush 6, 2) := by decide +kernel
theorem d_X9_pan_14 : decode cX9_pan 14 = .ok (.if_icmp .gt 7, 3) := by decide +kernel
theorem d_X9_pan_17 : decode cX9_pan 17 = .ok (.iconst 1, 1) := by decide +kernel
theorem d_X9_pan_18 : decode cX9_pan 18 = .ok (.goto 4, 3) := by decide +kernel
theorem d_X9_pan_21 : decode cX9_pan 21 = .ok (.iconst 0, 1) := by decide +kernel
theorem d_X9_pan_22 : decode cX9_pan 22 = .ok (.invokevirtual 155, 3) := by decide +kernel
theorem d_X9_pan_25 : decode cX9_pan 25 = .ok (.aload_n 0, 1) := by decide +kernel
theorem d_X9_pan_26 : decode cX9_pan 26 = .ok (.getfield 19, 3) := by decide +kernel
theorem d_X9_pan_29 : decode cX9_pan 29 = .ok (.getfield 159, 3) := by decide +kernel
theorem d_X9_pan_32 : decode cX9_pan 32 = .ok (.astore 4, 2) := by decide +kernel
theorem d_X9_pan_34 : decode cX9_pan 34 = .ok (.iload_n 1, 1) := by decide +kernel
theorem d_X9_pan_35 : decode cX9_pan 35 = .ok (.iload_n 2, 1) := by decide +kernel
theorem d_X9_pan_36 : decode cX9_pan 36 = .ok (.invokestatic 213, 3) := by decide +kernel
theorem d_X9_pan_39 : decode cX9_pan 39 = .ok (.istore 5, 2) := by decide +kernel
theorem d_X9_pan_41 : decode cX9_pan 41 = .ok (.iload_n 3, 1) := by decide +kernel
theorem d_X9_pan_42 : decode cX9_pan 42 = .ok (.tableswitch 104 0 5 #[38, 47, 56, 76, 85, 97], 38) := by decide +kernel
theorem d_X9_pan_80 : decode cX9_pan 80 = .ok (.aload 4, 2) := by decide +kernel
theorem d_X9_pan_82 : decode cX9_pan 82 = .ok (.getfield 174, 3) := by decide +kernel
theorem d_X9_pan_85 : decode cX9_pan 85 = .ok (.iload 5, 2) := by decide +kernel
theorem d_X9_pan_87 : decode cX9_pan 87 = .ok (.iaload, 1) := by decide +kernel
theorem d_X9_pan_88 : decode cX9_pan 88 = .ok (.ireturn, 1) := by decide +kernel
theorem d_X9_pan_89 : decode cX9_pan 89 = .ok (.aload 4, 2) := by decide +kernel
theorem d_X9_pan_91 : decode cX9_pan 91 = .ok (.getfield 181, 3) := by decide +kernel
theorem d_X9_pan_94 : decode cX9_pan 94 = .ok (.iload 5, 2) := by decide +kernel
theorem d_X9_pan_96 : decode cX9_pan 96 = .ok (.iaload, 1) := by decide +kernel
theorem d_X9_pan_97 : decode cX9_pan 97 = .ok (.ireturn, 1) := by decide +kernel
theorem d_X9_pan_98 : decode cX9_pan 98 = .ok (.aload 4, 2) := by decide +kernel
theorem d_X9_pan_100 : decode cX9_pan 100 = .ok (.getfield 181, 3) := by decide +kernel
theorem d_X9_pan_103 : decode cX9_pan 103 = .ok (.iload 5, 2) := by decide +kernel
theorem d_X9_pan_105 : decode cX9_pan 105 = .ok (.iaload, 1) := by decide +kernel
theorem d_X9_pan_106 : decode cX9_pan 106 = .ok (.aload 4, 2) := by decide +kernel
theorem d_X9_pan_108 : decode cX9_pan 108 = .ok (.getfield 174, 3) := by decide +kernel
theorem d_X9_pan_111 : decode cX9_pan 111 = .ok (.iload 5, 2) := by decide +kernel
theorem d_X9_pan_113 : decode cX9_pan 113 = .ok (.iaload, 1) := by decide +kernel
theorem d_X9_pan_114 : decode cX9_pan 114 = .ok (.invokestatic 217, 3) := by decide +kernel
theorem d_X9_pan_117 : decode cX9_pan 117 = .ok (.ireturn, 1) := by decide +kernel
theorem d_X9_pan_118 : decode cX9_pan 118 = .ok (.aload 4, 2) := by decide +kernel
theorem d_X9_pan_120 : decode cX9_pan 120 = .ok (.getfield 184, 3) := by decide +kernel
theorem d_X9_pan_123 : decode cX9_pan 123 = .ok (.iload 5, 2) := by decide +kernel
theorem d_X9_pan_125 : decode cX9_pan 125 = .ok (.iaload, 1) := by decide +kernel
theorem d_X9_pan_126 : decode cX9_pan 126 = .ok (.ireturn, 1) := by decide +kernel
theorem d_X9_pan_127 : decode cX9_pan 127 = .ok (.aload 4, 2) := by decide +kernel
theorem d_X9_pan_129 : decode cX9_pan 129 = .ok (.getfield 184, 3) := by decide +kernel
theorem d_X9_pan_132 : decode cX9_pan 132 = .ok (.iload 5, 2) := by decide +kernel
theorem d_X9_pan_134 : decode cX9_pan 134 = .ok (.iaload, 1) := by decide +kernel
theorem d_X9_pan_135 : decode cX9_pan 135 = .ok (.invokestatic 220, 3) := by decide +kernel
theorem d_X9_pan_138 : decode cX9_pan 138 = .ok (.ireturn, 1) := by decide +kernel
theorem d_X9_pan_139 : decode cX9_pan 139 = .ok (.aload_n 0, 1) := by decide +kernel
theorem d_X9_pan_140 : decode cX9_pan 140 = .ok (.iload 5, 2) := by decide +kernel
theorem d_X9_pan_142 : decode cX9_pan 142 = .ok (.invokevirtual 224, 3) := by decide +kernel
theorem d_X9_pan_145 : decode cX9_pan 145 = .ok (.ireturn, 1) := by decide +kernel
theorem d_X9_pan_146 : decode cX9_pan 146 = .ok (.aload_n 0, 1) := by decide +kernel
theorem d_X9_pan_147 : decode cX9_pan 147 = .ok (.getfield 62, 3) := by decide +kernel
theorem d_X9_pan_150 : decode cX9_pan 150 = .ok (.getfield 127, 3) := by decide +kernel
theorem d_X9_pan_153 : decode cX9_pan 153 = .ok (.ifCond .le 24, 3) := by decide +kernel
theorem d_X9_pan_156 : decode cX9_pan 156 = .ok (.aload_n 0, 1) := by decide +kernel
theorem d_X9_pan_157 : decode cX9_pan 157 = .ok (.aload 4, 2) := by decide +kernel
theorem d_X9_pan_159 : decode cX9_pan 159 = .ok (.getfield 171, 3) := by decide +kernel
theorem d_X9_pan_162 : decode cX9_pan 162 = .ok (.invokevirtual 227, 3) := by decide +kernel
theorem d_X9_pan_165 : decode cX9_pan 165 = .ok (.iload 5, 2) := by decide +kernel
theorem d_X9_pan_167 : decode cX9_pan 167 = .ok (.invokestatic 231, 3) := by decide +kernel
theorem d_X9_pan_170 : decode cX9_pan 170 = .ok (.ifCond .eq 7, 3) := by decide +kernel
theorem d_X9_pan_173 : decode cX9_pan 173 = .ok (.iconst 1, 1) := by decide +kernel
theorem d_X9_pan_174 : decode cX9_pan 174 = .ok (.goto 4, 3) := by decide +kernel
theorem d_X9_pan_177 : decode cX9_pan 177 = .ok (.iconst 0, 1) := by decide +kernel
theorem d_X9_pan_178 : decode cX9_pan 178 = .ok (.ireturn, 1) := by decide +kernel
noncomputable def F_X9_pan_146 (p0 : Int32) (p1 : Int32) (p2 : Int32) (b146_L5 : Int32) (M : zMem) : Option (Nat × Int32 × zMem) :=
  gd (shX (M.2.2 0 8) == 6) <|
  if (M.1 (M.2.2 0 8) 2) ≤ 0 then
    some (0, (0 : Int32), M)
  else
    zb (F_X9_shadeNow M (M.1 4 5)) fun v3 M2 =>
    zb (F_X9_has M2 v3 b146_L5) fun v5 M4 =>
    if v5 = 0 then
      some (0, (0 : Int32), M4)
    else
      some (0, (1 : Int32), M4)
noncomputable def F_X9_pan_139 (p0 : Int32) (p1 : Int32) (p2 : Int32) (b139_L5 : Int32) (M : zMem) : Option (Nat × Int32 × zMem) :=
  zb (F_X9_sunOf M b139_L5) fun v7 M6 =>
  some (0, v7, M6)
noncomputable def F_X9_pan_127 (p0 : Int32) (p1 : Int32) (p2 : Int32) (b127_L5 : Int32) (M : zMem) : Option (Nat × Int32 × zMem) :=
  gin b127_L5 64 <|
  zb (F_X9_heightOf M (M.1 7 b127_L5.toNatClampNeg)) fun v10 M9 =>
  some (0, v10, M9)
noncomputable def F_X9_pan_118 (p0 : Int32) (p1 : Int32) (p2 : Int32) (b118_L5 : Int32) (M : zMem) : Option (Nat × Int32 × zMem) :=
  gin b118_L5 64 <|
  some (0, (M.1 7 b118_L5.toNatClampNeg), M)
noncomputable def F_X9_pan_98 (p0 : Int32) (p1 : Int32) (p2 : Int32) (b98_L5 : Int32) (M : zMem) : Option (Nat × Int32 × zMem) :=
  gin b98_L5 64 <|
  zb (F_X9_strengthOf M (M.1 6 b98_L5.toNatClampNeg) (M.1 5 b98_L5.toNatClampNeg)) fun v14 M13 =>
  some (0, v14, M13)
noncomputable def F_X9_pan_89 (p0 : Int32) (p1 : Int32) (p2 : Int32) (b89_L5 : Int32) (M : zMem) : Option (Nat × Int32 × zMem) :=
  gin b89_L5 64 <|
  some (0, (M.1 6 b89_L5.toNatClampNeg), M)
noncomputable def F_X9_pan_80 (p0 : Int32) (p1 : Int32) (p2 : Int32) (b80_L5 : Int32) (M : zMem) : Option (Nat × Int32 × zMem) :=
  gin b80_L5 64 <|
  some (0, (M.1 5 b80_L5.toNatClampNeg), M)
noncomputable def F_X9_pan_22 (p0 : Int32) (p1 : Int32) (p2 : Int32) (b22_L1 : Int32) (b22_L2 : Int32) (b22_L3 : Int32) (b22_S1 : Int32) (M : zMem) : Option (Nat × Int32 × zMem) :=
  zbx (F_X9_need M b22_S1) (g := zxp) fun _ M17 =>
  zb (F_X9_placeOf M17 b22_L1 b22_L2) fun v23 M22 =>
  if b22_L3 = 0 then
    F_X9_pan_80 p0 p1 p2 v23 M22
  else
  if b22_L3 = 1 then
    F_X9_pan_89 p0 p1 p2 v23 M22
  else
  if b22_L3 = 2 then
    F_X9_pan_98 p0 p1 p2 v23 M22
  else
  if b22_L3 = 3 then
    F_X9_pan_118 p0 p1 p2 v23 M22
  else
  if b22_L3 = 4 then
    F_X9_pan_127 p0 p1 p2 v23 M22
  else
  if b22_L3 = 5 then
    F_X9_pan_139 p0 p1 p2 v23 M22
  else
  F_X9_pan_146 p0 p1 p2 v23 M22
noncomputable def F_X9_pan_21 (p0 : Int32) (p1 : Int32) (p2 : Int32) (b21_L1 : Int32) (b21_L2 : Int32) (b21_L3 : Int32) (M : zMem) : Option (Nat × Int32 × zMem) :=
  F_X9_pan_22 p0 p1 p2 b21_L1 b21_L2 b21_L3 (0 : Int32) M
noncomputable def F_X9_pan (M : zMem) (p0 : Int32) (p1 : Int32) (p2 : Int32) : Option (Nat × Int32 × zMem) :=
  zbx (F_X9_needPlace M p0 p1) (g := zxp) fun _ M24 =>
  if p2 < 0 then
    F_X9_pan_21 p0 p1 p2 p0 p1 p2 M24
  else
    if (6 : Int32) < p2 then
      F_X9_pan_21 p0 p1 p2 p0 p1 p2 M24
    else
      F_X9_pan_22 p0 p1 p2 p0 p1 p2 (1 : Int32) M24
def rm_X9_pan : Room := { frames := 11, cells := 2, slots := 12, locals := 183 }
set_option maxHeartbeats 4000000 in
set_option maxRecDepth 100000 in
theorem c_X9_pan (l : Launch) {G : zG} {ad : Nat → Nat} {n : Nat} (hA : zInj ad n) (M : zMem) (p0 : Int32) (p1 : Int32) (p2 : Int32) (hl : l.stackTraces = false) (hT : zT shX n 0 10) {k9 : Nat} {r9 : Int32} {M9 : zMem} (hF : F_X9_pan M p0 p1 p2 = some (k9, r9, M9)) : zMX l yX9_pan cX9_pan 6 (some .int) rm_X9_pan 2 12 G shX ad n M [.ref (ad 0), .int p0, .int p1, .int p2] k9 (some (.int r9)) M9 := by
  refine zM_ofX hA (by decide +kernel) (lv := [(0, .ref (ad 0)), (1, .int p0), (2, .int p1), (3, .int p2)]) (Nat.le_of_ble_eq_true rfl) rfl (fun p e s m args below meth c A cx hr ht => ?_)
  have hb146 : ∀ (b146_L5 : Int32) (M : zMem), F_X9_pan_146 p0 p1 p2 b146_L5 M = some (k9, r9, M9) → zJ p l e rm_X9_pan s m args below meth c G shX ad n A 6 (vx_MQ below (zQX G shX ad n M9 k9 (some (.int r9)) A) (zXC G shX ad n M9 k9 A) args s 2 12 A) 2 12 M 146 [(0, .ref (ad 0)), (4, .ref (ad 4)), (5, .int b146_L5)] [] := by
    intro b146_L5 M hF
    unfold F_X9_pan_146 at hF
    refine z_aload_n cx d_X9_pan_146 0 rfl ?_
    obtain ⟨hg1, hF⟩ := gd_inv hF
    refine z_getD cx hT fg_SunnyPans_62 d_X9_pan_147 ?_
    refine z_getI cx (td_6 hT hg1) fg_SunnyPans_127 d_X9_pan_150 ?_
    refine z_if_le cx 177 d_X9_pan_153 (by decide) hF (fun hF => ?_) (fun hF => ?_)
    · refine z_iconst (v := 0) cx d_X9_pan_177 ki_0 ?_
      exact z_iretX cx hr rfl hF ⟨Nat.le_of_ble_eq_true rfl, Nat.le_of_ble_eq_true rfl⟩ d_X9_pan_178
    refine z_aload_n cx d_X9_pan_156 0 rfl ?_
    refine z_aload cx d_X9_pan_157 1 rfl ?_
    refine z_getI cx (tfX_8_1 (tfX_10_3 hT)) fg_SunnyPans_171 d_X9_pan_159 ?_
    obtain ⟨v3, M2, hc, hF⟩ := zb_inv hF
    refine z_callV cx (As := [.int (M.1 4 5)]) (rest := []) (c_X9_shadeNow l cx.2.2.2.1.1 M (M.1 4 5) hT hc) hT zo_10 cv_SunnyPans_227 ⟨rfl, rfl, Nat.le_of_ble_eq_true rfl, Nat.le_of_ble_eq_true rfl⟩ rfl rfl ⟨Nat.le_of_ble_eq_true rfl, Nat.le_of_ble_eq_true rfl⟩ (Nat.le_of_ble_eq_true rfl) d_X9_pan_162 ?_
    refine z_iload cx d_X9_pan_165 2 rfl ?_
    obtain ⟨v5, M4, hc, hF⟩ := zb_inv hF
    refine z_callS cx (As := [.long v3, .int b146_L5]) (rest := []) (c_X9_has l cx.2.2.2.1.1 M2 v3 b146_L5  hc) cs_SunnyPans_231 ⟨rfl, rfl, Nat.le_of_ble_eq_true rfl, Nat.le_of_ble_eq_true rfl⟩ rfl rfl ⟨Nat.le_of_ble_eq_true rfl, Nat.le_of_ble_eq_true rfl⟩ (Nat.le_of_ble_eq_true rfl) d_X9_pan_167 ?_
    refine z_if_eq cx 177 d_X9_pan_170 (by decide) hF (fun hF => ?_) (fun hF => ?_)
    · refine z_iconst (v := 0) cx d_X9_pan_177 ki_0 ?_
      exact z_iretX cx hr rfl hF ⟨Nat.le_of_ble_eq_true rfl, Nat.le_of_ble_eq_true rfl⟩ d_X9_pan_178
    refine z_iconst (v := 1) cx d_X9_pan_173 ki_1 ?_
    refine z_goto cx 178 d_X9_pan_174 (by decide) ?_
    exact z_iretX cx hr rfl hF ⟨Nat.le_of_ble_eq_true rfl, Nat.le_of_ble_eq_true rfl⟩ d_X9_pan_178
  have hb139 : ∀ (b139_L5 : Int32) (M : zMem), F_X9_pan_139 p0 p1 p2 b139_L5 M = some (k9, r9, M9) → zJ p l e rm_X9_pan s m args below meth c G shX ad n A 6 (vx_MQ below (zQX G shX ad n M9 k9 (some (.int r9)) A) (zXC G shX ad n M9 k9 A) args s 2 12 A) 2 12 M 139 [(0, .ref (ad 0)), (5, .int b139_L5)] [] := by
    intro b139_L5 M hF
    unfold F_X9_pan_139 at hF
    refine z_aload_n cx d_X9_pan_139 0 rfl ?_
    refine z_iload cx d_X9_pan_140 1 rfl ?_
    obtain ⟨v7, M6, hc, hF⟩ := zb_inv hF
    refine z_callV cx (As := [.int b139_L5]) (rest := []) (c_X9_sunOf l cx.2.2.2.1.1 M b139_L5 hT hc) hT zo_10 cv_SunnyPans_224 ⟨rfl, rfl, Nat.le_of_ble_eq_true rfl, Nat.le_of_ble_eq_true rfl⟩ rfl rfl ⟨Nat.le_of_ble_eq_true rfl, Nat.le_of_ble_eq_true rfl⟩ (Nat.le_of_ble_eq_true rfl) d_X9_pan_142 ?_
    exact z_iretX cx hr rfl hF ⟨Nat.le_of_ble_eq_true rfl, Nat.le_of_ble_eq_true rfl⟩ d_X9_pan_145
  have hb127 : ∀ (b127_L5 : Int32) (M : zMem), F_X9_pan_127 p0 p1 p2 b127_L5 M = some (k9, r9, M9) → zJ p l e rm_X9_pan s m args below meth c G shX ad n A 6 (vx_MQ below (zQX G shX ad n M9 k9 (some (.int r9)) A) (zXC G shX ad n M9 k9 A) args s 2 12 A) 2 12 M 127 [(4, .ref (ad 4)), (5, .int b127_L5)] [] := by
    intro b127_L5 M hF
    unfold F_X9_pan_127 at hF
    refine z_aload cx d_X9_pan_127 0 rfl ?_
    refine z_getR cx (tfX_8_1 (tfX_10_3 hT)) fg_SunnyPans_184 7 rfl d_X9_pan_129 ?_
    refine z_iload cx d_X9_pan_132 1 rfl ?_
    obtain ⟨hi8, hF⟩ := gin_inv hF
    refine z_iald cx (tfX_5_3 (tfX_8_1 (tfX_10_3 hT))) za_16 hi8 b127_L5.toNatClampNeg rfl d_X9_pan_134 ?_
    obtain ⟨v10, M9, hc, hF⟩ := zb_inv hF
    refine z_callS cx (As := [.int (M.1 7 b127_L5.toNatClampNeg)]) (rest := []) (c_X9_heightOf l cx.2.2.2.1.1 M (M.1 7 b127_L5.toNatClampNeg)  hc) cs_SunnyPans_220 ⟨rfl, rfl, Nat.le_of_ble_eq_true rfl, Nat.le_of_ble_eq_true rfl⟩ rfl rfl ⟨Nat.le_of_ble_eq_true rfl, Nat.le_of_ble_eq_true rfl⟩ (Nat.le_of_ble_eq_true rfl) d_X9_pan_135 ?_
    exact z_iretX cx hr rfl hF ⟨Nat.le_of_ble_eq_true rfl, Nat.le_of_ble_eq_true rfl⟩ d_X9_pan_138
  have hb118 : ∀ (b118_L5 : Int32) (M : zMem), F_X9_pan_118 p0 p1 p2 b118_L5 M = some (k9, r9, M9) → zJ p l e rm_X9_pan s m args below meth c G shX ad n A 6 (vx_MQ below (zQX G shX ad n M9 k9 (some (.int r9)) A) (zXC G shX ad n M9 k9 A) args s 2 12 A) 2 12 M 118 [(4, .ref (ad 4)), (5, .int b118_L5)] [] := by
    intro b118_L5 M hF
    unfold F_X9_pan_118 at hF
    refine z_aload cx d_X9_pan_118 0 rfl ?_
    refine z_getR cx (tfX_8_1 (tfX_10_3 hT)) fg_SunnyPans_184 7 rfl d_X9_pan_120 ?_
    refine z_iload cx d_X9_pan_123 1 rfl ?_
    obtain ⟨hi11, hF⟩ := gin_inv hF
    refine z_iald cx (tfX_5_3 (tfX_8_1 (tfX_10_3 hT))) za_16 hi11 b118_L5.toNatClampNeg rfl d_X9_pan_125 ?_
    exact z_iretX cx hr rfl hF ⟨Nat.le_of_ble_eq_true rfl, Nat.le_of_ble_eq_true rfl⟩ d_X9_pan_126
  have hb98 : ∀ (b98_L5 : Int32) (M : zMem), F_X9_pan_98 p0 p1 p2 b98_L5 M = some (k9, r9, M9) → zJ p l e rm_X9_pan s m args below meth c G shX ad n A 6 (vx_MQ below (zQX G shX ad n M9 k9 (some (.int r9)) A) (zXC G shX ad n M9 k9 A) args s 2 12 A) 2 12 M 98 [(4, .ref (ad 4)), (5, .int b98_L5)] [] := by
    intro b98_L5 M hF
    unfold F_X9_pan_98 at hF
    refine z_aload cx d_X9_pan_98 0 rfl ?_
    refine z_getR cx (tfX_8_1 (tfX_10_3 hT)) fg_SunnyPans_181 6 rfl d_X9_pan_100 ?_
    refine z_iload cx d_X9_pan_103 1 rfl ?_
    obtain ⟨hi12, hF⟩ := gin_inv hF
    refine z_iald cx (tfX_5_2 (tfX_8_1 (tfX_10_3 hT))) za_16 hi12 b98_L5.toNatClampNeg rfl d_X9_pan_105 ?_
    refine z_aload cx d_X9_pan_106 0 rfl ?_
    refine z_getR cx (tfX_8_1 (tfX_10_3 hT)) fg_SunnyPans_174 5 rfl d_X9_pan_108 ?_
    refine z_iload cx d_X9_pan_111 1 rfl ?_
    refine z_iald cx (tfX_5_1 (tfX_8_1 (tfX_10_3 hT))) za_16 hi12 b98_L5.toNatClampNeg rfl d_X9_pan_113 ?_
    obtain ⟨v14, M13, hc, hF⟩ := zb_inv hF
    refine z_callS cx (As := [.int (M.1 6 b98_L5.toNatClampNeg), .int (M.1 5 b98_L5.toNatClampNeg)]) (rest := []) (c_X9_strengthOf l cx.2.2.2.1.1 M (M.1 6 b98_L5.toNatClampNeg) (M.1 5 b98_L5.toNatClampNeg)  hc) cs_SunnyPans_217 ⟨rfl, rfl, Nat.le_of_ble_eq_true rfl, Nat.le_of_ble_eq_true rfl⟩ rfl rfl ⟨Nat.le_of_ble_eq_true rfl, Nat.le_of_ble_eq_true rfl⟩ (Nat.le_of_ble_eq_true rfl) d_X9_pan_114 ?_
    exact z_iretX cx hr rfl hF ⟨Nat.le_of_ble_eq_true rfl, Nat.le_of_ble_eq_true rfl⟩ d_X9_pan_117
  have hb89 : ∀ (b89_L5 : Int32) (M : zMem), F_X9_pan_89 p0 p1 p2 b89_L5 M = some (k9, r9, M9) → zJ p l e rm_X9_pan s m args below meth c G shX ad n A 6 (vx_MQ below (zQX G shX ad n M9 k9 (some (.int r9)) A) (zXC G shX ad n M9 k9 A) args s 2 12 A) 2 12 M 89 [(4, .ref (ad 4)), (5, .int b89_L5)] [] := by
    intro b89_L5 M hF
    unfold F_X9_pan_89 at hF
    refine z_aload cx d_X9_pan_89 0 rfl ?_
    refine z_getR cx (tfX_8_1 (tfX_10_3 hT)) fg_SunnyPans_181 6 rfl d_X9_pan_91 ?_
    refine z_iload cx d_X9_pan_94 1 rfl ?_
    obtain ⟨hi15, hF⟩ := gin_inv hF
    refine z_iald cx (tfX_5_2 (tfX_8_1 (tfX_10_3 hT))) za_16 hi15 b89_L5.toNatClampNeg rfl d_X9_pan_96 ?_
    exact z_iretX cx hr rfl hF ⟨Nat.le_of_ble_eq_true rfl, Nat.le_of_ble_eq_true rfl⟩ d_X9_pan_97
  have hb80 : ∀ (b80_L5 : Int32) (M : zMem), F_X9_pan_80 p0 p1 p2 b80_L5 M = some (k9, r9, M9) → zJ p l e rm_X9_pan s m args below meth c G shX ad n A 6 (vx_MQ below (zQX G shX ad n M9 k9 (some (.int r9)) A) (zXC G shX ad n M9 k9 A) args s 2 12 A) 2 12 M 80 [(4, .ref (ad 4)), (5, .int b80_L5)] [] := by
    intro b80_L5 M hF
    unfold F_X9_pan_80 at hF
    refine z_aload cx d_X9_pan_80 0 rfl ?_
    refine z_getR cx (tfX_8_1 (tfX_10_3 hT)) fg_SunnyPans_174 5 rfl d_X9_pan_82 ?_
    refine z_iload cx d_X9_pan_85 1 rfl ?_
    obtain ⟨hi16, hF⟩ := gin_inv hF
    refine z_iald cx (tfX_5_1 (tfX_8_1 (tfX_10_3 hT))) za_16 hi16 b80_L5.toNatClampNeg rfl d_X9_pan_87 ?_
    exact z_iretX cx hr rfl hF ⟨Nat.le_of_ble_eq_true rfl, Nat.le_of_ble_eq_true rfl⟩ d_X9_pan_88
  have hb22 : ∀ (b22_L1 : Int32) (b22_L2 : Int32) (b22_L3 : Int32) (b22_S1 : Int32) (M : zMem), F_X9_pan_22 p0 p1 p2 b22_L1 b22_L2 b22_L3 b22_S1 M = some (k9, r9, M9) → zJ p l e rm_X9_pan s m args below meth c G shX ad n A 6 (vx_MQ below (zQX G shX ad n M9 k9 (some (.int r9)) A) (zXC G shX ad n M9 k9 A) args s 2 12 A) 1 6 M 22 [(0, .ref (ad 0)), (1, .int b22_L1), (2, .int b22_L2), (3, .int b22_L3)] [.int b22_S1, .ref (ad 0)] := by
    intro b22_L1 b22_L2 b22_L3 b22_S1 M hF
    unfold F_X9_pan_22 at hF
    obtain ⟨k18, v19, M17, hc, hF, hX20⟩ := zbx_inv hF
    refine z_callVX cx ht (As := [.int b22_S1]) (rest := []) (c_X9_need l cx.2.2.2.1.1 M b22_S1 hl hT hc) (fun q => zxp_inv (hX20 q)) hT zo_10 cv_SunnyPans_155 ⟨rfl, rfl, Nat.le_of_ble_eq_true rfl, Nat.le_of_ble_eq_true rfl⟩ rfl rfl ⟨Nat.le_of_ble_eq_true rfl, Nat.le_of_ble_eq_true rfl⟩ ⟨Nat.le_of_ble_eq_true rfl, Nat.le_of_ble_eq_true rfl⟩ (Nat.le_of_ble_eq_true rfl) d_X9_pan_22 (fun kq21 => ?_)
    have hF := hF kq21
    refine z_aload_n cx d_X9_pan_25 0 rfl ?_
    refine z_getR cx hT fg_SunnyPans_19 3 rfl d_X9_pan_26 ?_
    refine z_getR cx (tfX_10_3 hT) fg_SunnyPans_159 4 rfl d_X9_pan_29 ?_
    refine z_astore cx 4 [(4, .ref (ad 4)), (0, .ref (ad 0)), (1, .int b22_L1), (2, .int b22_L2), (3, .int b22_L3)] d_X9_pan_32 (by decide) rfl ?_
    refine z_iload_n cx d_X9_pan_34 2 rfl ?_
    refine z_iload_n cx d_X9_pan_35 3 rfl ?_
    obtain ⟨v23, M22, hc, hF⟩ := zb_inv hF
    refine z_callS cx (As := [.int b22_L1, .int b22_L2]) (rest := []) (c_X9_placeOf l cx.2.2.2.1.1 M17 b22_L1 b22_L2  hc) cs_SunnyPans_213 ⟨rfl, rfl, Nat.le_of_ble_eq_true rfl, Nat.le_of_ble_eq_true rfl⟩ rfl rfl ⟨Nat.le_of_ble_eq_true rfl, Nat.le_of_ble_eq_true rfl⟩ (Nat.le_of_ble_eq_true rfl) d_X9_pan_36 ?_
    refine z_istore cx 5 [(5, .int v23), (4, .ref (ad 4)), (0, .ref (ad 0)), (1, .int b22_L1), (2, .int b22_L2), (3, .int b22_L3)] d_X9_pan_39 (by decide) rfl ?_
    refine z_iload_n cx d_X9_pan_41 5 rfl ?_
    by_cases q0 : b22_L3 = 0
    · rw [if_pos q0] at hF
      refine z_tabIn cx 80 d_X9_pan_42 (by rw [q0]; decide +kernel) (by rw [q0]; decide +kernel) (by rw [q0]; rfl) (by decide) ?_
      exact z_lv [1, 0] _ rfl (hb80 v23 M22 hF)
    rw [if_neg q0] at hF
    by_cases q1 : b22_L3 = 1
    · rw [if_pos q1] at hF
      refine z_tabIn cx 89 d_X9_pan_42 (by rw [q1]; decide +kernel) (by rw [q1]; decide +kernel) (by rw [q1]; rfl) (by decide) ?_
      exact z_lv [1, 0] _ rfl (hb89 v23 M22 hF)
    rw [if_neg q1] at hF
    by_cases q2 : b22_L3 = 2
    · rw [if_pos q2] at hF
      refine z_tabIn cx 98 d_X9_pan_42 (by rw [q2]; decide +kernel) (by rw [q2]; decide +kernel) (by rw [q2]; rfl) (by decide) ?_
      exact z_lv [1, 0] _ rfl (hb98 v23 M22 hF)
    rw [if_neg q2] at hF
    by_cases q3 : b22_L3 = 3
    · rw [if_pos q3] at hF
      refine z_tabIn cx 118 d_X9_pan_42 (by rw [q3]; decide +kernel) (by rw [q3]; decide +kernel) (by rw [q3]; rfl) (by decide) ?_
      exact z_lv [1, 0] _ rfl (hb118 v23 M22 hF)
    rw [if_neg q3] at hF
    by_cases q4 : b22_L3 = 4
    · rw [if_pos q4] at hF
      refine z_tabIn cx 127 d_X9_pan_42 (by rw [q4]; decide +kernel) (by rw [q4]; decide +kernel) (by rw [q4]; rfl) (by decide) ?_
      exact z_lv [1, 0] _ rfl (hb127 v23 M22 hF)
    rw [if_neg q4] at hF
    by_cases q5 : b22_L3 = 5
    · rw [if_pos q5] at hF
      refine z_tabIn cx 139 d_X9_pan_42 (by rw [q5]; decide +kernel) (by rw [q5]; decide +kernel) (by rw [q5]; rfl) (by decide) ?_
      exact z_lv [2, 0] _ rfl (hb139 v23 M22 hF)
    rw [if_neg q5] at hF
    refine z_tabOut cx 146 d_X9_pan_42 (by have w0 := lv_neT q0 (a := 0) (by decide +kernel); have w1 := lv_neT q1 (a := 1) (by decide +kernel); have w2 := lv_neT q2 (a := 2) (by decide +kernel); have w3 := lv_neT q3 (a := 3) (by decide +kernel); have w4 := lv_neT q4 (a := 4) (by decide +kernel); have w5 := lv_neT q5 (a := 5) (by decide +kernel); omega) (by decide) ?_
    exact z_lv [2, 1, 0] _ rfl (hb146 v23 M22 hF)
  have hb21 : ∀ (b21_L1 : Int32) (b21_L2 : Int32) (b21_L3 : Int32) (M : zMem), F_X9_pan_21 p0 p1 p2 b21_L1 b21_L2 b21_L3 M = some (k9, r9, M9) → zJ p l e rm_X9_pan s m args below meth c G shX ad n A 6 (vx_MQ below (zQX G shX ad n M9 k9 (some (.int r9)) A) (zXC G shX ad n M9 k9 A) args s 2 12 A) 1 6 M 21 [(0, .ref (ad 0)), (1, .int b21_L1), (2, .int b21_L2), (3, .int b21_L3)] [.ref (ad 0)] := by
    intro b21_L1 b21_L2 b21_L3 M hF
    unfold F_X9_pan_21 at hF
    refine z_iconst (v := 0) cx d_X9_pan_21 ki_0 ?_
    exact hb22 b21_L1 b21_L2 b21_L3 (0 : Int32) M hF
  unfold F_X9_pan at hF
  refine z_aload_n cx d_X9_pan_0 0 rfl ?_
  refine z_iload_n cx d_X9_pan_1 1 rfl ?_
  refine z_iload_n cx d_X9_pan_2 2 rfl ?_
  obtain ⟨k25, v26, M24, hc, hF, hX27⟩ := zbx_inv hF
  refine z_callVX cx ht (As := [.int p0, .int p1]) (rest := []) (c_X9_needPlace l cx.2.2.2.1.1 M p0 p1 hl hT hc) (fun q => zxp_inv (hX27 q)) hT zo_10 cv_SunnyPans_210 ⟨rfl, rfl, Nat.le_of_ble_eq_true rfl, Nat.le_of_ble_eq_true rfl⟩ rfl rfl ⟨Nat.le_of_ble_eq_true rfl, Nat.le_of_ble_eq_true rfl⟩ ⟨Nat.le_of_ble_eq_true rfl, Nat.le_of_ble_eq_true rfl⟩ (Nat.le_of_ble_eq_true rfl) d_X9_pan_3 (fun kq28 => ?_)
  have hF := hF kq28
  refine z_aload_n cx d_X9_pan_6 0 rfl ?_
  refine z_iload_n cx d_X9_pan_7 3 rfl ?_
  refine z_if_lt cx 21 d_X9_pan_8 (by decide) hF (fun hF => ?_) (fun hF => ?_)
  · exact hb21 p0 p1 p2 M24 hF
  refine z_iload_n cx d_X9_pan_11 3 rfl ?_
  refine z_bipush (v := 6) cx d_X9_pan_12 kb_6 ?_
  refine z_icmp_gt cx 21 d_X9_pan_14 (by decide) hF (fun hF => ?_) (fun hF => ?_)
  · exact hb21 p0 p1 p2 M24 hF
  refine z_iconst (v := 1) cx d_X9_pan_17 ki_1 ?_
  refine z_goto cx 22 d_X9_pan_18 (by decide) ?_
  exact hb22 p0 p1 p2 (1 : Int32) M24 hF
/-! SunnyPans.needHour -/
set_option maxRecDepth 100000 in
theorem wd_1068 : Cond.methodLink "SunnyPans" 255 yX9_within ∈ tbG := tw5 8 rfl rfl
theorem cs_SunnyPans_255 : zCS "SunnyPans" 255 yX9_within cX9_within 3 (some .boolean) 3 := zCS_of wd_1068 wd_708 wd_101 wd_709 (by decide +kernel)
theorem d_X9_needHour_0 : decode cX9_needHour 0 = .ok (.aload_n 0, 1) := by decide +kernel
theorem d_X9_needHour_1 : decode cX9_needHour 1 = .ok (.iload_n 1, 1) := by decide +kernel
theorem d_X9_needHour_2 : decode cX9_needHour 2 = .ok (.iconst 0, 1) := by decide +kernel
theorem d_X9_needHour_3 : decode cX9_needHour 3 = .ok (.aload_n 0, 1) := by decide +kernel
theorem d_X9_needHour_4 : decode cX9_needHour 4 = .ok (.getfield 62, 3) := by decide +kernel
theorem d_X9_needHour_7 : decode cX9_needHour 7 = .ok (.getfield 127, 3) := by decide +kernel
theorem d_X9_needHour_10 : decode cX9_needHour 10 = .ok (.iconst 1, 1) := by decide +kernel
theorem d_X9_needHour_11 : decode cX9_needHour 11 = .ok (.isub, 1) := by decide +kernel
theorem d_X9_needHour_12 : decode cX9_needHour 12 = .ok (.invokestatic 255, 3) := by decide +kernel
theorem d_X9_needHour_15 : decode cX9_needHour 15 = .ok (.invokevirtual 426, 3) := by decide +kernel
theorem d_X9_needHour_18 : decode cX9_needHour 18 = .ok (.return_, 1) := by decide +kernel
noncomputable def F_X9_needHour (M : zMem) (p0 : Int32) : Option (Nat × Int32 × zMem) :=
  gd (shX (M.2.2 0 8) == 6) <|
  zb (F_X9_within M p0 (0 : Int32) ((M.1 (M.2.2 0 8) 2) - (1 : Int32))) fun v3 M2 =>
  zbx (F_X9_needThing M2 v3) (g := zxp) fun _ M4 =>
  some (0, 0, M4)
def rm_X9_needHour : Room := { frames := 10, cells := 1, slots := 6, locals := 161 }
set_option maxHeartbeats 4000000 in
set_option maxRecDepth 100000 in
theorem c_X9_needHour (l : Launch) {G : zG} {ad : Nat → Nat} {n : Nat} (hA : zInj ad n) (M : zMem) (p0 : Int32) (hl : l.stackTraces = false) (hT : zT shX n 0 10) {k9 : Nat} {r9 : Int32} {M9 : zMem} (hF : F_X9_needHour M p0 = some (k9, r9, M9)) : zMX l yX9_needHour cX9_needHour 2 none rm_X9_needHour 1 6 G shX ad n M [.ref (ad 0), .int p0] k9 none M9 := by
  refine zM_ofX hA (by decide +kernel) (lv := [(0, .ref (ad 0)), (1, .int p0)]) (Nat.le_of_ble_eq_true rfl) rfl (fun p e s m args below meth c A cx hr ht => ?_)
  unfold F_X9_needHour at hF
  refine z_aload_n cx d_X9_needHour_0 0 rfl ?_
  refine z_iload_n cx d_X9_needHour_1 1 rfl ?_
  refine z_iconst (v := 0) cx d_X9_needHour_2 ki_0 ?_
  refine z_aload_n cx d_X9_needHour_3 0 rfl ?_
  obtain ⟨hg1, hF⟩ := gd_inv hF
  refine z_getD cx hT fg_SunnyPans_62 d_X9_needHour_4 ?_
  refine z_getI cx (td_6 hT hg1) fg_SunnyPans_127 d_X9_needHour_7 ?_
  refine z_iconst (v := 1) cx d_X9_needHour_10 ki_1 ?_
  refine z_isub cx d_X9_needHour_11 ?_
  obtain ⟨v3, M2, hc, hF⟩ := zb_inv hF
  refine z_callS cx (As := [.int p0, .int (0 : Int32), .int ((M.1 (M.2.2 0 8) 2) - (1 : Int32))]) (rest := [.ref (ad 0)]) (c_X9_within l cx.2.2.2.1.1 M p0 (0 : Int32) ((M.1 (M.2.2 0 8) 2) - (1 : Int32))  hc) cs_SunnyPans_255 ⟨rfl, rfl, Nat.le_of_ble_eq_true rfl, Nat.le_of_ble_eq_true rfl⟩ rfl rfl ⟨Nat.le_of_ble_eq_true rfl, Nat.le_of_ble_eq_true rfl⟩ (Nat.le_of_ble_eq_true rfl) d_X9_needHour_12 ?_
  obtain ⟨k5, v6, M4, hc, hF, hX7⟩ := zbx_inv hF
  refine z_callVX cx ht (As := [.int v3]) (rest := []) (c_X9_needThing l cx.2.2.2.1.1 M2 v3 hl hT hc) (fun q => zxp_inv (hX7 q)) hT zo_10 cv_SunnyPans_426 ⟨rfl, rfl, Nat.le_of_ble_eq_true rfl, Nat.le_of_ble_eq_true rfl⟩ rfl rfl ⟨Nat.le_of_ble_eq_true rfl, Nat.le_of_ble_eq_true rfl⟩ ⟨Nat.le_of_ble_eq_true rfl, Nat.le_of_ble_eq_true rfl⟩ (Nat.le_of_ble_eq_true rfl) d_X9_needHour_15 (fun kq8 => ?_)
  have hF := hF kq8
  exact z_vretX cx hr hF ⟨Nat.le_of_ble_eq_true rfl, Nat.le_of_ble_eq_true rfl⟩ d_X9_needHour_18
/-! SunnyPans.hour -/
set_option maxRecDepth 100000 in
theorem wd_1067 : Cond.code yX9_needHour cX9_needHour 2 none ∈ tbG := tw5 7 rfl rfl
set_option maxRecDepth 100000 in
theorem wd_1064 : Cond.methodLink "SunnyPans" 235 yX9_needHour ∈ tbG := tw5 4 rfl rfl
set_option maxRecDepth 100000 in
theorem wd_1066 : Cond.instanceMethod yX9_needHour ∈ tbG := tw5 6 rfl rfl
theorem wd_28 : Cond.selects "SunnyPans" yX9_needHour yX9_needHour ∈ tbG := tw 28 (by decide +kernel) rfl
theorem cv_SunnyPans_235 : zCV "SunnyPans" 235 "SunnyPans" yX9_needHour cX9_needHour 2 none 1 := zCV_of wd_1064 wd_1066 wd_28 wd_101 wd_1067 (by decide +kernel)
theorem d_X9_hour_0 : decode cX9_hour 0 = .ok (.aload_n 0, 1) := by decide +kernel
theorem d_X9_hour_1 : decode cX9_hour 1 = .ok (.iload_n 1, 1) := by decide +kernel
theorem d_X9_hour_2 : decode cX9_hour 2 = .ok (.invokevirtual 235, 3) := by decide +kernel
theorem d_X9_hour_5 : decode cX9_hour 5 = .ok (.aload_n 0, 1) := by decide +kernel
theorem d_X9_hour_6 : decode cX9_hour 6 = .ok (.iload_n 2, 1) := by decide +kernel
theorem d_X9_hour_7 : decode cX9_hour 7 = .ok (.ifCond .lt 12, 3) := by decide +kernel
theorem d_X9_hour_10 : decode cX9_hour 10 = .ok (.iload_n 2, 1) := by decide +kernel
theorem d_X9_hour_11 : decode cX9_hour 11 = .ok (.iconst 2, 1) := by decide +kernel
theorem d_X9_hour_12 : decode cX9_hour 12 = .ok (.if_icmp .gt 7, 3) := by decide +kernel
theorem d_X9_hour_15 : decode cX9_hour 15 = .ok (.iconst 1, 1) := by decide +kernel
theorem d_X9_hour_16 : decode cX9_hour 16 = .ok (.goto 4, 3) := by decide +kernel
theorem d_X9_hour_19 : decode cX9_hour 19 = .ok (.iconst 0, 1) := by decide +kernel
theorem d_X9_hour_20 : decode cX9_hour 20 = .ok (.invokevirtual 155, 3) := by decide +kernel
theorem d_X9_hour_23 : decode cX9_hour 23 = .ok (.iload_n 2, 1) := by decide +kernel
theorem d_X9_hour_24 : decode cX9_hour 24 = .ok (.ifCond .ne 13, 3) := by decide +kernel
theorem d_X9_hour_27 : decode cX9_hour 27 = .ok (.aload_n 0, 1) := by decide +kernel
theorem d_X9_hour_28 : decode cX9_hour 28 = .ok (.getfield 62, 3) := by decide +kernel
theorem d_X9_hour_31 : decode cX9_hour 31 = .ok (.getfield 238, 3) := by decide +kernel
theorem d_X9_hour_34 : decode cX9_hour 34 = .ok (.iload_n 1, 1) := by decide +kernel
theorem d_X9_hour_35 : decode cX9_hour 35 = .ok (.iaload, 1) := by decide +kernel
theorem d_X9_hour_36 : decode cX9_hour 36 = .ok (.ireturn, 1) := by decide +kernel
theorem d_X9_hour_37 : decode cX9_hour 37 = .ok (.iload_n 2, 1) := by decide +kernel
theorem d_X9_hour_38 : decode cX9_hour 38 = .ok (.iconst 1, 1) := by decide +kernel
theorem d_X9_hour_39 : decode cX9_hour 39 = .ok (.if_icmp .ne 15, 3) := by decide +kernel
theorem d_X9_hour_42 : decode cX9_hour 42 = .ok (.aload_n 0, 1) := by decide +kernel
theorem d_X9_hour_43 : decode cX9_hour 43 = .ok (.getfield 62, 3) := by decide +kernel
theorem d_X9_hour_46 : decode cX9_hour 46 = .ok (.getfield 241, 3) := by decide +kernel
theorem d_X9_hour_49 : decode cX9_hour 49 = .ok (.iload_n 1, 1) := by decide +kernel
theorem d_X9_hour_50 : decode cX9_hour 50 = .ok (.iaload, 1) := by decide +kernel
theorem d_X9_hour_51 : decode cX9_hour 51 = .ok (.goto 11, 3) := by decide +kernel
theorem d_X9_hour_54 : decode cX9_hour 54 = .ok (.aload_n 0, 1) := by decide +kernel
theorem d_X9_hour_55 : decode cX9_hour 55 = .ok (.iload_n 1, 1) := by decide +kernel
theorem d_X9_hour_56 : decode cX9_hour 56 = .ok (.invokevirtual 227, 3) := by decide +kernel
theorem d_X9_hour_59 : decode cX9_hour 59 = .ok (.invokestatic 194, 3) := by decide +kernel
theorem d_X9_hour_62 : decode cX9_hour 62 = .ok (.ireturn, 1) := by decide +kernel
noncomputable def F_X9_hour_20 (p0 : Int32) (p1 : Int32) (b20_L1 : Int32) (b20_L2 : Int32) (b20_S1 : Int32) (M : zMem) : Option (Nat × Int32 × zMem) :=
  zbx (F_X9_need M b20_S1) (g := zxp) fun _ M1 =>
  if b20_L2 = 0 then
    gd (shX (M1.2.2 0 8) == 6) <|
    gin b20_L1 10 <|
    some (0, (M1.1 ((M1.2.2 0 8) + 1) b20_L1.toNatClampNeg), M1)
  else
    if b20_L2 = (1 : Int32) then
      gd (shX (M1.2.2 0 8) == 6) <|
      gin b20_L1 10 <|
      some (0, (M1.1 ((M1.2.2 0 8) + 2) b20_L1.toNatClampNeg), M1)
    else
      zb (F_X9_shadeNow M1 b20_L1) fun v7 M6 =>
      zb (F_J13_bitCount_95d88 M6 v7) fun v9 M8 =>
      some (0, v9, M8)
noncomputable def F_X9_hour_19 (p0 : Int32) (p1 : Int32) (b19_L1 : Int32) (b19_L2 : Int32) (M : zMem) : Option (Nat × Int32 × zMem) :=
  F_X9_hour_20 p0 p1 b19_L1 b19_L2 (0 : Int32) M
noncomputable def F_X9_hour (M : zMem) (p0 : Int32) (p1 : Int32) : Option (Nat × Int32 × zMem) :=
  zbx (F_X9_needHour M p0) (g := zxp) fun _ M14 =>
  if p1 < 0 then
    F_X9_hour_19 p0 p1 p0 p1 M14
  else
    if (2 : Int32) < p1 then
      F_X9_hour_19 p0 p1 p0 p1 M14
    else
      F_X9_hour_20 p0 p1 p0 p1 (1 : Int32) M14
def rm_X9_hour : Room := { frames := 11, cells := 2, slots := 12, locals := 182 }
set_option maxHeartbeats 4000000 in
set_option maxRecDepth 100000 in
theorem c_X9_hour (l : Launch) {G : zG} {ad : Nat → Nat} {n : Nat} (hA : zInj ad n) (M : zMem) (p0 : Int32) (p1 : Int32) (hl : l.stackTraces = false) (hT : zT shX n 0 10) {k9 : Nat} {r9 : Int32} {M9 : zMem} (hF : F_X9_hour M p0 p1 = some (k9, r9, M9)) : zMX l yX9_hour cX9_hour 3 (some .int) rm_X9_hour 2 12 G shX ad n M [.ref (ad 0), .int p0, .int p1] k9 (some (.int r9)) M9 := by
  refine zM_ofX hA (by decide +kernel) (lv := [(0, .ref (ad 0)), (1, .int p0), (2, .int p1)]) (Nat.le_of_ble_eq_true rfl) rfl (fun p e s m args below meth c A cx hr ht => ?_)
  have hb20 : ∀ (b20_L1 : Int32) (b20_L2 : Int32) (b20_S1 : Int32) (M : zMem), F_X9_hour_20 p0 p1 b20_L1 b20_L2 b20_S1 M = some (k9, r9, M9) → zJ p l e rm_X9_hour s m args below meth c G shX ad n A 3 (vx_MQ below (zQX G shX ad n M9 k9 (some (.int r9)) A) (zXC G shX ad n M9 k9 A) args s 2 12 A) 1 6 M 20 [(0, .ref (ad 0)), (1, .int b20_L1), (2, .int b20_L2)] [.int b20_S1, .ref (ad 0)] := by
    intro b20_L1 b20_L2 b20_S1 M hF
    unfold F_X9_hour_20 at hF
    obtain ⟨k2, v3, M1, hc, hF, hX4⟩ := zbx_inv hF
    refine z_callVX cx ht (As := [.int b20_S1]) (rest := []) (c_X9_need l cx.2.2.2.1.1 M b20_S1 hl hT hc) (fun q => zxp_inv (hX4 q)) hT zo_10 cv_SunnyPans_155 ⟨rfl, rfl, Nat.le_of_ble_eq_true rfl, Nat.le_of_ble_eq_true rfl⟩ rfl rfl ⟨Nat.le_of_ble_eq_true rfl, Nat.le_of_ble_eq_true rfl⟩ ⟨Nat.le_of_ble_eq_true rfl, Nat.le_of_ble_eq_true rfl⟩ (Nat.le_of_ble_eq_true rfl) d_X9_hour_20 (fun kq5 => ?_)
    have hF := hF kq5
    refine z_iload_n cx d_X9_hour_23 2 rfl ?_
    refine z_if_ne cx 37 d_X9_hour_24 (by decide) hF (fun hF => ?_) (fun hF => ?_)
    · refine z_iload_n cx d_X9_hour_37 2 rfl ?_
      refine z_iconst (v := 1) cx d_X9_hour_38 ki_1 ?_
      refine z_icmp_ne cx 54 d_X9_hour_39 (by decide) hF (fun hF => ?_) (fun hF => ?_)
      · refine z_aload_n cx d_X9_hour_54 0 rfl ?_
        refine z_iload_n cx d_X9_hour_55 1 rfl ?_
        obtain ⟨v7, M6, hc, hF⟩ := zb_inv hF
        refine z_callV cx (As := [.int b20_L1]) (rest := []) (c_X9_shadeNow l cx.2.2.2.1.1 M1 b20_L1 hT hc) hT zo_10 cv_SunnyPans_227 ⟨rfl, rfl, Nat.le_of_ble_eq_true rfl, Nat.le_of_ble_eq_true rfl⟩ rfl rfl ⟨Nat.le_of_ble_eq_true rfl, Nat.le_of_ble_eq_true rfl⟩ (Nat.le_of_ble_eq_true rfl) d_X9_hour_56 ?_
        obtain ⟨v9, M8, hc, hF⟩ := zb_inv hF
        refine z_callS cx (As := [.long v7]) (rest := []) (c_J13_bitCount_95d88 l cx.2.2.2.1.1 M6 v7  hc) cs_SunnyPans_194 ⟨rfl, rfl, Nat.le_of_ble_eq_true rfl, Nat.le_of_ble_eq_true rfl⟩ rfl rfl ⟨Nat.le_of_ble_eq_true rfl, Nat.le_of_ble_eq_true rfl⟩ (Nat.le_of_ble_eq_true rfl) d_X9_hour_59 ?_
        exact z_iretX cx hr rfl hF ⟨Nat.le_of_ble_eq_true rfl, Nat.le_of_ble_eq_true rfl⟩ d_X9_hour_62
      refine z_aload_n cx d_X9_hour_42 0 rfl ?_
      obtain ⟨hg10, hF⟩ := gd_inv hF
      refine z_getD cx hT fg_SunnyPans_62 d_X9_hour_43 ?_
      refine z_getR cx (td_6 hT hg10) fg_SunnyPans_241 ((M1.2.2 0 8) + 2) rfl d_X9_hour_46 ?_
      refine z_iload_n cx d_X9_hour_49 1 rfl ?_
      obtain ⟨hi11, hF⟩ := gin_inv hF
      refine z_iald cx (tfX_6_2 (td_6 hT hg10)) za_25 hi11 b20_L1.toNatClampNeg rfl d_X9_hour_50 ?_
      refine z_goto cx 62 d_X9_hour_51 (by decide) ?_
      exact z_iretX cx hr rfl hF ⟨Nat.le_of_ble_eq_true rfl, Nat.le_of_ble_eq_true rfl⟩ d_X9_hour_62
    refine z_aload_n cx d_X9_hour_27 0 rfl ?_
    obtain ⟨hg12, hF⟩ := gd_inv hF
    refine z_getD cx hT fg_SunnyPans_62 d_X9_hour_28 ?_
    refine z_getR cx (td_6 hT hg12) fg_SunnyPans_238 ((M1.2.2 0 8) + 1) rfl d_X9_hour_31 ?_
    refine z_iload_n cx d_X9_hour_34 1 rfl ?_
    obtain ⟨hi13, hF⟩ := gin_inv hF
    refine z_iald cx (tfX_6_1 (td_6 hT hg12)) za_25 hi13 b20_L1.toNatClampNeg rfl d_X9_hour_35 ?_
    exact z_iretX cx hr rfl hF ⟨Nat.le_of_ble_eq_true rfl, Nat.le_of_ble_eq_true rfl⟩ d_X9_hour_36
  have hb19 : ∀ (b19_L1 : Int32) (b19_L2 : Int32) (M : zMem), F_X9_hour_19 p0 p1 b19_L1 b19_L2 M = some (k9, r9, M9) → zJ p l e rm_X9_hour s m args below meth c G shX ad n A 3 (vx_MQ below (zQX G shX ad n M9 k9 (some (.int r9)) A) (zXC G shX ad n M9 k9 A) args s 2 12 A) 1 6 M 19 [(0, .ref (ad 0)), (1, .int b19_L1), (2, .int b19_L2)] [.ref (ad 0)] := by
    intro b19_L1 b19_L2 M hF
    unfold F_X9_hour_19 at hF
    refine z_iconst (v := 0) cx d_X9_hour_19 ki_0 ?_
    exact hb20 b19_L1 b19_L2 (0 : Int32) M hF
  unfold F_X9_hour at hF
  refine z_aload_n cx d_X9_hour_0 0 rfl ?_
  refine z_iload_n cx d_X9_hour_1 1 rfl ?_
  obtain ⟨k15, v16, M14, hc, hF, hX17⟩ := zbx_inv hF
  refine z_callVX cx ht (As := [.int p0]) (rest := []) (c_X9_needHour l cx.2.2.2.1.1 M p0 hl hT hc) (fun q => zxp_inv (hX17 q)) hT zo_10 cv_SunnyPans_235 ⟨rfl, rfl, Nat.le_of_ble_eq_true rfl, Nat.le_of_ble_eq_true rfl⟩ rfl rfl ⟨Nat.le_of_ble_eq_true rfl, Nat.le_of_ble_eq_true rfl⟩ ⟨Nat.le_of_ble_eq_true rfl, Nat.le_of_ble_eq_true rfl⟩ (Nat.le_of_ble_eq_true rfl) d_X9_hour_2 (fun kq18 => ?_)
  have hF := hF kq18
  refine z_aload_n cx d_X9_hour_5 0 rfl ?_
  refine z_iload_n cx d_X9_hour_6 2 rfl ?_
  refine z_if_lt cx 19 d_X9_hour_7 (by decide) hF (fun hF => ?_) (fun hF => ?_)
  · exact hb19 p0 p1 M14 hF
  refine z_iload_n cx d_X9_hour_10 2 rfl ?_
  refine z_iconst (v := 2) cx d_X9_hour_11 ki_2 ?_
  refine z_icmp_gt cx 19 d_X9_hour_12 (by decide) hF (fun hF => ?_) (fun hF => ?_)
  · exact hb19 p0 p1 M14 hF
  refine z_iconst (v := 1) cx d_X9_hour_15 ki_1 ?_
  refine z_goto cx 20 d_X9_hour_16 (by decide) ?_
  exact hb20 p0 p1 (1 : Int32) M14 hF
/-! SunnyPans.needRow -/
theorem d_X9_needRow_0 : decode cX9_needRow 0 = .ok (.aload_n 0, 1) := by decide +kernel
theorem d_X9_needRow_1 : decode cX9_needRow 1 = .ok (.iload_n 1, 1) := by decide +kernel
theorem d_X9_needRow_2 : decode cX9_needRow 2 = .ok (.iconst 0, 1) := by decide +kernel
theorem d_X9_needRow_3 : decode cX9_needRow 3 = .ok (.aload_n 0, 1) := by decide +kernel
theorem d_X9_needRow_4 : decode cX9_needRow 4 = .ok (.getfield 62, 3) := by decide +kernel
theorem d_X9_needRow_7 : decode cX9_needRow 7 = .ok (.getfield 165, 3) := by decide +kernel
theorem d_X9_needRow_10 : decode cX9_needRow 10 = .ok (.iconst 1, 1) := by decide +kernel
theorem d_X9_needRow_11 : decode cX9_needRow 11 = .ok (.isub, 1) := by decide +kernel
theorem d_X9_needRow_12 : decode cX9_needRow 12 = .ok (.invokestatic 255, 3) := by decide +kernel
theorem d_X9_needRow_15 : decode cX9_needRow 15 = .ok (.invokevirtual 426, 3) := by decide +kernel
theorem d_X9_needRow_18 : decode cX9_needRow 18 = .ok (.return_, 1) := by decide +kernel
noncomputable def F_X9_needRow (M : zMem) (p0 : Int32) : Option (Nat × Int32 × zMem) :=
  gd (shX (M.2.2 0 8) == 6) <|
  zb (F_X9_within M p0 (0 : Int32) ((M.1 (M.2.2 0 8) 1) - (1 : Int32))) fun v3 M2 =>
  zbx (F_X9_needThing M2 v3) (g := zxp) fun _ M4 =>
  some (0, 0, M4)
def rm_X9_needRow : Room := { frames := 10, cells := 1, slots := 6, locals := 161 }
set_option maxHeartbeats 4000000 in
set_option maxRecDepth 100000 in
theorem c_X9_needRow (l : Launch) {G : zG} {ad : Nat → Nat} {n : Nat} (hA : zInj ad n) (M : zMem) (p0 : Int32) (hl : l.stackTraces = false) (hT : zT shX n 0 10) {k9 : Nat} {r9 : Int32} {M9 : zMem} (hF : F_X9_needRow M p0 = some (k9, r9, M9)) : zMX l yX9_needRow cX9_needRow 2 none rm_X9_needRow 1 6 G shX ad n M [.ref (ad 0), .int p0] k9 none M9 := by
  refine zM_ofX hA (by decide +kernel) (lv := [(0, .ref (ad 0)), (1, .int p0)]) (Nat.le_of_ble_eq_true rfl) rfl (fun p e s m args below meth c A cx hr ht => ?_)
  unfold F_X9_needRow at hF
  refine z_aload_n cx d_X9_needRow_0 0 rfl ?_
  refine z_iload_n cx d_X9_needRow_1 1 rfl ?_
  refine z_iconst (v := 0) cx d_X9_needRow_2 ki_0 ?_
  refine z_aload_n cx d_X9_needRow_3 0 rfl ?_
  obtain ⟨hg1, hF⟩ := gd_inv hF
  refine z_getD cx hT fg_SunnyPans_62 d_X9_needRow_4 ?_
  refine z_getI cx (td_6 hT hg1) fg_SunnyPans_165 d_X9_needRow_7 ?_
  refine z_iconst (v := 1) cx d_X9_needRow_10 ki_1 ?_
  refine z_isub cx d_X9_needRow_11 ?_
  obtain ⟨v3, M2, hc, hF⟩ := zb_inv hF
  refine z_callS cx (As := [.int p0, .int (0 : Int32), .int ((M.1 (M.2.2 0 8) 1) - (1 : Int32))]) (rest := [.ref (ad 0)]) (c_X9_within l cx.2.2.2.1.1 M p0 (0 : Int32) ((M.1 (M.2.2 0 8) 1) - (1 : Int32))  hc) cs_SunnyPans_255 ⟨rfl, rfl, Nat.le_of_ble_eq_true rfl, Nat.le_of_ble_eq_true rfl⟩ rfl rfl ⟨Nat.le_of_ble_eq_true rfl, Nat.le_of_ble_eq_true rfl⟩ (Nat.le_of_ble_eq_true rfl) d_X9_needRow_12 ?_
  obtain ⟨k5, v6, M4, hc, hF, hX7⟩ := zbx_inv hF
  refine z_callVX cx ht (As := [.int v3]) (rest := []) (c_X9_needThing l cx.2.2.2.1.1 M2 v3 hl hT hc) (fun q => zxp_inv (hX7 q)) hT zo_10 cv_SunnyPans_426 ⟨rfl, rfl, Nat.le_of_ble_eq_true rfl, Nat.le_of_ble_eq_true rfl⟩ rfl rfl ⟨Nat.le_of_ble_eq_true rfl, Nat.le_of_ble_eq_true rfl⟩ ⟨Nat.le_of_ble_eq_true rfl, Nat.le_of_ble_eq_true rfl⟩ (Nat.le_of_ble_eq_true rfl) d_X9_needRow_15 (fun kq8 => ?_)
  have hF := hF kq8
  exact z_vretX cx hr hF ⟨Nat.le_of_ble_eq_true rfl, Nat.le_of_ble_eq_true rfl⟩ d_X9_needRow_18
/-! SunnyPans.rowOf -/
set_option maxRecDepth 100000 in
theorem wd_1083 : Cond.constantLong "SunnyPans" 465 (255) ∈ tbG := tw5 23 rfl rfl
theorem d_X9_rowOf_0 : decode cX9_rowOf 0 = .ok (.lload_n 0, 1) := by decide +kernel
theorem d_X9_rowOf_1 : decode cX9_rowOf 1 = .ok (.iload_n 2, 1) := by decide +kernel
theorem d_X9_rowOf_2 : decode cX9_rowOf 2 = .ok (.bipush 8, 2) := by decide +kernel
theorem d_X9_rowOf_4 : decode cX9_rowOf 4 = .ok (.imul, 1) := by decide +kernel
theorem d_X9_rowOf_5 : decode cX9_rowOf 5 = .ok (.lushr, 1) := by decide +kernel
theorem d_X9_rowOf_6 : decode cX9_rowOf 6 = .ok (.ldc2_w 465, 3) := by decide +kernel
theorem d_X9_rowOf_9 : decode cX9_rowOf 9 = .ok (.land, 1) := by decide +kernel
theorem d_X9_rowOf_10 : decode cX9_rowOf 10 = .ok (.l2i, 1) := by decide +kernel
theorem d_X9_rowOf_11 : decode cX9_rowOf 11 = .ok (.ireturn, 1) := by decide +kernel
noncomputable def F_X9_rowOf (M : zMem) (p0 : Int64) (p1 : Int32) : Option (Int32 × zMem) :=
  some (((p0.toUInt64 >>> ((p1 * (8 : Int32)).toInt64.toUInt64 &&& Int64.toUInt64 63)).toInt64 &&& (255 : Int64)).toInt32, M)
def rm_X9_rowOf : Room := { frames := 2, cells := 0, slots := 0, locals := 80 }
set_option maxHeartbeats 4000000 in
set_option maxRecDepth 100000 in
theorem c_X9_rowOf (l : Launch) {G : zG} {ad : Nat → Nat} {n : Nat} (hA : zInj ad n) (M : zMem) (p0 : Int64) (p1 : Int32) {r9 : Int32} {M9 : zMem} (hF : F_X9_rowOf M p0 p1 = some (r9, M9)) : zM l yX9_rowOf cX9_rowOf 3 (some .int) rm_X9_rowOf G shX ad n M [.long p0, .int p1] (some (.int r9)) M9 := by
  refine zM_of hA (by decide +kernel) (lv := [(0, .long p0), (2, .int p1)]) (Nat.le_of_ble_eq_true rfl) rfl (fun p e s m args below meth c A cx hr => ?_)
  unfold F_X9_rowOf at hF
  refine z_lload_n cx d_X9_rowOf_0 0 rfl ?_
  refine z_iload_n cx d_X9_rowOf_1 1 rfl ?_
  refine z_bipush (v := 8) cx d_X9_rowOf_2 kb_8 ?_
  refine z_imul cx d_X9_rowOf_4 ?_
  refine z_lushr cx d_X9_rowOf_5 ?_
  refine z_ldc2 cx wd_1083 d_X9_rowOf_6 ?_
  refine z_land cx d_X9_rowOf_9 ?_
  refine z_l2i cx d_X9_rowOf_10 ?_
  exact z_iret cx hr rfl hF d_X9_rowOf_11
/-! SunnyPans.shade -/
set_option maxRecDepth 100000 in
theorem wd_1079 : Cond.code yX9_needRow cX9_needRow 2 none ∈ tbG := tw5 19 rfl rfl
set_option maxRecDepth 100000 in
theorem wd_1076 : Cond.methodLink "SunnyPans" 244 yX9_needRow ∈ tbG := tw5 16 rfl rfl
set_option maxRecDepth 100000 in
theorem wd_1078 : Cond.instanceMethod yX9_needRow ∈ tbG := tw5 18 rfl rfl
theorem wd_29 : Cond.selects "SunnyPans" yX9_needRow yX9_needRow ∈ tbG := tw 29 (by decide +kernel) rfl
theorem cv_SunnyPans_244 : zCV "SunnyPans" 244 "SunnyPans" yX9_needRow cX9_needRow 2 none 1 := zCV_of wd_1076 wd_1078 wd_29 wd_101 wd_1079 (by decide +kernel)
set_option maxRecDepth 100000 in
theorem wd_1082 : Cond.code yX9_rowOf cX9_rowOf 3 (some .int) ∈ tbG := tw5 22 rfl rfl
set_option maxRecDepth 100000 in
theorem wd_1080 : Cond.methodLink "SunnyPans" 247 yX9_rowOf ∈ tbG := tw5 20 rfl rfl
set_option maxRecDepth 100000 in
theorem wd_1081 : Cond.static yX9_rowOf ∈ tbG := tw5 21 rfl rfl
theorem cs_SunnyPans_247 : zCS "SunnyPans" 247 yX9_rowOf cX9_rowOf 3 (some .int) 2 := zCS_of wd_1080 wd_1081 wd_101 wd_1082 (by decide +kernel)
theorem d_X9_shade_0 : decode cX9_shade 0 = .ok (.aload_n 0, 1) := by decide +kernel
theorem d_X9_shade_1 : decode cX9_shade 1 = .ok (.iload_n 1, 1) := by decide +kernel
theorem d_X9_shade_2 : decode cX9_shade 2 = .ok (.invokevirtual 235, 3) := by decide +kernel
theorem d_X9_shade_5 : decode cX9_shade 5 = .ok (.aload_n 0, 1) := by decide +kernel
theorem d_X9_shade_6 : decode cX9_shade 6 = .ok (.iload_n 2, 1) := by decide +kernel
theorem d_X9_shade_7 : decode cX9_shade 7 = .ok (.invokevirtual 244, 3) := by decide +kernel
theorem d_X9_shade_10 : decode cX9_shade 10 = .ok (.aload_n 0, 1) := by decide +kernel
theorem d_X9_shade_11 : decode cX9_shade 11 = .ok (.iload_n 1, 1) := by decide +kernel
theorem d_X9_shade_12 : decode cX9_shade 12 = .ok (.invokevirtual 227, 3) := by decide +kernel
theorem d_X9_shade_15 : decode cX9_shade 15 = .ok (.iload_n 2, 1) := by decide +kernel
theorem d_X9_shade_16 : decode cX9_shade 16 = .ok (.invokestatic 247, 3) := by decide +kernel
theorem d_X9_shade_19 : decode cX9_shade 19 = .ok (.ireturn, 1) := by decide +kernel
noncomputable def F_X9_shade (M : zMem) (p0 : Int32) (p1 : Int32) : Option (Nat × Int32 × zMem) :=
  zbx (F_X9_needHour M p0) (g := zxp) fun _ M1 =>
  zbx (F_X9_needRow M1 p1) (g := zxp) fun _ M6 =>
  zb (F_X9_shadeNow M6 p0) fun v12 M11 =>
  zb (F_X9_rowOf M11 v12 p1) fun v14 M13 =>
  some (0, v14, M13)
def rm_X9_shade : Room := { frames := 11, cells := 2, slots := 12, locals := 182 }
set_option maxHeartbeats 4000000 in
set_option maxRecDepth 100000 in
theorem c_X9_shade (l : Launch) {G : zG} {ad : Nat → Nat} {n : Nat} (hA : zInj ad n) (M : zMem) (p0 : Int32) (p1 : Int32) (hl : l.stackTraces = false) (hT : zT shX n 0 10) {k9 : Nat} {r9 : Int32} {M9 : zMem} (hF : F_X9_shade M p0 p1 = some (k9, r9, M9)) : zMX l yX9_shade cX9_shade 3 (some .int) rm_X9_shade 2 12 G shX ad n M [.ref (ad 0), .int p0, .int p1] k9 (some (.int r9)) M9 := by
  refine zM_ofX hA (by decide +kernel) (lv := [(0, .ref (ad 0)), (1, .int p0), (2, .int p1)]) (Nat.le_of_ble_eq_true rfl) rfl (fun p e s m args below meth c A cx hr ht => ?_)
  unfold F_X9_shade at hF
  refine z_aload_n cx d_X9_shade_0 0 rfl ?_
  refine z_iload_n cx d_X9_shade_1 1 rfl ?_
  obtain ⟨k2, v3, M1, hc, hF, hX4⟩ := zbx_inv hF
  refine z_callVX cx ht (As := [.int p0]) (rest := []) (c_X9_needHour l cx.2.2.2.1.1 M p0 hl hT hc) (fun q => zxp_inv (hX4 q)) hT zo_10 cv_SunnyPans_235 ⟨rfl, rfl, Nat.le_of_ble_eq_true rfl, Nat.le_of_ble_eq_true rfl⟩ rfl rfl ⟨Nat.le_of_ble_eq_true rfl, Nat.le_of_ble_eq_true rfl⟩ ⟨Nat.le_of_ble_eq_true rfl, Nat.le_of_ble_eq_true rfl⟩ (Nat.le_of_ble_eq_true rfl) d_X9_shade_2 (fun kq5 => ?_)
  have hF := hF kq5
  refine z_aload_n cx d_X9_shade_5 0 rfl ?_
  refine z_iload_n cx d_X9_shade_6 2 rfl ?_
  obtain ⟨k7, v8, M6, hc, hF, hX9⟩ := zbx_inv hF
  refine z_callVX cx ht (As := [.int p1]) (rest := []) (c_X9_needRow l cx.2.2.2.1.1 M1 p1 hl hT hc) (fun q => zxp_inv (hX9 q)) hT zo_10 cv_SunnyPans_244 ⟨rfl, rfl, Nat.le_of_ble_eq_true rfl, Nat.le_of_ble_eq_true rfl⟩ rfl rfl ⟨Nat.le_of_ble_eq_true rfl, Nat.le_of_ble_eq_true rfl⟩ ⟨Nat.le_of_ble_eq_true rfl, Nat.le_of_ble_eq_true rfl⟩ (Nat.le_of_ble_eq_true rfl) d_X9_shade_7 (fun kq10 => ?_)
  have hF := hF kq10
  refine z_aload_n cx d_X9_shade_10 0 rfl ?_
  refine z_iload_n cx d_X9_shade_11 1 rfl ?_
  obtain ⟨v12, M11, hc, hF⟩ := zb_inv hF
  refine z_callV cx (As := [.int p0]) (rest := []) (c_X9_shadeNow l cx.2.2.2.1.1 M6 p0 hT hc) hT zo_10 cv_SunnyPans_227 ⟨rfl, rfl, Nat.le_of_ble_eq_true rfl, Nat.le_of_ble_eq_true rfl⟩ rfl rfl ⟨Nat.le_of_ble_eq_true rfl, Nat.le_of_ble_eq_true rfl⟩ (Nat.le_of_ble_eq_true rfl) d_X9_shade_12 ?_
  refine z_iload_n cx d_X9_shade_15 2 rfl ?_
  obtain ⟨v14, M13, hc, hF⟩ := zb_inv hF
  refine z_callS cx (As := [.long v12, .int p1]) (rest := []) (c_X9_rowOf l cx.2.2.2.1.1 M11 v12 p1  hc) cs_SunnyPans_247 ⟨rfl, rfl, Nat.le_of_ble_eq_true rfl, Nat.le_of_ble_eq_true rfl⟩ rfl rfl ⟨Nat.le_of_ble_eq_true rfl, Nat.le_of_ble_eq_true rfl⟩ (Nat.le_of_ble_eq_true rfl) d_X9_shade_16 ?_
  exact z_iretX cx hr rfl hF ⟨Nat.le_of_ble_eq_true rfl, Nat.le_of_ble_eq_true rfl⟩ d_X9_shade_19
/-! SunnyPans.dries -/
theorem d_X9_dries_0 : decode cX9_dries 0 = .ok (.aload_n 0, 1) := by decide +kernel
theorem d_X9_dries_1 : decode cX9_dries 1 = .ok (.iload_n 1, 1) := by decide +kernel
theorem d_X9_dries_2 : decode cX9_dries 2 = .ok (.iload_n 2, 1) := by decide +kernel
theorem d_X9_dries_3 : decode cX9_dries 3 = .ok (.invokevirtual 210, 3) := by decide +kernel
theorem d_X9_dries_6 : decode cX9_dries 6 = .ok (.aload_n 0, 1) := by decide +kernel
theorem d_X9_dries_7 : decode cX9_dries 7 = .ok (.iload_n 3, 1) := by decide +kernel
theorem d_X9_dries_8 : decode cX9_dries 8 = .ok (.invokevirtual 235, 3) := by decide +kernel
theorem d_X9_dries_11 : decode cX9_dries 11 = .ok (.aload_n 0, 1) := by decide +kernel
theorem d_X9_dries_12 : decode cX9_dries 12 = .ok (.getfield 19, 3) := by decide +kernel
theorem d_X9_dries_15 : decode cX9_dries 15 = .ok (.getfield 159, 3) := by decide +kernel
theorem d_X9_dries_18 : decode cX9_dries 18 = .ok (.astore 4, 2) := by decide +kernel
theorem d_X9_dries_20 : decode cX9_dries 20 = .ok (.iload_n 1, 1) := by decide +kernel
theorem d_X9_dries_21 : decode cX9_dries 21 = .ok (.iload_n 2, 1) := by decide +kernel
theorem d_X9_dries_22 : decode cX9_dries 22 = .ok (.invokestatic 213, 3) := by decide +kernel
theorem d_X9_dries_25 : decode cX9_dries 25 = .ok (.istore 5, 2) := by decide +kernel
theorem d_X9_dries_27 : decode cX9_dries 27 = .ok (.aload_n 0, 1) := by decide +kernel
theorem d_X9_dries_28 : decode cX9_dries 28 = .ok (.getfield 62, 3) := by decide +kernel
theorem d_X9_dries_31 : decode cX9_dries 31 = .ok (.getfield 241, 3) := by decide +kernel
theorem d_X9_dries_34 : decode cX9_dries 34 = .ok (.iload_n 3, 1) := by decide +kernel
theorem d_X9_dries_35 : decode cX9_dries 35 = .ok (.iaload, 1) := by decide +kernel
theorem d_X9_dries_36 : decode cX9_dries 36 = .ok (.istore 6, 2) := by decide +kernel
theorem d_X9_dries_38 : decode cX9_dries 38 = .ok (.aload_n 0, 1) := by decide +kernel
theorem d_X9_dries_39 : decode cX9_dries 39 = .ok (.getfield 72, 3) := by decide +kernel
theorem d_X9_dries_42 : decode cX9_dries 42 = .ok (.aload 4, 2) := by decide +kernel
theorem d_X9_dries_44 : decode cX9_dries 44 = .ok (.getfield 174, 3) := by decide +kernel
theorem d_X9_dries_47 : decode cX9_dries 47 = .ok (.iload 5, 2) := by decide +kernel
theorem d_X9_dries_49 : decode cX9_dries 49 = .ok (.iaload, 1) := by decide +kernel
theorem d_X9_dries_50 : decode cX9_dries 50 = .ok (.aload 4, 2) := by decide +kernel
theorem d_X9_dries_52 : decode cX9_dries 52 = .ok (.getfield 181, 3) := by decide +kernel
theorem d_X9_dries_55 : decode cX9_dries 55 = .ok (.iload 5, 2) := by decide +kernel
theorem d_X9_dries_57 : decode cX9_dries 57 = .ok (.iaload, 1) := by decide +kernel
theorem d_X9_dries_58 : decode cX9_dries 58 = .ok (.iload 6, 2) := by decide +kernel
theorem d_X9_dries_60 : decode cX9_dries 60 = .ok (.aload_n 0, 1) := by decide +kernel
theorem d_X9_dries_61 : decode cX9_dries 61 = .ok (.getfield 62, 3) := by decide +kernel
theorem d_X9_dries_64 : decode cX9_dries 64 = .ok (.getfield 238, 3) := by decide +kernel
theorem d_X9_dries_67 : decode cX9_dries 67 = .ok (.iload_n 3, 1) := by decide +kernel
theorem d_X9_dries_68 : decode cX9_dries 68 = .ok (.iaload, 1) := by decide +kernel
theorem d_X9_dries_69 : decode cX9_dries 69 = .ok (.iload_n 3, 1) := by decide +kernel
theorem d_X9_dries_70 : decode cX9_dries 70 = .ok (.aload 4, 2) := by decide +kernel
theorem d_X9_dries_72 : decode cX9_dries 72 = .ok (.getfield 168, 3) := by decide +kernel
theorem d_X9_dries_75 : decode cX9_dries 75 = .ok (.iload 5, 2) := by decide +kernel
theorem d_X9_dries_77 : decode cX9_dries 77 = .ok (.invokevirtual 251, 3) := by decide +kernel
theorem d_X9_dries_80 : decode cX9_dries 80 = .ok (.ireturn, 1) := by decide +kernel
noncomputable def F_X9_dries (M : zMem) (p0 : Int32) (p1 : Int32) (p2 : Int32) : Option (Nat × Int32 × zMem) :=
  zbx (F_X9_needPlace M p0 p1) (g := zxp) fun _ M1 =>
  zbx (F_X9_needHour M1 p2) (g := zxp) fun _ M6 =>
  zb (F_X9_placeOf M6 p0 p1) fun v12 M11 =>
  gd (shX (M11.2.2 0 8) == 6) <|
  gin p2 10 <|
  zl (M11.1 ((M11.2.2 0 8) + 2) p2.toNatClampNeg) fun v15 =>
  gd (shX (M11.2.2 0 10) == 4) <|
  gin v12 64 <|
  zb (F_X3_rate M11 (M11.2.2 0 10) (M11.1 5 v12.toNatClampNeg) (M11.1 6 v12.toNatClampNeg) v15 (M11.1 ((M11.2.2 0 8) + 1) p2.toNatClampNeg) p2 (M11.1 4 4) v12) fun v19 M18 =>
  some (0, v19, M18)
def rm_X9_dries : Room := { frames := 11, cells := 2, slots := 12, locals := 183 }
set_option maxHeartbeats 4000000 in
set_option maxRecDepth 100000 in
theorem c_X9_dries (l : Launch) {G : zG} {ad : Nat → Nat} {n : Nat} (hA : zInj ad n) (M : zMem) (p0 : Int32) (p1 : Int32) (p2 : Int32) (hl : l.stackTraces = false) (hT : zT shX n 0 10) {k9 : Nat} {r9 : Int32} {M9 : zMem} (hF : F_X9_dries M p0 p1 p2 = some (k9, r9, M9)) : zMX l yX9_dries cX9_dries 7 (some .int) rm_X9_dries 2 12 G shX ad n M [.ref (ad 0), .int p0, .int p1, .int p2] k9 (some (.int r9)) M9 := by
  refine zM_ofX hA (by decide +kernel) (lv := [(0, .ref (ad 0)), (1, .int p0), (2, .int p1), (3, .int p2)]) (Nat.le_of_ble_eq_true rfl) rfl (fun p e s m args below meth c A cx hr ht => ?_)
  unfold F_X9_dries at hF
  refine z_aload_n cx d_X9_dries_0 0 rfl ?_
  refine z_iload_n cx d_X9_dries_1 1 rfl ?_
  refine z_iload_n cx d_X9_dries_2 2 rfl ?_
  obtain ⟨k2, v3, M1, hc, hF, hX4⟩ := zbx_inv hF
  refine z_callVX cx ht (As := [.int p0, .int p1]) (rest := []) (c_X9_needPlace l cx.2.2.2.1.1 M p0 p1 hl hT hc) (fun q => zxp_inv (hX4 q)) hT zo_10 cv_SunnyPans_210 ⟨rfl, rfl, Nat.le_of_ble_eq_true rfl, Nat.le_of_ble_eq_true rfl⟩ rfl rfl ⟨Nat.le_of_ble_eq_true rfl, Nat.le_of_ble_eq_true rfl⟩ ⟨Nat.le_of_ble_eq_true rfl, Nat.le_of_ble_eq_true rfl⟩ (Nat.le_of_ble_eq_true rfl) d_X9_dries_3 (fun kq5 => ?_)
  have hF := hF kq5
  refine z_aload_n cx d_X9_dries_6 0 rfl ?_
  refine z_iload_n cx d_X9_dries_7 3 rfl ?_
  obtain ⟨k7, v8, M6, hc, hF, hX9⟩ := zbx_inv hF
  refine z_callVX cx ht (As := [.int p2]) (rest := []) (c_X9_needHour l cx.2.2.2.1.1 M1 p2 hl hT hc) (fun q => zxp_inv (hX9 q)) hT zo_10 cv_SunnyPans_235 ⟨rfl, rfl, Nat.le_of_ble_eq_true rfl, Nat.le_of_ble_eq_true rfl⟩ rfl rfl ⟨Nat.le_of_ble_eq_true rfl, Nat.le_of_ble_eq_true rfl⟩ ⟨Nat.le_of_ble_eq_true rfl, Nat.le_of_ble_eq_true rfl⟩ (Nat.le_of_ble_eq_true rfl) d_X9_dries_8 (fun kq10 => ?_)
  have hF := hF kq10
  refine z_aload_n cx d_X9_dries_11 0 rfl ?_
  refine z_getR cx hT fg_SunnyPans_19 3 rfl d_X9_dries_12 ?_
  refine z_getR cx (tfX_10_3 hT) fg_SunnyPans_159 4 rfl d_X9_dries_15 ?_
  refine z_astore cx 4 [(4, .ref (ad 4)), (0, .ref (ad 0)), (1, .int p0), (2, .int p1), (3, .int p2)] d_X9_dries_18 (by decide) rfl ?_
  refine z_iload_n cx d_X9_dries_20 2 rfl ?_
  refine z_iload_n cx d_X9_dries_21 3 rfl ?_
  obtain ⟨v12, M11, hc, hF⟩ := zb_inv hF
  refine z_callS cx (As := [.int p0, .int p1]) (rest := []) (c_X9_placeOf l cx.2.2.2.1.1 M6 p0 p1  hc) cs_SunnyPans_213 ⟨rfl, rfl, Nat.le_of_ble_eq_true rfl, Nat.le_of_ble_eq_true rfl⟩ rfl rfl ⟨Nat.le_of_ble_eq_true rfl, Nat.le_of_ble_eq_true rfl⟩ (Nat.le_of_ble_eq_true rfl) d_X9_dries_22 ?_
  refine z_istore cx 5 [(5, .int v12), (4, .ref (ad 4)), (0, .ref (ad 0)), (1, .int p0), (2, .int p1), (3, .int p2)] d_X9_dries_25 (by decide) rfl ?_
  refine z_aload_n cx d_X9_dries_27 2 rfl ?_
  obtain ⟨hg13, hF⟩ := gd_inv hF
  refine z_getD cx hT fg_SunnyPans_62 d_X9_dries_28 ?_
  refine z_getR cx (td_6 hT hg13) fg_SunnyPans_241 ((M11.2.2 0 8) + 2) rfl d_X9_dries_31 ?_
  refine z_iload_n cx d_X9_dries_34 5 rfl ?_
  obtain ⟨hi14, hF⟩ := gin_inv hF
  refine z_iald cx (tfX_6_2 (td_6 hT hg13)) za_25 hi14 p2.toNatClampNeg rfl d_X9_dries_35 ?_
  refine z_nm hF (fun v15 hF => ?_)
  refine z_istore cx 6 [(6, .int v15), (5, .int v12), (4, .ref (ad 4)), (0, .ref (ad 0)), (1, .int p0), (2, .int p1), (3, .int p2)] d_X9_dries_36 (by decide) rfl ?_
  refine z_aload_n cx d_X9_dries_38 3 rfl ?_
  obtain ⟨hg16, hF⟩ := gd_inv hF
  refine z_getD cx hT fg_SunnyPans_72 d_X9_dries_39 ?_
  refine z_aload cx d_X9_dries_42 2 rfl ?_
  refine z_getR cx (tfX_8_1 (tfX_10_3 hT)) fg_SunnyPans_174 5 rfl d_X9_dries_44 ?_
  refine z_iload cx d_X9_dries_47 1 rfl ?_
  obtain ⟨hi17, hF⟩ := gin_inv hF
  refine z_iald cx (tfX_5_1 (tfX_8_1 (tfX_10_3 hT))) za_16 hi17 v12.toNatClampNeg rfl d_X9_dries_49 ?_
  refine z_aload cx d_X9_dries_50 2 rfl ?_
  refine z_getR cx (tfX_8_1 (tfX_10_3 hT)) fg_SunnyPans_181 6 rfl d_X9_dries_52 ?_
  refine z_iload cx d_X9_dries_55 1 rfl ?_
  refine z_iald cx (tfX_5_2 (tfX_8_1 (tfX_10_3 hT))) za_16 hi17 v12.toNatClampNeg rfl d_X9_dries_57 ?_
  refine z_iload cx d_X9_dries_58 0 rfl ?_
  refine z_aload_n cx d_X9_dries_60 3 rfl ?_
  refine z_getD cx hT fg_SunnyPans_62 d_X9_dries_61 ?_
  refine z_getR cx (td_6 hT hg13) fg_SunnyPans_238 ((M11.2.2 0 8) + 1) rfl d_X9_dries_64 ?_
  refine z_iload_n cx d_X9_dries_67 6 rfl ?_
  refine z_iald cx (tfX_6_1 (td_6 hT hg13)) za_25 hi14 p2.toNatClampNeg rfl d_X9_dries_68 ?_
  refine z_iload_n cx d_X9_dries_69 6 rfl ?_
  refine z_aload cx d_X9_dries_70 2 rfl ?_
  refine z_getI cx (tfX_8_1 (tfX_10_3 hT)) fg_SunnyPans_168 d_X9_dries_72 ?_
  refine z_iload cx d_X9_dries_75 1 rfl ?_
  obtain ⟨v19, M18, hc, hF⟩ := zb_inv hF
  refine z_callV cx (As := [.int (M11.1 5 v12.toNatClampNeg), .int (M11.1 6 v12.toNatClampNeg), .int v15, .int (M11.1 ((M11.2.2 0 8) + 1) p2.toNatClampNeg), .int p2, .int (M11.1 4 4), .int v12]) (rest := []) (c_X3_rate l cx.2.2.2.1.1 M11 (M11.2.2 0 10) (M11.1 5 v12.toNatClampNeg) (M11.1 6 v12.toNatClampNeg) v15 (M11.1 ((M11.2.2 0 8) + 1) p2.toNatClampNeg) p2 (M11.1 4 4) v12 (td_4 hT hg16) hc) (td_4 hT hg16) zo_4 cv_SunnyPans_251 ⟨rfl, rfl, Nat.le_of_ble_eq_true rfl, Nat.le_of_ble_eq_true rfl⟩ rfl rfl ⟨Nat.le_of_ble_eq_true rfl, Nat.le_of_ble_eq_true rfl⟩ (Nat.le_of_ble_eq_true rfl) d_X9_dries_77 ?_
  exact z_iretX cx hr rfl hF ⟨Nat.le_of_ble_eq_true rfl, Nat.le_of_ble_eq_true rfl⟩ d_X9_dries_80
/-! SunnyPans.would -/
theorem d_X9_would_0 : decode cX9_would 0 = .ok (.aload_n 0, 1) := by decide +kernel
theorem d_X9_would_1 : decode cX9_would 1 = .ok (.iload_n 1, 1) := by decide +kernel
theorem d_X9_would_2 : decode cX9_would 2 = .ok (.iconst 0, 1) := by decide +kernel
theorem d_X9_would_3 : decode cX9_would 3 = .ok (.sipush 9999, 3) := by decide +kernel
theorem d_X9_would_6 : decode cX9_would 6 = .ok (.invokestatic 255, 3) := by decide +kernel
theorem d_X9_would_9 : decode cX9_would 9 = .ok (.ifCond .eq 18, 3) := by decide +kernel
theorem d_X9_would_12 : decode cX9_would 12 = .ok (.iload_n 2, 1) := by decide +kernel
theorem d_X9_would_13 : decode cX9_would 13 = .ok (.iconst 0, 1) := by decide +kernel
theorem d_X9_would_14 : decode cX9_would 14 = .ok (.sipush 9999, 3) := by decide +kernel
theorem d_X9_would_17 : decode cX9_would 17 = .ok (.invokestatic 255, 3) := by decide +kernel
theorem d_X9_would_20 : decode cX9_would 20 = .ok (.ifCond .eq 7, 3) := by decide +kernel
theorem d_X9_would_23 : decode cX9_would 23 = .ok (.iconst 1, 1) := by decide +kernel
theorem d_X9_would_24 : decode cX9_would 24 = .ok (.goto 4, 3) := by decide +kernel
theorem d_X9_would_27 : decode cX9_would 27 = .ok (.iconst 0, 1) := by decide +kernel
theorem d_X9_would_28 : decode cX9_would 28 = .ok (.invokevirtual 155, 3) := by decide +kernel
theorem d_X9_would_31 : decode cX9_would 31 = .ok (.aload_n 0, 1) := by decide +kernel
theorem d_X9_would_32 : decode cX9_would 32 = .ok (.iload_n 3, 1) := by decide +kernel
theorem d_X9_would_33 : decode cX9_would 33 = .ok (.iconst 0, 1) := by decide +kernel
theorem d_X9_would_34 : decode cX9_would 34 = .ok (.bipush 40, 2) := by decide +kernel
theorem d_X9_would_36 : decode cX9_would 36 = .ok (.invokestatic 255, 3) := by decide +kernel
theorem d_X9_would_39 : decode cX9_would 39 = .ok (.ifCond .eq 18, 3) := by decide +kernel
theorem d_X9_would_42 : decode cX9_would 42 = .ok (.iload 4, 2) := by decide +kernel
theorem d_X9_would_44 : decode cX9_would 44 = .ok (.iconst 0, 1) := by decide +kernel
theorem d_X9_would_45 : decode cX9_would 45 = .ok (.bipush 7, 2) := by decide +kernel
theorem d_X9_would_47 : decode cX9_would 47 = .ok (.invokestatic 255, 3) := by decide +kernel
theorem d_X9_would_50 : decode cX9_would 50 = .ok (.ifCond .eq 7, 3) := by decide +kernel
theorem d_X9_would_53 : decode cX9_would 53 = .ok (.iconst 1, 1) := by decide +kernel
theorem d_X9_would_54 : decode cX9_would 54 = .ok (.goto 4, 3) := by decide +kernel
theorem d_X9_would_57 : decode cX9_would 57 = .ok (.iconst 0, 1) := by decide +kernel
theorem d_X9_would_58 : decode cX9_would 58 = .ok (.invokevirtual 155, 3) := by decide +kernel
theorem d_X9_would_61 : decode cX9_would 61 = .ok (.aload_n 0, 1) := by decide +kernel
theorem d_X9_would_62 : decode cX9_would 62 = .ok (.iload 5, 2) := by decide +kernel
theorem d_X9_would_64 : decode cX9_would 64 = .ok (.iconst 0, 1) := by decide +kernel
theorem d_X9_would_65 : decode cX9_would 65 = .ok (.bipush 9, 2) := by decide +kernel
theorem d_X9_would_67 : decode cX9_would 67 = .ok (.invokestatic 255, 3) := by decide +kernel
theorem d_X9_would_70 : decode cX9_would 70 = .ok (.ifCond .eq 19, 3) := by decide +kernel
theorem d_X9_would_73 : decode cX9_would 73 = .ok (.iload 6, 2) := by decide +kernel
theorem d_X9_would_75 : decode cX9_would 75 = .ok (.iconst 0, 1) := by decide +kernel
theorem d_X9_would_76 : decode cX9_would 76 = .ok (.sipush 400, 3) := by decide +kernel
theorem d_X9_would_79 : decode cX9_would 79 = .ok (.invokestatic 255, 3) := by decide +kernel
theorem d_X9_would_82 : decode cX9_would 82 = .ok (.ifCond .eq 7, 3) := by decide +kernel
theorem d_X9_would_85 : decode cX9_would 85 = .ok (.iconst 1, 1) := by decide +kernel
theorem d_X9_would_86 : decode cX9_would 86 = .ok (.goto 4, 3) := by decide +kernel
theorem d_X9_would_89 : decode cX9_would 89 = .ok (.iconst 0, 1) := by decide +kernel
theorem d_X9_would_90 : decode cX9_would 90 = .ok (.invokevirtual 155, 3) := by decide +kernel
theorem d_X9_would_93 : decode cX9_would 93 = .ok (.aload_n 0, 1) := by decide +kernel
theorem d_X9_would_94 : decode cX9_would 94 = .ok (.iload 7, 2) := by decide +kernel
theorem d_X9_would_96 : decode cX9_would 96 = .ok (.iconst 0, 1) := by decide +kernel
theorem d_X9_would_97 : decode cX9_would 97 = .ok (.bipush 7, 2) := by decide +kernel
theorem d_X9_would_99 : decode cX9_would 99 = .ok (.invokestatic 255, 3) := by decide +kernel
theorem d_X9_would_102 : decode cX9_would 102 = .ok (.ifCond .eq 18, 3) := by decide +kernel
theorem d_X9_would_105 : decode cX9_would 105 = .ok (.iload 8, 2) := by decide +kernel
theorem d_X9_would_107 : decode cX9_would 107 = .ok (.iconst 0, 1) := by decide +kernel
theorem d_X9_would_108 : decode cX9_would 108 = .ok (.bipush 7, 2) := by decide +kernel
theorem d_X9_would_110 : decode cX9_would 110 = .ok (.invokestatic 255, 3) := by decide +kernel
theorem d_X9_would_113 : decode cX9_would 113 = .ok (.ifCond .eq 7, 3) := by decide +kernel
theorem d_X9_would_116 : decode cX9_would 116 = .ok (.iconst 1, 1) := by decide +kernel
theorem d_X9_would_117 : decode cX9_would 117 = .ok (.goto 4, 3) := by decide +kernel
theorem d_X9_would_120 : decode cX9_would 120 = .ok (.iconst 0, 1) := by decide +kernel
theorem d_X9_would_121 : decode cX9_would 121 = .ok (.invokevirtual 155, 3) := by decide +kernel
theorem d_X9_would_124 : decode cX9_would 124 = .ok (.aload_n 0, 1) := by decide +kernel
theorem d_X9_would_125 : decode cX9_would 125 = .ok (.getfield 72, 3) := by decide +kernel
theorem d_X9_would_128 : decode cX9_would 128 = .ok (.iload_n 1, 1) := by decide +kernel
theorem d_X9_would_129 : decode cX9_would 129 = .ok (.iload_n 2, 1) := by decide +kernel
theorem d_X9_would_130 : decode cX9_would 130 = .ok (.iload_n 3, 1) := by decide +kernel
theorem d_X9_would_131 : decode cX9_would 131 = .ok (.iload 4, 2) := by decide +kernel
theorem d_X9_would_133 : decode cX9_would 133 = .ok (.iload 5, 2) := by decide +kernel
theorem d_X9_would_135 : decode cX9_would 135 = .ok (.iload 6, 2) := by decide +kernel
theorem d_X9_would_137 : decode cX9_would 137 = .ok (.iload 7, 2) := by decide +kernel
theorem d_X9_would_139 : decode cX9_would 139 = .ok (.iload 8, 2) := by decide +kernel
theorem d_X9_would_141 : decode cX9_would 141 = .ok (.invokestatic 213, 3) := by decide +kernel
theorem d_X9_would_144 : decode cX9_would 144 = .ok (.invokevirtual 251, 3) := by decide +kernel
theorem d_X9_would_147 : decode cX9_would 147 = .ok (.ireturn, 1) := by decide +kernel
noncomputable def F_X9_would_121 (p0 : Int32) (p1 : Int32) (p2 : Int32) (p3 : Int32) (p4 : Int32) (p5 : Int32) (p6 : Int32) (p7 : Int32) (b121_L1 : Int32) (b121_L2 : Int32) (b121_L3 : Int32) (b121_L4 : Int32) (b121_L5 : Int32) (b121_L6 : Int32) (b121_L7 : Int32) (b121_L8 : Int32) (b121_S1 : Int32) (M : zMem) : Option (Nat × Int32 × zMem) :=
  zbx (F_X9_need M b121_S1) (g := zxp) fun _ M1 =>
  gd (shX (M1.2.2 0 10) == 4) <|
  zb (F_X9_placeOf M1 b121_L7 b121_L8) fun v8 M7 =>
  zb (F_X3_rate M7 (M1.2.2 0 10) b121_L1 b121_L2 b121_L3 b121_L4 b121_L5 b121_L6 v8) fun v10 M9 =>
  some (0, v10, M9)
noncomputable def F_X9_would_120 (p0 : Int32) (p1 : Int32) (p2 : Int32) (p3 : Int32) (p4 : Int32) (p5 : Int32) (p6 : Int32) (p7 : Int32) (b120_L1 : Int32) (b120_L2 : Int32) (b120_L3 : Int32) (b120_L4 : Int32) (b120_L5 : Int32) (b120_L6 : Int32) (b120_L7 : Int32) (b120_L8 : Int32) (M : zMem) : Option (Nat × Int32 × zMem) :=
  F_X9_would_121 p0 p1 p2 p3 p4 p5 p6 p7 b120_L1 b120_L2 b120_L3 b120_L4 b120_L5 b120_L6 b120_L7 b120_L8 (0 : Int32) M
noncomputable def F_X9_would_90 (p0 : Int32) (p1 : Int32) (p2 : Int32) (p3 : Int32) (p4 : Int32) (p5 : Int32) (p6 : Int32) (p7 : Int32) (b90_L1 : Int32) (b90_L2 : Int32) (b90_L3 : Int32) (b90_L4 : Int32) (b90_L5 : Int32) (b90_L6 : Int32) (b90_L7 : Int32) (b90_L8 : Int32) (b90_S1 : Int32) (M : zMem) : Option (Nat × Int32 × zMem) :=
  zbx (F_X9_need M b90_S1) (g := zxp) fun _ M11 =>
  zb (F_X9_within M11 b90_L7 (0 : Int32) (7 : Int32)) fun v17 M16 =>
  if v17 = 0 then
    F_X9_would_120 p0 p1 p2 p3 p4 p5 p6 p7 b90_L1 b90_L2 b90_L3 b90_L4 b90_L5 b90_L6 b90_L7 b90_L8 M16
  else
    zb (F_X9_within M16 b90_L8 (0 : Int32) (7 : Int32)) fun v19 M18 =>
    if v19 = 0 then
      F_X9_would_120 p0 p1 p2 p3 p4 p5 p6 p7 b90_L1 b90_L2 b90_L3 b90_L4 b90_L5 b90_L6 b90_L7 b90_L8 M18
    else
      F_X9_would_121 p0 p1 p2 p3 p4 p5 p6 p7 b90_L1 b90_L2 b90_L3 b90_L4 b90_L5 b90_L6 b90_L7 b90_L8 (1 : Int32) M18
noncomputable def F_X9_would_89 (p0 : Int32) (p1 : Int32) (p2 : Int32) (p3 : Int32) (p4 : Int32) (p5 : Int32) (p6 : Int32) (p7 : Int32) (b89_L1 : Int32) (b89_L2 : Int32) (b89_L3 : Int32) (b89_L4 : Int32) (b89_L5 : Int32) (b89_L6 : Int32) (b89_L7 : Int32) (b89_L8 : Int32) (M : zMem) : Option (Nat × Int32 × zMem) :=
  F_X9_would_90 p0 p1 p2 p3 p4 p5 p6 p7 b89_L1 b89_L2 b89_L3 b89_L4 b89_L5 b89_L6 b89_L7 b89_L8 (0 : Int32) M
noncomputable def F_X9_would_58 (p0 : Int32) (p1 : Int32) (p2 : Int32) (p3 : Int32) (p4 : Int32) (p5 : Int32) (p6 : Int32) (p7 : Int32) (b58_L1 : Int32) (b58_L2 : Int32) (b58_L3 : Int32) (b58_L4 : Int32) (b58_L5 : Int32) (b58_L6 : Int32) (b58_L7 : Int32) (b58_L8 : Int32) (b58_S1 : Int32) (M : zMem) : Option (Nat × Int32 × zMem) :=
  zbx (F_X9_need M b58_S1) (g := zxp) fun _ M20 =>
  zb (F_X9_within M20 b58_L5 (0 : Int32) (9 : Int32)) fun v26 M25 =>
  if v26 = 0 then
    F_X9_would_89 p0 p1 p2 p3 p4 p5 p6 p7 b58_L1 b58_L2 b58_L3 b58_L4 b58_L5 b58_L6 b58_L7 b58_L8 M25
  else
    zb (F_X9_within M25 b58_L6 (0 : Int32) (400 : Int32)) fun v28 M27 =>
    if v28 = 0 then
      F_X9_would_89 p0 p1 p2 p3 p4 p5 p6 p7 b58_L1 b58_L2 b58_L3 b58_L4 b58_L5 b58_L6 b58_L7 b58_L8 M27
    else
      F_X9_would_90 p0 p1 p2 p3 p4 p5 p6 p7 b58_L1 b58_L2 b58_L3 b58_L4 b58_L5 b58_L6 b58_L7 b58_L8 (1 : Int32) M27
noncomputable def F_X9_would_57 (p0 : Int32) (p1 : Int32) (p2 : Int32) (p3 : Int32) (p4 : Int32) (p5 : Int32) (p6 : Int32) (p7 : Int32) (b57_L1 : Int32) (b57_L2 : Int32) (b57_L3 : Int32) (b57_L4 : Int32) (b57_L5 : Int32) (b57_L6 : Int32) (b57_L7 : Int32) (b57_L8 : Int32) (M : zMem) : Option (Nat × Int32 × zMem) :=
  F_X9_would_58 p0 p1 p2 p3 p4 p5 p6 p7 b57_L1 b57_L2 b57_L3 b57_L4 b57_L5 b57_L6 b57_L7 b57_L8 (0 : Int32) M
noncomputable def F_X9_would_28 (p0 : Int32) (p1 : Int32) (p2 : Int32) (p3 : Int32) (p4 : Int32) (p5 : Int32) (p6 : Int32) (p7 : Int32) (b28_L1 : Int32) (b28_L2 : Int32) (b28_L3 : Int32) (b28_L4 : Int32) (b28_L5 : Int32) (b28_L6 : Int32) (b28_L7 : Int32) (b28_L8 : Int32) (b28_S1 : Int32) (M : zMem) : Option (Nat × Int32 × zMem) :=
  zbx (F_X9_need M b28_S1) (g := zxp) fun _ M29 =>
  zb (F_X9_within M29 b28_L3 (0 : Int32) (40 : Int32)) fun v35 M34 =>
  if v35 = 0 then
    F_X9_would_57 p0 p1 p2 p3 p4 p5 p6 p7 b28_L1 b28_L2 b28_L3 b28_L4 b28_L5 b28_L6 b28_L7 b28_L8 M34
  else
    zb (F_X9_within M34 b28_L4 (0 : Int32) (7 : Int32)) fun v37 M36 =>
    if v37 = 0 then
      F_X9_would_57 p0 p1 p2 p3 p4 p5 p6 p7 b28_L1 b28_L2 b28_L3 b28_L4 b28_L5 b28_L6 b28_L7 b28_L8 M36
    else
      F_X9_would_58 p0 p1 p2 p3 p4 p5 p6 p7 b28_L1 b28_L2 b28_L3 b28_L4 b28_L5 b28_L6 b28_L7 b28_L8 (1 : Int32) M36
noncomputable def F_X9_would_27 (p0 : Int32) (p1 : Int32) (p2 : Int32) (p3 : Int32) (p4 : Int32) (p5 : Int32) (p6 : Int32) (p7 : Int32) (b27_L1 : Int32) (b27_L2 : Int32) (b27_L3 : Int32) (b27_L4 : Int32) (b27_L5 : Int32) (b27_L6 : Int32) (b27_L7 : Int32) (b27_L8 : Int32) (M : zMem) : Option (Nat × Int32 × zMem) :=
  F_X9_would_28 p0 p1 p2 p3 p4 p5 p6 p7 b27_L1 b27_L2 b27_L3 b27_L4 b27_L5 b27_L6 b27_L7 b27_L8 (0 : Int32) M
noncomputable def F_X9_would (M : zMem) (p0 : Int32) (p1 : Int32) (p2 : Int32) (p3 : Int32) (p4 : Int32) (p5 : Int32) (p6 : Int32) (p7 : Int32) : Option (Nat × Int32 × zMem) :=
  zb (F_X9_within M p0 (0 : Int32) (9999 : Int32)) fun v39 M38 =>
  if v39 = 0 then
    F_X9_would_27 p0 p1 p2 p3 p4 p5 p6 p7 p0 p1 p2 p3 p4 p5 p6 p7 M38
  else
    zb (F_X9_within M38 p1 (0 : Int32) (9999 : Int32)) fun v41 M40 =>
    if v41 = 0 then
      F_X9_would_27 p0 p1 p2 p3 p4 p5 p6 p7 p0 p1 p2 p3 p4 p5 p6 p7 M40
    else
      F_X9_would_28 p0 p1 p2 p3 p4 p5 p6 p7 p0 p1 p2 p3 p4 p5 p6 p7 (1 : Int32) M40
def rm_X9_would : Room := { frames := 10, cells := 4, slots := 24, locals := 161 }
set_option maxHeartbeats 4000000 in
set_option maxRecDepth 100000 in
theorem c_X9_would (l : Launch) {G : zG} {ad : Nat → Nat} {n : Nat} (hA : zInj ad n) (M : zMem) (p0 : Int32) (p1 : Int32) (p2 : Int32) (p3 : Int32) (p4 : Int32) (p5 : Int32) (p6 : Int32) (p7 : Int32) (hl : l.stackTraces = false) (hT : zT shX n 0 10) {k9 : Nat} {r9 : Int32} {M9 : zMem} (hF : F_X9_would M p0 p1 p2 p3 p4 p5 p6 p7 = some (k9, r9, M9)) : zMX l yX9_would cX9_would 9 (some .int) rm_X9_would 4 24 G shX ad n M [.ref (ad 0), .int p0, .int p1, .int p2, .int p3, .int p4, .int p5, .int p6, .int p7] k9 (some (.int r9)) M9 := by
  refine zM_ofX hA (by decide +kernel) (lv := [(0, .ref (ad 0)), (1, .int p0), (2, .int p1), (3, .int p2), (4, .int p3), (5, .int p4), (6, .int p5), (7, .int p6), (8, .int p7)]) (Nat.le_of_ble_eq_true rfl) rfl (fun p e s m args below meth c A cx hr ht => ?_)
  have hb121 : ∀ (b121_L1 : Int32) (b121_L2 : Int32) (b121_L3 : Int32) (b121_L4 : Int32) (b121_L5 : Int32) (b121_L6 : Int32) (b121_L7 : Int32) (b121_L8 : Int32) (b121_S1 : Int32) (M : zMem), F_X9_would_121 p0 p1 p2 p3 p4 p5 p6 p7 b121_L1 b121_L2 b121_L3 b121_L4 b121_L5 b121_L6 b121_L7 b121_L8 b121_S1 M = some (k9, r9, M9) → zJ p l e rm_X9_would s m args below meth c G shX ad n A 9 (vx_MQ below (zQX G shX ad n M9 k9 (some (.int r9)) A) (zXC G shX ad n M9 k9 A) args s 4 24 A) 3 18 M 121 [(0, .ref (ad 0)), (1, .int b121_L1), (2, .int b121_L2), (3, .int b121_L3), (4, .int b121_L4), (5, .int b121_L5), (6, .int b121_L6), (7, .int b121_L7), (8, .int b121_L8)] [.int b121_S1, .ref (ad 0)] := by
    intro b121_L1 b121_L2 b121_L3 b121_L4 b121_L5 b121_L6 b121_L7 b121_L8 b121_S1 M hF
    unfold F_X9_would_121 at hF
    obtain ⟨k2, v3, M1, hc, hF, hX4⟩ := zbx_inv hF
    refine z_callVX cx ht (As := [.int b121_S1]) (rest := []) (c_X9_need l cx.2.2.2.1.1 M b121_S1 hl hT hc) (fun q => zxp_inv (hX4 q)) hT zo_10 cv_SunnyPans_155 ⟨rfl, rfl, Nat.le_of_ble_eq_true rfl, Nat.le_of_ble_eq_true rfl⟩ rfl rfl ⟨Nat.le_of_ble_eq_true rfl, Nat.le_of_ble_eq_true rfl⟩ ⟨Nat.le_of_ble_eq_true rfl, Nat.le_of_ble_eq_true rfl⟩ (Nat.le_of_ble_eq_true rfl) d_X9_would_121 (fun kq5 => ?_)
    have hF := hF kq5
    refine z_aload_n cx d_X9_would_124 0 rfl ?_
    obtain ⟨hg6, hF⟩ := gd_inv hF
    refine z_getD cx hT fg_SunnyPans_72 d_X9_would_125 ?_
    refine z_iload_n cx d_X9_would_128 1 rfl ?_
    refine z_iload_n cx d_X9_would_129 2 rfl ?_
    refine z_iload_n cx d_X9_would_130 3 rfl ?_
    refine z_iload cx d_X9_would_131 4 rfl ?_
    refine z_iload cx d_X9_would_133 5 rfl ?_
    refine z_iload cx d_X9_would_135 6 rfl ?_
    refine z_iload cx d_X9_would_137 7 rfl ?_
    refine z_iload cx d_X9_would_139 8 rfl ?_
    obtain ⟨v8, M7, hc, hF⟩ := zb_inv hF
    refine z_callS cx (As := [.int b121_L7, .int b121_L8]) (rest := [.int b121_L6, .int b121_L5, .int b121_L4, .int b121_L3, .int b121_L2, .int b121_L1, .ref (ad (M1.2.2 0 10))]) (c_X9_placeOf l cx.2.2.2.1.1 M1 b121_L7 b121_L8  hc) cs_SunnyPans_213 ⟨rfl, rfl, Nat.le_of_ble_eq_true rfl, Nat.le_of_ble_eq_true rfl⟩ rfl rfl ⟨Nat.le_of_ble_eq_true rfl, Nat.le_of_ble_eq_true rfl⟩ (Nat.le_of_ble_eq_true rfl) d_X9_would_141 ?_
    obtain ⟨v10, M9, hc, hF⟩ := zb_inv hF
    refine z_callV cx (As := [.int b121_L1, .int b121_L2, .int b121_L3, .int b121_L4, .int b121_L5, .int b121_L6, .int v8]) (rest := []) (c_X3_rate l cx.2.2.2.1.1 M7 (M1.2.2 0 10) b121_L1 b121_L2 b121_L3 b121_L4 b121_L5 b121_L6 v8 (td_4 hT hg6) hc) (td_4 hT hg6) zo_4 cv_SunnyPans_251 ⟨rfl, rfl, Nat.le_of_ble_eq_true rfl, Nat.le_of_ble_eq_true rfl⟩ rfl rfl ⟨Nat.le_of_ble_eq_true rfl, Nat.le_of_ble_eq_true rfl⟩ (Nat.le_of_ble_eq_true rfl) d_X9_would_144 ?_
    exact z_iretX cx hr rfl hF ⟨Nat.le_of_ble_eq_true rfl, Nat.le_of_ble_eq_true rfl⟩ d_X9_would_147
  have hb120 : ∀ (b120_L1 : Int32) (b120_L2 : Int32) (b120_L3 : Int32) (b120_L4 : Int32) (b120_L5 : Int32) (b120_L6 : Int32) (b120_L7 : Int32) (b120_L8 : Int32) (M : zMem), F_X9_would_120 p0 p1 p2 p3 p4 p5 p6 p7 b120_L1 b120_L2 b120_L3 b120_L4 b120_L5 b120_L6 b120_L7 b120_L8 M = some (k9, r9, M9) → zJ p l e rm_X9_would s m args below meth c G shX ad n A 9 (vx_MQ below (zQX G shX ad n M9 k9 (some (.int r9)) A) (zXC G shX ad n M9 k9 A) args s 4 24 A) 3 18 M 120 [(0, .ref (ad 0)), (1, .int b120_L1), (2, .int b120_L2), (3, .int b120_L3), (4, .int b120_L4), (5, .int b120_L5), (6, .int b120_L6), (7, .int b120_L7), (8, .int b120_L8)] [.ref (ad 0)] := by
    intro b120_L1 b120_L2 b120_L3 b120_L4 b120_L5 b120_L6 b120_L7 b120_L8 M hF
    unfold F_X9_would_120 at hF
    refine z_iconst (v := 0) cx d_X9_would_120 ki_0 ?_
    exact hb121 b120_L1 b120_L2 b120_L3 b120_L4 b120_L5 b120_L6 b120_L7 b120_L8 (0 : Int32) M hF
  have hb90 : ∀ (b90_L1 : Int32) (b90_L2 : Int32) (b90_L3 : Int32) (b90_L4 : Int32) (b90_L5 : Int32) (b90_L6 : Int32) (b90_L7 : Int32) (b90_L8 : Int32) (b90_S1 : Int32) (M : zMem), F_X9_would_90 p0 p1 p2 p3 p4 p5 p6 p7 b90_L1 b90_L2 b90_L3 b90_L4 b90_L5 b90_L6 b90_L7 b90_L8 b90_S1 M = some (k9, r9, M9) → zJ p l e rm_X9_would s m args below meth c G shX ad n A 9 (vx_MQ below (zQX G shX ad n M9 k9 (some (.int r9)) A) (zXC G shX ad n M9 k9 A) args s 4 24 A) 2 12 M 90 [(0, .ref (ad 0)), (1, .int b90_L1), (2, .int b90_L2), (3, .int b90_L3), (4, .int b90_L4), (5, .int b90_L5), (6, .int b90_L6), (7, .int b90_L7), (8, .int b90_L8)] [.int b90_S1, .ref (ad 0)] := by
    intro b90_L1 b90_L2 b90_L3 b90_L4 b90_L5 b90_L6 b90_L7 b90_L8 b90_S1 M hF
    unfold F_X9_would_90 at hF
    obtain ⟨k12, v13, M11, hc, hF, hX14⟩ := zbx_inv hF
    refine z_callVX cx ht (As := [.int b90_S1]) (rest := []) (c_X9_need l cx.2.2.2.1.1 M b90_S1 hl hT hc) (fun q => zxp_inv (hX14 q)) hT zo_10 cv_SunnyPans_155 ⟨rfl, rfl, Nat.le_of_ble_eq_true rfl, Nat.le_of_ble_eq_true rfl⟩ rfl rfl ⟨Nat.le_of_ble_eq_true rfl, Nat.le_of_ble_eq_true rfl⟩ ⟨Nat.le_of_ble_eq_true rfl, Nat.le_of_ble_eq_true rfl⟩ (Nat.le_of_ble_eq_true rfl) d_X9_would_90 (fun kq15 => ?_)
    have hF := hF kq15
    refine z_aload_n cx d_X9_would_93 0 rfl ?_
    refine z_iload cx d_X9_would_94 7 rfl ?_
    refine z_iconst (v := 0) cx d_X9_would_96 ki_0 ?_
    refine z_bipush (v := 7) cx d_X9_would_97 kb_7 ?_
    obtain ⟨v17, M16, hc, hF⟩ := zb_inv hF
    refine z_callS cx (As := [.int b90_L7, .int (0 : Int32), .int (7 : Int32)]) (rest := [.ref (ad 0)]) (c_X9_within l cx.2.2.2.1.1 M11 b90_L7 (0 : Int32) (7 : Int32)  hc) cs_SunnyPans_255 ⟨rfl, rfl, Nat.le_of_ble_eq_true rfl, Nat.le_of_ble_eq_true rfl⟩ rfl rfl ⟨Nat.le_of_ble_eq_true rfl, Nat.le_of_ble_eq_true rfl⟩ (Nat.le_of_ble_eq_true rfl) d_X9_would_99 ?_
    refine z_if_eq cx 120 d_X9_would_102 (by decide) hF (fun hF => ?_) (fun hF => ?_)
    · exact hb120 b90_L1 b90_L2 b90_L3 b90_L4 b90_L5 b90_L6 b90_L7 b90_L8 M16 hF
    refine z_iload cx d_X9_would_105 8 rfl ?_
    refine z_iconst (v := 0) cx d_X9_would_107 ki_0 ?_
    refine z_bipush (v := 7) cx d_X9_would_108 kb_7 ?_
    obtain ⟨v19, M18, hc, hF⟩ := zb_inv hF
    refine z_callS cx (As := [.int b90_L8, .int (0 : Int32), .int (7 : Int32)]) (rest := [.ref (ad 0)]) (c_X9_within l cx.2.2.2.1.1 M16 b90_L8 (0 : Int32) (7 : Int32)  hc) cs_SunnyPans_255 ⟨rfl, rfl, Nat.le_of_ble_eq_true rfl, Nat.le_of_ble_eq_true rfl⟩ rfl rfl ⟨Nat.le_of_ble_eq_true rfl, Nat.le_of_ble_eq_true rfl⟩ (Nat.le_of_ble_eq_true rfl) d_X9_would_110 ?_
    refine z_if_eq cx 120 d_X9_would_113 (by decide) hF (fun hF => ?_) (fun hF => ?_)
    · exact hb120 b90_L1 b90_L2 b90_L3 b90_L4 b90_L5 b90_L6 b90_L7 b90_L8 M18 hF
    refine z_iconst (v := 1) cx d_X9_would_116 ki_1 ?_
    refine z_goto cx 121 d_X9_would_117 (by decide) ?_
    exact hb121 b90_L1 b90_L2 b90_L3 b90_L4 b90_L5 b90_L6 b90_L7 b90_L8 (1 : Int32) M18 hF
  have hb89 : ∀ (b89_L1 : Int32) (b89_L2 : Int32) (b89_L3 : Int32) (b89_L4 : Int32) (b89_L5 : Int32) (b89_L6 : Int32) (b89_L7 : Int32) (b89_L8 : Int32) (M : zMem), F_X9_would_89 p0 p1 p2 p3 p4 p5 p6 p7 b89_L1 b89_L2 b89_L3 b89_L4 b89_L5 b89_L6 b89_L7 b89_L8 M = some (k9, r9, M9) → zJ p l e rm_X9_would s m args below meth c G shX ad n A 9 (vx_MQ below (zQX G shX ad n M9 k9 (some (.int r9)) A) (zXC G shX ad n M9 k9 A) args s 4 24 A) 2 12 M 89 [(0, .ref (ad 0)), (1, .int b89_L1), (2, .int b89_L2), (3, .int b89_L3), (4, .int b89_L4), (5, .int b89_L5), (6, .int b89_L6), (7, .int b89_L7), (8, .int b89_L8)] [.ref (ad 0)] := by
    intro b89_L1 b89_L2 b89_L3 b89_L4 b89_L5 b89_L6 b89_L7 b89_L8 M hF
    unfold F_X9_would_89 at hF
    refine z_iconst (v := 0) cx d_X9_would_89 ki_0 ?_
    exact hb90 b89_L1 b89_L2 b89_L3 b89_L4 b89_L5 b89_L6 b89_L7 b89_L8 (0 : Int32) M hF
  have hb58 : ∀ (b58_L1 : Int32) (b58_L2 : Int32) (b58_L3 : Int32) (b58_L4 : Int32) (b58_L5 : Int32) (b58_L6 : Int32) (b58_L7 : Int32) (b58_L8 : Int32) (b58_S1 : Int32) (M : zMem), F_X9_would_58 p0 p1 p2 p3 p4 p5 p6 p7 b58_L1 b58_L2 b58_L3 b58_L4 b58_L5 b58_L6 b58_L7 b58_L8 b58_S1 M = some (k9, r9, M9) → zJ p l e rm_X9_would s m args below meth c G shX ad n A 9 (vx_MQ below (zQX G shX ad n M9 k9 (some (.int r9)) A) (zXC G shX ad n M9 k9 A) args s 4 24 A) 1 6 M 58 [(0, .ref (ad 0)), (1, .int b58_L1), (2, .int b58_L2), (3, .int b58_L3), (4, .int b58_L4), (5, .int b58_L5), (6, .int b58_L6), (7, .int b58_L7), (8, .int b58_L8)] [.int b58_S1, .ref (ad 0)] := by
    intro b58_L1 b58_L2 b58_L3 b58_L4 b58_L5 b58_L6 b58_L7 b58_L8 b58_S1 M hF
    unfold F_X9_would_58 at hF
    obtain ⟨k21, v22, M20, hc, hF, hX23⟩ := zbx_inv hF
    refine z_callVX cx ht (As := [.int b58_S1]) (rest := []) (c_X9_need l cx.2.2.2.1.1 M b58_S1 hl hT hc) (fun q => zxp_inv (hX23 q)) hT zo_10 cv_SunnyPans_155 ⟨rfl, rfl, Nat.le_of_ble_eq_true rfl, Nat.le_of_ble_eq_true rfl⟩ rfl rfl ⟨Nat.le_of_ble_eq_true rfl, Nat.le_of_ble_eq_true rfl⟩ ⟨Nat.le_of_ble_eq_true rfl, Nat.le_of_ble_eq_true rfl⟩ (Nat.le_of_ble_eq_true rfl) d_X9_would_58 (fun kq24 => ?_)
    have hF := hF kq24
    refine z_aload_n cx d_X9_would_61 0 rfl ?_
    refine z_iload cx d_X9_would_62 5 rfl ?_
    refine z_iconst (v := 0) cx d_X9_would_64 ki_0 ?_
    refine z_bipush (v := 9) cx d_X9_would_65 kb_9 ?_
    obtain ⟨v26, M25, hc, hF⟩ := zb_inv hF
    refine z_callS cx (As := [.int b58_L5, .int (0 : Int32), .int (9 : Int32)]) (rest := [.ref (ad 0)]) (c_X9_within l cx.2.2.2.1.1 M20 b58_L5 (0 : Int32) (9 : Int32)  hc) cs_SunnyPans_255 ⟨rfl, rfl, Nat.le_of_ble_eq_true rfl, Nat.le_of_ble_eq_true rfl⟩ rfl rfl ⟨Nat.le_of_ble_eq_true rfl, Nat.le_of_ble_eq_true rfl⟩ (Nat.le_of_ble_eq_true rfl) d_X9_would_67 ?_
    refine z_if_eq cx 89 d_X9_would_70 (by decide) hF (fun hF => ?_) (fun hF => ?_)
    · exact hb89 b58_L1 b58_L2 b58_L3 b58_L4 b58_L5 b58_L6 b58_L7 b58_L8 M25 hF
    refine z_iload cx d_X9_would_73 6 rfl ?_
    refine z_iconst (v := 0) cx d_X9_would_75 ki_0 ?_
    refine z_sipush (v := 400) cx d_X9_would_76 ks_400 ?_
    obtain ⟨v28, M27, hc, hF⟩ := zb_inv hF
    refine z_callS cx (As := [.int b58_L6, .int (0 : Int32), .int (400 : Int32)]) (rest := [.ref (ad 0)]) (c_X9_within l cx.2.2.2.1.1 M25 b58_L6 (0 : Int32) (400 : Int32)  hc) cs_SunnyPans_255 ⟨rfl, rfl, Nat.le_of_ble_eq_true rfl, Nat.le_of_ble_eq_true rfl⟩ rfl rfl ⟨Nat.le_of_ble_eq_true rfl, Nat.le_of_ble_eq_true rfl⟩ (Nat.le_of_ble_eq_true rfl) d_X9_would_79 ?_
    refine z_if_eq cx 89 d_X9_would_82 (by decide) hF (fun hF => ?_) (fun hF => ?_)
    · exact hb89 b58_L1 b58_L2 b58_L3 b58_L4 b58_L5 b58_L6 b58_L7 b58_L8 M27 hF
    refine z_iconst (v := 1) cx d_X9_would_85 ki_1 ?_
    refine z_goto cx 90 d_X9_would_86 (by decide) ?_
    exact hb90 b58_L1 b58_L2 b58_L3 b58_L4 b58_L5 b58_L6 b58_L7 b58_L8 (1 : Int32) M27 hF
  have hb57 : ∀ (b57_L1 : Int32) (b57_L2 : Int32) (b57_L3 : Int32) (b57_L4 : Int32) (b57_L5 : Int32) (b57_L6 : Int32) (b57_L7 : Int32) (b57_L8 : Int32) (M : zMem), F_X9_would_57 p0 p1 p2 p3 p4 p5 p6 p7 b57_L1 b57_L2 b57_L3 b57_L4 b57_L5 b57_L6 b57_L7 b57_L8 M = some (k9, r9, M9) → zJ p l e rm_X9_would s m args below meth c G shX ad n A 9 (vx_MQ below (zQX G shX ad n M9 k9 (some (.int r9)) A) (zXC G shX ad n M9 k9 A) args s 4 24 A) 1 6 M 57 [(0, .ref (ad 0)), (1, .int b57_L1), (2, .int b57_L2), (3, .int b57_L3), (4, .int b57_L4), (5, .int b57_L5), (6, .int b57_L6), (7, .int b57_L7), (8, .int b57_L8)] [.ref (ad 0)] := by
    intro b57_L1 b57_L2 b57_L3 b57_L4 b57_L5 b57_L6 b57_L7 b57_L8 M hF
    unfold F_X9_would_57 at hF
    refine z_iconst (v := 0) cx d_X9_would_57 ki_0 ?_
    exact hb58 b57_L1 b57_L2 b57_L3 b57_L4 b57_L5 b57_L6 b57_L7 b57_L8 (0 : Int32) M hF
  have hb28 : ∀ (b28_L1 : Int32) (b28_L2 : Int32) (b28_L3 : Int32) (b28_L4 : Int32) (b28_L5 : Int32) (b28_L6 : Int32) (b28_L7 : Int32) (b28_L8 : Int32) (b28_S1 : Int32) (M : zMem), F_X9_would_28 p0 p1 p2 p3 p4 p5 p6 p7 b28_L1 b28_L2 b28_L3 b28_L4 b28_L5 b28_L6 b28_L7 b28_L8 b28_S1 M = some (k9, r9, M9) → zJ p l e rm_X9_would s m args below meth c G shX ad n A 9 (vx_MQ below (zQX G shX ad n M9 k9 (some (.int r9)) A) (zXC G shX ad n M9 k9 A) args s 4 24 A) 0 0 M 28 [(0, .ref (ad 0)), (1, .int b28_L1), (2, .int b28_L2), (3, .int b28_L3), (4, .int b28_L4), (5, .int b28_L5), (6, .int b28_L6), (7, .int b28_L7), (8, .int b28_L8)] [.int b28_S1, .ref (ad 0)] := by
    intro b28_L1 b28_L2 b28_L3 b28_L4 b28_L5 b28_L6 b28_L7 b28_L8 b28_S1 M hF
    unfold F_X9_would_28 at hF
    obtain ⟨k30, v31, M29, hc, hF, hX32⟩ := zbx_inv hF
    refine z_callVX cx ht (As := [.int b28_S1]) (rest := []) (c_X9_need l cx.2.2.2.1.1 M b28_S1 hl hT hc) (fun q => zxp_inv (hX32 q)) hT zo_10 cv_SunnyPans_155 ⟨rfl, rfl, Nat.le_of_ble_eq_true rfl, Nat.le_of_ble_eq_true rfl⟩ rfl rfl ⟨Nat.le_of_ble_eq_true rfl, Nat.le_of_ble_eq_true rfl⟩ ⟨Nat.le_of_ble_eq_true rfl, Nat.le_of_ble_eq_true rfl⟩ (Nat.le_of_ble_eq_true rfl) d_X9_would_28 (fun kq33 => ?_)
    have hF := hF kq33
    refine z_aload_n cx d_X9_would_31 0 rfl ?_
    refine z_iload_n cx d_X9_would_32 3 rfl ?_
    refine z_iconst (v := 0) cx d_X9_would_33 ki_0 ?_
    refine z_bipush (v := 40) cx d_X9_would_34 kb_40 ?_
    obtain ⟨v35, M34, hc, hF⟩ := zb_inv hF
    refine z_callS cx (As := [.int b28_L3, .int (0 : Int32), .int (40 : Int32)]) (rest := [.ref (ad 0)]) (c_X9_within l cx.2.2.2.1.1 M29 b28_L3 (0 : Int32) (40 : Int32)  hc) cs_SunnyPans_255 ⟨rfl, rfl, Nat.le_of_ble_eq_true rfl, Nat.le_of_ble_eq_true rfl⟩ rfl rfl ⟨Nat.le_of_ble_eq_true rfl, Nat.le_of_ble_eq_true rfl⟩ (Nat.le_of_ble_eq_true rfl) d_X9_would_36 ?_
    refine z_if_eq cx 57 d_X9_would_39 (by decide) hF (fun hF => ?_) (fun hF => ?_)
    · exact hb57 b28_L1 b28_L2 b28_L3 b28_L4 b28_L5 b28_L6 b28_L7 b28_L8 M34 hF
    refine z_iload cx d_X9_would_42 4 rfl ?_
    refine z_iconst (v := 0) cx d_X9_would_44 ki_0 ?_
    refine z_bipush (v := 7) cx d_X9_would_45 kb_7 ?_
    obtain ⟨v37, M36, hc, hF⟩ := zb_inv hF
    refine z_callS cx (As := [.int b28_L4, .int (0 : Int32), .int (7 : Int32)]) (rest := [.ref (ad 0)]) (c_X9_within l cx.2.2.2.1.1 M34 b28_L4 (0 : Int32) (7 : Int32)  hc) cs_SunnyPans_255 ⟨rfl, rfl, Nat.le_of_ble_eq_true rfl, Nat.le_of_ble_eq_true rfl⟩ rfl rfl ⟨Nat.le_of_ble_eq_true rfl, Nat.le_of_ble_eq_true rfl⟩ (Nat.le_of_ble_eq_true rfl) d_X9_would_47 ?_
    refine z_if_eq cx 57 d_X9_would_50 (by decide) hF (fun hF => ?_) (fun hF => ?_)
    · exact hb57 b28_L1 b28_L2 b28_L3 b28_L4 b28_L5 b28_L6 b28_L7 b28_L8 M36 hF
    refine z_iconst (v := 1) cx d_X9_would_53 ki_1 ?_
    refine z_goto cx 58 d_X9_would_54 (by decide) ?_
    exact hb58 b28_L1 b28_L2 b28_L3 b28_L4 b28_L5 b28_L6 b28_L7 b28_L8 (1 : Int32) M36 hF
  have hb27 : ∀ (b27_L1 : Int32) (b27_L2 : Int32) (b27_L3 : Int32) (b27_L4 : Int32) (b27_L5 : Int32) (b27_L6 : Int32) (b27_L7 : Int32) (b27_L8 : Int32) (M : zMem), F_X9_would_27 p0 p1 p2 p3 p4 p5 p6 p7 b27_L1 b27_L2 b27_L3 b27_L4 b27_L5 b27_L6 b27_L7 b27_L8 M = some (k9, r9, M9) → zJ p l e rm_X9_would s m args below meth c G shX ad n A 9 (vx_MQ below (zQX G shX ad n M9 k9 (some (.int r9)) A) (zXC G shX ad n M9 k9 A) args s 4 24 A) 0 0 M 27 [(0, .ref (ad 0)), (1, .int b27_L1), (2, .int b27_L2), (3, .int b27_L3), (4, .int b27_L4), (5, .int b27_L5), (6, .int b27_L6), (7, .int b27_L7), (8, .int b27_L8)] [.ref (ad 0)] := by
    intro b27_L1 b27_L2 b27_L3 b27_L4 b27_L5 b27_L6 b27_L7 b27_L8 M hF
    unfold F_X9_would_27 at hF
    refine z_iconst (v := 0) cx d_X9_would_27 ki_0 ?_
    exact hb28 b27_L1 b27_L2 b27_L3 b27_L4 b27_L5 b27_L6 b27_L7 b27_L8 (0 : Int32) M hF
  unfold F_X9_would at hF
  refine z_aload_n cx d_X9_would_0 0 rfl ?_
  refine z_iload_n cx d_X9_would_1 1 rfl ?_
  refine z_iconst (v := 0) cx d_X9_would_2 ki_0 ?_
  refine z_sipush (v := 9999) cx d_X9_would_3 ks_9999 ?_
  obtain ⟨v39, M38, hc, hF⟩ := zb_inv hF
  refine z_callS cx (As := [.int p0, .int (0 : Int32), .int (9999 : Int32)]) (rest := [.ref (ad 0)]) (c_X9_within l cx.2.2.2.1.1 M p0 (0 : Int32) (9999 : Int32)  hc) cs_SunnyPans_255 ⟨rfl, rfl, Nat.le_of_ble_eq_true rfl, Nat.le_of_ble_eq_true rfl⟩ rfl rfl ⟨Nat.le_of_ble_eq_true rfl, Nat.le_of_ble_eq_true rfl⟩ (Nat.le_of_ble_eq_true rfl) d_X9_would_6 ?_
  refine z_if_eq cx 27 d_X9_would_9 (by decide) hF (fun hF => ?_) (fun hF => ?_)
  · exact hb27 p0 p1 p2 p3 p4 p5 p6 p7 M38 hF
  refine z_iload_n cx d_X9_would_12 2 rfl ?_
  refine z_iconst (v := 0) cx d_X9_would_13 ki_0 ?_
  refine z_sipush (v := 9999) cx d_X9_would_14 ks_9999 ?_
  obtain ⟨v41, M40, hc, hF⟩ := zb_inv hF
  refine z_callS cx (As := [.int p1, .int (0 : Int32), .int (9999 : Int32)]) (rest := [.ref (ad 0)]) (c_X9_within l cx.2.2.2.1.1 M38 p1 (0 : Int32) (9999 : Int32)  hc) cs_SunnyPans_255 ⟨rfl, rfl, Nat.le_of_ble_eq_true rfl, Nat.le_of_ble_eq_true rfl⟩ rfl rfl ⟨Nat.le_of_ble_eq_true rfl, Nat.le_of_ble_eq_true rfl⟩ (Nat.le_of_ble_eq_true rfl) d_X9_would_17 ?_
  refine z_if_eq cx 27 d_X9_would_20 (by decide) hF (fun hF => ?_) (fun hF => ?_)
  · exact hb27 p0 p1 p2 p3 p4 p5 p6 p7 M40 hF
  refine z_iconst (v := 1) cx d_X9_would_23 ki_1 ?_
  refine z_goto cx 28 d_X9_would_24 (by decide) ?_
  exact hb28 p0 p1 p2 p3 p4 p5 p6 p7 (1 : Int32) M40 hF
/-! SunnyPans.strongest -/
theorem tfX_10_172 {n k : Nat} (h : zT shX n k 10) : zT shX n (k + 172) 1 := zT_off h (shX_f (by decide) (by decide +kernel)) (by decide) (by decide)
set_option maxRecDepth 100000 in
theorem wd_415 : Cond.fieldLink "SunnyPans" 51 "SunnyPans" "best" "LSunnyPans$Best;" ∈ tbG := tw2 75 rfl rfl
theorem fg_SunnyPans_51 : zGetR "SunnyPans" 51 9 10 6 172 := ⟨RX9, TX9, 19, rfl, by decide, uw_9, wd_415, fun _ _ _ _ _ _ => ⟨_, rfl, rfl⟩⟩
set_option maxRecDepth 100000 in
theorem wd_1135 : Cond.code yX0_placeOrAmount cX0_placeOrAmount 2 (some .int) ∈ tbG := tw5 75 rfl rfl
set_option maxRecDepth 100000 in
theorem wd_1132 : Cond.methodLink "SunnyPans" 263 yX0_placeOrAmount ∈ tbG := tw5 72 rfl rfl
set_option maxRecDepth 100000 in
theorem wd_1133 : Cond.instanceMethod yX0_placeOrAmount ∈ tbG := tw5 73 rfl rfl
set_option maxRecDepth 100000 in
theorem wd_1134 : Cond.selects "SunnyPans$Best" yX0_placeOrAmount yX0_placeOrAmount ∈ tbG := tw5 74 rfl rfl
set_option maxRecDepth 100000 in
theorem wd_107 : Cond.initialized "SunnyPans$Best" ∈ tbG := tw1 7 rfl rfl
theorem cv_SunnyPans_263 : zCV "SunnyPans" 263 "SunnyPans$Best" yX0_placeOrAmount cX0_placeOrAmount 2 (some .int) 1 := zCV_of wd_1132 wd_1133 wd_1134 wd_107 wd_1135 (by decide +kernel)
theorem zo_1 : zObj "SunnyPans$Best" 1 := ⟨0, (RX0, TX0, 2), rfl, rfl, fun _ _ _ _ _ _ => ⟨_, rfl⟩⟩
set_option maxRecDepth 100000 in
theorem wd_1199 : Cond.code yX0_offerMost cX0_offerMost 3 none ∈ tbG := tw5 139 rfl rfl
set_option maxRecDepth 100000 in
theorem wd_1196 : Cond.methodLink "SunnyPans" 260 yX0_offerMost ∈ tbG := tw5 136 rfl rfl
set_option maxRecDepth 100000 in
theorem wd_1197 : Cond.instanceMethod yX0_offerMost ∈ tbG := tw5 137 rfl rfl
set_option maxRecDepth 100000 in
theorem wd_1198 : Cond.selects "SunnyPans$Best" yX0_offerMost yX0_offerMost ∈ tbG := tw5 138 rfl rfl
theorem cv_SunnyPans_260 : zCV "SunnyPans" 260 "SunnyPans$Best" yX0_offerMost cX0_offerMost 3 none 2 := zCV_of wd_1196 wd_1197 wd_1198 wd_107 wd_1199 (by decide +kernel)
set_option maxRecDepth 100000 in
theorem wd_1127 : Cond.code yX0_clear cX0_clear 1 none ∈ tbG := tw5 67 rfl rfl
set_option maxRecDepth 100000 in
theorem wd_1124 : Cond.methodLink "SunnyPans" 259 yX0_clear ∈ tbG := tw5 64 rfl rfl
set_option maxRecDepth 100000 in
theorem wd_1125 : Cond.instanceMethod yX0_clear ∈ tbG := tw5 65 rfl rfl
set_option maxRecDepth 100000 in
theorem wd_1126 : Cond.selects "SunnyPans$Best" yX0_clear yX0_clear ∈ tbG := tw5 66 rfl rfl
theorem cv_SunnyPans_259 : zCV "SunnyPans" 259 "SunnyPans$Best" yX0_clear cX0_clear 1 none 0 := zCV_of wd_1124 wd_1125 wd_1126 wd_107 wd_1127 (by decide +kernel)
theorem d_X9_strongest_0 : decode cX9_strongest 0 = .ok (.aload_n 0, 1) := by decide +kernel
theorem d_X9_strongest_1 : decode cX9_strongest 1 = .ok (.iload_n 1, 1) := by decide +kernel
theorem d_X9_strongest_2 : decode cX9_strongest 2 = .ok (.ifCond .eq 8, 3) := by decide +kernel
theorem d_X9_strongest_5 : decode cX9_strongest 5 = .ok (.iload_n 1, 1) := by decide +kernel
theorem d_X9_strongest_6 : decode cX9_strongest 6 = .ok (.iconst 1, 1) := by decide +kernel
theorem d_X9_strongest_7 : decode cX9_strongest 7 = .ok (.if_icmp .ne 7, 3) := by decide +kernel
theorem d_X9_strongest_10 : decode cX9_strongest 10 = .ok (.iconst 1, 1) := by decide +kernel
theorem d_X9_strongest_11 : decode cX9_strongest 11 = .ok (.goto 4, 3) := by decide +kernel
theorem d_X9_strongest_14 : decode cX9_strongest 14 = .ok (.iconst 0, 1) := by decide +kernel
theorem d_X9_strongest_15 : decode cX9_strongest 15 = .ok (.invokevirtual 155, 3) := by decide +kernel
theorem d_X9_strongest_18 : decode cX9_strongest 18 = .ok (.aload_n 0, 1) := by decide +kernel
theorem d_X9_strongest_19 : decode cX9_strongest 19 = .ok (.getfield 19, 3) := by decide +kernel
theorem d_X9_strongest_22 : decode cX9_strongest 22 = .ok (.getfield 159, 3) := by decide +kernel
theorem d_X9_strongest_25 : decode cX9_strongest 25 = .ok (.astore_n 2, 1) := by decide +kernel
theorem d_X9_strongest_26 : decode cX9_strongest 26 = .ok (.aload_n 0, 1) := by decide +kernel
theorem d_X9_strongest_27 : decode cX9_strongest 27 = .ok (.getfield 51, 3) := by decide +kernel
theorem d_X9_strongest_30 : decode cX9_strongest 30 = .ok (.invokevirtual 259, 3) := by decide +kernel
theorem d_X9_strongest_33 : decode cX9_strongest 33 = .ok (.iconst 0, 1) := by decide +kernel
theorem d_X9_strongest_34 : decode cX9_strongest 34 = .ok (.istore_n 3, 1) := by decide +kernel
theorem d_X9_strongest_35 : decode cX9_strongest 35 = .ok (.iload_n 3, 1) := by decide +kernel
theorem d_X9_strongest_36 : decode cX9_strongest 36 = .ok (.bipush 64, 2) := by decide +kernel
theorem d_X9_strongest_38 : decode cX9_strongest 38 = .ok (.if_icmp .ge 41, 3) := by decide +kernel
theorem d_X9_strongest_41 : decode cX9_strongest 41 = .ok (.aload_n 2, 1) := by decide +kernel
theorem d_X9_strongest_42 : decode cX9_strongest 42 = .ok (.getfield 181, 3) := by decide +kernel
theorem d_X9_strongest_45 : decode cX9_strongest 45 = .ok (.iload_n 3, 1) := by decide +kernel
theorem d_X9_strongest_46 : decode cX9_strongest 46 = .ok (.iaload, 1) := by decide +kernel
theorem d_X9_strongest_47 : decode cX9_strongest 47 = .ok (.ifCond .le 26, 3) := by decide +kernel
theorem d_X9_strongest_50 : decode cX9_strongest 50 = .ok (.aload_n 0, 1) := by decide +kernel
theorem d_X9_strongest_51 : decode cX9_strongest 51 = .ok (.getfield 51, 3) := by decide +kernel
theorem d_X9_strongest_54 : decode cX9_strongest 54 = .ok (.iload_n 3, 1) := by decide +kernel
theorem d_X9_strongest_55 : decode cX9_strongest 55 = .ok (.aload_n 2, 1) := by decide +kernel
theorem d_X9_strongest_56 : decode cX9_strongest 56 = .ok (.getfield 181, 3) := by decide +kernel
theorem d_X9_strongest_59 : decode cX9_strongest 59 = .ok (.iload_n 3, 1) := by decide +kernel
theorem d_X9_strongest_60 : decode cX9_strongest 60 = .ok (.iaload, 1) := by decide +kernel
theorem d_X9_strongest_61 : decode cX9_strongest 61 = .ok (.aload_n 2, 1) := by decide +kernel
theorem d_X9_strongest_62 : decode cX9_strongest 62 = .ok (.getfield 174, 3) := by decide +kernel
theorem d_X9_strongest_65 : decode cX9_strongest 65 = .ok (.iload_n 3, 1) := by decide +kernel
theorem d_X9_strongest_66 : decode cX9_strongest 66 = .ok (.iaload, 1) := by decide +kernel
theorem d_X9_strongest_67 : decode cX9_strongest 67 = .ok (.invokestatic 217, 3) := by decide +kernel
theorem d_X9_strongest_70 : decode cX9_strongest 70 = .ok (.invokevirtual 260, 3) := by decide +kernel
theorem d_X9_strongest_73 : decode cX9_strongest 73 = .ok (.iinc 3 1, 3) := by decide +kernel
theorem d_X9_strongest_76 : decode cX9_strongest 76 = .ok (.goto (-41), 3) := by decide +kernel
theorem d_X9_strongest_79 : decode cX9_strongest 79 = .ok (.aload_n 0, 1) := by decide +kernel
theorem d_X9_strongest_80 : decode cX9_strongest 80 = .ok (.getfield 51, 3) := by decide +kernel
theorem d_X9_strongest_83 : decode cX9_strongest 83 = .ok (.iload_n 1, 1) := by decide +kernel
theorem d_X9_strongest_84 : decode cX9_strongest 84 = .ok (.invokevirtual 263, 3) := by decide +kernel
theorem d_X9_strongest_87 : decode cX9_strongest 87 = .ok (.ireturn, 1) := by decide +kernel
noncomputable def F_X9_strongest_73 (p0 : Int32) (self35 : Int32 → Int32 → zMem → Option (Nat × Int32 × zMem)) (b73_L1 : Int32) (b73_L3 : Int32) (M : zMem) : Option (Nat × Int32 × zMem) :=
  self35 b73_L1 (b73_L3 + 1) M
noncomputable def F_X9_strongest_35 (p0 : Int32) (self35 : Int32 → Int32 → zMem → Option (Nat × Int32 × zMem)) (b35_L1 : Int32) (b35_L3 : Int32) (M : zMem) : Option (Nat × Int32 × zMem) :=
  if (64 : Int32) ≤ b35_L3 then
    zb (F_X0_placeOrAmount M 172 b35_L1) fun v2 M1 =>
    some (0, v2, M1)
  else
    gin b35_L3 64 <|
    if (M.1 6 b35_L3.toNatClampNeg) ≤ 0 then
      F_X9_strongest_73 p0 self35 b35_L1 b35_L3 M
    else
      zb (F_X9_strengthOf M (M.1 6 b35_L3.toNatClampNeg) (M.1 5 b35_L3.toNatClampNeg)) fun v5 M4 =>
      zbv (F_X0_offerMost M4 172 b35_L3 v5) fun M6 =>
      F_X9_strongest_73 p0 self35 b35_L1 b35_L3 M6
noncomputable def F_X9_strongest_15 (p0 : Int32) (b15_L1 : Int32) (b15_S1 : Int32) (M : zMem) : Option (Nat × Int32 × zMem) :=
  zbx (F_X9_need M b15_S1) (g := zxp) fun _ M7 =>
  zbv (F_X0_clear M7 172) fun M12 =>
  itF (fun _ _ _ => none) (F_X9_strongest_35 p0) zFuel b15_L1 (0 : Int32) M12
noncomputable def F_X9_strongest (M : zMem) (p0 : Int32) : Option (Nat × Int32 × zMem) :=
  if p0 = 0 then
    F_X9_strongest_15 p0 p0 (1 : Int32) M
  else
    if p0 = (1 : Int32) then
      F_X9_strongest_15 p0 p0 (1 : Int32) M
    else
      F_X9_strongest_15 p0 p0 (0 : Int32) M
def rm_X9_strongest : Room := { frames := 10, cells := 1, slots := 6, locals := 161 }
set_option maxHeartbeats 4000000 in
set_option maxRecDepth 100000 in
theorem c_X9_strongest (l : Launch) {G : zG} {ad : Nat → Nat} {n : Nat} (hA : zInj ad n) (M : zMem) (p0 : Int32) (hl : l.stackTraces = false) (hT : zT shX n 0 10) {k9 : Nat} {r9 : Int32} {M9 : zMem} (hF : F_X9_strongest M p0 = some (k9, r9, M9)) : zMX l yX9_strongest cX9_strongest 4 (some .int) rm_X9_strongest 1 6 G shX ad n M [.ref (ad 0), .int p0] k9 (some (.int r9)) M9 := by
  refine zM_ofX hA (by decide +kernel) (lv := [(0, .ref (ad 0)), (1, .int p0)]) (Nat.le_of_ble_eq_true rfl) rfl (fun p e s m args below meth c A cx hr ht => ?_)
  have hb73 : ∀ (self35 : Int32 → Int32 → zMem → Option (Nat × Int32 × zMem)) (hs35 : ∀ (b35_L1 : Int32) (b35_L3 : Int32) (M : zMem), self35 b35_L1 b35_L3 M = some (k9, r9, M9) → zJ p l e rm_X9_strongest s m args below meth c G shX ad n A 4 (vx_MQ below (zQX G shX ad n M9 k9 (some (.int r9)) A) (zXC G shX ad n M9 k9 A) args s 1 6 A) 1 6 M 35 [(0, .ref (ad 0)), (1, .int b35_L1), (2, .ref (ad 4)), (3, .int b35_L3)] []), ∀ (b73_L1 : Int32) (b73_L3 : Int32) (M : zMem), F_X9_strongest_73 p0 self35 b73_L1 b73_L3 M = some (k9, r9, M9) → zJ p l e rm_X9_strongest s m args below meth c G shX ad n A 4 (vx_MQ below (zQX G shX ad n M9 k9 (some (.int r9)) A) (zXC G shX ad n M9 k9 A) args s 1 6 A) 1 6 M 73 [(0, .ref (ad 0)), (1, .int b73_L1), (2, .ref (ad 4)), (3, .int b73_L3)] [] := by
    intro self35 hs35 b73_L1 b73_L3 M hF
    unfold F_X9_strongest_73 at hF
    refine z_iinc cx 3 1 [(3, .int (b73_L3 + 1)), (0, .ref (ad 0)), (1, .int b73_L1), (2, .ref (ad 4))] d_X9_strongest_73 3 rfl ki_1 (by decide) rfl ?_
    refine z_goto cx 35 d_X9_strongest_76 (by decide) ?_
    exact z_lv [1, 2, 3, 0] _ rfl (hs35 b73_L1 (b73_L3 + 1) M hF)
  have hL35 : ∀ (fuel : Nat), ∀ (b35_L1 : Int32) (b35_L3 : Int32) (M : zMem), itF (fun _ _ _ => none) (F_X9_strongest_35 p0) fuel b35_L1 b35_L3 M = some (k9, r9, M9) → zJ p l e rm_X9_strongest s m args below meth c G shX ad n A 4 (vx_MQ below (zQX G shX ad n M9 k9 (some (.int r9)) A) (zXC G shX ad n M9 k9 A) args s 1 6 A) 1 6 M 35 [(0, .ref (ad 0)), (1, .int b35_L1), (2, .ref (ad 4)), (3, .int b35_L3)] [] := by
    intro fuel
    induction fuel with
    | zero => intro b35_L1 b35_L3 M hF; cases hF
    | succ fuel hs35 =>
      intro b35_L1 b35_L3 M hF
      have hF : F_X9_strongest_35 p0 (itF (fun _ _ _ => none) (F_X9_strongest_35 p0) fuel) b35_L1 b35_L3 M = some (k9, r9, M9) := hF
      generalize itF (fun _ _ _ => none) (F_X9_strongest_35 p0) fuel = self35 at hs35 hF
      unfold F_X9_strongest_35 at hF
      refine z_iload_n cx d_X9_strongest_35 3 rfl ?_
      refine z_bipush (v := 64) cx d_X9_strongest_36 kb_64 ?_
      refine z_icmp_ge cx 79 d_X9_strongest_38 (by decide) hF (fun hF => ?_) (fun hF => ?_)
      · refine z_aload_n cx d_X9_strongest_79 0 rfl ?_
        refine z_getR cx hT fg_SunnyPans_51 172 rfl d_X9_strongest_80 ?_
        refine z_iload_n cx d_X9_strongest_83 1 rfl ?_
        obtain ⟨v2, M1, hc, hF⟩ := zb_inv hF
        refine z_callV cx (As := [.int b35_L1]) (rest := []) (c_X0_placeOrAmount l cx.2.2.2.1.1 M 172 b35_L1 (tfX_10_172 hT) hc) (tfX_10_172 hT) zo_1 cv_SunnyPans_263 ⟨rfl, rfl, Nat.le_of_ble_eq_true rfl, Nat.le_of_ble_eq_true rfl⟩ rfl rfl ⟨Nat.le_of_ble_eq_true rfl, Nat.le_of_ble_eq_true rfl⟩ (Nat.le_of_ble_eq_true rfl) d_X9_strongest_84 ?_
        exact z_iretX cx hr rfl hF ⟨Nat.le_of_ble_eq_true rfl, Nat.le_of_ble_eq_true rfl⟩ d_X9_strongest_87
      refine z_aload_n cx d_X9_strongest_41 2 rfl ?_
      refine z_getR cx (tfX_8_1 (tfX_10_3 hT)) fg_SunnyPans_181 6 rfl d_X9_strongest_42 ?_
      refine z_iload_n cx d_X9_strongest_45 3 rfl ?_
      obtain ⟨hi3, hF⟩ := gin_inv hF
      refine z_iald cx (tfX_5_2 (tfX_8_1 (tfX_10_3 hT))) za_16 hi3 b35_L3.toNatClampNeg rfl d_X9_strongest_46 ?_
      refine z_if_le cx 73 d_X9_strongest_47 (by decide) hF (fun hF => ?_) (fun hF => ?_)
      · exact hb73 self35 hs35 b35_L1 b35_L3 M hF
      refine z_aload_n cx d_X9_strongest_50 0 rfl ?_
      refine z_getR cx hT fg_SunnyPans_51 172 rfl d_X9_strongest_51 ?_
      refine z_iload_n cx d_X9_strongest_54 3 rfl ?_
      refine z_aload_n cx d_X9_strongest_55 2 rfl ?_
      refine z_getR cx (tfX_8_1 (tfX_10_3 hT)) fg_SunnyPans_181 6 rfl d_X9_strongest_56 ?_
      refine z_iload_n cx d_X9_strongest_59 3 rfl ?_
      refine z_iald cx (tfX_5_2 (tfX_8_1 (tfX_10_3 hT))) za_16 hi3 b35_L3.toNatClampNeg rfl d_X9_strongest_60 ?_
      refine z_aload_n cx d_X9_strongest_61 2 rfl ?_
      refine z_getR cx (tfX_8_1 (tfX_10_3 hT)) fg_SunnyPans_174 5 rfl d_X9_strongest_62 ?_
      refine z_iload_n cx d_X9_strongest_65 3 rfl ?_
      refine z_iald cx (tfX_5_1 (tfX_8_1 (tfX_10_3 hT))) za_16 hi3 b35_L3.toNatClampNeg rfl d_X9_strongest_66 ?_
      obtain ⟨v5, M4, hc, hF⟩ := zb_inv hF
      refine z_callS cx (As := [.int (M.1 6 b35_L3.toNatClampNeg), .int (M.1 5 b35_L3.toNatClampNeg)]) (rest := [.int b35_L3, .ref (ad 172)]) (c_X9_strengthOf l cx.2.2.2.1.1 M (M.1 6 b35_L3.toNatClampNeg) (M.1 5 b35_L3.toNatClampNeg)  hc) cs_SunnyPans_217 ⟨rfl, rfl, Nat.le_of_ble_eq_true rfl, Nat.le_of_ble_eq_true rfl⟩ rfl rfl ⟨Nat.le_of_ble_eq_true rfl, Nat.le_of_ble_eq_true rfl⟩ (Nat.le_of_ble_eq_true rfl) d_X9_strongest_67 ?_
      obtain ⟨M6, hc, hF⟩ := zbv_inv hF
      refine z_callV cx (As := [.int b35_L3, .int v5]) (rest := []) (c_X0_offerMost l cx.2.2.2.1.1 M4 172 b35_L3 v5 (tfX_10_172 hT) hc) (tfX_10_172 hT) zo_1 cv_SunnyPans_260 ⟨rfl, rfl, Nat.le_of_ble_eq_true rfl, Nat.le_of_ble_eq_true rfl⟩ rfl rfl ⟨Nat.le_of_ble_eq_true rfl, Nat.le_of_ble_eq_true rfl⟩ (Nat.le_of_ble_eq_true rfl) d_X9_strongest_70 ?_
      exact hb73 self35 hs35 b35_L1 b35_L3 M6 hF
  have hb15 : ∀ (b15_L1 : Int32) (b15_S1 : Int32) (M : zMem), F_X9_strongest_15 p0 b15_L1 b15_S1 M = some (k9, r9, M9) → zJ p l e rm_X9_strongest s m args below meth c G shX ad n A 4 (vx_MQ below (zQX G shX ad n M9 k9 (some (.int r9)) A) (zXC G shX ad n M9 k9 A) args s 1 6 A) 0 0 M 15 [(0, .ref (ad 0)), (1, .int b15_L1)] [.int b15_S1, .ref (ad 0)] := by
    intro b15_L1 b15_S1 M hF
    unfold F_X9_strongest_15 at hF
    obtain ⟨k8, v9, M7, hc, hF, hX10⟩ := zbx_inv hF
    refine z_callVX cx ht (As := [.int b15_S1]) (rest := []) (c_X9_need l cx.2.2.2.1.1 M b15_S1 hl hT hc) (fun q => zxp_inv (hX10 q)) hT zo_10 cv_SunnyPans_155 ⟨rfl, rfl, Nat.le_of_ble_eq_true rfl, Nat.le_of_ble_eq_true rfl⟩ rfl rfl ⟨Nat.le_of_ble_eq_true rfl, Nat.le_of_ble_eq_true rfl⟩ ⟨Nat.le_of_ble_eq_true rfl, Nat.le_of_ble_eq_true rfl⟩ (Nat.le_of_ble_eq_true rfl) d_X9_strongest_15 (fun kq11 => ?_)
    have hF := hF kq11
    refine z_aload_n cx d_X9_strongest_18 0 rfl ?_
    refine z_getR cx hT fg_SunnyPans_19 3 rfl d_X9_strongest_19 ?_
    refine z_getR cx (tfX_10_3 hT) fg_SunnyPans_159 4 rfl d_X9_strongest_22 ?_
    refine z_astore_n cx 2 [(2, .ref (ad 4)), (0, .ref (ad 0)), (1, .int b15_L1)] d_X9_strongest_25 rfl (by decide) rfl ?_
    refine z_aload_n cx d_X9_strongest_26 1 rfl ?_
    refine z_getR cx hT fg_SunnyPans_51 172 rfl d_X9_strongest_27 ?_
    obtain ⟨M12, hc, hF⟩ := zbv_inv hF
    refine z_callV cx (As := []) (rest := []) (c_X0_clear l cx.2.2.2.1.1 M7 172 (tfX_10_172 hT) hc) (tfX_10_172 hT) zo_1 cv_SunnyPans_259 ⟨rfl, rfl, Nat.le_of_ble_eq_true rfl, Nat.le_of_ble_eq_true rfl⟩ rfl rfl ⟨Nat.le_of_ble_eq_true rfl, Nat.le_of_ble_eq_true rfl⟩ (Nat.le_of_ble_eq_true rfl) d_X9_strongest_30 ?_
    refine z_iconst (v := 0) cx d_X9_strongest_33 ki_0 ?_
    refine z_istore_n cx 3 [(3, .int (0 : Int32)), (2, .ref (ad 4)), (0, .ref (ad 0)), (1, .int b15_L1)] d_X9_strongest_34 rfl (by decide) rfl ?_
    exact z_lv [2, 3, 1, 0] _ rfl (hL35 zFuel b15_L1 (0 : Int32) M12 hF)
  unfold F_X9_strongest at hF
  refine z_aload_n cx d_X9_strongest_0 0 rfl ?_
  refine z_iload_n cx d_X9_strongest_1 1 rfl ?_
  refine z_if_eq cx 10 d_X9_strongest_2 (by decide) hF (fun hF => ?_) (fun hF => ?_)
  · refine z_iconst (v := 1) cx d_X9_strongest_10 ki_1 ?_
    refine z_goto cx 15 d_X9_strongest_11 (by decide) ?_
    exact hb15 p0 (1 : Int32) M hF
  refine z_iload_n cx d_X9_strongest_5 1 rfl ?_
  refine z_iconst (v := 1) cx d_X9_strongest_6 ki_1 ?_
  refine z_icmp_ne cx 14 d_X9_strongest_7 (by decide) hF (fun hF => ?_) (fun hF => ?_)
  · refine z_iconst (v := 0) cx d_X9_strongest_14 ki_0 ?_
    exact hb15 p0 (0 : Int32) M hF
  refine z_iconst (v := 1) cx d_X9_strongest_10 ki_1 ?_
  refine z_goto cx 15 d_X9_strongest_11 (by decide) ?_
  exact hb15 p0 (1 : Int32) M hF
/-! SunnyPans.greatest -/
theorem d_X9_greatest_0 : decode cX9_greatest 0 = .ok (.aload_n 0, 1) := by decide +kernel
theorem d_X9_greatest_1 : decode cX9_greatest 1 = .ok (.iload_n 1, 1) := by decide +kernel
theorem d_X9_greatest_2 : decode cX9_greatest 2 = .ok (.ifCond .eq 8, 3) := by decide +kernel
theorem d_X9_greatest_5 : decode cX9_greatest 5 = .ok (.iload_n 1, 1) := by decide +kernel
theorem d_X9_greatest_6 : decode cX9_greatest 6 = .ok (.iconst 1, 1) := by decide +kernel
theorem d_X9_greatest_7 : decode cX9_greatest 7 = .ok (.if_icmp .ne 7, 3) := by decide +kernel
theorem d_X9_greatest_10 : decode cX9_greatest 10 = .ok (.iconst 1, 1) := by decide +kernel
theorem d_X9_greatest_11 : decode cX9_greatest 11 = .ok (.goto 4, 3) := by decide +kernel
theorem d_X9_greatest_14 : decode cX9_greatest 14 = .ok (.iconst 0, 1) := by decide +kernel
theorem d_X9_greatest_15 : decode cX9_greatest 15 = .ok (.invokevirtual 155, 3) := by decide +kernel
theorem d_X9_greatest_18 : decode cX9_greatest 18 = .ok (.aload_n 0, 1) := by decide +kernel
theorem d_X9_greatest_19 : decode cX9_greatest 19 = .ok (.getfield 51, 3) := by decide +kernel
theorem d_X9_greatest_22 : decode cX9_greatest 22 = .ok (.invokevirtual 259, 3) := by decide +kernel
theorem d_X9_greatest_25 : decode cX9_greatest 25 = .ok (.iconst 0, 1) := by decide +kernel
theorem d_X9_greatest_26 : decode cX9_greatest 26 = .ok (.istore_n 2, 1) := by decide +kernel
theorem d_X9_greatest_27 : decode cX9_greatest 27 = .ok (.iload_n 2, 1) := by decide +kernel
theorem d_X9_greatest_28 : decode cX9_greatest 28 = .ok (.bipush 64, 2) := by decide +kernel
theorem d_X9_greatest_30 : decode cX9_greatest 30 = .ok (.if_icmp .ge 44, 3) := by decide +kernel
theorem d_X9_greatest_33 : decode cX9_greatest 33 = .ok (.aload_n 0, 1) := by decide +kernel
theorem d_X9_greatest_34 : decode cX9_greatest 34 = .ok (.getfield 19, 3) := by decide +kernel
theorem d_X9_greatest_37 : decode cX9_greatest 37 = .ok (.getfield 159, 3) := by decide +kernel
theorem d_X9_greatest_40 : decode cX9_greatest 40 = .ok (.getfield 184, 3) := by decide +kernel
theorem d_X9_greatest_43 : decode cX9_greatest 43 = .ok (.iload_n 2, 1) := by decide +kernel
theorem d_X9_greatest_44 : decode cX9_greatest 44 = .ok (.iaload, 1) := by decide +kernel
theorem d_X9_greatest_45 : decode cX9_greatest 45 = .ok (.ifCond .le 23, 3) := by decide +kernel
theorem d_X9_greatest_48 : decode cX9_greatest 48 = .ok (.aload_n 0, 1) := by decide +kernel
theorem d_X9_greatest_49 : decode cX9_greatest 49 = .ok (.getfield 51, 3) := by decide +kernel
theorem d_X9_greatest_52 : decode cX9_greatest 52 = .ok (.iload_n 2, 1) := by decide +kernel
theorem d_X9_greatest_53 : decode cX9_greatest 53 = .ok (.aload_n 0, 1) := by decide +kernel
theorem d_X9_greatest_54 : decode cX9_greatest 54 = .ok (.getfield 19, 3) := by decide +kernel
theorem d_X9_greatest_57 : decode cX9_greatest 57 = .ok (.getfield 159, 3) := by decide +kernel
theorem d_X9_greatest_60 : decode cX9_greatest 60 = .ok (.getfield 184, 3) := by decide +kernel
theorem d_X9_greatest_63 : decode cX9_greatest 63 = .ok (.iload_n 2, 1) := by decide +kernel
theorem d_X9_greatest_64 : decode cX9_greatest 64 = .ok (.iaload, 1) := by decide +kernel
theorem d_X9_greatest_65 : decode cX9_greatest 65 = .ok (.invokevirtual 260, 3) := by decide +kernel
theorem d_X9_greatest_68 : decode cX9_greatest 68 = .ok (.iinc 2 1, 3) := by decide +kernel
theorem d_X9_greatest_71 : decode cX9_greatest 71 = .ok (.goto (-44), 3) := by decide +kernel
theorem d_X9_greatest_74 : decode cX9_greatest 74 = .ok (.aload_n 0, 1) := by decide +kernel
theorem d_X9_greatest_75 : decode cX9_greatest 75 = .ok (.getfield 51, 3) := by decide +kernel
theorem d_X9_greatest_78 : decode cX9_greatest 78 = .ok (.iload_n 1, 1) := by decide +kernel
theorem d_X9_greatest_79 : decode cX9_greatest 79 = .ok (.invokevirtual 263, 3) := by decide +kernel
theorem d_X9_greatest_82 : decode cX9_greatest 82 = .ok (.ireturn, 1) := by decide +kernel
noncomputable def F_X9_greatest_68 (p0 : Int32) (self27 : Int32 → Int32 → zMem → Option (Nat × Int32 × zMem)) (b68_L1 : Int32) (b68_L2 : Int32) (M : zMem) : Option (Nat × Int32 × zMem) :=
  self27 b68_L1 (b68_L2 + 1) M
noncomputable def F_X9_greatest_27 (p0 : Int32) (self27 : Int32 → Int32 → zMem → Option (Nat × Int32 × zMem)) (b27_L1 : Int32) (b27_L2 : Int32) (M : zMem) : Option (Nat × Int32 × zMem) :=
  if (64 : Int32) ≤ b27_L2 then
    zb (F_X0_placeOrAmount M 172 b27_L1) fun v2 M1 =>
    some (0, v2, M1)
  else
    gin b27_L2 64 <|
    if (M.1 7 b27_L2.toNatClampNeg) ≤ 0 then
      F_X9_greatest_68 p0 self27 b27_L1 b27_L2 M
    else
      zbv (F_X0_offerMost M 172 b27_L2 (M.1 7 b27_L2.toNatClampNeg)) fun M4 =>
      F_X9_greatest_68 p0 self27 b27_L1 b27_L2 M4
noncomputable def F_X9_greatest_15 (p0 : Int32) (b15_L1 : Int32) (b15_S1 : Int32) (M : zMem) : Option (Nat × Int32 × zMem) :=
  zbx (F_X9_need M b15_S1) (g := zxp) fun _ M5 =>
  zbv (F_X0_clear M5 172) fun M10 =>
  itF (fun _ _ _ => none) (F_X9_greatest_27 p0) zFuel b15_L1 (0 : Int32) M10
noncomputable def F_X9_greatest (M : zMem) (p0 : Int32) : Option (Nat × Int32 × zMem) :=
  if p0 = 0 then
    F_X9_greatest_15 p0 p0 (1 : Int32) M
  else
    if p0 = (1 : Int32) then
      F_X9_greatest_15 p0 p0 (1 : Int32) M
    else
      F_X9_greatest_15 p0 p0 (0 : Int32) M
def rm_X9_greatest : Room := { frames := 10, cells := 1, slots := 6, locals := 161 }
set_option maxHeartbeats 4000000 in
set_option maxRecDepth 100000 in
theorem c_X9_greatest (l : Launch) {G : zG} {ad : Nat → Nat} {n : Nat} (hA : zInj ad n) (M : zMem) (p0 : Int32) (hl : l.stackTraces = false) (hT : zT shX n 0 10) {k9 : Nat} {r9 : Int32} {M9 : zMem} (hF : F_X9_greatest M p0 = some (k9, r9, M9)) : zMX l yX9_greatest cX9_greatest 3 (some .int) rm_X9_greatest 1 6 G shX ad n M [.ref (ad 0), .int p0] k9 (some (.int r9)) M9 := by
  refine zM_ofX hA (by decide +kernel) (lv := [(0, .ref (ad 0)), (1, .int p0)]) (Nat.le_of_ble_eq_true rfl) rfl (fun p e s m args below meth c A cx hr ht => ?_)
  have hb68 : ∀ (self27 : Int32 → Int32 → zMem → Option (Nat × Int32 × zMem)) (hs27 : ∀ (b27_L1 : Int32) (b27_L2 : Int32) (M : zMem), self27 b27_L1 b27_L2 M = some (k9, r9, M9) → zJ p l e rm_X9_greatest s m args below meth c G shX ad n A 3 (vx_MQ below (zQX G shX ad n M9 k9 (some (.int r9)) A) (zXC G shX ad n M9 k9 A) args s 1 6 A) 1 6 M 27 [(0, .ref (ad 0)), (1, .int b27_L1), (2, .int b27_L2)] []), ∀ (b68_L1 : Int32) (b68_L2 : Int32) (M : zMem), F_X9_greatest_68 p0 self27 b68_L1 b68_L2 M = some (k9, r9, M9) → zJ p l e rm_X9_greatest s m args below meth c G shX ad n A 3 (vx_MQ below (zQX G shX ad n M9 k9 (some (.int r9)) A) (zXC G shX ad n M9 k9 A) args s 1 6 A) 1 6 M 68 [(0, .ref (ad 0)), (1, .int b68_L1), (2, .int b68_L2)] [] := by
    intro self27 hs27 b68_L1 b68_L2 M hF
    unfold F_X9_greatest_68 at hF
    refine z_iinc cx 2 1 [(2, .int (b68_L2 + 1)), (0, .ref (ad 0)), (1, .int b68_L1)] d_X9_greatest_68 2 rfl ki_1 (by decide) rfl ?_
    refine z_goto cx 27 d_X9_greatest_71 (by decide) ?_
    exact z_lv [1, 2, 0] _ rfl (hs27 b68_L1 (b68_L2 + 1) M hF)
  have hL27 : ∀ (fuel : Nat), ∀ (b27_L1 : Int32) (b27_L2 : Int32) (M : zMem), itF (fun _ _ _ => none) (F_X9_greatest_27 p0) fuel b27_L1 b27_L2 M = some (k9, r9, M9) → zJ p l e rm_X9_greatest s m args below meth c G shX ad n A 3 (vx_MQ below (zQX G shX ad n M9 k9 (some (.int r9)) A) (zXC G shX ad n M9 k9 A) args s 1 6 A) 1 6 M 27 [(0, .ref (ad 0)), (1, .int b27_L1), (2, .int b27_L2)] [] := by
    intro fuel
    induction fuel with
    | zero => intro b27_L1 b27_L2 M hF; cases hF
    | succ fuel hs27 =>
      intro b27_L1 b27_L2 M hF
      have hF : F_X9_greatest_27 p0 (itF (fun _ _ _ => none) (F_X9_greatest_27 p0) fuel) b27_L1 b27_L2 M = some (k9, r9, M9) := hF
      generalize itF (fun _ _ _ => none) (F_X9_greatest_27 p0) fuel = self27 at hs27 hF
      unfold F_X9_greatest_27 at hF
      refine z_iload_n cx d_X9_greatest_27 2 rfl ?_
      refine z_bipush (v := 64) cx d_X9_greatest_28 kb_64 ?_
      refine z_icmp_ge cx 74 d_X9_greatest_30 (by decide) hF (fun hF => ?_) (fun hF => ?_)
      · refine z_aload_n cx d_X9_greatest_74 0 rfl ?_
        refine z_getR cx hT fg_SunnyPans_51 172 rfl d_X9_greatest_75 ?_
        refine z_iload_n cx d_X9_greatest_78 1 rfl ?_
        obtain ⟨v2, M1, hc, hF⟩ := zb_inv hF
        refine z_callV cx (As := [.int b27_L1]) (rest := []) (c_X0_placeOrAmount l cx.2.2.2.1.1 M 172 b27_L1 (tfX_10_172 hT) hc) (tfX_10_172 hT) zo_1 cv_SunnyPans_263 ⟨rfl, rfl, Nat.le_of_ble_eq_true rfl, Nat.le_of_ble_eq_true rfl⟩ rfl rfl ⟨Nat.le_of_ble_eq_true rfl, Nat.le_of_ble_eq_true rfl⟩ (Nat.le_of_ble_eq_true rfl) d_X9_greatest_79 ?_
        exact z_iretX cx hr rfl hF ⟨Nat.le_of_ble_eq_true rfl, Nat.le_of_ble_eq_true rfl⟩ d_X9_greatest_82
      refine z_aload_n cx d_X9_greatest_33 0 rfl ?_
      refine z_getR cx hT fg_SunnyPans_19 3 rfl d_X9_greatest_34 ?_
      refine z_getR cx (tfX_10_3 hT) fg_SunnyPans_159 4 rfl d_X9_greatest_37 ?_
      refine z_getR cx (tfX_8_1 (tfX_10_3 hT)) fg_SunnyPans_184 7 rfl d_X9_greatest_40 ?_
      refine z_iload_n cx d_X9_greatest_43 2 rfl ?_
      obtain ⟨hi3, hF⟩ := gin_inv hF
      refine z_iald cx (tfX_5_3 (tfX_8_1 (tfX_10_3 hT))) za_16 hi3 b27_L2.toNatClampNeg rfl d_X9_greatest_44 ?_
      refine z_if_le cx 68 d_X9_greatest_45 (by decide) hF (fun hF => ?_) (fun hF => ?_)
      · exact hb68 self27 hs27 b27_L1 b27_L2 M hF
      refine z_aload_n cx d_X9_greatest_48 0 rfl ?_
      refine z_getR cx hT fg_SunnyPans_51 172 rfl d_X9_greatest_49 ?_
      refine z_iload_n cx d_X9_greatest_52 2 rfl ?_
      refine z_aload_n cx d_X9_greatest_53 0 rfl ?_
      refine z_getR cx hT fg_SunnyPans_19 3 rfl d_X9_greatest_54 ?_
      refine z_getR cx (tfX_10_3 hT) fg_SunnyPans_159 4 rfl d_X9_greatest_57 ?_
      refine z_getR cx (tfX_8_1 (tfX_10_3 hT)) fg_SunnyPans_184 7 rfl d_X9_greatest_60 ?_
      refine z_iload_n cx d_X9_greatest_63 2 rfl ?_
      refine z_iald cx (tfX_5_3 (tfX_8_1 (tfX_10_3 hT))) za_16 hi3 b27_L2.toNatClampNeg rfl d_X9_greatest_64 ?_
      obtain ⟨M4, hc, hF⟩ := zbv_inv hF
      refine z_callV cx (As := [.int b27_L2, .int (M.1 7 b27_L2.toNatClampNeg)]) (rest := []) (c_X0_offerMost l cx.2.2.2.1.1 M 172 b27_L2 (M.1 7 b27_L2.toNatClampNeg) (tfX_10_172 hT) hc) (tfX_10_172 hT) zo_1 cv_SunnyPans_260 ⟨rfl, rfl, Nat.le_of_ble_eq_true rfl, Nat.le_of_ble_eq_true rfl⟩ rfl rfl ⟨Nat.le_of_ble_eq_true rfl, Nat.le_of_ble_eq_true rfl⟩ (Nat.le_of_ble_eq_true rfl) d_X9_greatest_65 ?_
      exact hb68 self27 hs27 b27_L1 b27_L2 M4 hF
  have hb15 : ∀ (b15_L1 : Int32) (b15_S1 : Int32) (M : zMem), F_X9_greatest_15 p0 b15_L1 b15_S1 M = some (k9, r9, M9) → zJ p l e rm_X9_greatest s m args below meth c G shX ad n A 3 (vx_MQ below (zQX G shX ad n M9 k9 (some (.int r9)) A) (zXC G shX ad n M9 k9 A) args s 1 6 A) 0 0 M 15 [(0, .ref (ad 0)), (1, .int b15_L1)] [.int b15_S1, .ref (ad 0)] := by
    intro b15_L1 b15_S1 M hF
    unfold F_X9_greatest_15 at hF
    obtain ⟨k6, v7, M5, hc, hF, hX8⟩ := zbx_inv hF
    refine z_callVX cx ht (As := [.int b15_S1]) (rest := []) (c_X9_need l cx.2.2.2.1.1 M b15_S1 hl hT hc) (fun q => zxp_inv (hX8 q)) hT zo_10 cv_SunnyPans_155 ⟨rfl, rfl, Nat.le_of_ble_eq_true rfl, Nat.le_of_ble_eq_true rfl⟩ rfl rfl ⟨Nat.le_of_ble_eq_true rfl, Nat.le_of_ble_eq_true rfl⟩ ⟨Nat.le_of_ble_eq_true rfl, Nat.le_of_ble_eq_true rfl⟩ (Nat.le_of_ble_eq_true rfl) d_X9_greatest_15 (fun kq9 => ?_)
    have hF := hF kq9
    refine z_aload_n cx d_X9_greatest_18 0 rfl ?_
    refine z_getR cx hT fg_SunnyPans_51 172 rfl d_X9_greatest_19 ?_
    obtain ⟨M10, hc, hF⟩ := zbv_inv hF
    refine z_callV cx (As := []) (rest := []) (c_X0_clear l cx.2.2.2.1.1 M5 172 (tfX_10_172 hT) hc) (tfX_10_172 hT) zo_1 cv_SunnyPans_259 ⟨rfl, rfl, Nat.le_of_ble_eq_true rfl, Nat.le_of_ble_eq_true rfl⟩ rfl rfl ⟨Nat.le_of_ble_eq_true rfl, Nat.le_of_ble_eq_true rfl⟩ (Nat.le_of_ble_eq_true rfl) d_X9_greatest_22 ?_
    refine z_iconst (v := 0) cx d_X9_greatest_25 ki_0 ?_
    refine z_istore_n cx 2 [(2, .int (0 : Int32)), (0, .ref (ad 0)), (1, .int b15_L1)] d_X9_greatest_26 rfl (by decide) rfl ?_
    exact z_lv [1, 2, 0] _ rfl (hL27 zFuel b15_L1 (0 : Int32) M10 hF)
  unfold F_X9_greatest at hF
  refine z_aload_n cx d_X9_greatest_0 0 rfl ?_
  refine z_iload_n cx d_X9_greatest_1 1 rfl ?_
  refine z_if_eq cx 10 d_X9_greatest_2 (by decide) hF (fun hF => ?_) (fun hF => ?_)
  · refine z_iconst (v := 1) cx d_X9_greatest_10 ki_1 ?_
    refine z_goto cx 15 d_X9_greatest_11 (by decide) ?_
    exact hb15 p0 (1 : Int32) M hF
  refine z_iload_n cx d_X9_greatest_5 1 rfl ?_
  refine z_iconst (v := 1) cx d_X9_greatest_6 ki_1 ?_
  refine z_icmp_ne cx 14 d_X9_greatest_7 (by decide) hF (fun hF => ?_) (fun hF => ?_)
  · refine z_iconst (v := 0) cx d_X9_greatest_14 ki_0 ?_
    exact hb15 p0 (0 : Int32) M hF
  refine z_iconst (v := 1) cx d_X9_greatest_10 ki_1 ?_
  refine z_goto cx 15 d_X9_greatest_11 (by decide) ?_
  exact hb15 p0 (1 : Int32) M hF
/-! SunnyPans.cast -/
set_option maxRecDepth 100000 in
theorem wd_1286 : Cond.methodLink "SunnyPans" 266 yX5_shadedBy ∈ tbG := tw5 226 rfl rfl
theorem cv_SunnyPans_266 : zCV "SunnyPans" 266 "SunnyPans$Plan" yX5_shadedBy cX5_shadedBy 10 (some .long) 3 := zCV_of wd_1286 wd_756 wd_757 wd_108 wd_758 (by decide +kernel)
theorem d_X9_cast_0 : decode cX9_cast 0 = .ok (.aload_n 0, 1) := by decide +kernel
theorem d_X9_cast_1 : decode cX9_cast 1 = .ok (.iload_n 1, 1) := by decide +kernel
theorem d_X9_cast_2 : decode cX9_cast 2 = .ok (.iload_n 2, 1) := by decide +kernel
theorem d_X9_cast_3 : decode cX9_cast 3 = .ok (.invokevirtual 210, 3) := by decide +kernel
theorem d_X9_cast_6 : decode cX9_cast 6 = .ok (.aload_n 0, 1) := by decide +kernel
theorem d_X9_cast_7 : decode cX9_cast 7 = .ok (.iload_n 3, 1) := by decide +kernel
theorem d_X9_cast_8 : decode cX9_cast 8 = .ok (.invokevirtual 235, 3) := by decide +kernel
theorem d_X9_cast_11 : decode cX9_cast 11 = .ok (.iload_n 1, 1) := by decide +kernel
theorem d_X9_cast_12 : decode cX9_cast 12 = .ok (.iload_n 2, 1) := by decide +kernel
theorem d_X9_cast_13 : decode cX9_cast 13 = .ok (.invokestatic 213, 3) := by decide +kernel
theorem d_X9_cast_16 : decode cX9_cast 16 = .ok (.istore 4, 2) := by decide +kernel
theorem d_X9_cast_18 : decode cX9_cast 18 = .ok (.aload_n 0, 1) := by decide +kernel
theorem d_X9_cast_19 : decode cX9_cast 19 = .ok (.getfield 19, 3) := by decide +kernel
theorem d_X9_cast_22 : decode cX9_cast 22 = .ok (.getfield 159, 3) := by decide +kernel
theorem d_X9_cast_25 : decode cX9_cast 25 = .ok (.getfield 184, 3) := by decide +kernel
theorem d_X9_cast_28 : decode cX9_cast 28 = .ok (.iload 4, 2) := by decide +kernel
theorem d_X9_cast_30 : decode cX9_cast 30 = .ok (.iaload, 1) := by decide +kernel
theorem d_X9_cast_31 : decode cX9_cast 31 = .ok (.istore 5, 2) := by decide +kernel
theorem d_X9_cast_33 : decode cX9_cast 33 = .ok (.iload 5, 2) := by decide +kernel
theorem d_X9_cast_35 : decode cX9_cast 35 = .ok (.ifCond .le 23, 3) := by decide +kernel
theorem d_X9_cast_38 : decode cX9_cast 38 = .ok (.aload_n 0, 1) := by decide +kernel
theorem d_X9_cast_39 : decode cX9_cast 39 = .ok (.getfield 62, 3) := by decide +kernel
theorem d_X9_cast_42 : decode cX9_cast 42 = .ok (.iload 4, 2) := by decide +kernel
theorem d_X9_cast_44 : decode cX9_cast 44 = .ok (.iload 5, 2) := by decide +kernel
theorem d_X9_cast_46 : decode cX9_cast 46 = .ok (.iload_n 3, 1) := by decide +kernel
theorem d_X9_cast_47 : decode cX9_cast 47 = .ok (.invokevirtual 266, 3) := by decide +kernel
theorem d_X9_cast_50 : decode cX9_cast 50 = .ok (.invokestatic 194, 3) := by decide +kernel
theorem d_X9_cast_53 : decode cX9_cast 53 = .ok (.iconst 1, 1) := by decide +kernel
theorem d_X9_cast_54 : decode cX9_cast 54 = .ok (.isub, 1) := by decide +kernel
theorem d_X9_cast_55 : decode cX9_cast 55 = .ok (.goto 4, 3) := by decide +kernel
theorem d_X9_cast_58 : decode cX9_cast 58 = .ok (.iconst 0, 1) := by decide +kernel
theorem d_X9_cast_59 : decode cX9_cast 59 = .ok (.ireturn, 1) := by decide +kernel
noncomputable def F_X9_cast (M : zMem) (p0 : Int32) (p1 : Int32) (p2 : Int32) : Option (Nat × Int32 × zMem) :=
  zbx (F_X9_needPlace M p0 p1) (g := zxp) fun _ M1 =>
  zbx (F_X9_needHour M1 p2) (g := zxp) fun _ M6 =>
  zb (F_X9_placeOf M6 p0 p1) fun v12 M11 =>
  gin v12 64 <|
  zl (M11.1 7 v12.toNatClampNeg) fun v14 =>
  if v14 ≤ 0 then
    some (0, (0 : Int32), M11)
  else
    gd (shX (M11.2.2 0 8) == 6) <|
    zb (F_X5_shadedBy M11 (M11.2.2 0 8) v12 v14 p2) fun v17 M16 =>
    zb (F_J13_bitCount_95d88 M16 v17) fun v19 M18 =>
    some (0, (v19 - (1 : Int32)), M18)
def rm_X9_cast : Room := { frames := 11, cells := 2, slots := 12, locals := 183 }
set_option maxHeartbeats 4000000 in
set_option maxRecDepth 100000 in
theorem c_X9_cast (l : Launch) {G : zG} {ad : Nat → Nat} {n : Nat} (hA : zInj ad n) (M : zMem) (p0 : Int32) (p1 : Int32) (p2 : Int32) (hl : l.stackTraces = false) (hT : zT shX n 0 10) {k9 : Nat} {r9 : Int32} {M9 : zMem} (hF : F_X9_cast M p0 p1 p2 = some (k9, r9, M9)) : zMX l yX9_cast cX9_cast 6 (some .int) rm_X9_cast 2 12 G shX ad n M [.ref (ad 0), .int p0, .int p1, .int p2] k9 (some (.int r9)) M9 := by
  refine zM_ofX hA (by decide +kernel) (lv := [(0, .ref (ad 0)), (1, .int p0), (2, .int p1), (3, .int p2)]) (Nat.le_of_ble_eq_true rfl) rfl (fun p e s m args below meth c A cx hr ht => ?_)
  unfold F_X9_cast at hF
  refine z_aload_n cx d_X9_cast_0 0 rfl ?_
  refine z_iload_n cx d_X9_cast_1 1 rfl ?_
  refine z_iload_n cx d_X9_cast_2 2 rfl ?_
  obtain ⟨k2, v3, M1, hc, hF, hX4⟩ := zbx_inv hF
  refine z_callVX cx ht (As := [.int p0, .int p1]) (rest := []) (c_X9_needPlace l cx.2.2.2.1.1 M p0 p1 hl hT hc) (fun q => zxp_inv (hX4 q)) hT zo_10 cv_SunnyPans_210 ⟨rfl, rfl, Nat.le_of_ble_eq_true rfl, Nat.le_of_ble_eq_true rfl⟩ rfl rfl ⟨Nat.le_of_ble_eq_true rfl, Nat.le_of_ble_eq_true rfl⟩ ⟨Nat.le_of_ble_eq_true rfl, Nat.le_of_ble_eq_true rfl⟩ (Nat.le_of_ble_eq_true rfl) d_X9_cast_3 (fun kq5 => ?_)
  have hF := hF kq5
  refine z_aload_n cx d_X9_cast_6 0 rfl ?_
  refine z_iload_n cx d_X9_cast_7 3 rfl ?_
  obtain ⟨k7, v8, M6, hc, hF, hX9⟩ := zbx_inv hF
  refine z_callVX cx ht (As := [.int p2]) (rest := []) (c_X9_needHour l cx.2.2.2.1.1 M1 p2 hl hT hc) (fun q => zxp_inv (hX9 q)) hT zo_10 cv_SunnyPans_235 ⟨rfl, rfl, Nat.le_of_ble_eq_true rfl, Nat.le_of_ble_eq_true rfl⟩ rfl rfl ⟨Nat.le_of_ble_eq_true rfl, Nat.le_of_ble_eq_true rfl⟩ ⟨Nat.le_of_ble_eq_true rfl, Nat.le_of_ble_eq_true rfl⟩ (Nat.le_of_ble_eq_true rfl) d_X9_cast_8 (fun kq10 => ?_)
  have hF := hF kq10
  refine z_iload_n cx d_X9_cast_11 1 rfl ?_
  refine z_iload_n cx d_X9_cast_12 2 rfl ?_
  obtain ⟨v12, M11, hc, hF⟩ := zb_inv hF
  refine z_callS cx (As := [.int p0, .int p1]) (rest := []) (c_X9_placeOf l cx.2.2.2.1.1 M6 p0 p1  hc) cs_SunnyPans_213 ⟨rfl, rfl, Nat.le_of_ble_eq_true rfl, Nat.le_of_ble_eq_true rfl⟩ rfl rfl ⟨Nat.le_of_ble_eq_true rfl, Nat.le_of_ble_eq_true rfl⟩ (Nat.le_of_ble_eq_true rfl) d_X9_cast_13 ?_
  refine z_istore cx 4 [(4, .int v12), (0, .ref (ad 0)), (1, .int p0), (2, .int p1), (3, .int p2)] d_X9_cast_16 (by decide) rfl ?_
  refine z_aload_n cx d_X9_cast_18 1 rfl ?_
  refine z_getR cx hT fg_SunnyPans_19 3 rfl d_X9_cast_19 ?_
  refine z_getR cx (tfX_10_3 hT) fg_SunnyPans_159 4 rfl d_X9_cast_22 ?_
  refine z_getR cx (tfX_8_1 (tfX_10_3 hT)) fg_SunnyPans_184 7 rfl d_X9_cast_25 ?_
  refine z_iload cx d_X9_cast_28 0 rfl ?_
  obtain ⟨hi13, hF⟩ := gin_inv hF
  refine z_iald cx (tfX_5_3 (tfX_8_1 (tfX_10_3 hT))) za_16 hi13 v12.toNatClampNeg rfl d_X9_cast_30 ?_
  refine z_nm hF (fun v14 hF => ?_)
  refine z_istore cx 5 [(5, .int v14), (4, .int v12), (0, .ref (ad 0)), (1, .int p0), (2, .int p1), (3, .int p2)] d_X9_cast_31 (by decide) rfl ?_
  refine z_iload cx d_X9_cast_33 0 rfl ?_
  refine z_if_le cx 58 d_X9_cast_35 (by decide) hF (fun hF => ?_) (fun hF => ?_)
  · refine z_iconst (v := 0) cx d_X9_cast_58 ki_0 ?_
    exact z_iretX cx hr rfl hF ⟨Nat.le_of_ble_eq_true rfl, Nat.le_of_ble_eq_true rfl⟩ d_X9_cast_59
  refine z_aload_n cx d_X9_cast_38 2 rfl ?_
  obtain ⟨hg15, hF⟩ := gd_inv hF
  refine z_getD cx hT fg_SunnyPans_62 d_X9_cast_39 ?_
  refine z_iload cx d_X9_cast_42 1 rfl ?_
  refine z_iload cx d_X9_cast_44 0 rfl ?_
  refine z_iload_n cx d_X9_cast_46 5 rfl ?_
  obtain ⟨v17, M16, hc, hF⟩ := zb_inv hF
  refine z_callV cx (As := [.int v12, .int v14, .int p2]) (rest := []) (c_X5_shadedBy l cx.2.2.2.1.1 M11 (M11.2.2 0 8) v12 v14 p2 (td_6 hT hg15) hc) (td_6 hT hg15) zo_6 cv_SunnyPans_266 ⟨rfl, rfl, Nat.le_of_ble_eq_true rfl, Nat.le_of_ble_eq_true rfl⟩ rfl rfl ⟨Nat.le_of_ble_eq_true rfl, Nat.le_of_ble_eq_true rfl⟩ (Nat.le_of_ble_eq_true rfl) d_X9_cast_47 ?_
  obtain ⟨v19, M18, hc, hF⟩ := zb_inv hF
  refine z_callS cx (As := [.long v17]) (rest := []) (c_J13_bitCount_95d88 l cx.2.2.2.1.1 M16 v17  hc) cs_SunnyPans_194 ⟨rfl, rfl, Nat.le_of_ble_eq_true rfl, Nat.le_of_ble_eq_true rfl⟩ rfl rfl ⟨Nat.le_of_ble_eq_true rfl, Nat.le_of_ble_eq_true rfl⟩ (Nat.le_of_ble_eq_true rfl) d_X9_cast_50 ?_
  refine z_iconst (v := 1) cx d_X9_cast_53 ki_1 ?_
  refine z_isub cx d_X9_cast_54 ?_
  refine z_goto cx 59 d_X9_cast_55 (by decide) ?_
  exact z_iretX cx hr rfl hF ⟨Nat.le_of_ble_eq_true rfl, Nat.le_of_ble_eq_true rfl⟩ d_X9_cast_59
/-! SunnyPans.ready -/
set_option maxRecDepth 100000 in
theorem wd_1294 : Cond.methodLink "SunnyPans" 270 yX4_canScrape ∈ tbG := tw5 234 rfl rfl
theorem cv_SunnyPans_270 : zCV "SunnyPans" 270 "SunnyPans$Pans" yX4_canScrape cX4_canScrape 3 (some .boolean) 2 := zCV_of wd_1294 wd_913 wd_914 wd_104 wd_915 (by decide +kernel)
theorem d_X9_ready_0 : decode cX9_ready 0 = .ok (.aload_n 0, 1) := by decide +kernel
theorem d_X9_ready_1 : decode cX9_ready 1 = .ok (.iload_n 1, 1) := by decide +kernel
theorem d_X9_ready_2 : decode cX9_ready 2 = .ok (.iload_n 2, 1) := by decide +kernel
theorem d_X9_ready_3 : decode cX9_ready 3 = .ok (.invokevirtual 210, 3) := by decide +kernel
theorem d_X9_ready_6 : decode cX9_ready 6 = .ok (.aload_n 0, 1) := by decide +kernel
theorem d_X9_ready_7 : decode cX9_ready 7 = .ok (.iload_n 3, 1) := by decide +kernel
theorem d_X9_ready_8 : decode cX9_ready 8 = .ok (.invokevirtual 244, 3) := by decide +kernel
theorem d_X9_ready_11 : decode cX9_ready 11 = .ok (.iconst 0, 1) := by decide +kernel
theorem d_X9_ready_12 : decode cX9_ready 12 = .ok (.istore 4, 2) := by decide +kernel
theorem d_X9_ready_14 : decode cX9_ready 14 = .ok (.iconst 0, 1) := by decide +kernel
theorem d_X9_ready_15 : decode cX9_ready 15 = .ok (.istore 5, 2) := by decide +kernel
theorem d_X9_ready_17 : decode cX9_ready 17 = .ok (.iload 5, 2) := by decide +kernel
theorem d_X9_ready_19 : decode cX9_ready 19 = .ok (.aload_n 0, 1) := by decide +kernel
theorem d_X9_ready_20 : decode cX9_ready 20 = .ok (.getfield 62, 3) := by decide +kernel
theorem d_X9_ready_23 : decode cX9_ready 23 = .ok (.getfield 162, 3) := by decide +kernel
theorem d_X9_ready_26 : decode cX9_ready 26 = .ok (.if_icmp .ge 42, 3) := by decide +kernel
theorem d_X9_ready_29 : decode cX9_ready 29 = .ok (.aload_n 0, 1) := by decide +kernel
theorem d_X9_ready_30 : decode cX9_ready 30 = .ok (.getfield 19, 3) := by decide +kernel
theorem d_X9_ready_33 : decode cX9_ready 33 = .ok (.getfield 159, 3) := by decide +kernel
theorem d_X9_ready_36 : decode cX9_ready 36 = .ok (.iload 5, 2) := by decide +kernel
theorem d_X9_ready_38 : decode cX9_ready 38 = .ok (.iload_n 3, 1) := by decide +kernel
theorem d_X9_ready_39 : decode cX9_ready 39 = .ok (.invokestatic 213, 3) := by decide +kernel
theorem d_X9_ready_42 : decode cX9_ready 42 = .ok (.iload_n 1, 1) := by decide +kernel
theorem d_X9_ready_43 : decode cX9_ready 43 = .ok (.iload_n 2, 1) := by decide +kernel
theorem d_X9_ready_44 : decode cX9_ready 44 = .ok (.invokestatic 213, 3) := by decide +kernel
theorem d_X9_ready_47 : decode cX9_ready 47 = .ok (.invokevirtual 270, 3) := by decide +kernel
theorem d_X9_ready_50 : decode cX9_ready 50 = .ok (.ifCond .eq 12, 3) := by decide +kernel
theorem d_X9_ready_53 : decode cX9_ready 53 = .ok (.iload 4, 2) := by decide +kernel
theorem d_X9_ready_55 : decode cX9_ready 55 = .ok (.iconst 1, 1) := by decide +kernel
theorem d_X9_ready_56 : decode cX9_ready 56 = .ok (.iload 5, 2) := by decide +kernel
theorem d_X9_ready_58 : decode cX9_ready 58 = .ok (.ishl, 1) := by decide +kernel
theorem d_X9_ready_59 : decode cX9_ready 59 = .ok (.ior, 1) := by decide +kernel
theorem d_X9_ready_60 : decode cX9_ready 60 = .ok (.istore 4, 2) := by decide +kernel
theorem d_X9_ready_62 : decode cX9_ready 62 = .ok (.iinc 5 1, 3) := by decide +kernel
theorem d_X9_ready_65 : decode cX9_ready 65 = .ok (.goto (-48), 3) := by decide +kernel
theorem d_X9_ready_68 : decode cX9_ready 68 = .ok (.iload 4, 2) := by decide +kernel
theorem d_X9_ready_70 : decode cX9_ready 70 = .ok (.ireturn, 1) := by decide +kernel
noncomputable def F_X9_ready_62 (p0 : Int32) (p1 : Int32) (p2 : Int32) (self17 : Int32 → Int32 → Int32 → Int32 → Int32 → zMem → Option (Nat × Int32 × zMem)) (b62_L1 : Int32) (b62_L2 : Int32) (b62_L3 : Int32) (b62_L4 : Int32) (b62_L5 : Int32) (M : zMem) : Option (Nat × Int32 × zMem) :=
  self17 b62_L1 b62_L2 b62_L3 b62_L4 (b62_L5 + 1) M
noncomputable def F_X9_ready_17 (p0 : Int32) (p1 : Int32) (p2 : Int32) (self17 : Int32 → Int32 → Int32 → Int32 → Int32 → zMem → Option (Nat × Int32 × zMem)) (b17_L1 : Int32) (b17_L2 : Int32) (b17_L3 : Int32) (b17_L4 : Int32) (b17_L5 : Int32) (M : zMem) : Option (Nat × Int32 × zMem) :=
  gd (shX (M.2.2 0 8) == 6) <|
  if (M.1 (M.2.2 0 8) 0) ≤ b17_L5 then
    some (0, b17_L4, M)
  else
    zb (F_X9_placeOf M b17_L5 b17_L3) fun v3 M2 =>
    zb (F_X9_placeOf M2 b17_L1 b17_L2) fun v5 M4 =>
    zb (F_X4_canScrape M4 4 v3 v5) fun v7 M6 =>
    if v7 = 0 then
      F_X9_ready_62 p0 p1 p2 self17 b17_L1 b17_L2 b17_L3 b17_L4 b17_L5 M6
    else
      zl (b17_L4 ||| ((1 : Int32) <<< (b17_L5 &&& 31))) fun v8 =>
      F_X9_ready_62 p0 p1 p2 self17 b17_L1 b17_L2 b17_L3 v8 b17_L5 M6
noncomputable def F_X9_ready (M : zMem) (p0 : Int32) (p1 : Int32) (p2 : Int32) : Option (Nat × Int32 × zMem) :=
  zbx (F_X9_needPlace M p0 p1) (g := zxp) fun _ M9 =>
  zbx (F_X9_needRow M9 p2) (g := zxp) fun _ M14 =>
  itF (fun _ _ _ _ _ _ => none) (F_X9_ready_17 p0 p1 p2) zFuel p0 p1 p2 (0 : Int32) (0 : Int32) M14
def rm_X9_ready : Room := { frames := 11, cells := 2, slots := 12, locals := 183 }
set_option maxHeartbeats 4000000 in
set_option maxRecDepth 100000 in
theorem c_X9_ready (l : Launch) {G : zG} {ad : Nat → Nat} {n : Nat} (hA : zInj ad n) (M : zMem) (p0 : Int32) (p1 : Int32) (p2 : Int32) (hl : l.stackTraces = false) (hT : zT shX n 0 10) {k9 : Nat} {r9 : Int32} {M9 : zMem} (hF : F_X9_ready M p0 p1 p2 = some (k9, r9, M9)) : zMX l yX9_ready cX9_ready 6 (some .int) rm_X9_ready 2 12 G shX ad n M [.ref (ad 0), .int p0, .int p1, .int p2] k9 (some (.int r9)) M9 := by
  refine zM_ofX hA (by decide +kernel) (lv := [(0, .ref (ad 0)), (1, .int p0), (2, .int p1), (3, .int p2)]) (Nat.le_of_ble_eq_true rfl) rfl (fun p e s m args below meth c A cx hr ht => ?_)
  have hb62 : ∀ (self17 : Int32 → Int32 → Int32 → Int32 → Int32 → zMem → Option (Nat × Int32 × zMem)) (hs17 : ∀ (b17_L1 : Int32) (b17_L2 : Int32) (b17_L3 : Int32) (b17_L4 : Int32) (b17_L5 : Int32) (M : zMem), self17 b17_L1 b17_L2 b17_L3 b17_L4 b17_L5 M = some (k9, r9, M9) → zJ p l e rm_X9_ready s m args below meth c G shX ad n A 6 (vx_MQ below (zQX G shX ad n M9 k9 (some (.int r9)) A) (zXC G shX ad n M9 k9 A) args s 2 12 A) 2 12 M 17 [(0, .ref (ad 0)), (1, .int b17_L1), (2, .int b17_L2), (3, .int b17_L3), (4, .int b17_L4), (5, .int b17_L5)] []), ∀ (b62_L1 : Int32) (b62_L2 : Int32) (b62_L3 : Int32) (b62_L4 : Int32) (b62_L5 : Int32) (M : zMem), F_X9_ready_62 p0 p1 p2 self17 b62_L1 b62_L2 b62_L3 b62_L4 b62_L5 M = some (k9, r9, M9) → zJ p l e rm_X9_ready s m args below meth c G shX ad n A 6 (vx_MQ below (zQX G shX ad n M9 k9 (some (.int r9)) A) (zXC G shX ad n M9 k9 A) args s 2 12 A) 2 12 M 62 [(0, .ref (ad 0)), (1, .int b62_L1), (2, .int b62_L2), (3, .int b62_L3), (4, .int b62_L4), (5, .int b62_L5)] [] := by
    intro self17 hs17 b62_L1 b62_L2 b62_L3 b62_L4 b62_L5 M hF
    unfold F_X9_ready_62 at hF
    refine z_iinc cx 5 1 [(5, .int (b62_L5 + 1)), (0, .ref (ad 0)), (1, .int b62_L1), (2, .int b62_L2), (3, .int b62_L3), (4, .int b62_L4)] d_X9_ready_62 5 rfl ki_1 (by decide) rfl ?_
    refine z_goto cx 17 d_X9_ready_65 (by decide) ?_
    exact z_lv [1, 2, 3, 4, 5, 0] _ rfl (hs17 b62_L1 b62_L2 b62_L3 b62_L4 (b62_L5 + 1) M hF)
  have hL17 : ∀ (fuel : Nat), ∀ (b17_L1 : Int32) (b17_L2 : Int32) (b17_L3 : Int32) (b17_L4 : Int32) (b17_L5 : Int32) (M : zMem), itF (fun _ _ _ _ _ _ => none) (F_X9_ready_17 p0 p1 p2) fuel b17_L1 b17_L2 b17_L3 b17_L4 b17_L5 M = some (k9, r9, M9) → zJ p l e rm_X9_ready s m args below meth c G shX ad n A 6 (vx_MQ below (zQX G shX ad n M9 k9 (some (.int r9)) A) (zXC G shX ad n M9 k9 A) args s 2 12 A) 2 12 M 17 [(0, .ref (ad 0)), (1, .int b17_L1), (2, .int b17_L2), (3, .int b17_L3), (4, .int b17_L4), (5, .int b17_L5)] [] := by
    intro fuel
    induction fuel with
    | zero => intro b17_L1 b17_L2 b17_L3 b17_L4 b17_L5 M hF; cases hF
    | succ fuel hs17 =>
      intro b17_L1 b17_L2 b17_L3 b17_L4 b17_L5 M hF
      have hF : F_X9_ready_17 p0 p1 p2 (itF (fun _ _ _ _ _ _ => none) (F_X9_ready_17 p0 p1 p2) fuel) b17_L1 b17_L2 b17_L3 b17_L4 b17_L5 M = some (k9, r9, M9) := hF
      generalize itF (fun _ _ _ _ _ _ => none) (F_X9_ready_17 p0 p1 p2) fuel = self17 at hs17 hF
      unfold F_X9_ready_17 at hF
      refine z_iload cx d_X9_ready_17 5 rfl ?_
      refine z_aload_n cx d_X9_ready_19 0 rfl ?_
      obtain ⟨hg1, hF⟩ := gd_inv hF
      refine z_getD cx hT fg_SunnyPans_62 d_X9_ready_20 ?_
      refine z_getI cx (td_6 hT hg1) fg_SunnyPans_162 d_X9_ready_23 ?_
      refine z_icmp_ge cx 68 d_X9_ready_26 (by decide) hF (fun hF => ?_) (fun hF => ?_)
      · refine z_iload cx d_X9_ready_68 4 rfl ?_
        exact z_iretX cx hr rfl hF ⟨Nat.le_of_ble_eq_true rfl, Nat.le_of_ble_eq_true rfl⟩ d_X9_ready_70
      refine z_aload_n cx d_X9_ready_29 0 rfl ?_
      refine z_getR cx hT fg_SunnyPans_19 3 rfl d_X9_ready_30 ?_
      refine z_getR cx (tfX_10_3 hT) fg_SunnyPans_159 4 rfl d_X9_ready_33 ?_
      refine z_iload cx d_X9_ready_36 5 rfl ?_
      refine z_iload_n cx d_X9_ready_38 3 rfl ?_
      obtain ⟨v3, M2, hc, hF⟩ := zb_inv hF
      refine z_callS cx (As := [.int b17_L5, .int b17_L3]) (rest := [.ref (ad 4)]) (c_X9_placeOf l cx.2.2.2.1.1 M b17_L5 b17_L3  hc) cs_SunnyPans_213 ⟨rfl, rfl, Nat.le_of_ble_eq_true rfl, Nat.le_of_ble_eq_true rfl⟩ rfl rfl ⟨Nat.le_of_ble_eq_true rfl, Nat.le_of_ble_eq_true rfl⟩ (Nat.le_of_ble_eq_true rfl) d_X9_ready_39 ?_
      refine z_iload_n cx d_X9_ready_42 1 rfl ?_
      refine z_iload_n cx d_X9_ready_43 2 rfl ?_
      obtain ⟨v5, M4, hc, hF⟩ := zb_inv hF
      refine z_callS cx (As := [.int b17_L1, .int b17_L2]) (rest := [.int v3, .ref (ad 4)]) (c_X9_placeOf l cx.2.2.2.1.1 M2 b17_L1 b17_L2  hc) cs_SunnyPans_213 ⟨rfl, rfl, Nat.le_of_ble_eq_true rfl, Nat.le_of_ble_eq_true rfl⟩ rfl rfl ⟨Nat.le_of_ble_eq_true rfl, Nat.le_of_ble_eq_true rfl⟩ (Nat.le_of_ble_eq_true rfl) d_X9_ready_44 ?_
      obtain ⟨v7, M6, hc, hF⟩ := zb_inv hF
      refine z_callV cx (As := [.int v3, .int v5]) (rest := []) (c_X4_canScrape l cx.2.2.2.1.1 M4 4 v3 v5 (tfX_8_1 (tfX_10_3 hT)) hc) (tfX_8_1 (tfX_10_3 hT)) zo_5 cv_SunnyPans_270 ⟨rfl, rfl, Nat.le_of_ble_eq_true rfl, Nat.le_of_ble_eq_true rfl⟩ rfl rfl ⟨Nat.le_of_ble_eq_true rfl, Nat.le_of_ble_eq_true rfl⟩ (Nat.le_of_ble_eq_true rfl) d_X9_ready_47 ?_
      refine z_if_eq cx 62 d_X9_ready_50 (by decide) hF (fun hF => ?_) (fun hF => ?_)
      · exact hb62 self17 hs17 b17_L1 b17_L2 b17_L3 b17_L4 b17_L5 M6 hF
      refine z_iload cx d_X9_ready_53 4 rfl ?_
      refine z_iconst (v := 1) cx d_X9_ready_55 ki_1 ?_
      refine z_iload cx d_X9_ready_56 5 rfl ?_
      refine z_ishl cx d_X9_ready_58 ?_
      refine z_ior cx d_X9_ready_59 ?_
      refine z_nm hF (fun v8 hF => ?_)
      refine z_istore cx 4 [(4, .int v8), (0, .ref (ad 0)), (1, .int b17_L1), (2, .int b17_L2), (3, .int b17_L3), (5, .int b17_L5)] d_X9_ready_60 (by decide) rfl ?_
      exact z_lv [1, 2, 3, 4, 0, 5] _ rfl (hb62 self17 hs17 b17_L1 b17_L2 b17_L3 v8 b17_L5 M6 hF)
  unfold F_X9_ready at hF
  refine z_aload_n cx d_X9_ready_0 0 rfl ?_
  refine z_iload_n cx d_X9_ready_1 1 rfl ?_
  refine z_iload_n cx d_X9_ready_2 2 rfl ?_
  obtain ⟨k10, v11, M9, hc, hF, hX12⟩ := zbx_inv hF
  refine z_callVX cx ht (As := [.int p0, .int p1]) (rest := []) (c_X9_needPlace l cx.2.2.2.1.1 M p0 p1 hl hT hc) (fun q => zxp_inv (hX12 q)) hT zo_10 cv_SunnyPans_210 ⟨rfl, rfl, Nat.le_of_ble_eq_true rfl, Nat.le_of_ble_eq_true rfl⟩ rfl rfl ⟨Nat.le_of_ble_eq_true rfl, Nat.le_of_ble_eq_true rfl⟩ ⟨Nat.le_of_ble_eq_true rfl, Nat.le_of_ble_eq_true rfl⟩ (Nat.le_of_ble_eq_true rfl) d_X9_ready_3 (fun kq13 => ?_)
  have hF := hF kq13
  refine z_aload_n cx d_X9_ready_6 0 rfl ?_
  refine z_iload_n cx d_X9_ready_7 3 rfl ?_
  obtain ⟨k15, v16, M14, hc, hF, hX17⟩ := zbx_inv hF
  refine z_callVX cx ht (As := [.int p2]) (rest := []) (c_X9_needRow l cx.2.2.2.1.1 M9 p2 hl hT hc) (fun q => zxp_inv (hX17 q)) hT zo_10 cv_SunnyPans_244 ⟨rfl, rfl, Nat.le_of_ble_eq_true rfl, Nat.le_of_ble_eq_true rfl⟩ rfl rfl ⟨Nat.le_of_ble_eq_true rfl, Nat.le_of_ble_eq_true rfl⟩ ⟨Nat.le_of_ble_eq_true rfl, Nat.le_of_ble_eq_true rfl⟩ (Nat.le_of_ble_eq_true rfl) d_X9_ready_8 (fun kq18 => ?_)
  have hF := hF kq18
  refine z_iconst (v := 0) cx d_X9_ready_11 ki_0 ?_
  refine z_istore cx 4 [(4, .int (0 : Int32)), (0, .ref (ad 0)), (1, .int p0), (2, .int p1), (3, .int p2)] d_X9_ready_12 (by decide) rfl ?_
  refine z_iconst (v := 0) cx d_X9_ready_14 ki_0 ?_
  refine z_istore cx 5 [(5, .int (0 : Int32)), (4, .int (0 : Int32)), (0, .ref (ad 0)), (1, .int p0), (2, .int p1), (3, .int p2)] d_X9_ready_15 (by decide) rfl ?_
  exact z_lv [2, 3, 4, 5, 1, 0] _ rfl (hL17 zFuel p0 p1 p2 (0 : Int32) (0 : Int32) M14 hF)
/-! SunnyPans.line -/
theorem d_X9_line_0 : decode cX9_line 0 = .ok (.aload_n 0, 1) := by decide +kernel
theorem d_X9_line_1 : decode cX9_line 1 = .ok (.iload_n 2, 1) := by decide +kernel
theorem d_X9_line_2 : decode cX9_line 2 = .ok (.ifCond .lt 12, 3) := by decide +kernel
theorem d_X9_line_5 : decode cX9_line 5 = .ok (.iload_n 2, 1) := by decide +kernel
theorem d_X9_line_6 : decode cX9_line 6 = .ok (.iconst 3, 1) := by decide +kernel
theorem d_X9_line_7 : decode cX9_line 7 = .ok (.if_icmp .gt 7, 3) := by decide +kernel
theorem d_X9_line_10 : decode cX9_line 10 = .ok (.iconst 1, 1) := by decide +kernel
theorem d_X9_line_11 : decode cX9_line 11 = .ok (.goto 4, 3) := by decide +kernel
theorem d_X9_line_14 : decode cX9_line 14 = .ok (.iconst 0, 1) := by decide +kernel
theorem d_X9_line_15 : decode cX9_line 15 = .ok (.invokevirtual 155, 3) := by decide +kernel
theorem d_X9_line_18 : decode cX9_line 18 = .ok (.iload_n 2, 1) := by decide +kernel
theorem d_X9_line_19 : decode cX9_line 19 = .ok (.ifCond .eq 8, 3) := by decide +kernel
theorem d_X9_line_22 : decode cX9_line 22 = .ok (.iload_n 2, 1) := by decide +kernel
theorem d_X9_line_23 : decode cX9_line 23 = .ok (.iconst 2, 1) := by decide +kernel
theorem d_X9_line_24 : decode cX9_line 24 = .ok (.if_icmp .ne 7, 3) := by decide +kernel
theorem d_X9_line_27 : decode cX9_line 27 = .ok (.iconst 1, 1) := by decide +kernel
theorem d_X9_line_28 : decode cX9_line 28 = .ok (.goto 4, 3) := by decide +kernel
theorem d_X9_line_31 : decode cX9_line 31 = .ok (.iconst 0, 1) := by decide +kernel
theorem d_X9_line_32 : decode cX9_line 32 = .ok (.istore_n 3, 1) := by decide +kernel
theorem d_X9_line_33 : decode cX9_line 33 = .ok (.aload_n 0, 1) := by decide +kernel
theorem d_X9_line_34 : decode cX9_line 34 = .ok (.iload_n 1, 1) := by decide +kernel
theorem d_X9_line_35 : decode cX9_line 35 = .ok (.iconst 0, 1) := by decide +kernel
theorem d_X9_line_36 : decode cX9_line 36 = .ok (.iload_n 3, 1) := by decide +kernel
theorem d_X9_line_37 : decode cX9_line 37 = .ok (.ifCond .eq 13, 3) := by decide +kernel
theorem d_X9_line_40 : decode cX9_line 40 = .ok (.aload_n 0, 1) := by decide +kernel
theorem d_X9_line_41 : decode cX9_line 41 = .ok (.getfield 62, 3) := by decide +kernel
theorem d_X9_line_44 : decode cX9_line 44 = .ok (.getfield 165, 3) := by decide +kernel
theorem d_X9_line_47 : decode cX9_line 47 = .ok (.goto 10, 3) := by decide +kernel
theorem d_X9_line_50 : decode cX9_line 50 = .ok (.aload_n 0, 1) := by decide +kernel
theorem d_X9_line_51 : decode cX9_line 51 = .ok (.getfield 62, 3) := by decide +kernel
theorem d_X9_line_54 : decode cX9_line 54 = .ok (.getfield 162, 3) := by decide +kernel
theorem d_X9_line_57 : decode cX9_line 57 = .ok (.iconst 1, 1) := by decide +kernel
theorem d_X9_line_58 : decode cX9_line 58 = .ok (.isub, 1) := by decide +kernel
theorem d_X9_line_59 : decode cX9_line 59 = .ok (.invokestatic 255, 3) := by decide +kernel
theorem d_X9_line_62 : decode cX9_line 62 = .ok (.invokevirtual 155, 3) := by decide +kernel
theorem d_X9_line_65 : decode cX9_line 65 = .ok (.iload_n 2, 1) := by decide +kernel
theorem d_X9_line_66 : decode cX9_line 66 = .ok (.iconst 1, 1) := by decide +kernel
theorem d_X9_line_67 : decode cX9_line 67 = .ok (.if_icmp .gt 16, 3) := by decide +kernel
theorem d_X9_line_70 : decode cX9_line 70 = .ok (.aload_n 0, 1) := by decide +kernel
theorem d_X9_line_71 : decode cX9_line 71 = .ok (.getfield 19, 3) := by decide +kernel
theorem d_X9_line_74 : decode cX9_line 74 = .ok (.getfield 159, 3) := by decide +kernel
theorem d_X9_line_77 : decode cX9_line 77 = .ok (.getfield 174, 3) := by decide +kernel
theorem d_X9_line_80 : decode cX9_line 80 = .ok (.goto 13, 3) := by decide +kernel
theorem d_X9_line_83 : decode cX9_line 83 = .ok (.aload_n 0, 1) := by decide +kernel
theorem d_X9_line_84 : decode cX9_line 84 = .ok (.getfield 19, 3) := by decide +kernel
theorem d_X9_line_87 : decode cX9_line 87 = .ok (.getfield 159, 3) := by decide +kernel
theorem d_X9_line_90 : decode cX9_line 90 = .ok (.getfield 181, 3) := by decide +kernel
theorem d_X9_line_93 : decode cX9_line 93 = .ok (.astore 4, 2) := by decide +kernel
theorem d_X9_line_95 : decode cX9_line 95 = .ok (.iconst 0, 1) := by decide +kernel
theorem d_X9_line_96 : decode cX9_line 96 = .ok (.istore 5, 2) := by decide +kernel
theorem d_X9_line_98 : decode cX9_line 98 = .ok (.iconst 0, 1) := by decide +kernel
theorem d_X9_line_99 : decode cX9_line 99 = .ok (.istore 6, 2) := by decide +kernel
theorem d_X9_line_101 : decode cX9_line 101 = .ok (.iload 6, 2) := by decide +kernel
theorem d_X9_line_103 : decode cX9_line 103 = .ok (.bipush 8, 2) := by decide +kernel
theorem d_X9_line_105 : decode cX9_line 105 = .ok (.if_icmp .ge 36, 3) := by decide +kernel
theorem d_X9_line_108 : decode cX9_line 108 = .ok (.iload 5, 2) := by decide +kernel
theorem d_X9_line_110 : decode cX9_line 110 = .ok (.aload 4, 2) := by decide +kernel
theorem d_X9_line_112 : decode cX9_line 112 = .ok (.iload_n 3, 1) := by decide +kernel
theorem d_X9_line_113 : decode cX9_line 113 = .ok (.ifCond .eq 12, 3) := by decide +kernel
theorem d_X9_line_116 : decode cX9_line 116 = .ok (.iload 6, 2) := by decide +kernel
theorem d_X9_line_118 : decode cX9_line 118 = .ok (.iload_n 1, 1) := by decide +kernel
theorem d_X9_line_119 : decode cX9_line 119 = .ok (.invokestatic 213, 3) := by decide +kernel
theorem d_X9_line_122 : decode cX9_line 122 = .ok (.goto 9, 3) := by decide +kernel
theorem d_X9_line_125 : decode cX9_line 125 = .ok (.iload_n 1, 1) := by decide +kernel
theorem d_X9_line_126 : decode cX9_line 126 = .ok (.iload 6, 2) := by decide +kernel
theorem d_X9_line_128 : decode cX9_line 128 = .ok (.invokestatic 213, 3) := by decide +kernel
theorem d_X9_line_131 : decode cX9_line 131 = .ok (.iaload, 1) := by decide +kernel
theorem d_X9_line_132 : decode cX9_line 132 = .ok (.iadd, 1) := by decide +kernel
theorem d_X9_line_133 : decode cX9_line 133 = .ok (.istore 5, 2) := by decide +kernel
theorem d_X9_line_135 : decode cX9_line 135 = .ok (.iinc 6 1, 3) := by decide +kernel
theorem d_X9_line_138 : decode cX9_line 138 = .ok (.goto (-37), 3) := by decide +kernel
theorem d_X9_line_141 : decode cX9_line 141 = .ok (.iload 5, 2) := by decide +kernel
theorem d_X9_line_143 : decode cX9_line 143 = .ok (.ireturn, 1) := by decide +kernel
noncomputable def F_X9_line_131 (p0 : Int32) (p1 : Int32) (self101 : Int32 → Int32 → Nat → Int32 → Int32 → zMem → Option (Nat × Int32 × zMem)) (b131_L1 : Int32) (b131_L3 : Int32) (b131_L4 : Nat) (b131_L6 : Int32) (b131_S0 : Int32) (b131_S1 : Nat) (b131_S2 : Int32) (M : zMem) : Option (Nat × Int32 × zMem) :=
  gin b131_S2 64 <|
  zl (b131_S0 + (M.1 b131_S1 b131_S2.toNatClampNeg)) fun v2 =>
  self101 b131_L1 b131_L3 b131_L4 v2 (b131_L6 + 1) M
noncomputable def F_X9_line_101 (p0 : Int32) (p1 : Int32) (self101 : Int32 → Int32 → Nat → Int32 → Int32 → zMem → Option (Nat × Int32 × zMem)) (b101_L1 : Int32) (b101_L3 : Int32) (b101_L4 : Nat) (b101_L5 : Int32) (b101_L6 : Int32) (M : zMem) : Option (Nat × Int32 × zMem) :=
  if (8 : Int32) ≤ b101_L6 then
    some (0, b101_L5, M)
  else
    if b101_L3 = 0 then
      zb (F_X9_placeOf M b101_L1 b101_L6) fun v4 M3 =>
      F_X9_line_131 p0 p1 self101 b101_L1 b101_L3 b101_L4 b101_L6 b101_L5 b101_L4 v4 M3
    else
      zb (F_X9_placeOf M b101_L6 b101_L1) fun v6 M5 =>
      F_X9_line_131 p0 p1 self101 b101_L1 b101_L3 b101_L4 b101_L6 b101_L5 b101_L4 v6 M5
noncomputable def F_X9_line_93 (p0 : Int32) (p1 : Int32) (b93_L1 : Int32) (b93_L3 : Int32) (b93_S0 : Nat) (M : zMem) : Option (Nat × Int32 × zMem) :=
  itF (fun _ _ _ _ _ _ => none) (F_X9_line_101 p0 p1) zFuel b93_L1 b93_L3 b93_S0 (0 : Int32) (0 : Int32) M
noncomputable def F_X9_line_57 (p0 : Int32) (p1 : Int32) (b57_L1 : Int32) (b57_L2 : Int32) (b57_L3 : Int32) (b57_S1 : Int32) (b57_S2 : Int32) (b57_S3 : Int32) (M : zMem) : Option (Nat × Int32 × zMem) :=
  zb (F_X9_within M b57_S1 b57_S2 (b57_S3 - (1 : Int32))) fun v8 M7 =>
  zbx (F_X9_need M7 v8) (g := zxp) fun _ M9 =>
  if (1 : Int32) < b57_L2 then
    F_X9_line_93 p0 p1 b57_L1 b57_L3 6 M9
  else
    F_X9_line_93 p0 p1 b57_L1 b57_L3 5 M9
noncomputable def F_X9_line_32 (p0 : Int32) (p1 : Int32) (b32_L1 : Int32) (b32_L2 : Int32) (b32_S0 : Int32) (M : zMem) : Option (Nat × Int32 × zMem) :=
  if b32_S0 = 0 then
    gd (shX (M.2.2 0 8) == 6) <|
    F_X9_line_57 p0 p1 b32_L1 b32_L2 b32_S0 b32_L1 (0 : Int32) (M.1 (M.2.2 0 8) 0) M
  else
    gd (shX (M.2.2 0 8) == 6) <|
    F_X9_line_57 p0 p1 b32_L1 b32_L2 b32_S0 b32_L1 (0 : Int32) (M.1 (M.2.2 0 8) 1) M
noncomputable def F_X9_line_15 (p0 : Int32) (p1 : Int32) (b15_L1 : Int32) (b15_L2 : Int32) (b15_S1 : Int32) (M : zMem) : Option (Nat × Int32 × zMem) :=
  zbx (F_X9_need M b15_S1) (g := zxp) fun _ M16 =>
  if b15_L2 = 0 then
    F_X9_line_32 p0 p1 b15_L1 b15_L2 (1 : Int32) M16
  else
    if b15_L2 = (2 : Int32) then
      F_X9_line_32 p0 p1 b15_L1 b15_L2 (1 : Int32) M16
    else
      F_X9_line_32 p0 p1 b15_L1 b15_L2 (0 : Int32) M16
noncomputable def F_X9_line_14 (p0 : Int32) (p1 : Int32) (b14_L1 : Int32) (b14_L2 : Int32) (M : zMem) : Option (Nat × Int32 × zMem) :=
  F_X9_line_15 p0 p1 b14_L1 b14_L2 (0 : Int32) M
noncomputable def F_X9_line (M : zMem) (p0 : Int32) (p1 : Int32) : Option (Nat × Int32 × zMem) :=
  if p1 < 0 then
    F_X9_line_14 p0 p1 p0 p1 M
  else
    if (3 : Int32) < p1 then
      F_X9_line_14 p0 p1 p0 p1 M
    else
      F_X9_line_15 p0 p1 p0 p1 (1 : Int32) M
def rm_X9_line : Room := { frames := 10, cells := 2, slots := 12, locals := 161 }
set_option maxHeartbeats 4000000 in
set_option maxRecDepth 100000 in
theorem c_X9_line (l : Launch) {G : zG} {ad : Nat → Nat} {n : Nat} (hA : zInj ad n) (M : zMem) (p0 : Int32) (p1 : Int32) (hl : l.stackTraces = false) (hT : zT shX n 0 10) {k9 : Nat} {r9 : Int32} {M9 : zMem} (hF : F_X9_line M p0 p1 = some (k9, r9, M9)) : zMX l yX9_line cX9_line 7 (some .int) rm_X9_line 2 12 G shX ad n M [.ref (ad 0), .int p0, .int p1] k9 (some (.int r9)) M9 := by
  refine zM_ofX hA (by decide +kernel) (lv := [(0, .ref (ad 0)), (1, .int p0), (2, .int p1)]) (Nat.le_of_ble_eq_true rfl) rfl (fun p e s m args below meth c A cx hr ht => ?_)
  have hb131 : ∀ (self101 : Int32 → Int32 → Nat → Int32 → Int32 → zMem → Option (Nat × Int32 × zMem)) (hs101 : ∀ (b101_L1 : Int32) (b101_L3 : Int32) (b101_L4 : Nat) (b101_L5 : Int32) (b101_L6 : Int32) (M : zMem), zT shX n b101_L4 16 → self101 b101_L1 b101_L3 b101_L4 b101_L5 b101_L6 M = some (k9, r9, M9) → zJ p l e rm_X9_line s m args below meth c G shX ad n A 7 (vx_MQ below (zQX G shX ad n M9 k9 (some (.int r9)) A) (zXC G shX ad n M9 k9 A) args s 2 12 A) 2 12 M 101 [(1, .int b101_L1), (3, .int b101_L3), (4, .ref (ad b101_L4)), (5, .int b101_L5), (6, .int b101_L6)] []), ∀ (b131_L1 : Int32) (b131_L3 : Int32) (b131_L4 : Nat) (b131_L6 : Int32) (b131_S0 : Int32) (b131_S1 : Nat) (b131_S2 : Int32) (M : zMem), zT shX n b131_L4 16 → zT shX n b131_S1 16 → F_X9_line_131 p0 p1 self101 b131_L1 b131_L3 b131_L4 b131_L6 b131_S0 b131_S1 b131_S2 M = some (k9, r9, M9) → zJ p l e rm_X9_line s m args below meth c G shX ad n A 7 (vx_MQ below (zQX G shX ad n M9 k9 (some (.int r9)) A) (zXC G shX ad n M9 k9 A) args s 2 12 A) 2 12 M 131 [(1, .int b131_L1), (3, .int b131_L3), (4, .ref (ad b131_L4)), (6, .int b131_L6)] [.int b131_S2, .ref (ad b131_S1), .int b131_S0] := by
    intro self101 hs101 b131_L1 b131_L3 b131_L4 b131_L6 b131_S0 b131_S1 b131_S2 M hb131_L4 hb131_S1 hF
    unfold F_X9_line_131 at hF
    obtain ⟨hi1, hF⟩ := gin_inv hF
    refine z_iald cx hb131_S1 za_16 hi1 b131_S2.toNatClampNeg rfl d_X9_line_131 ?_
    refine z_iadd cx d_X9_line_132 ?_
    refine z_nm hF (fun v2 hF => ?_)
    refine z_istore cx 5 [(5, .int v2), (1, .int b131_L1), (3, .int b131_L3), (4, .ref (ad b131_L4)), (6, .int b131_L6)] d_X9_line_133 (by decide) rfl ?_
    refine z_iinc cx 6 1 [(6, .int (b131_L6 + 1)), (5, .int v2), (1, .int b131_L1), (3, .int b131_L3), (4, .ref (ad b131_L4))] d_X9_line_135 4 rfl ki_1 (by decide) rfl ?_
    refine z_goto cx 101 d_X9_line_138 (by decide) ?_
    exact z_lv [2, 3, 4, 1, 0] _ rfl (hs101 b131_L1 b131_L3 b131_L4 v2 (b131_L6 + 1) M hb131_L4 hF)
  have hL101 : ∀ (fuel : Nat), ∀ (b101_L1 : Int32) (b101_L3 : Int32) (b101_L4 : Nat) (b101_L5 : Int32) (b101_L6 : Int32) (M : zMem), zT shX n b101_L4 16 → itF (fun _ _ _ _ _ _ => none) (F_X9_line_101 p0 p1) fuel b101_L1 b101_L3 b101_L4 b101_L5 b101_L6 M = some (k9, r9, M9) → zJ p l e rm_X9_line s m args below meth c G shX ad n A 7 (vx_MQ below (zQX G shX ad n M9 k9 (some (.int r9)) A) (zXC G shX ad n M9 k9 A) args s 2 12 A) 2 12 M 101 [(1, .int b101_L1), (3, .int b101_L3), (4, .ref (ad b101_L4)), (5, .int b101_L5), (6, .int b101_L6)] [] := by
    intro fuel
    induction fuel with
    | zero => intro b101_L1 b101_L3 b101_L4 b101_L5 b101_L6 M hb101_L4 hF; cases hF
    | succ fuel hs101 =>
      intro b101_L1 b101_L3 b101_L4 b101_L5 b101_L6 M hb101_L4 hF
      have hF : F_X9_line_101 p0 p1 (itF (fun _ _ _ _ _ _ => none) (F_X9_line_101 p0 p1) fuel) b101_L1 b101_L3 b101_L4 b101_L5 b101_L6 M = some (k9, r9, M9) := hF
      generalize itF (fun _ _ _ _ _ _ => none) (F_X9_line_101 p0 p1) fuel = self101 at hs101 hF
      unfold F_X9_line_101 at hF
      refine z_iload cx d_X9_line_101 4 rfl ?_
      refine z_bipush (v := 8) cx d_X9_line_103 kb_8 ?_
      refine z_icmp_ge cx 141 d_X9_line_105 (by decide) hF (fun hF => ?_) (fun hF => ?_)
      · refine z_iload cx d_X9_line_141 3 rfl ?_
        exact z_iretX cx hr rfl hF ⟨Nat.le_of_ble_eq_true rfl, Nat.le_of_ble_eq_true rfl⟩ d_X9_line_143
      refine z_iload cx d_X9_line_108 3 rfl ?_
      refine z_aload cx d_X9_line_110 2 rfl ?_
      refine z_iload_n cx d_X9_line_112 1 rfl ?_
      refine z_if_eq cx 125 d_X9_line_113 (by decide) hF (fun hF => ?_) (fun hF => ?_)
      · refine z_iload_n cx d_X9_line_125 0 rfl ?_
        refine z_iload cx d_X9_line_126 4 rfl ?_
        obtain ⟨v4, M3, hc, hF⟩ := zb_inv hF
        refine z_callS cx (As := [.int b101_L1, .int b101_L6]) (rest := [.ref (ad b101_L4), .int b101_L5]) (c_X9_placeOf l cx.2.2.2.1.1 M b101_L1 b101_L6  hc) cs_SunnyPans_213 ⟨rfl, rfl, Nat.le_of_ble_eq_true rfl, Nat.le_of_ble_eq_true rfl⟩ rfl rfl ⟨Nat.le_of_ble_eq_true rfl, Nat.le_of_ble_eq_true rfl⟩ (Nat.le_of_ble_eq_true rfl) d_X9_line_128 ?_
        exact z_lv [0, 1, 2, 4] _ rfl (hb131 self101 hs101 b101_L1 b101_L3 b101_L4 b101_L6 b101_L5 b101_L4 v4 M3 hb101_L4 hb101_L4 hF)
      refine z_iload cx d_X9_line_116 4 rfl ?_
      refine z_iload_n cx d_X9_line_118 0 rfl ?_
      obtain ⟨v6, M5, hc, hF⟩ := zb_inv hF
      refine z_callS cx (As := [.int b101_L6, .int b101_L1]) (rest := [.ref (ad b101_L4), .int b101_L5]) (c_X9_placeOf l cx.2.2.2.1.1 M b101_L6 b101_L1  hc) cs_SunnyPans_213 ⟨rfl, rfl, Nat.le_of_ble_eq_true rfl, Nat.le_of_ble_eq_true rfl⟩ rfl rfl ⟨Nat.le_of_ble_eq_true rfl, Nat.le_of_ble_eq_true rfl⟩ (Nat.le_of_ble_eq_true rfl) d_X9_line_119 ?_
      refine z_goto cx 131 d_X9_line_122 (by decide) ?_
      exact z_lv [0, 1, 2, 4] _ rfl (hb131 self101 hs101 b101_L1 b101_L3 b101_L4 b101_L6 b101_L5 b101_L4 v6 M5 hb101_L4 hb101_L4 hF)
  have hb93 : ∀ (b93_L1 : Int32) (b93_L3 : Int32) (b93_S0 : Nat) (M : zMem), zT shX n b93_S0 16 → F_X9_line_93 p0 p1 b93_L1 b93_L3 b93_S0 M = some (k9, r9, M9) → zJ p l e rm_X9_line s m args below meth c G shX ad n A 7 (vx_MQ below (zQX G shX ad n M9 k9 (some (.int r9)) A) (zXC G shX ad n M9 k9 A) args s 2 12 A) 2 12 M 93 [(1, .int b93_L1), (3, .int b93_L3)] [.ref (ad b93_S0)] := by
    intro b93_L1 b93_L3 b93_S0 M hb93_S0 hF
    unfold F_X9_line_93 at hF
    refine z_astore cx 4 [(4, .ref (ad b93_S0)), (1, .int b93_L1), (3, .int b93_L3)] d_X9_line_93 (by decide) rfl ?_
    refine z_iconst (v := 0) cx d_X9_line_95 ki_0 ?_
    refine z_istore cx 5 [(5, .int (0 : Int32)), (4, .ref (ad b93_S0)), (1, .int b93_L1), (3, .int b93_L3)] d_X9_line_96 (by decide) rfl ?_
    refine z_iconst (v := 0) cx d_X9_line_98 ki_0 ?_
    refine z_istore cx 6 [(6, .int (0 : Int32)), (5, .int (0 : Int32)), (4, .ref (ad b93_S0)), (1, .int b93_L1), (3, .int b93_L3)] d_X9_line_99 (by decide) rfl ?_
    exact z_lv [3, 4, 2, 1, 0] _ rfl (hL101 zFuel b93_L1 b93_L3 b93_S0 (0 : Int32) (0 : Int32) M hb93_S0 hF)
  have hb57 : ∀ (b57_L1 : Int32) (b57_L2 : Int32) (b57_L3 : Int32) (b57_S1 : Int32) (b57_S2 : Int32) (b57_S3 : Int32) (M : zMem), F_X9_line_57 p0 p1 b57_L1 b57_L2 b57_L3 b57_S1 b57_S2 b57_S3 M = some (k9, r9, M9) → zJ p l e rm_X9_line s m args below meth c G shX ad n A 7 (vx_MQ below (zQX G shX ad n M9 k9 (some (.int r9)) A) (zXC G shX ad n M9 k9 A) args s 2 12 A) 1 6 M 57 [(0, .ref (ad 0)), (1, .int b57_L1), (2, .int b57_L2), (3, .int b57_L3)] [.int b57_S3, .int b57_S2, .int b57_S1, .ref (ad 0)] := by
    intro b57_L1 b57_L2 b57_L3 b57_S1 b57_S2 b57_S3 M hF
    unfold F_X9_line_57 at hF
    refine z_iconst (v := 1) cx d_X9_line_57 ki_1 ?_
    refine z_isub cx d_X9_line_58 ?_
    obtain ⟨v8, M7, hc, hF⟩ := zb_inv hF
    refine z_callS cx (As := [.int b57_S1, .int b57_S2, .int (b57_S3 - (1 : Int32))]) (rest := [.ref (ad 0)]) (c_X9_within l cx.2.2.2.1.1 M b57_S1 b57_S2 (b57_S3 - (1 : Int32))  hc) cs_SunnyPans_255 ⟨rfl, rfl, Nat.le_of_ble_eq_true rfl, Nat.le_of_ble_eq_true rfl⟩ rfl rfl ⟨Nat.le_of_ble_eq_true rfl, Nat.le_of_ble_eq_true rfl⟩ (Nat.le_of_ble_eq_true rfl) d_X9_line_59 ?_
    obtain ⟨k10, v11, M9, hc, hF, hX12⟩ := zbx_inv hF
    refine z_callVX cx ht (As := [.int v8]) (rest := []) (c_X9_need l cx.2.2.2.1.1 M7 v8 hl hT hc) (fun q => zxp_inv (hX12 q)) hT zo_10 cv_SunnyPans_155 ⟨rfl, rfl, Nat.le_of_ble_eq_true rfl, Nat.le_of_ble_eq_true rfl⟩ rfl rfl ⟨Nat.le_of_ble_eq_true rfl, Nat.le_of_ble_eq_true rfl⟩ ⟨Nat.le_of_ble_eq_true rfl, Nat.le_of_ble_eq_true rfl⟩ (Nat.le_of_ble_eq_true rfl) d_X9_line_62 (fun kq13 => ?_)
    have hF := hF kq13
    refine z_iload_n cx d_X9_line_65 2 rfl ?_
    refine z_iconst (v := 1) cx d_X9_line_66 ki_1 ?_
    refine z_icmp_gt cx 83 d_X9_line_67 (by decide) hF (fun hF => ?_) (fun hF => ?_)
    · refine z_aload_n cx d_X9_line_83 0 rfl ?_
      refine z_getR cx hT fg_SunnyPans_19 3 rfl d_X9_line_84 ?_
      refine z_getR cx (tfX_10_3 hT) fg_SunnyPans_159 4 rfl d_X9_line_87 ?_
      refine z_getR cx (tfX_8_1 (tfX_10_3 hT)) fg_SunnyPans_181 6 rfl d_X9_line_90 ?_
      exact z_lv [1, 3] _ rfl (hb93 b57_L1 b57_L3 6 M9 (tfX_5_2 (tfX_8_1 (tfX_10_3 hT))) hF)
    refine z_aload_n cx d_X9_line_70 0 rfl ?_
    refine z_getR cx hT fg_SunnyPans_19 3 rfl d_X9_line_71 ?_
    refine z_getR cx (tfX_10_3 hT) fg_SunnyPans_159 4 rfl d_X9_line_74 ?_
    refine z_getR cx (tfX_8_1 (tfX_10_3 hT)) fg_SunnyPans_174 5 rfl d_X9_line_77 ?_
    refine z_goto cx 93 d_X9_line_80 (by decide) ?_
    exact z_lv [1, 3] _ rfl (hb93 b57_L1 b57_L3 5 M9 (tfX_5_1 (tfX_8_1 (tfX_10_3 hT))) hF)
  have hb32 : ∀ (b32_L1 : Int32) (b32_L2 : Int32) (b32_S0 : Int32) (M : zMem), F_X9_line_32 p0 p1 b32_L1 b32_L2 b32_S0 M = some (k9, r9, M9) → zJ p l e rm_X9_line s m args below meth c G shX ad n A 7 (vx_MQ below (zQX G shX ad n M9 k9 (some (.int r9)) A) (zXC G shX ad n M9 k9 A) args s 2 12 A) 1 6 M 32 [(0, .ref (ad 0)), (1, .int b32_L1), (2, .int b32_L2)] [.int b32_S0] := by
    intro b32_L1 b32_L2 b32_S0 M hF
    unfold F_X9_line_32 at hF
    refine z_istore_n cx 3 [(3, .int b32_S0), (0, .ref (ad 0)), (1, .int b32_L1), (2, .int b32_L2)] d_X9_line_32 rfl (by decide) rfl ?_
    refine z_aload_n cx d_X9_line_33 1 rfl ?_
    refine z_iload_n cx d_X9_line_34 2 rfl ?_
    refine z_iconst (v := 0) cx d_X9_line_35 ki_0 ?_
    refine z_iload_n cx d_X9_line_36 0 rfl ?_
    refine z_if_eq cx 50 d_X9_line_37 (by decide) hF (fun hF => ?_) (fun hF => ?_)
    · refine z_aload_n cx d_X9_line_50 1 rfl ?_
      obtain ⟨hg14, hF⟩ := gd_inv hF
      refine z_getD cx hT fg_SunnyPans_62 d_X9_line_51 ?_
      refine z_getI cx (td_6 hT hg14) fg_SunnyPans_162 d_X9_line_54 ?_
      exact z_lv [1, 2, 3, 0] _ rfl (hb57 b32_L1 b32_L2 b32_S0 b32_L1 (0 : Int32) (M.1 (M.2.2 0 8) 0) M hF)
    refine z_aload_n cx d_X9_line_40 1 rfl ?_
    obtain ⟨hg15, hF⟩ := gd_inv hF
    refine z_getD cx hT fg_SunnyPans_62 d_X9_line_41 ?_
    refine z_getI cx (td_6 hT hg15) fg_SunnyPans_165 d_X9_line_44 ?_
    refine z_goto cx 57 d_X9_line_47 (by decide) ?_
    exact z_lv [1, 2, 3, 0] _ rfl (hb57 b32_L1 b32_L2 b32_S0 b32_L1 (0 : Int32) (M.1 (M.2.2 0 8) 1) M hF)
  have hb15 : ∀ (b15_L1 : Int32) (b15_L2 : Int32) (b15_S1 : Int32) (M : zMem), F_X9_line_15 p0 p1 b15_L1 b15_L2 b15_S1 M = some (k9, r9, M9) → zJ p l e rm_X9_line s m args below meth c G shX ad n A 7 (vx_MQ below (zQX G shX ad n M9 k9 (some (.int r9)) A) (zXC G shX ad n M9 k9 A) args s 2 12 A) 0 0 M 15 [(0, .ref (ad 0)), (1, .int b15_L1), (2, .int b15_L2)] [.int b15_S1, .ref (ad 0)] := by
    intro b15_L1 b15_L2 b15_S1 M hF
    unfold F_X9_line_15 at hF
    obtain ⟨k17, v18, M16, hc, hF, hX19⟩ := zbx_inv hF
    refine z_callVX cx ht (As := [.int b15_S1]) (rest := []) (c_X9_need l cx.2.2.2.1.1 M b15_S1 hl hT hc) (fun q => zxp_inv (hX19 q)) hT zo_10 cv_SunnyPans_155 ⟨rfl, rfl, Nat.le_of_ble_eq_true rfl, Nat.le_of_ble_eq_true rfl⟩ rfl rfl ⟨Nat.le_of_ble_eq_true rfl, Nat.le_of_ble_eq_true rfl⟩ ⟨Nat.le_of_ble_eq_true rfl, Nat.le_of_ble_eq_true rfl⟩ (Nat.le_of_ble_eq_true rfl) d_X9_line_15 (fun kq20 => ?_)
    have hF := hF kq20
    refine z_iload_n cx d_X9_line_18 2 rfl ?_
    refine z_if_eq cx 27 d_X9_line_19 (by decide) hF (fun hF => ?_) (fun hF => ?_)
    · refine z_iconst (v := 1) cx d_X9_line_27 ki_1 ?_
      refine z_goto cx 32 d_X9_line_28 (by decide) ?_
      exact hb32 b15_L1 b15_L2 (1 : Int32) M16 hF
    refine z_iload_n cx d_X9_line_22 2 rfl ?_
    refine z_iconst (v := 2) cx d_X9_line_23 ki_2 ?_
    refine z_icmp_ne cx 31 d_X9_line_24 (by decide) hF (fun hF => ?_) (fun hF => ?_)
    · refine z_iconst (v := 0) cx d_X9_line_31 ki_0 ?_
      exact hb32 b15_L1 b15_L2 (0 : Int32) M16 hF
    refine z_iconst (v := 1) cx d_X9_line_27 ki_1 ?_
    refine z_goto cx 32 d_X9_line_28 (by decide) ?_
    exact hb32 b15_L1 b15_L2 (1 : Int32) M16 hF
  have hb14 : ∀ (b14_L1 : Int32) (b14_L2 : Int32) (M : zMem), F_X9_line_14 p0 p1 b14_L1 b14_L2 M = some (k9, r9, M9) → zJ p l e rm_X9_line s m args below meth c G shX ad n A 7 (vx_MQ below (zQX G shX ad n M9 k9 (some (.int r9)) A) (zXC G shX ad n M9 k9 A) args s 2 12 A) 0 0 M 14 [(0, .ref (ad 0)), (1, .int b14_L1), (2, .int b14_L2)] [.ref (ad 0)] := by
    intro b14_L1 b14_L2 M hF
    unfold F_X9_line_14 at hF
    refine z_iconst (v := 0) cx d_X9_line_14 ki_0 ?_
    exact hb15 b14_L1 b14_L2 (0 : Int32) M hF
  unfold F_X9_line at hF
  refine z_aload_n cx d_X9_line_0 0 rfl ?_
  refine z_iload_n cx d_X9_line_1 2 rfl ?_
  refine z_if_lt cx 14 d_X9_line_2 (by decide) hF (fun hF => ?_) (fun hF => ?_)
  · exact hb14 p0 p1 M hF
  refine z_iload_n cx d_X9_line_5 2 rfl ?_
  refine z_iconst (v := 3) cx d_X9_line_6 ki_3 ?_
  refine z_icmp_gt cx 14 d_X9_line_7 (by decide) hF (fun hF => ?_) (fun hF => ?_)
  · exact hb14 p0 p1 M hF
  refine z_iconst (v := 1) cx d_X9_line_10 ki_1 ?_
  refine z_goto cx 15 d_X9_line_11 (by decide) ?_
  exact hb15 p0 p1 (1 : Int32) M hF
/-! SunnyPans.mounds -/
theorem d_X9_mounds_0 : decode cX9_mounds 0 = .ok (.aload_n 0, 1) := by decide +kernel
theorem d_X9_mounds_1 : decode cX9_mounds 1 = .ok (.iload_n 1, 1) := by decide +kernel
theorem d_X9_mounds_2 : decode cX9_mounds 2 = .ok (.invokevirtual 244, 3) := by decide +kernel
theorem d_X9_mounds_5 : decode cX9_mounds 5 = .ok (.aload_n 0, 1) := by decide +kernel
theorem d_X9_mounds_6 : decode cX9_mounds 6 = .ok (.getfield 19, 3) := by decide +kernel
theorem d_X9_mounds_9 : decode cX9_mounds 9 = .ok (.getfield 159, 3) := by decide +kernel
theorem d_X9_mounds_12 : decode cX9_mounds 12 = .ok (.invokevirtual 190, 3) := by decide +kernel
theorem d_X9_mounds_15 : decode cX9_mounds 15 = .ok (.iload_n 1, 1) := by decide +kernel
theorem d_X9_mounds_16 : decode cX9_mounds 16 = .ok (.invokestatic 247, 3) := by decide +kernel
theorem d_X9_mounds_19 : decode cX9_mounds 19 = .ok (.ireturn, 1) := by decide +kernel
noncomputable def F_X9_mounds (M : zMem) (p0 : Int32) : Option (Nat × Int32 × zMem) :=
  zbx (F_X9_needRow M p0) (g := zxp) fun _ M1 =>
  zb (F_X4_heapPlaces M1 4) fun v7 M6 =>
  zb (F_X9_rowOf M6 v7 p0) fun v9 M8 =>
  some (0, v9, M8)
def rm_X9_mounds : Room := { frames := 11, cells := 1, slots := 6, locals := 182 }
set_option maxHeartbeats 4000000 in
set_option maxRecDepth 100000 in
theorem c_X9_mounds (l : Launch) {G : zG} {ad : Nat → Nat} {n : Nat} (hA : zInj ad n) (M : zMem) (p0 : Int32) (hl : l.stackTraces = false) (hT : zT shX n 0 10) {k9 : Nat} {r9 : Int32} {M9 : zMem} (hF : F_X9_mounds M p0 = some (k9, r9, M9)) : zMX l yX9_mounds cX9_mounds 2 (some .int) rm_X9_mounds 1 6 G shX ad n M [.ref (ad 0), .int p0] k9 (some (.int r9)) M9 := by
  refine zM_ofX hA (by decide +kernel) (lv := [(0, .ref (ad 0)), (1, .int p0)]) (Nat.le_of_ble_eq_true rfl) rfl (fun p e s m args below meth c A cx hr ht => ?_)
  unfold F_X9_mounds at hF
  refine z_aload_n cx d_X9_mounds_0 0 rfl ?_
  refine z_iload_n cx d_X9_mounds_1 1 rfl ?_
  obtain ⟨k2, v3, M1, hc, hF, hX4⟩ := zbx_inv hF
  refine z_callVX cx ht (As := [.int p0]) (rest := []) (c_X9_needRow l cx.2.2.2.1.1 M p0 hl hT hc) (fun q => zxp_inv (hX4 q)) hT zo_10 cv_SunnyPans_244 ⟨rfl, rfl, Nat.le_of_ble_eq_true rfl, Nat.le_of_ble_eq_true rfl⟩ rfl rfl ⟨Nat.le_of_ble_eq_true rfl, Nat.le_of_ble_eq_true rfl⟩ ⟨Nat.le_of_ble_eq_true rfl, Nat.le_of_ble_eq_true rfl⟩ (Nat.le_of_ble_eq_true rfl) d_X9_mounds_2 (fun kq5 => ?_)
  have hF := hF kq5
  refine z_aload_n cx d_X9_mounds_5 0 rfl ?_
  refine z_getR cx hT fg_SunnyPans_19 3 rfl d_X9_mounds_6 ?_
  refine z_getR cx (tfX_10_3 hT) fg_SunnyPans_159 4 rfl d_X9_mounds_9 ?_
  obtain ⟨v7, M6, hc, hF⟩ := zb_inv hF
  refine z_callV cx (As := []) (rest := []) (c_X4_heapPlaces l cx.2.2.2.1.1 M1 4 (tfX_8_1 (tfX_10_3 hT)) hc) (tfX_8_1 (tfX_10_3 hT)) zo_5 cv_SunnyPans_190 ⟨rfl, rfl, Nat.le_of_ble_eq_true rfl, Nat.le_of_ble_eq_true rfl⟩ rfl rfl ⟨Nat.le_of_ble_eq_true rfl, Nat.le_of_ble_eq_true rfl⟩ (Nat.le_of_ble_eq_true rfl) d_X9_mounds_12 ?_
  refine z_iload_n cx d_X9_mounds_15 1 rfl ?_
  obtain ⟨v9, M8, hc, hF⟩ := zb_inv hF
  refine z_callS cx (As := [.long v7, .int p0]) (rest := []) (c_X9_rowOf l cx.2.2.2.1.1 M6 v7 p0  hc) cs_SunnyPans_247 ⟨rfl, rfl, Nat.le_of_ble_eq_true rfl, Nat.le_of_ble_eq_true rfl⟩ rfl rfl ⟨Nat.le_of_ble_eq_true rfl, Nat.le_of_ble_eq_true rfl⟩ (Nat.le_of_ble_eq_true rfl) d_X9_mounds_16 ?_
  exact z_iretX cx hr rfl hF ⟨Nat.le_of_ble_eq_true rfl, Nat.le_of_ble_eq_true rfl⟩ d_X9_mounds_19
/-! SunnyPans.nearest -/
set_option maxRecDepth 100000 in
theorem wd_1334 : Cond.methodLink "SunnyPans" 274 Lib.Math.abs.name ∈ tbG := tw6 34 rfl rfl
set_option maxRecDepth 100000 in
theorem wd_1335 : Cond.static Lib.Math.abs.name ∈ tbG := tw6 35 rfl rfl
set_option maxRecDepth 100000 in
theorem wd_1336 : Cond.code Lib.Math.abs.name Lib.Math.abs.code 1 (some .int) ∈ tbG := tw6 36 rfl rfl
set_option maxRecDepth 100000 in
theorem wd_1131 : Cond.code yX0_offerLeast cX0_offerLeast 3 none ∈ tbG := tw5 71 rfl rfl
set_option maxRecDepth 100000 in
theorem wd_1128 : Cond.methodLink "SunnyPans" 279 yX0_offerLeast ∈ tbG := tw5 68 rfl rfl
set_option maxRecDepth 100000 in
theorem wd_1129 : Cond.instanceMethod yX0_offerLeast ∈ tbG := tw5 69 rfl rfl
set_option maxRecDepth 100000 in
theorem wd_1130 : Cond.selects "SunnyPans$Best" yX0_offerLeast yX0_offerLeast ∈ tbG := tw5 70 rfl rfl
theorem cv_SunnyPans_279 : zCV "SunnyPans" 279 "SunnyPans$Best" yX0_offerLeast cX0_offerLeast 3 none 2 := zCV_of wd_1128 wd_1129 wd_1130 wd_107 wd_1131 (by decide +kernel)
theorem d_X9_nearest_0 : decode cX9_nearest 0 = .ok (.aload_n 0, 1) := by decide +kernel
theorem d_X9_nearest_1 : decode cX9_nearest 1 = .ok (.iload_n 1, 1) := by decide +kernel
theorem d_X9_nearest_2 : decode cX9_nearest 2 = .ok (.iload_n 2, 1) := by decide +kernel
theorem d_X9_nearest_3 : decode cX9_nearest 3 = .ok (.invokevirtual 210, 3) := by decide +kernel
theorem d_X9_nearest_6 : decode cX9_nearest 6 = .ok (.aload_n 0, 1) := by decide +kernel
theorem d_X9_nearest_7 : decode cX9_nearest 7 = .ok (.getfield 51, 3) := by decide +kernel
theorem d_X9_nearest_10 : decode cX9_nearest 10 = .ok (.invokevirtual 259, 3) := by decide +kernel
theorem d_X9_nearest_13 : decode cX9_nearest 13 = .ok (.iconst 0, 1) := by decide +kernel
theorem d_X9_nearest_14 : decode cX9_nearest 14 = .ok (.istore_n 3, 1) := by decide +kernel
theorem d_X9_nearest_15 : decode cX9_nearest 15 = .ok (.iload_n 3, 1) := by decide +kernel
theorem d_X9_nearest_16 : decode cX9_nearest 16 = .ok (.bipush 64, 2) := by decide +kernel
theorem d_X9_nearest_18 : decode cX9_nearest 18 = .ok (.if_icmp .ge 51, 3) := by decide +kernel
theorem d_X9_nearest_21 : decode cX9_nearest 21 = .ok (.aload_n 0, 1) := by decide +kernel
theorem d_X9_nearest_22 : decode cX9_nearest 22 = .ok (.getfield 19, 3) := by decide +kernel
theorem d_X9_nearest_25 : decode cX9_nearest 25 = .ok (.getfield 159, 3) := by decide +kernel
theorem d_X9_nearest_28 : decode cX9_nearest 28 = .ok (.getfield 184, 3) := by decide +kernel
theorem d_X9_nearest_31 : decode cX9_nearest 31 = .ok (.iload_n 3, 1) := by decide +kernel
theorem d_X9_nearest_32 : decode cX9_nearest 32 = .ok (.iaload, 1) := by decide +kernel
theorem d_X9_nearest_33 : decode cX9_nearest 33 = .ok (.ifCond .le 30, 3) := by decide +kernel
theorem d_X9_nearest_36 : decode cX9_nearest 36 = .ok (.aload_n 0, 1) := by decide +kernel
theorem d_X9_nearest_37 : decode cX9_nearest 37 = .ok (.getfield 51, 3) := by decide +kernel
theorem d_X9_nearest_40 : decode cX9_nearest 40 = .ok (.iload_n 3, 1) := by decide +kernel
theorem d_X9_nearest_41 : decode cX9_nearest 41 = .ok (.iload_n 3, 1) := by decide +kernel
theorem d_X9_nearest_42 : decode cX9_nearest 42 = .ok (.bipush 8, 2) := by decide +kernel
theorem d_X9_nearest_44 : decode cX9_nearest 44 = .ok (.irem, 1) := by decide +kernel
theorem d_X9_nearest_45 : decode cX9_nearest 45 = .ok (.iload_n 1, 1) := by decide +kernel
theorem d_X9_nearest_46 : decode cX9_nearest 46 = .ok (.isub, 1) := by decide +kernel
theorem d_X9_nearest_47 : decode cX9_nearest 47 = .ok (.invokestatic 274, 3) := by decide +kernel
theorem d_X9_nearest_50 : decode cX9_nearest 50 = .ok (.iload_n 3, 1) := by decide +kernel
theorem d_X9_nearest_51 : decode cX9_nearest 51 = .ok (.bipush 8, 2) := by decide +kernel
theorem d_X9_nearest_53 : decode cX9_nearest 53 = .ok (.idiv, 1) := by decide +kernel
theorem d_X9_nearest_54 : decode cX9_nearest 54 = .ok (.iload_n 2, 1) := by decide +kernel
theorem d_X9_nearest_55 : decode cX9_nearest 55 = .ok (.isub, 1) := by decide +kernel
theorem d_X9_nearest_56 : decode cX9_nearest 56 = .ok (.invokestatic 274, 3) := by decide +kernel
theorem d_X9_nearest_59 : decode cX9_nearest 59 = .ok (.iadd, 1) := by decide +kernel
theorem d_X9_nearest_60 : decode cX9_nearest 60 = .ok (.invokevirtual 279, 3) := by decide +kernel
theorem d_X9_nearest_63 : decode cX9_nearest 63 = .ok (.iinc 3 1, 3) := by decide +kernel
theorem d_X9_nearest_66 : decode cX9_nearest 66 = .ok (.goto (-51), 3) := by decide +kernel
theorem d_X9_nearest_69 : decode cX9_nearest 69 = .ok (.aload_n 0, 1) := by decide +kernel
theorem d_X9_nearest_70 : decode cX9_nearest 70 = .ok (.getfield 51, 3) := by decide +kernel
theorem d_X9_nearest_73 : decode cX9_nearest 73 = .ok (.iconst 0, 1) := by decide +kernel
theorem d_X9_nearest_74 : decode cX9_nearest 74 = .ok (.invokevirtual 263, 3) := by decide +kernel
theorem d_X9_nearest_77 : decode cX9_nearest 77 = .ok (.ireturn, 1) := by decide +kernel
noncomputable def F_X9_nearest_63 (p0 : Int32) (p1 : Int32) (self15 : Int32 → Int32 → Int32 → zMem → Option (Nat × Int32 × zMem)) (b63_L1 : Int32) (b63_L2 : Int32) (b63_L3 : Int32) (M : zMem) : Option (Nat × Int32 × zMem) :=
  self15 b63_L1 b63_L2 (b63_L3 + 1) M
noncomputable def F_X9_nearest_15 (p0 : Int32) (p1 : Int32) (self15 : Int32 → Int32 → Int32 → zMem → Option (Nat × Int32 × zMem)) (b15_L1 : Int32) (b15_L2 : Int32) (b15_L3 : Int32) (M : zMem) : Option (Nat × Int32 × zMem) :=
  if (64 : Int32) ≤ b15_L3 then
    zb (F_X0_placeOrAmount M 172 (0 : Int32)) fun v2 M1 =>
    some (0, v2, M1)
  else
    gin b15_L3 64 <|
    if (M.1 7 b15_L3.toNatClampNeg) ≤ 0 then
      F_X9_nearest_63 p0 p1 self15 b15_L1 b15_L2 b15_L3 M
    else
      zbv (F_X0_offerLeast M 172 b15_L3 ((zabs ((b15_L3 - b15_L3 / (8 : Int32) * (8 : Int32)) - b15_L1)) + (zabs ((b15_L3 / (8 : Int32)) - b15_L2)))) fun M4 =>
      F_X9_nearest_63 p0 p1 self15 b15_L1 b15_L2 b15_L3 M4
noncomputable def F_X9_nearest (M : zMem) (p0 : Int32) (p1 : Int32) : Option (Nat × Int32 × zMem) :=
  zbx (F_X9_needPlace M p0 p1) (g := zxp) fun _ M5 =>
  zbv (F_X0_clear M5 172) fun M10 =>
  itF (fun _ _ _ _ => none) (F_X9_nearest_15 p0 p1) zFuel p0 p1 (0 : Int32) M10
def rm_X9_nearest : Room := { frames := 11, cells := 1, slots := 6, locals := 183 }
set_option maxHeartbeats 4000000 in
set_option maxRecDepth 100000 in
theorem c_X9_nearest (l : Launch) {G : zG} {ad : Nat → Nat} {n : Nat} (hA : zInj ad n) (M : zMem) (p0 : Int32) (p1 : Int32) (hl : l.stackTraces = false) (hT : zT shX n 0 10) {k9 : Nat} {r9 : Int32} {M9 : zMem} (hF : F_X9_nearest M p0 p1 = some (k9, r9, M9)) : zMX l yX9_nearest cX9_nearest 4 (some .int) rm_X9_nearest 1 6 G shX ad n M [.ref (ad 0), .int p0, .int p1] k9 (some (.int r9)) M9 := by
  refine zM_ofX hA (by decide +kernel) (lv := [(0, .ref (ad 0)), (1, .int p0), (2, .int p1)]) (Nat.le_of_ble_eq_true rfl) rfl (fun p e s m args below meth c A cx hr ht => ?_)
  have hb63 : ∀ (self15 : Int32 → Int32 → Int32 → zMem → Option (Nat × Int32 × zMem)) (hs15 : ∀ (b15_L1 : Int32) (b15_L2 : Int32) (b15_L3 : Int32) (M : zMem), self15 b15_L1 b15_L2 b15_L3 M = some (k9, r9, M9) → zJ p l e rm_X9_nearest s m args below meth c G shX ad n A 4 (vx_MQ below (zQX G shX ad n M9 k9 (some (.int r9)) A) (zXC G shX ad n M9 k9 A) args s 1 6 A) 1 6 M 15 [(0, .ref (ad 0)), (1, .int b15_L1), (2, .int b15_L2), (3, .int b15_L3)] []), ∀ (b63_L1 : Int32) (b63_L2 : Int32) (b63_L3 : Int32) (M : zMem), F_X9_nearest_63 p0 p1 self15 b63_L1 b63_L2 b63_L3 M = some (k9, r9, M9) → zJ p l e rm_X9_nearest s m args below meth c G shX ad n A 4 (vx_MQ below (zQX G shX ad n M9 k9 (some (.int r9)) A) (zXC G shX ad n M9 k9 A) args s 1 6 A) 1 6 M 63 [(0, .ref (ad 0)), (1, .int b63_L1), (2, .int b63_L2), (3, .int b63_L3)] [] := by
    intro self15 hs15 b63_L1 b63_L2 b63_L3 M hF
    unfold F_X9_nearest_63 at hF
    refine z_iinc cx 3 1 [(3, .int (b63_L3 + 1)), (0, .ref (ad 0)), (1, .int b63_L1), (2, .int b63_L2)] d_X9_nearest_63 3 rfl ki_1 (by decide) rfl ?_
    refine z_goto cx 15 d_X9_nearest_66 (by decide) ?_
    exact z_lv [1, 2, 3, 0] _ rfl (hs15 b63_L1 b63_L2 (b63_L3 + 1) M hF)
  have hL15 : ∀ (fuel : Nat), ∀ (b15_L1 : Int32) (b15_L2 : Int32) (b15_L3 : Int32) (M : zMem), itF (fun _ _ _ _ => none) (F_X9_nearest_15 p0 p1) fuel b15_L1 b15_L2 b15_L3 M = some (k9, r9, M9) → zJ p l e rm_X9_nearest s m args below meth c G shX ad n A 4 (vx_MQ below (zQX G shX ad n M9 k9 (some (.int r9)) A) (zXC G shX ad n M9 k9 A) args s 1 6 A) 1 6 M 15 [(0, .ref (ad 0)), (1, .int b15_L1), (2, .int b15_L2), (3, .int b15_L3)] [] := by
    intro fuel
    induction fuel with
    | zero => intro b15_L1 b15_L2 b15_L3 M hF; cases hF
    | succ fuel hs15 =>
      intro b15_L1 b15_L2 b15_L3 M hF
      have hF : F_X9_nearest_15 p0 p1 (itF (fun _ _ _ _ => none) (F_X9_nearest_15 p0 p1) fuel) b15_L1 b15_L2 b15_L3 M = some (k9, r9, M9) := hF
      generalize itF (fun _ _ _ _ => none) (F_X9_nearest_15 p0 p1) fuel = self15 at hs15 hF
      unfold F_X9_nearest_15 at hF
      refine z_iload_n cx d_X9_nearest_15 3 rfl ?_
      refine z_bipush (v := 64) cx d_X9_nearest_16 kb_64 ?_
      refine z_icmp_ge cx 69 d_X9_nearest_18 (by decide) hF (fun hF => ?_) (fun hF => ?_)
      · refine z_aload_n cx d_X9_nearest_69 0 rfl ?_
        refine z_getR cx hT fg_SunnyPans_51 172 rfl d_X9_nearest_70 ?_
        refine z_iconst (v := 0) cx d_X9_nearest_73 ki_0 ?_
        obtain ⟨v2, M1, hc, hF⟩ := zb_inv hF
        refine z_callV cx (As := [.int (0 : Int32)]) (rest := []) (c_X0_placeOrAmount l cx.2.2.2.1.1 M 172 (0 : Int32) (tfX_10_172 hT) hc) (tfX_10_172 hT) zo_1 cv_SunnyPans_263 ⟨rfl, rfl, Nat.le_of_ble_eq_true rfl, Nat.le_of_ble_eq_true rfl⟩ rfl rfl ⟨Nat.le_of_ble_eq_true rfl, Nat.le_of_ble_eq_true rfl⟩ (Nat.le_of_ble_eq_true rfl) d_X9_nearest_74 ?_
        exact z_iretX cx hr rfl hF ⟨Nat.le_of_ble_eq_true rfl, Nat.le_of_ble_eq_true rfl⟩ d_X9_nearest_77
      refine z_aload_n cx d_X9_nearest_21 0 rfl ?_
      refine z_getR cx hT fg_SunnyPans_19 3 rfl d_X9_nearest_22 ?_
      refine z_getR cx (tfX_10_3 hT) fg_SunnyPans_159 4 rfl d_X9_nearest_25 ?_
      refine z_getR cx (tfX_8_1 (tfX_10_3 hT)) fg_SunnyPans_184 7 rfl d_X9_nearest_28 ?_
      refine z_iload_n cx d_X9_nearest_31 3 rfl ?_
      obtain ⟨hi3, hF⟩ := gin_inv hF
      refine z_iald cx (tfX_5_3 (tfX_8_1 (tfX_10_3 hT))) za_16 hi3 b15_L3.toNatClampNeg rfl d_X9_nearest_32 ?_
      refine z_if_le cx 63 d_X9_nearest_33 (by decide) hF (fun hF => ?_) (fun hF => ?_)
      · exact hb63 self15 hs15 b15_L1 b15_L2 b15_L3 M hF
      refine z_aload_n cx d_X9_nearest_36 0 rfl ?_
      refine z_getR cx hT fg_SunnyPans_51 172 rfl d_X9_nearest_37 ?_
      refine z_iload_n cx d_X9_nearest_40 3 rfl ?_
      refine z_iload_n cx d_X9_nearest_41 3 rfl ?_
      refine z_bipush (v := 8) cx d_X9_nearest_42 kb_8 ?_
      refine z_irem cx d_X9_nearest_44 (by decide) ?_
      refine z_iload_n cx d_X9_nearest_45 1 rfl ?_
      refine z_isub cx d_X9_nearest_46 ?_
      refine z_mabs cx ⟨wd_1334, wd_1335, wd_116, wd_1336⟩ ⟨Nat.le_of_ble_eq_true rfl, Nat.le_of_ble_eq_true rfl, Nat.le_of_ble_eq_true rfl, Nat.le_of_ble_eq_true rfl⟩ d_X9_nearest_47 ?_
      refine z_iload_n cx d_X9_nearest_50 3 rfl ?_
      refine z_bipush (v := 8) cx d_X9_nearest_51 kb_8 ?_
      refine z_idiv cx d_X9_nearest_53 (by decide) ?_
      refine z_iload_n cx d_X9_nearest_54 2 rfl ?_
      refine z_isub cx d_X9_nearest_55 ?_
      refine z_mabs cx ⟨wd_1334, wd_1335, wd_116, wd_1336⟩ ⟨Nat.le_of_ble_eq_true rfl, Nat.le_of_ble_eq_true rfl, Nat.le_of_ble_eq_true rfl, Nat.le_of_ble_eq_true rfl⟩ d_X9_nearest_56 ?_
      refine z_iadd cx d_X9_nearest_59 ?_
      obtain ⟨M4, hc, hF⟩ := zbv_inv hF
      refine z_callV cx (As := [.int b15_L3, .int ((zabs ((b15_L3 - b15_L3 / (8 : Int32) * (8 : Int32)) - b15_L1)) + (zabs ((b15_L3 / (8 : Int32)) - b15_L2)))]) (rest := []) (c_X0_offerLeast l cx.2.2.2.1.1 M 172 b15_L3 ((zabs ((b15_L3 - b15_L3 / (8 : Int32) * (8 : Int32)) - b15_L1)) + (zabs ((b15_L3 / (8 : Int32)) - b15_L2))) (tfX_10_172 hT) hc) (tfX_10_172 hT) zo_1 cv_SunnyPans_279 ⟨rfl, rfl, Nat.le_of_ble_eq_true rfl, Nat.le_of_ble_eq_true rfl⟩ rfl rfl ⟨Nat.le_of_ble_eq_true rfl, Nat.le_of_ble_eq_true rfl⟩ (Nat.le_of_ble_eq_true rfl) d_X9_nearest_60 ?_
      exact hb63 self15 hs15 b15_L1 b15_L2 b15_L3 M4 hF
  unfold F_X9_nearest at hF
  refine z_aload_n cx d_X9_nearest_0 0 rfl ?_
  refine z_iload_n cx d_X9_nearest_1 1 rfl ?_
  refine z_iload_n cx d_X9_nearest_2 2 rfl ?_
  obtain ⟨k6, v7, M5, hc, hF, hX8⟩ := zbx_inv hF
  refine z_callVX cx ht (As := [.int p0, .int p1]) (rest := []) (c_X9_needPlace l cx.2.2.2.1.1 M p0 p1 hl hT hc) (fun q => zxp_inv (hX8 q)) hT zo_10 cv_SunnyPans_210 ⟨rfl, rfl, Nat.le_of_ble_eq_true rfl, Nat.le_of_ble_eq_true rfl⟩ rfl rfl ⟨Nat.le_of_ble_eq_true rfl, Nat.le_of_ble_eq_true rfl⟩ ⟨Nat.le_of_ble_eq_true rfl, Nat.le_of_ble_eq_true rfl⟩ (Nat.le_of_ble_eq_true rfl) d_X9_nearest_3 (fun kq9 => ?_)
  have hF := hF kq9
  refine z_aload_n cx d_X9_nearest_6 0 rfl ?_
  refine z_getR cx hT fg_SunnyPans_51 172 rfl d_X9_nearest_7 ?_
  obtain ⟨M10, hc, hF⟩ := zbv_inv hF
  refine z_callV cx (As := []) (rest := []) (c_X0_clear l cx.2.2.2.1.1 M5 172 (tfX_10_172 hT) hc) (tfX_10_172 hT) zo_1 cv_SunnyPans_259 ⟨rfl, rfl, Nat.le_of_ble_eq_true rfl, Nat.le_of_ble_eq_true rfl⟩ rfl rfl ⟨Nat.le_of_ble_eq_true rfl, Nat.le_of_ble_eq_true rfl⟩ (Nat.le_of_ble_eq_true rfl) d_X9_nearest_10 ?_
  refine z_iconst (v := 0) cx d_X9_nearest_13 ki_0 ?_
  refine z_istore_n cx 3 [(3, .int (0 : Int32)), (0, .ref (ad 0)), (1, .int p0), (2, .int p1)] d_X9_nearest_14 rfl (by decide) rfl ?_
  exact z_lv [1, 2, 3, 0] _ rfl (hL15 zFuel p0 p1 (0 : Int32) M10 hF)
/-! SunnyPans.poured -/
set_option maxRecDepth 100000 in
theorem wd_1344 : Cond.methodLink "SunnyPans" 282 yX4_canPour ∈ tbG := tw6 44 rfl rfl
theorem cv_SunnyPans_282 : zCV "SunnyPans" 282 "SunnyPans$Pans" yX4_canPour cX4_canPour 3 (some .boolean) 2 := zCV_of wd_1344 wd_905 wd_906 wd_104 wd_907 (by decide +kernel)
theorem d_X9_poured_0 : decode cX9_poured 0 = .ok (.aload_n 0, 1) := by decide +kernel
theorem d_X9_poured_1 : decode cX9_poured 1 = .ok (.iload_n 1, 1) := by decide +kernel
theorem d_X9_poured_2 : decode cX9_poured 2 = .ok (.iload_n 2, 1) := by decide +kernel
theorem d_X9_poured_3 : decode cX9_poured 3 = .ok (.invokevirtual 210, 3) := by decide +kernel
theorem d_X9_poured_6 : decode cX9_poured 6 = .ok (.aload_n 0, 1) := by decide +kernel
theorem d_X9_poured_7 : decode cX9_poured 7 = .ok (.iload_n 3, 1) := by decide +kernel
theorem d_X9_poured_8 : decode cX9_poured 8 = .ok (.iconst 1, 1) := by decide +kernel
theorem d_X9_poured_9 : decode cX9_poured 9 = .ok (.sipush 999, 3) := by decide +kernel
theorem d_X9_poured_12 : decode cX9_poured 12 = .ok (.invokestatic 255, 3) := by decide +kernel
theorem d_X9_poured_15 : decode cX9_poured 15 = .ok (.invokevirtual 155, 3) := by decide +kernel
theorem d_X9_poured_18 : decode cX9_poured 18 = .ok (.aload_n 0, 1) := by decide +kernel
theorem d_X9_poured_19 : decode cX9_poured 19 = .ok (.getfield 19, 3) := by decide +kernel
theorem d_X9_poured_22 : decode cX9_poured 22 = .ok (.getfield 159, 3) := by decide +kernel
theorem d_X9_poured_25 : decode cX9_poured 25 = .ok (.astore 4, 2) := by decide +kernel
theorem d_X9_poured_27 : decode cX9_poured 27 = .ok (.iload_n 1, 1) := by decide +kernel
theorem d_X9_poured_28 : decode cX9_poured 28 = .ok (.iload_n 2, 1) := by decide +kernel
theorem d_X9_poured_29 : decode cX9_poured 29 = .ok (.invokestatic 213, 3) := by decide +kernel
theorem d_X9_poured_32 : decode cX9_poured 32 = .ok (.istore 5, 2) := by decide +kernel
theorem d_X9_poured_34 : decode cX9_poured 34 = .ok (.aload 4, 2) := by decide +kernel
theorem d_X9_poured_36 : decode cX9_poured 36 = .ok (.iload 5, 2) := by decide +kernel
theorem d_X9_poured_38 : decode cX9_poured 38 = .ok (.iload_n 3, 1) := by decide +kernel
theorem d_X9_poured_39 : decode cX9_poured 39 = .ok (.invokevirtual 282, 3) := by decide +kernel
theorem d_X9_poured_42 : decode cX9_poured 42 = .ok (.ifCond .eq 32, 3) := by decide +kernel
theorem d_X9_poured_45 : decode cX9_poured 45 = .ok (.aload 4, 2) := by decide +kernel
theorem d_X9_poured_47 : decode cX9_poured 47 = .ok (.getfield 181, 3) := by decide +kernel
theorem d_X9_poured_50 : decode cX9_poured 50 = .ok (.iload 5, 2) := by decide +kernel
theorem d_X9_poured_52 : decode cX9_poured 52 = .ok (.iaload, 1) := by decide +kernel
theorem d_X9_poured_53 : decode cX9_poured 53 = .ok (.iload_n 3, 1) := by decide +kernel
theorem d_X9_poured_54 : decode cX9_poured 54 = .ok (.bipush 8, 2) := by decide +kernel
theorem d_X9_poured_56 : decode cX9_poured 56 = .ok (.idiv, 1) := by decide +kernel
theorem d_X9_poured_57 : decode cX9_poured 57 = .ok (.iadd, 1) := by decide +kernel
theorem d_X9_poured_58 : decode cX9_poured 58 = .ok (.aload 4, 2) := by decide +kernel
theorem d_X9_poured_60 : decode cX9_poured 60 = .ok (.getfield 174, 3) := by decide +kernel
theorem d_X9_poured_63 : decode cX9_poured 63 = .ok (.iload 5, 2) := by decide +kernel
theorem d_X9_poured_65 : decode cX9_poured 65 = .ok (.iaload, 1) := by decide +kernel
theorem d_X9_poured_66 : decode cX9_poured 66 = .ok (.iload_n 3, 1) := by decide +kernel
theorem d_X9_poured_67 : decode cX9_poured 67 = .ok (.iadd, 1) := by decide +kernel
theorem d_X9_poured_68 : decode cX9_poured 68 = .ok (.invokestatic 217, 3) := by decide +kernel
theorem d_X9_poured_71 : decode cX9_poured 71 = .ok (.goto 4, 3) := by decide +kernel
theorem d_X9_poured_74 : decode cX9_poured 74 = .ok (.iconst (-1), 1) := by decide +kernel
theorem d_X9_poured_75 : decode cX9_poured 75 = .ok (.ireturn, 1) := by decide +kernel
noncomputable def F_X9_poured (M : zMem) (p0 : Int32) (p1 : Int32) (p2 : Int32) : Option (Nat × Int32 × zMem) :=
  zbx (F_X9_needPlace M p0 p1) (g := zxp) fun _ M1 =>
  zb (F_X9_within M1 p2 (1 : Int32) (999 : Int32)) fun v7 M6 =>
  zbx (F_X9_need M6 v7) (g := zxp) fun _ M8 =>
  zb (F_X9_placeOf M8 p0 p1) fun v14 M13 =>
  zb (F_X4_canPour M13 4 v14 p2) fun v16 M15 =>
  if v16 = 0 then
    some (0, (-1 : Int32), M15)
  else
    gin v14 64 <|
    zb (F_X9_strengthOf M15 ((M15.1 6 v14.toNatClampNeg) + (p2 / (8 : Int32))) ((M15.1 5 v14.toNatClampNeg) + p2)) fun v19 M18 =>
    some (0, v19, M18)
def rm_X9_poured : Room := { frames := 11, cells := 2, slots := 12, locals := 183 }
set_option maxHeartbeats 4000000 in
set_option maxRecDepth 100000 in
theorem c_X9_poured (l : Launch) {G : zG} {ad : Nat → Nat} {n : Nat} (hA : zInj ad n) (M : zMem) (p0 : Int32) (p1 : Int32) (p2 : Int32) (hl : l.stackTraces = false) (hT : zT shX n 0 10) {k9 : Nat} {r9 : Int32} {M9 : zMem} (hF : F_X9_poured M p0 p1 p2 = some (k9, r9, M9)) : zMX l yX9_poured cX9_poured 6 (some .int) rm_X9_poured 2 12 G shX ad n M [.ref (ad 0), .int p0, .int p1, .int p2] k9 (some (.int r9)) M9 := by
  refine zM_ofX hA (by decide +kernel) (lv := [(0, .ref (ad 0)), (1, .int p0), (2, .int p1), (3, .int p2)]) (Nat.le_of_ble_eq_true rfl) rfl (fun p e s m args below meth c A cx hr ht => ?_)
  unfold F_X9_poured at hF
  refine z_aload_n cx d_X9_poured_0 0 rfl ?_
  refine z_iload_n cx d_X9_poured_1 1 rfl ?_
  refine z_iload_n cx d_X9_poured_2 2 rfl ?_
  obtain ⟨k2, v3, M1, hc, hF, hX4⟩ := zbx_inv hF
  refine z_callVX cx ht (As := [.int p0, .int p1]) (rest := []) (c_X9_needPlace l cx.2.2.2.1.1 M p0 p1 hl hT hc) (fun q => zxp_inv (hX4 q)) hT zo_10 cv_SunnyPans_210 ⟨rfl, rfl, Nat.le_of_ble_eq_true rfl, Nat.le_of_ble_eq_true rfl⟩ rfl rfl ⟨Nat.le_of_ble_eq_true rfl, Nat.le_of_ble_eq_true rfl⟩ ⟨Nat.le_of_ble_eq_true rfl, Nat.le_of_ble_eq_true rfl⟩ (Nat.le_of_ble_eq_true rfl) d_X9_poured_3 (fun kq5 => ?_)
  have hF := hF kq5
  refine z_aload_n cx d_X9_poured_6 0 rfl ?_
  refine z_iload_n cx d_X9_poured_7 3 rfl ?_
  refine z_iconst (v := 1) cx d_X9_poured_8 ki_1 ?_
  refine z_sipush (v := 999) cx d_X9_poured_9 ks_999 ?_
  obtain ⟨v7, M6, hc, hF⟩ := zb_inv hF
  refine z_callS cx (As := [.int p2, .int (1 : Int32), .int (999 : Int32)]) (rest := [.ref (ad 0)]) (c_X9_within l cx.2.2.2.1.1 M1 p2 (1 : Int32) (999 : Int32)  hc) cs_SunnyPans_255 ⟨rfl, rfl, Nat.le_of_ble_eq_true rfl, Nat.le_of_ble_eq_true rfl⟩ rfl rfl ⟨Nat.le_of_ble_eq_true rfl, Nat.le_of_ble_eq_true rfl⟩ (Nat.le_of_ble_eq_true rfl) d_X9_poured_12 ?_
  obtain ⟨k9, v10, M8, hc, hF, hX11⟩ := zbx_inv hF
  refine z_callVX cx ht (As := [.int v7]) (rest := []) (c_X9_need l cx.2.2.2.1.1 M6 v7 hl hT hc) (fun q => zxp_inv (hX11 q)) hT zo_10 cv_SunnyPans_155 ⟨rfl, rfl, Nat.le_of_ble_eq_true rfl, Nat.le_of_ble_eq_true rfl⟩ rfl rfl ⟨Nat.le_of_ble_eq_true rfl, Nat.le_of_ble_eq_true rfl⟩ ⟨Nat.le_of_ble_eq_true rfl, Nat.le_of_ble_eq_true rfl⟩ (Nat.le_of_ble_eq_true rfl) d_X9_poured_15 (fun kq12 => ?_)
  have hF := hF kq12
  refine z_aload_n cx d_X9_poured_18 0 rfl ?_
  refine z_getR cx hT fg_SunnyPans_19 3 rfl d_X9_poured_19 ?_
  refine z_getR cx (tfX_10_3 hT) fg_SunnyPans_159 4 rfl d_X9_poured_22 ?_
  refine z_astore cx 4 [(4, .ref (ad 4)), (0, .ref (ad 0)), (1, .int p0), (2, .int p1), (3, .int p2)] d_X9_poured_25 (by decide) rfl ?_
  refine z_iload_n cx d_X9_poured_27 2 rfl ?_
  refine z_iload_n cx d_X9_poured_28 3 rfl ?_
  obtain ⟨v14, M13, hc, hF⟩ := zb_inv hF
  refine z_callS cx (As := [.int p0, .int p1]) (rest := []) (c_X9_placeOf l cx.2.2.2.1.1 M8 p0 p1  hc) cs_SunnyPans_213 ⟨rfl, rfl, Nat.le_of_ble_eq_true rfl, Nat.le_of_ble_eq_true rfl⟩ rfl rfl ⟨Nat.le_of_ble_eq_true rfl, Nat.le_of_ble_eq_true rfl⟩ (Nat.le_of_ble_eq_true rfl) d_X9_poured_29 ?_
  refine z_istore cx 5 [(5, .int v14), (4, .ref (ad 4)), (0, .ref (ad 0)), (1, .int p0), (2, .int p1), (3, .int p2)] d_X9_poured_32 (by decide) rfl ?_
  refine z_aload cx d_X9_poured_34 1 rfl ?_
  refine z_iload cx d_X9_poured_36 0 rfl ?_
  refine z_iload_n cx d_X9_poured_38 5 rfl ?_
  obtain ⟨v16, M15, hc, hF⟩ := zb_inv hF
  refine z_callV cx (As := [.int v14, .int p2]) (rest := []) (c_X4_canPour l cx.2.2.2.1.1 M13 4 v14 p2 (tfX_8_1 (tfX_10_3 hT)) hc) (tfX_8_1 (tfX_10_3 hT)) zo_5 cv_SunnyPans_282 ⟨rfl, rfl, Nat.le_of_ble_eq_true rfl, Nat.le_of_ble_eq_true rfl⟩ rfl rfl ⟨Nat.le_of_ble_eq_true rfl, Nat.le_of_ble_eq_true rfl⟩ (Nat.le_of_ble_eq_true rfl) d_X9_poured_39 ?_
  refine z_if_eq cx 74 d_X9_poured_42 (by decide) hF (fun hF => ?_) (fun hF => ?_)
  · refine z_iconst (v := -1) cx d_X9_poured_74 ki_m1 ?_
    exact z_iretX cx hr rfl hF ⟨Nat.le_of_ble_eq_true rfl, Nat.le_of_ble_eq_true rfl⟩ d_X9_poured_75
  refine z_aload cx d_X9_poured_45 1 rfl ?_
  refine z_getR cx (tfX_8_1 (tfX_10_3 hT)) fg_SunnyPans_181 6 rfl d_X9_poured_47 ?_
  refine z_iload cx d_X9_poured_50 0 rfl ?_
  obtain ⟨hi17, hF⟩ := gin_inv hF
  refine z_iald cx (tfX_5_2 (tfX_8_1 (tfX_10_3 hT))) za_16 hi17 v14.toNatClampNeg rfl d_X9_poured_52 ?_
  refine z_iload_n cx d_X9_poured_53 5 rfl ?_
  refine z_bipush (v := 8) cx d_X9_poured_54 kb_8 ?_
  refine z_idiv cx d_X9_poured_56 (by decide) ?_
  refine z_iadd cx d_X9_poured_57 ?_
  refine z_aload cx d_X9_poured_58 1 rfl ?_
  refine z_getR cx (tfX_8_1 (tfX_10_3 hT)) fg_SunnyPans_174 5 rfl d_X9_poured_60 ?_
  refine z_iload cx d_X9_poured_63 0 rfl ?_
  refine z_iald cx (tfX_5_1 (tfX_8_1 (tfX_10_3 hT))) za_16 hi17 v14.toNatClampNeg rfl d_X9_poured_65 ?_
  refine z_iload_n cx d_X9_poured_66 5 rfl ?_
  refine z_iadd cx d_X9_poured_67 ?_
  obtain ⟨v19, M18, hc, hF⟩ := zb_inv hF
  refine z_callS cx (As := [.int ((M15.1 6 v14.toNatClampNeg) + (p2 / (8 : Int32))), .int ((M15.1 5 v14.toNatClampNeg) + p2)]) (rest := []) (c_X9_strengthOf l cx.2.2.2.1.1 M15 ((M15.1 6 v14.toNatClampNeg) + (p2 / (8 : Int32))) ((M15.1 5 v14.toNatClampNeg) + p2)  hc) cs_SunnyPans_217 ⟨rfl, rfl, Nat.le_of_ble_eq_true rfl, Nat.le_of_ble_eq_true rfl⟩ rfl rfl ⟨Nat.le_of_ble_eq_true rfl, Nat.le_of_ble_eq_true rfl⟩ (Nat.le_of_ble_eq_true rfl) d_X9_poured_68 ?_
  refine z_goto cx 75 d_X9_poured_71 (by decide) ?_
  exact z_iretX cx hr rfl hF ⟨Nat.le_of_ble_eq_true rfl, Nat.le_of_ble_eq_true rfl⟩ d_X9_poured_75
