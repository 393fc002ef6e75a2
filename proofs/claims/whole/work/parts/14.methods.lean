/-! SunnyPansModel.heaps -/
theorem d_X10_heaps_0 : decode cX10_heaps 0 = .ok (.iconst 0, 1) := by decide +kernel
theorem d_X10_heaps_1 : decode cX10_heaps 1 = .ok (.istore_n 1, 1) := by decide +kernel
theorem d_X10_heaps_2 : decode cX10_heaps 2 = .ok (.iconst 0, 1) := by decide +kernel
theorem d_X10_heaps_3 : decode cX10_heaps 3 = .ok (.istore_n 2, 1) := by decide +kernel
theorem d_X10_heaps_4 : decode cX10_heaps 4 = .ok (.iload_n 2, 1) := by decide +kernel
theorem d_X10_heaps_5 : decode cX10_heaps 5 = .ok (.bipush 64, 2) := by decide +kernel
theorem d_X10_heaps_7 : decode cX10_heaps 7 = .ok (.if_icmp .ge 30, 3) := by decide +kernel
theorem d_X10_heaps_10 : decode cX10_heaps 10 = .ok (.iload_n 1, 1) := by decide +kernel
theorem d_X10_heaps_11 : decode cX10_heaps 11 = .ok (.aload_n 0, 1) := by decide +kernel
theorem d_X10_heaps_12 : decode cX10_heaps 12 = .ok (.getfield 58, 3) := by decide +kernel
theorem d_X10_heaps_15 : decode cX10_heaps 15 = .ok (.sipush 128, 3) := by decide +kernel
theorem d_X10_heaps_18 : decode cX10_heaps 18 = .ok (.iload_n 2, 1) := by decide +kernel
theorem d_X10_heaps_19 : decode cX10_heaps 19 = .ok (.iadd, 1) := by decide +kernel
theorem d_X10_heaps_20 : decode cX10_heaps 20 = .ok (.iaload, 1) := by decide +kernel
theorem d_X10_heaps_21 : decode cX10_heaps 21 = .ok (.ifCond .le 7, 3) := by decide +kernel
theorem d_X10_heaps_24 : decode cX10_heaps 24 = .ok (.iconst 1, 1) := by decide +kernel
theorem d_X10_heaps_25 : decode cX10_heaps 25 = .ok (.goto 4, 3) := by decide +kernel
theorem d_X10_heaps_28 : decode cX10_heaps 28 = .ok (.iconst 0, 1) := by decide +kernel
theorem d_X10_heaps_29 : decode cX10_heaps 29 = .ok (.iadd, 1) := by decide +kernel
theorem d_X10_heaps_30 : decode cX10_heaps 30 = .ok (.istore_n 1, 1) := by decide +kernel
theorem d_X10_heaps_31 : decode cX10_heaps 31 = .ok (.iinc 2 1, 3) := by decide +kernel
theorem d_X10_heaps_34 : decode cX10_heaps 34 = .ok (.goto (-30), 3) := by decide +kernel
theorem d_X10_heaps_37 : decode cX10_heaps 37 = .ok (.iload_n 1, 1) := by decide +kernel
theorem d_X10_heaps_38 : decode cX10_heaps 38 = .ok (.ireturn, 1) := by decide +kernel
def F_X10_heaps_29 (self4 : Int32 → Int32 → zMem → Option (Int32 × zMem)) (b29_L2 : Int32) (b29_S0 : Int32) (b29_S1 : Int32) (M : zMem) : Option (Int32 × zMem) :=
  zl (b29_S0 + b29_S1) fun v1 =>
  self4 v1 (b29_L2 + 1) M
def F_X10_heaps_4 (self4 : Int32 → Int32 → zMem → Option (Int32 × zMem)) (b4_L1 : Int32) (b4_L2 : Int32) (M : zMem) : Option (Int32 × zMem) :=
  if (64 : Int32) ≤ b4_L2 then
    some (b4_L1, M)
  else
    gin ((128 : Int32) + b4_L2) 195 <|
    if (M.1 451 ((128 : Int32) + b4_L2).toNatClampNeg) ≤ 0 then
      F_X10_heaps_29 self4 b4_L2 b4_L1 (0 : Int32) M
    else
      F_X10_heaps_29 self4 b4_L2 b4_L1 (1 : Int32) M
def F_X10_heaps (M : zMem)  : Option (Int32 × zMem) :=
  itF (fun _ _ _ => none) (F_X10_heaps_4) zFuel (0 : Int32) (0 : Int32) M
def rm_X10_heaps : Room := { frames := 2, cells := 0, slots := 0, locals := 80 }
set_option maxHeartbeats 4000000 in
set_option maxRecDepth 100000 in
theorem c_X10_heaps (l : Launch) {G : zG} {ad : Nat → Nat} {n : Nat} (hA : zInj ad n) (M : zMem)  (hT : zT shM n 0 11) {r9 : Int32} {M9 : zMem} (hF : F_X10_heaps M  = some (r9, M9)) : zM l yX10_heaps cX10_heaps 3 (some .int) rm_X10_heaps G shM ad n M [.ref (ad 0)] (some (.int r9)) M9 := by
  refine zM_of hA (by decide +kernel) (lv := [(0, .ref (ad 0))]) (Nat.le_of_ble_eq_true rfl) rfl (fun p e s m args below meth c A cx hr => ?_)
  have hb29 : ∀ (self4 : Int32 → Int32 → zMem → Option (Int32 × zMem)) (hs4 : ∀ (b4_L1 : Int32) (b4_L2 : Int32) (M : zMem), self4 b4_L1 b4_L2 M = some (r9, M9) → zJ p l e rm_X10_heaps s m args below meth c G shM ad n A 3 (MQ below (zQ G shM ad n M9 (some (.int r9)) A) args s 0 0 A) 0 0 M 4 [(0, .ref (ad 0)), (1, .int b4_L1), (2, .int b4_L2)] []), ∀ (b29_L2 : Int32) (b29_S0 : Int32) (b29_S1 : Int32) (M : zMem), F_X10_heaps_29 self4 b29_L2 b29_S0 b29_S1 M = some (r9, M9) → zJ p l e rm_X10_heaps s m args below meth c G shM ad n A 3 (MQ below (zQ G shM ad n M9 (some (.int r9)) A) args s 0 0 A) 0 0 M 29 [(0, .ref (ad 0)), (2, .int b29_L2)] [.int b29_S1, .int b29_S0] := by
    intro self4 hs4 b29_L2 b29_S0 b29_S1 M hF
    unfold F_X10_heaps_29 at hF
    refine z_iadd cx d_X10_heaps_29 ?_
    refine z_nm hF (fun v1 hF => ?_)
    refine z_istore_n cx 1 [(1, .int v1), (0, .ref (ad 0)), (2, .int b29_L2)] d_X10_heaps_30 rfl (by decide) rfl ?_
    refine z_iinc cx 2 1 [(2, .int (b29_L2 + 1)), (1, .int v1), (0, .ref (ad 0))] d_X10_heaps_31 2 rfl ki_1 (by decide) rfl ?_
    refine z_goto cx 4 d_X10_heaps_34 (by decide) ?_
    exact z_lv [2, 1, 0] _ rfl (hs4 v1 (b29_L2 + 1) M hF)
  have hL4 : ∀ (fuel : Nat), ∀ (b4_L1 : Int32) (b4_L2 : Int32) (M : zMem), itF (fun _ _ _ => none) (F_X10_heaps_4) fuel b4_L1 b4_L2 M = some (r9, M9) → zJ p l e rm_X10_heaps s m args below meth c G shM ad n A 3 (MQ below (zQ G shM ad n M9 (some (.int r9)) A) args s 0 0 A) 0 0 M 4 [(0, .ref (ad 0)), (1, .int b4_L1), (2, .int b4_L2)] [] := by
    intro fuel
    induction fuel with
    | zero => intro b4_L1 b4_L2 M hF; cases hF
    | succ fuel hs4 =>
      intro b4_L1 b4_L2 M hF
      have hF : F_X10_heaps_4 (itF (fun _ _ _ => none) (F_X10_heaps_4) fuel) b4_L1 b4_L2 M = some (r9, M9) := hF
      generalize itF (fun _ _ _ => none) (F_X10_heaps_4) fuel = self4 at hs4 hF
      unfold F_X10_heaps_4 at hF
      refine z_iload_n cx d_X10_heaps_4 2 rfl ?_
      refine z_bipush (v := 64) cx d_X10_heaps_5 kb_64 ?_
      refine z_icmp_ge cx 37 d_X10_heaps_7 (by decide) hF (fun hF => ?_) (fun hF => ?_)
      · refine z_iload_n cx d_X10_heaps_37 1 rfl ?_
        exact z_iret cx hr rfl hF d_X10_heaps_38
      refine z_iload_n cx d_X10_heaps_10 1 rfl ?_
      refine z_aload_n cx d_X10_heaps_11 0 rfl ?_
      refine z_getR cx hT fg_SunnyPansModel_58 451 rfl d_X10_heaps_12 ?_
      refine z_sipush (v := 128) cx d_X10_heaps_15 ks_128 ?_
      refine z_iload_n cx d_X10_heaps_18 2 rfl ?_
      refine z_iadd cx d_X10_heaps_19 ?_
      obtain ⟨hi2, hF⟩ := gin_inv hF
      refine z_iald cx (tfM_11_451 hT) za_36 hi2 (((128 : Int32) + b4_L2).toNatClampNeg) rfl d_X10_heaps_20 ?_
      refine z_if_le cx 28 d_X10_heaps_21 (by decide) hF (fun hF => ?_) (fun hF => ?_)
      · refine z_iconst (v := 0) cx d_X10_heaps_28 ki_0 ?_
        exact z_lv [0, 2] _ rfl (hb29 self4 hs4 b4_L2 b4_L1 (0 : Int32) M hF)
      refine z_iconst (v := 1) cx d_X10_heaps_24 ki_1 ?_
      refine z_goto cx 29 d_X10_heaps_25 (by decide) ?_
      exact z_lv [0, 2] _ rfl (hb29 self4 hs4 b4_L2 b4_L1 (1 : Int32) M hF)
  unfold F_X10_heaps at hF
  refine z_iconst (v := 0) cx d_X10_heaps_0 ki_0 ?_
  refine z_istore_n cx 1 [(1, .int (0 : Int32)), (0, .ref (ad 0))] d_X10_heaps_1 rfl (by decide) rfl ?_
  refine z_iconst (v := 0) cx d_X10_heaps_2 ki_0 ?_
  refine z_istore_n cx 2 [(2, .int (0 : Int32)), (1, .int (0 : Int32)), (0, .ref (ad 0))] d_X10_heaps_3 rfl (by decide) rfl ?_
  exact z_lv [2, 1, 0] _ rfl (hL4 zFuel (0 : Int32) (0 : Int32) M hF)
/-! SunnyPansModel.told -/
theorem d_X10_told_0 : decode cX10_told 0 = .ok (.aload_n 0, 1) := by decide +kernel
theorem d_X10_told_1 : decode cX10_told 1 = .ok (.iconst 0, 1) := by decide +kernel
theorem d_X10_told_2 : decode cX10_told 2 = .ok (.putfield 82, 3) := by decide +kernel
theorem d_X10_told_5 : decode cX10_told 5 = .ok (.aload_n 0, 1) := by decide +kernel
theorem d_X10_told_6 : decode cX10_told 6 = .ok (.iload_n 1, 1) := by decide +kernel
theorem d_X10_told_7 : decode cX10_told 7 = .ok (.iconst 0, 1) := by decide +kernel
theorem d_X10_told_8 : decode cX10_told 8 = .ok (.bipush 12, 2) := by decide +kernel
theorem d_X10_told_10 : decode cX10_told 10 = .ok (.invokestatic 116, 3) := by decide +kernel
theorem d_X10_told_13 : decode cX10_told 13 = .ok (.ifCond .ne 7, 3) := by decide +kernel
theorem d_X10_told_16 : decode cX10_told 16 = .ok (.iconst 1, 1) := by decide +kernel
theorem d_X10_told_17 : decode cX10_told 17 = .ok (.goto 4, 3) := by decide +kernel
theorem d_X10_told_20 : decode cX10_told 20 = .ok (.iconst 0, 1) := by decide +kernel
theorem d_X10_told_21 : decode cX10_told 21 = .ok (.iconst 1, 1) := by decide +kernel
theorem d_X10_told_22 : decode cX10_told 22 = .ok (.iconst 1, 1) := by decide +kernel
theorem d_X10_told_23 : decode cX10_told 23 = .ok (.invokevirtual 155, 3) := by decide +kernel
theorem d_X10_told_26 : decode cX10_told 26 = .ok (.ifCond .eq 5, 3) := by decide +kernel
theorem d_X10_told_29 : decode cX10_told 29 = .ok (.iconst 0, 1) := by decide +kernel
theorem d_X10_told_30 : decode cX10_told 30 = .ok (.ireturn, 1) := by decide +kernel
theorem d_X10_told_31 : decode cX10_told 31 = .ok (.iload_n 1, 1) := by decide +kernel
theorem d_X10_told_32 : decode cX10_told 32 = .ok (.tableswitch 156 0 11 #[64, 64, 64, 71, 80, 102, 111, 121, 132, 141, 146, 151], 64) := by decide +kernel
theorem d_X10_told_96 : decode cX10_told 96 = .ok (.aload_n 0, 1) := by decide +kernel
theorem d_X10_told_97 : decode cX10_told 97 = .ok (.getfield 23, 3) := by decide +kernel
theorem d_X10_told_100 : decode cX10_told 100 = .ok (.iload_n 1, 1) := by decide +kernel
theorem d_X10_told_101 : decode cX10_told 101 = .ok (.iaload, 1) := by decide +kernel
theorem d_X10_told_102 : decode cX10_told 102 = .ok (.ireturn, 1) := by decide +kernel
theorem d_X10_told_103 : decode cX10_told 103 = .ok (.aload_n 0, 1) := by decide +kernel
theorem d_X10_told_104 : decode cX10_told 104 = .ok (.getfield 58, 3) := by decide +kernel
theorem d_X10_told_107 : decode cX10_told 107 = .ok (.sipush 192, 3) := by decide +kernel
theorem d_X10_told_110 : decode cX10_told 110 = .ok (.iaload, 1) := by decide +kernel
theorem d_X10_told_111 : decode cX10_told 111 = .ok (.ireturn, 1) := by decide +kernel
theorem d_X10_told_112 : decode cX10_told 112 = .ok (.aload_n 0, 1) := by decide +kernel
theorem d_X10_told_113 : decode cX10_told 113 = .ok (.getfield 23, 3) := by decide +kernel
theorem d_X10_told_116 : decode cX10_told 116 = .ok (.iconst 2, 1) := by decide +kernel
theorem d_X10_told_117 : decode cX10_told 117 = .ok (.iaload, 1) := by decide +kernel
theorem d_X10_told_118 : decode cX10_told 118 = .ok (.ifCond .ne 7, 3) := by decide +kernel
theorem d_X10_told_121 : decode cX10_told 121 = .ok (.iconst (-1), 1) := by decide +kernel
theorem d_X10_told_122 : decode cX10_told 122 = .ok (.goto 11, 3) := by decide +kernel
theorem d_X10_told_125 : decode cX10_told 125 = .ok (.aload_n 0, 1) := by decide +kernel
theorem d_X10_told_126 : decode cX10_told 126 = .ok (.getfield 58, 3) := by decide +kernel
theorem d_X10_told_129 : decode cX10_told 129 = .ok (.sipush 193, 3) := by decide +kernel
theorem d_X10_told_132 : decode cX10_told 132 = .ok (.iaload, 1) := by decide +kernel
theorem d_X10_told_133 : decode cX10_told 133 = .ok (.ireturn, 1) := by decide +kernel
theorem d_X10_told_134 : decode cX10_told 134 = .ok (.aload_n 0, 1) := by decide +kernel
theorem d_X10_told_135 : decode cX10_told 135 = .ok (.getfield 58, 3) := by decide +kernel
theorem d_X10_told_138 : decode cX10_told 138 = .ok (.iconst 0, 1) := by decide +kernel
theorem d_X10_told_139 : decode cX10_told 139 = .ok (.invokestatic 319, 3) := by decide +kernel
theorem d_X10_told_142 : decode cX10_told 142 = .ok (.ireturn, 1) := by decide +kernel
theorem d_X10_told_143 : decode cX10_told 143 = .ok (.aload_n 0, 1) := by decide +kernel
theorem d_X10_told_144 : decode cX10_told 144 = .ok (.getfield 58, 3) := by decide +kernel
theorem d_X10_told_147 : decode cX10_told 147 = .ok (.bipush 64, 2) := by decide +kernel
theorem d_X10_told_149 : decode cX10_told 149 = .ok (.invokestatic 319, 3) := by decide +kernel
theorem d_X10_told_152 : decode cX10_told 152 = .ok (.ireturn, 1) := by decide +kernel
theorem d_X10_told_153 : decode cX10_told 153 = .ok (.aload_n 0, 1) := by decide +kernel
theorem d_X10_told_154 : decode cX10_told 154 = .ok (.getfield 58, 3) := by decide +kernel
theorem d_X10_told_157 : decode cX10_told 157 = .ok (.sipush 128, 3) := by decide +kernel
theorem d_X10_told_160 : decode cX10_told 160 = .ok (.invokestatic 319, 3) := by decide +kernel
theorem d_X10_told_163 : decode cX10_told 163 = .ok (.ireturn, 1) := by decide +kernel
theorem d_X10_told_164 : decode cX10_told 164 = .ok (.aload_n 0, 1) := by decide +kernel
theorem d_X10_told_165 : decode cX10_told 165 = .ok (.getfield 58, 3) := by decide +kernel
theorem d_X10_told_168 : decode cX10_told 168 = .ok (.sipush 194, 3) := by decide +kernel
theorem d_X10_told_171 : decode cX10_told 171 = .ok (.iaload, 1) := by decide +kernel
theorem d_X10_told_172 : decode cX10_told 172 = .ok (.ireturn, 1) := by decide +kernel
theorem d_X10_told_173 : decode cX10_told 173 = .ok (.aload_n 0, 1) := by decide +kernel
theorem d_X10_told_174 : decode cX10_told 174 = .ok (.getfield 175, 3) := by decide +kernel
theorem d_X10_told_177 : decode cX10_told 177 = .ok (.ireturn, 1) := by decide +kernel
theorem d_X10_told_178 : decode cX10_told 178 = .ok (.aload_n 0, 1) := by decide +kernel
theorem d_X10_told_179 : decode cX10_told 179 = .ok (.getfield 181, 3) := by decide +kernel
theorem d_X10_told_182 : decode cX10_told 182 = .ok (.ireturn, 1) := by decide +kernel
theorem d_X10_told_183 : decode cX10_told 183 = .ok (.aload_n 0, 1) := by decide +kernel
theorem d_X10_told_184 : decode cX10_told 184 = .ok (.invokevirtual 323, 3) := by decide +kernel
theorem d_X10_told_187 : decode cX10_told 187 = .ok (.ireturn, 1) := by decide +kernel
theorem d_X10_told_188 : decode cX10_told 188 = .ok (.aload_n 0, 1) := by decide +kernel
theorem d_X10_told_189 : decode cX10_told 189 = .ok (.aload_n 0, 1) := by decide +kernel
theorem d_X10_told_190 : decode cX10_told 190 = .ok (.getfield 58, 3) := by decide +kernel
theorem d_X10_told_193 : decode cX10_told 193 = .ok (.iconst 1, 1) := by decide +kernel
theorem d_X10_told_194 : decode cX10_told 194 = .ok (.invokevirtual 326, 3) := by decide +kernel
theorem d_X10_told_197 : decode cX10_told 197 = .ok (.ireturn, 1) := by decide +kernel
def F_X10_told_188 (p0 : Int32) (M : zMem) : Option (Int32 × zMem) :=
  zb (F_X10_dryOnes M 451 (1 : Int32)) fun v2 M1 =>
  some (v2, M1)
def F_X10_told_183 (p0 : Int32) (M : zMem) : Option (Int32 × zMem) :=
  zb (F_X10_heaps M) fun v4 M3 =>
  some (v4, M3)
def F_X10_told_178 (p0 : Int32) (M : zMem) : Option (Int32 × zMem) :=
  some ((M.1 0 32), M)
def F_X10_told_173 (p0 : Int32) (M : zMem) : Option (Int32 × zMem) :=
  some ((M.1 0 30), M)
def F_X10_told_164 (p0 : Int32) (M : zMem) : Option (Int32 × zMem) :=
  some ((M.1 451 194), M)
def F_X10_told_153 (p0 : Int32) (M : zMem) : Option (Int32 × zMem) :=
  zb (F_X10_together M 451 (128 : Int32)) fun v6 M5 =>
  some (v6, M5)
def F_X10_told_143 (p0 : Int32) (M : zMem) : Option (Int32 × zMem) :=
  zb (F_X10_together M 451 (64 : Int32)) fun v8 M7 =>
  some (v8, M7)
def F_X10_told_134 (p0 : Int32) (M : zMem) : Option (Int32 × zMem) :=
  zb (F_X10_together M 451 (0 : Int32)) fun v10 M9 =>
  some (v10, M9)
def F_X10_told_112 (p0 : Int32) (M : zMem) : Option (Int32 × zMem) :=
  if (M.1 4 2) = 0 then
    some ((-1 : Int32), M)
  else
    some ((M.1 451 193), M)
def F_X10_told_103 (p0 : Int32) (M : zMem) : Option (Int32 × zMem) :=
  some ((M.1 451 192), M)
def F_X10_told_96 (p0 : Int32) (b96_L1 : Int32) (M : zMem) : Option (Int32 × zMem) :=
  gin b96_L1 3 <|
  some ((M.1 4 b96_L1.toNatClampNeg), M)
def F_X10_told_21 (p0 : Int32) (b21_L1 : Int32) (b21_S1 : Int32) (M : zMem) : Option (Int32 × zMem) :=
  zb (F_X10_bad M b21_S1 (1 : Int32) (1 : Int32)) fun v13 M12 =>
  if v13 = 0 then
    if b21_L1 = 0 then
      F_X10_told_96 p0 b21_L1 M12
    else
    if b21_L1 = 1 then
      F_X10_told_96 p0 b21_L1 M12
    else
    if b21_L1 = 2 then
      F_X10_told_96 p0 b21_L1 M12
    else
    if b21_L1 = 3 then
      F_X10_told_103 p0 M12
    else
    if b21_L1 = 4 then
      F_X10_told_112 p0 M12
    else
    if b21_L1 = 5 then
      F_X10_told_134 p0 M12
    else
    if b21_L1 = 6 then
      F_X10_told_143 p0 M12
    else
    if b21_L1 = 7 then
      F_X10_told_153 p0 M12
    else
    if b21_L1 = 8 then
      F_X10_told_164 p0 M12
    else
    if b21_L1 = 9 then
      F_X10_told_173 p0 M12
    else
    if b21_L1 = 10 then
      F_X10_told_178 p0 M12
    else
    if b21_L1 = 11 then
      F_X10_told_183 p0 M12
    else
    F_X10_told_188 p0 M12
  else
    some ((0 : Int32), M12)
def F_X10_told (M : zMem) (p0 : Int32) : Option (Int32 × zMem) :=
  zl (zI M 0 0 (0 : Int32)) fun M14 =>
  zb (F_X10_in M14 p0 (0 : Int32) (12 : Int32)) fun v16 M15 =>
  if v16 = 0 then
    F_X10_told_21 p0 p0 (1 : Int32) M15
  else
    F_X10_told_21 p0 p0 (0 : Int32) M15
def rm_X10_told : Room := { frames := 6, cells := 0, slots := 0, locals := 169 }
set_option maxHeartbeats 4000000 in
set_option maxRecDepth 100000 in
theorem c_X10_told (l : Launch) {G : zG} {ad : Nat → Nat} {n : Nat} (hA : zInj ad n) (M : zMem) (p0 : Int32) (hT : zT shM n 0 11) {r9 : Int32} {M9 : zMem} (hF : F_X10_told M p0 = some (r9, M9)) : zM l yX10_told cX10_told 2 (some .int) rm_X10_told G shM ad n M [.ref (ad 0), .int p0] (some (.int r9)) M9 := by
  refine zM_of hA (by decide +kernel) (lv := [(0, .ref (ad 0)), (1, .int p0)]) (Nat.le_of_ble_eq_true rfl) rfl (fun p e s m args below meth c A cx hr => ?_)
  have hb188 : ∀ (M : zMem), F_X10_told_188 p0 M = some (r9, M9) → zJ p l e rm_X10_told s m args below meth c G shM ad n A 2 (MQ below (zQ G shM ad n M9 (some (.int r9)) A) args s 0 0 A) 0 0 M 188 [(0, .ref (ad 0))] [] := by
    intro M hF
    unfold F_X10_told_188 at hF
    refine z_aload_n cx d_X10_told_188 0 rfl ?_
    refine z_aload_n cx d_X10_told_189 0 rfl ?_
    refine z_getR cx hT fg_SunnyPansModel_58 451 rfl d_X10_told_190 ?_
    refine z_iconst (v := 1) cx d_X10_told_193 ki_1 ?_
    obtain ⟨v2, M1, hc, hF⟩ := zb_inv hF
    refine z_callV cx (As := [.ref (ad 451), .int (1 : Int32)]) (rest := []) (c_X10_dryOnes l cx.2.2.2.1.1 M 451 (1 : Int32) hT (tfM_11_451 hT) hc) hT zo_11 cv_SunnyPansModel_326 ⟨rfl, rfl, Nat.le_of_ble_eq_true rfl, Nat.le_of_ble_eq_true rfl⟩ rfl rfl ⟨Nat.zero_le _, Nat.zero_le _⟩ (Nat.le_of_ble_eq_true rfl) d_X10_told_194 ?_
    exact z_iret cx hr rfl hF d_X10_told_197
  have hb183 : ∀ (M : zMem), F_X10_told_183 p0 M = some (r9, M9) → zJ p l e rm_X10_told s m args below meth c G shM ad n A 2 (MQ below (zQ G shM ad n M9 (some (.int r9)) A) args s 0 0 A) 0 0 M 183 [(0, .ref (ad 0))] [] := by
    intro M hF
    unfold F_X10_told_183 at hF
    refine z_aload_n cx d_X10_told_183 0 rfl ?_
    obtain ⟨v4, M3, hc, hF⟩ := zb_inv hF
    refine z_callV cx (As := []) (rest := []) (c_X10_heaps l cx.2.2.2.1.1 M hT hc) hT zo_11 cv_SunnyPansModel_323 ⟨rfl, rfl, Nat.le_of_ble_eq_true rfl, Nat.le_of_ble_eq_true rfl⟩ rfl rfl ⟨Nat.zero_le _, Nat.zero_le _⟩ (Nat.le_of_ble_eq_true rfl) d_X10_told_184 ?_
    exact z_iret cx hr rfl hF d_X10_told_187
  have hb178 : ∀ (M : zMem), F_X10_told_178 p0 M = some (r9, M9) → zJ p l e rm_X10_told s m args below meth c G shM ad n A 2 (MQ below (zQ G shM ad n M9 (some (.int r9)) A) args s 0 0 A) 0 0 M 178 [(0, .ref (ad 0))] [] := by
    intro M hF
    unfold F_X10_told_178 at hF
    refine z_aload_n cx d_X10_told_178 0 rfl ?_
    refine z_getI cx hT fg_SunnyPansModel_181 d_X10_told_179 ?_
    exact z_iret cx hr rfl hF d_X10_told_182
  have hb173 : ∀ (M : zMem), F_X10_told_173 p0 M = some (r9, M9) → zJ p l e rm_X10_told s m args below meth c G shM ad n A 2 (MQ below (zQ G shM ad n M9 (some (.int r9)) A) args s 0 0 A) 0 0 M 173 [(0, .ref (ad 0))] [] := by
    intro M hF
    unfold F_X10_told_173 at hF
    refine z_aload_n cx d_X10_told_173 0 rfl ?_
    refine z_getI cx hT fg_SunnyPansModel_175 d_X10_told_174 ?_
    exact z_iret cx hr rfl hF d_X10_told_177
  have hb164 : ∀ (M : zMem), F_X10_told_164 p0 M = some (r9, M9) → zJ p l e rm_X10_told s m args below meth c G shM ad n A 2 (MQ below (zQ G shM ad n M9 (some (.int r9)) A) args s 0 0 A) 0 0 M 164 [(0, .ref (ad 0))] [] := by
    intro M hF
    unfold F_X10_told_164 at hF
    refine z_aload_n cx d_X10_told_164 0 rfl ?_
    refine z_getR cx hT fg_SunnyPansModel_58 451 rfl d_X10_told_165 ?_
    refine z_sipush (v := 194) cx d_X10_told_168 ks_194 ?_
    refine z_iald cx (tfM_11_451 hT) za_36 (zvp (by decide +kernel)) 194 rfl d_X10_told_171 ?_
    exact z_iret cx hr rfl hF d_X10_told_172
  have hb153 : ∀ (M : zMem), F_X10_told_153 p0 M = some (r9, M9) → zJ p l e rm_X10_told s m args below meth c G shM ad n A 2 (MQ below (zQ G shM ad n M9 (some (.int r9)) A) args s 0 0 A) 0 0 M 153 [(0, .ref (ad 0))] [] := by
    intro M hF
    unfold F_X10_told_153 at hF
    refine z_aload_n cx d_X10_told_153 0 rfl ?_
    refine z_getR cx hT fg_SunnyPansModel_58 451 rfl d_X10_told_154 ?_
    refine z_sipush (v := 128) cx d_X10_told_157 ks_128 ?_
    obtain ⟨v6, M5, hc, hF⟩ := zb_inv hF
    refine z_callS cx (As := [.ref (ad 451), .int (128 : Int32)]) (rest := []) (c_X10_together l cx.2.2.2.1.1 M 451 (128 : Int32) (tfM_11_451 hT) hc) cs_SunnyPansModel_319 ⟨rfl, rfl, Nat.le_of_ble_eq_true rfl, Nat.le_of_ble_eq_true rfl⟩ rfl rfl ⟨Nat.zero_le _, Nat.zero_le _⟩ (Nat.le_of_ble_eq_true rfl) d_X10_told_160 ?_
    exact z_iret cx hr rfl hF d_X10_told_163
  have hb143 : ∀ (M : zMem), F_X10_told_143 p0 M = some (r9, M9) → zJ p l e rm_X10_told s m args below meth c G shM ad n A 2 (MQ below (zQ G shM ad n M9 (some (.int r9)) A) args s 0 0 A) 0 0 M 143 [(0, .ref (ad 0))] [] := by
    intro M hF
    unfold F_X10_told_143 at hF
    refine z_aload_n cx d_X10_told_143 0 rfl ?_
    refine z_getR cx hT fg_SunnyPansModel_58 451 rfl d_X10_told_144 ?_
    refine z_bipush (v := 64) cx d_X10_told_147 kb_64 ?_
    obtain ⟨v8, M7, hc, hF⟩ := zb_inv hF
    refine z_callS cx (As := [.ref (ad 451), .int (64 : Int32)]) (rest := []) (c_X10_together l cx.2.2.2.1.1 M 451 (64 : Int32) (tfM_11_451 hT) hc) cs_SunnyPansModel_319 ⟨rfl, rfl, Nat.le_of_ble_eq_true rfl, Nat.le_of_ble_eq_true rfl⟩ rfl rfl ⟨Nat.zero_le _, Nat.zero_le _⟩ (Nat.le_of_ble_eq_true rfl) d_X10_told_149 ?_
    exact z_iret cx hr rfl hF d_X10_told_152
  have hb134 : ∀ (M : zMem), F_X10_told_134 p0 M = some (r9, M9) → zJ p l e rm_X10_told s m args below meth c G shM ad n A 2 (MQ below (zQ G shM ad n M9 (some (.int r9)) A) args s 0 0 A) 0 0 M 134 [(0, .ref (ad 0))] [] := by
    intro M hF
    unfold F_X10_told_134 at hF
    refine z_aload_n cx d_X10_told_134 0 rfl ?_
    refine z_getR cx hT fg_SunnyPansModel_58 451 rfl d_X10_told_135 ?_
    refine z_iconst (v := 0) cx d_X10_told_138 ki_0 ?_
    obtain ⟨v10, M9, hc, hF⟩ := zb_inv hF
    refine z_callS cx (As := [.ref (ad 451), .int (0 : Int32)]) (rest := []) (c_X10_together l cx.2.2.2.1.1 M 451 (0 : Int32) (tfM_11_451 hT) hc) cs_SunnyPansModel_319 ⟨rfl, rfl, Nat.le_of_ble_eq_true rfl, Nat.le_of_ble_eq_true rfl⟩ rfl rfl ⟨Nat.zero_le _, Nat.zero_le _⟩ (Nat.le_of_ble_eq_true rfl) d_X10_told_139 ?_
    exact z_iret cx hr rfl hF d_X10_told_142
  have hb112 : ∀ (M : zMem), F_X10_told_112 p0 M = some (r9, M9) → zJ p l e rm_X10_told s m args below meth c G shM ad n A 2 (MQ below (zQ G shM ad n M9 (some (.int r9)) A) args s 0 0 A) 0 0 M 112 [(0, .ref (ad 0))] [] := by
    intro M hF
    unfold F_X10_told_112 at hF
    refine z_aload_n cx d_X10_told_112 0 rfl ?_
    refine z_getR cx hT fg_SunnyPansModel_23 4 rfl d_X10_told_113 ?_
    refine z_iconst (v := 2) cx d_X10_told_116 ki_2 ?_
    refine z_iald cx (tfM_11_4 hT) za_28 (zvp (by decide +kernel)) 2 rfl d_X10_told_117 ?_
    refine z_if_ne cx 125 d_X10_told_118 (by decide) hF (fun hF => ?_) (fun hF => ?_)
    · refine z_aload_n cx d_X10_told_125 0 rfl ?_
      refine z_getR cx hT fg_SunnyPansModel_58 451 rfl d_X10_told_126 ?_
      refine z_sipush (v := 193) cx d_X10_told_129 ks_193 ?_
      refine z_iald cx (tfM_11_451 hT) za_36 (zvp (by decide +kernel)) 193 rfl d_X10_told_132 ?_
      exact z_iret cx hr rfl hF d_X10_told_133
    refine z_iconst (v := -1) cx d_X10_told_121 ki_m1 ?_
    refine z_goto cx 133 d_X10_told_122 (by decide) ?_
    exact z_iret cx hr rfl hF d_X10_told_133
  have hb103 : ∀ (M : zMem), F_X10_told_103 p0 M = some (r9, M9) → zJ p l e rm_X10_told s m args below meth c G shM ad n A 2 (MQ below (zQ G shM ad n M9 (some (.int r9)) A) args s 0 0 A) 0 0 M 103 [(0, .ref (ad 0))] [] := by
    intro M hF
    unfold F_X10_told_103 at hF
    refine z_aload_n cx d_X10_told_103 0 rfl ?_
    refine z_getR cx hT fg_SunnyPansModel_58 451 rfl d_X10_told_104 ?_
    refine z_sipush (v := 192) cx d_X10_told_107 ks_192 ?_
    refine z_iald cx (tfM_11_451 hT) za_36 (zvp (by decide +kernel)) 192 rfl d_X10_told_110 ?_
    exact z_iret cx hr rfl hF d_X10_told_111
  have hb96 : ∀ (b96_L1 : Int32) (M : zMem), F_X10_told_96 p0 b96_L1 M = some (r9, M9) → zJ p l e rm_X10_told s m args below meth c G shM ad n A 2 (MQ below (zQ G shM ad n M9 (some (.int r9)) A) args s 0 0 A) 0 0 M 96 [(0, .ref (ad 0)), (1, .int b96_L1)] [] := by
    intro b96_L1 M hF
    unfold F_X10_told_96 at hF
    refine z_aload_n cx d_X10_told_96 0 rfl ?_
    refine z_getR cx hT fg_SunnyPansModel_23 4 rfl d_X10_told_97 ?_
    refine z_iload_n cx d_X10_told_100 1 rfl ?_
    obtain ⟨hi11, hF⟩ := gin_inv hF
    refine z_iald cx (tfM_11_4 hT) za_28 hi11 b96_L1.toNatClampNeg rfl d_X10_told_101 ?_
    exact z_iret cx hr rfl hF d_X10_told_102
  have hb21 : ∀ (b21_L1 : Int32) (b21_S1 : Int32) (M : zMem), F_X10_told_21 p0 b21_L1 b21_S1 M = some (r9, M9) → zJ p l e rm_X10_told s m args below meth c G shM ad n A 2 (MQ below (zQ G shM ad n M9 (some (.int r9)) A) args s 0 0 A) 0 0 M 21 [(0, .ref (ad 0)), (1, .int b21_L1)] [.int b21_S1, .ref (ad 0)] := by
    intro b21_L1 b21_S1 M hF
    unfold F_X10_told_21 at hF
    refine z_iconst (v := 1) cx d_X10_told_21 ki_1 ?_
    refine z_iconst (v := 1) cx d_X10_told_22 ki_1 ?_
    obtain ⟨v13, M12, hc, hF⟩ := zb_inv hF
    refine z_callV cx (As := [.int b21_S1, .int (1 : Int32), .int (1 : Int32)]) (rest := []) (c_X10_bad l cx.2.2.2.1.1 M b21_S1 (1 : Int32) (1 : Int32) hT hc) hT zo_11 cv_SunnyPansModel_155 ⟨rfl, rfl, Nat.le_of_ble_eq_true rfl, Nat.le_of_ble_eq_true rfl⟩ rfl rfl ⟨Nat.zero_le _, Nat.zero_le _⟩ (Nat.le_of_ble_eq_true rfl) d_X10_told_23 ?_
    refine z_if_eq cx 31 d_X10_told_26 (by decide) hF (fun hF => ?_) (fun hF => ?_)
    · refine z_iload_n cx d_X10_told_31 1 rfl ?_
      by_cases q0 : b21_L1 = 0
      · rw [if_pos q0] at hF
        refine z_tabIn cx 96 d_X10_told_32 (by rw [q0]; decide +kernel) (by rw [q0]; decide +kernel) (by rw [q0]; rfl) (by decide) ?_
        exact hb96 b21_L1 M12 hF
      rw [if_neg q0] at hF
      by_cases q1 : b21_L1 = 1
      · rw [if_pos q1] at hF
        refine z_tabIn cx 96 d_X10_told_32 (by rw [q1]; decide +kernel) (by rw [q1]; decide +kernel) (by rw [q1]; rfl) (by decide) ?_
        exact hb96 b21_L1 M12 hF
      rw [if_neg q1] at hF
      by_cases q2 : b21_L1 = 2
      · rw [if_pos q2] at hF
        refine z_tabIn cx 96 d_X10_told_32 (by rw [q2]; decide +kernel) (by rw [q2]; decide +kernel) (by rw [q2]; rfl) (by decide) ?_
        exact hb96 b21_L1 M12 hF
      rw [if_neg q2] at hF
      by_cases q3 : b21_L1 = 3
      · rw [if_pos q3] at hF
        refine z_tabIn cx 103 d_X10_told_32 (by rw [q3]; decide +kernel) (by rw [q3]; decide +kernel) (by rw [q3]; rfl) (by decide) ?_
        exact z_lv [0] _ rfl (hb103 M12 hF)
      rw [if_neg q3] at hF
      by_cases q4 : b21_L1 = 4
      · rw [if_pos q4] at hF
        refine z_tabIn cx 112 d_X10_told_32 (by rw [q4]; decide +kernel) (by rw [q4]; decide +kernel) (by rw [q4]; rfl) (by decide) ?_
        exact z_lv [0] _ rfl (hb112 M12 hF)
      rw [if_neg q4] at hF
      by_cases q5 : b21_L1 = 5
      · rw [if_pos q5] at hF
        refine z_tabIn cx 134 d_X10_told_32 (by rw [q5]; decide +kernel) (by rw [q5]; decide +kernel) (by rw [q5]; rfl) (by decide) ?_
        exact z_lv [0] _ rfl (hb134 M12 hF)
      rw [if_neg q5] at hF
      by_cases q6 : b21_L1 = 6
      · rw [if_pos q6] at hF
        refine z_tabIn cx 143 d_X10_told_32 (by rw [q6]; decide +kernel) (by rw [q6]; decide +kernel) (by rw [q6]; rfl) (by decide) ?_
        exact z_lv [0] _ rfl (hb143 M12 hF)
      rw [if_neg q6] at hF
      by_cases q7 : b21_L1 = 7
      · rw [if_pos q7] at hF
        refine z_tabIn cx 153 d_X10_told_32 (by rw [q7]; decide +kernel) (by rw [q7]; decide +kernel) (by rw [q7]; rfl) (by decide) ?_
        exact z_lv [0] _ rfl (hb153 M12 hF)
      rw [if_neg q7] at hF
      by_cases q8 : b21_L1 = 8
      · rw [if_pos q8] at hF
        refine z_tabIn cx 164 d_X10_told_32 (by rw [q8]; decide +kernel) (by rw [q8]; decide +kernel) (by rw [q8]; rfl) (by decide) ?_
        exact z_lv [0] _ rfl (hb164 M12 hF)
      rw [if_neg q8] at hF
      by_cases q9 : b21_L1 = 9
      · rw [if_pos q9] at hF
        refine z_tabIn cx 173 d_X10_told_32 (by rw [q9]; decide +kernel) (by rw [q9]; decide +kernel) (by rw [q9]; rfl) (by decide) ?_
        exact z_lv [0] _ rfl (hb173 M12 hF)
      rw [if_neg q9] at hF
      by_cases q10 : b21_L1 = 10
      · rw [if_pos q10] at hF
        refine z_tabIn cx 178 d_X10_told_32 (by rw [q10]; decide +kernel) (by rw [q10]; decide +kernel) (by rw [q10]; rfl) (by decide) ?_
        exact z_lv [0] _ rfl (hb178 M12 hF)
      rw [if_neg q10] at hF
      by_cases q11 : b21_L1 = 11
      · rw [if_pos q11] at hF
        refine z_tabIn cx 183 d_X10_told_32 (by rw [q11]; decide +kernel) (by rw [q11]; decide +kernel) (by rw [q11]; rfl) (by decide) ?_
        exact z_lv [0] _ rfl (hb183 M12 hF)
      rw [if_neg q11] at hF
      refine z_tabOut cx 188 d_X10_told_32 (by have w0 := lv_neT q0 (a := 0) (by decide +kernel); have w1 := lv_neT q1 (a := 1) (by decide +kernel); have w2 := lv_neT q2 (a := 2) (by decide +kernel); have w3 := lv_neT q3 (a := 3) (by decide +kernel); have w4 := lv_neT q4 (a := 4) (by decide +kernel); have w5 := lv_neT q5 (a := 5) (by decide +kernel); have w6 := lv_neT q6 (a := 6) (by decide +kernel); have w7 := lv_neT q7 (a := 7) (by decide +kernel); have w8 := lv_neT q8 (a := 8) (by decide +kernel); have w9 := lv_neT q9 (a := 9) (by decide +kernel); have w10 := lv_neT q10 (a := 10) (by decide +kernel); have w11 := lv_neT q11 (a := 11) (by decide +kernel); omega) (by decide) ?_
      exact z_lv [0] _ rfl (hb188 M12 hF)
    refine z_iconst (v := 0) cx d_X10_told_29 ki_0 ?_
    exact z_iret cx hr rfl hF d_X10_told_30
  unfold F_X10_told at hF
  refine z_aload_n cx d_X10_told_0 0 rfl ?_
  refine z_iconst (v := 0) cx d_X10_told_1 ki_0 ?_
  refine z_putI cx hT fp_SunnyPansModel_82 d_X10_told_2 ?_
  refine z_nmM hF (fun M14 hF => ?_)
  refine z_aload_n cx d_X10_told_5 0 rfl ?_
  refine z_iload_n cx d_X10_told_6 1 rfl ?_
  refine z_iconst (v := 0) cx d_X10_told_7 ki_0 ?_
  refine z_bipush (v := 12) cx d_X10_told_8 kb_12 ?_
  obtain ⟨v16, M15, hc, hF⟩ := zb_inv hF
  refine z_callS cx (As := [.int p0, .int (0 : Int32), .int (12 : Int32)]) (rest := [.ref (ad 0)]) (c_X10_in l cx.2.2.2.1.1 M14 p0 (0 : Int32) (12 : Int32)  hc) cs_SunnyPansModel_116 ⟨rfl, rfl, Nat.le_of_ble_eq_true rfl, Nat.le_of_ble_eq_true rfl⟩ rfl rfl ⟨Nat.zero_le _, Nat.zero_le _⟩ (Nat.le_of_ble_eq_true rfl) d_X10_told_10 ?_
  refine z_if_ne cx 20 d_X10_told_13 (by decide) hF (fun hF => ?_) (fun hF => ?_)
  · refine z_iconst (v := 0) cx d_X10_told_20 ki_0 ?_
    exact hb21 p0 (0 : Int32) M15 hF
  refine z_iconst (v := 1) cx d_X10_told_16 ki_1 ?_
  refine z_goto cx 21 d_X10_told_17 (by decide) ?_
  exact hb21 p0 (1 : Int32) M15 hF
/-! SunnyPansModel.strength -/
theorem d_X10_strength_0 : decode cX10_strength 0 = .ok (.aload_n 0, 1) := by decide +kernel
theorem d_X10_strength_1 : decode cX10_strength 1 = .ok (.bipush 64, 2) := by decide +kernel
theorem d_X10_strength_3 : decode cX10_strength 3 = .ok (.iload_n 1, 1) := by decide +kernel
theorem d_X10_strength_4 : decode cX10_strength 4 = .ok (.iadd, 1) := by decide +kernel
theorem d_X10_strength_5 : decode cX10_strength 5 = .ok (.iaload, 1) := by decide +kernel
theorem d_X10_strength_6 : decode cX10_strength 6 = .ok (.aload_n 0, 1) := by decide +kernel
theorem d_X10_strength_7 : decode cX10_strength 7 = .ok (.iconst 0, 1) := by decide +kernel
theorem d_X10_strength_8 : decode cX10_strength 8 = .ok (.iload_n 1, 1) := by decide +kernel
theorem d_X10_strength_9 : decode cX10_strength 9 = .ok (.iadd, 1) := by decide +kernel
theorem d_X10_strength_10 : decode cX10_strength 10 = .ok (.iaload, 1) := by decide +kernel
theorem d_X10_strength_11 : decode cX10_strength 11 = .ok (.iadd, 1) := by decide +kernel
theorem d_X10_strength_12 : decode cX10_strength 12 = .ok (.istore_n 2, 1) := by decide +kernel
theorem d_X10_strength_13 : decode cX10_strength 13 = .ok (.iload_n 2, 1) := by decide +kernel
theorem d_X10_strength_14 : decode cX10_strength 14 = .ok (.ifCond .ne 7, 3) := by decide +kernel
theorem d_X10_strength_17 : decode cX10_strength 17 = .ok (.iconst 0, 1) := by decide +kernel
theorem d_X10_strength_18 : decode cX10_strength 18 = .ok (.goto 15, 3) := by decide +kernel
theorem d_X10_strength_21 : decode cX10_strength 21 = .ok (.sipush 1000, 3) := by decide +kernel
theorem d_X10_strength_24 : decode cX10_strength 24 = .ok (.aload_n 0, 1) := by decide +kernel
theorem d_X10_strength_25 : decode cX10_strength 25 = .ok (.bipush 64, 2) := by decide +kernel
theorem d_X10_strength_27 : decode cX10_strength 27 = .ok (.iload_n 1, 1) := by decide +kernel
theorem d_X10_strength_28 : decode cX10_strength 28 = .ok (.iadd, 1) := by decide +kernel
theorem d_X10_strength_29 : decode cX10_strength 29 = .ok (.iaload, 1) := by decide +kernel
theorem d_X10_strength_30 : decode cX10_strength 30 = .ok (.imul, 1) := by decide +kernel
theorem d_X10_strength_31 : decode cX10_strength 31 = .ok (.iload_n 2, 1) := by decide +kernel
theorem d_X10_strength_32 : decode cX10_strength 32 = .ok (.idiv, 1) := by decide +kernel
theorem d_X10_strength_33 : decode cX10_strength 33 = .ok (.ireturn, 1) := by decide +kernel
def F_X10_strength (M : zMem) (p0 : Nat) (p1 : Int32) : Option (Int32 × zMem) :=
  gin ((64 : Int32) + p1) 195 <|
  gin ((0 : Int32) + p1) 195 <|
  zl ((M.1 p0 ((64 : Int32) + p1).toNatClampNeg) + (M.1 p0 ((0 : Int32) + p1).toNatClampNeg)) fun v3 =>
  if v3 = 0 then
    some ((0 : Int32), M)
  else
    gd (!(v3 == 0)) <|
    some ((((1000 : Int32) * (M.1 p0 ((64 : Int32) + p1).toNatClampNeg)) / v3), M)
def rm_X10_strength : Room := { frames := 2, cells := 0, slots := 0, locals := 80 }
set_option maxHeartbeats 4000000 in
set_option maxRecDepth 100000 in
theorem c_X10_strength (l : Launch) {G : zG} {ad : Nat → Nat} {n : Nat} (hA : zInj ad n) (M : zMem) (p0 : Nat) (p1 : Int32) (hT_p0 : zT shM n p0 36) {r9 : Int32} {M9 : zMem} (hF : F_X10_strength M p0 p1 = some (r9, M9)) : zM l yX10_strength cX10_strength 3 (some .int) rm_X10_strength G shM ad n M [.ref (ad p0), .int p1] (some (.int r9)) M9 := by
  refine zM_of hA (by decide +kernel) (lv := [(0, .ref (ad p0)), (1, .int p1)]) (Nat.le_of_ble_eq_true rfl) rfl (fun p e s m args below meth c A cx hr => ?_)
  unfold F_X10_strength at hF
  refine z_aload_n cx d_X10_strength_0 0 rfl ?_
  refine z_bipush (v := 64) cx d_X10_strength_1 kb_64 ?_
  refine z_iload_n cx d_X10_strength_3 1 rfl ?_
  refine z_iadd cx d_X10_strength_4 ?_
  obtain ⟨hi1, hF⟩ := gin_inv hF
  refine z_iald cx hT_p0 za_36 hi1 (((64 : Int32) + p1).toNatClampNeg) rfl d_X10_strength_5 ?_
  refine z_aload_n cx d_X10_strength_6 0 rfl ?_
  refine z_iconst (v := 0) cx d_X10_strength_7 ki_0 ?_
  refine z_iload_n cx d_X10_strength_8 1 rfl ?_
  refine z_iadd cx d_X10_strength_9 ?_
  obtain ⟨hi2, hF⟩ := gin_inv hF
  refine z_iald cx hT_p0 za_36 hi2 (((0 : Int32) + p1).toNatClampNeg) rfl d_X10_strength_10 ?_
  refine z_iadd cx d_X10_strength_11 ?_
  refine z_nm hF (fun v3 hF => ?_)
  refine z_istore_n cx 2 [(2, .int v3), (0, .ref (ad p0)), (1, .int p1)] d_X10_strength_12 rfl (by decide) rfl ?_
  refine z_iload_n cx d_X10_strength_13 0 rfl ?_
  refine z_if_ne cx 21 d_X10_strength_14 (by decide) hF (fun hF => ?_) (fun hF => ?_)
  · refine z_sipush (v := 1000) cx d_X10_strength_21 ks_1000 ?_
    refine z_aload_n cx d_X10_strength_24 1 rfl ?_
    refine z_bipush (v := 64) cx d_X10_strength_25 kb_64 ?_
    refine z_iload_n cx d_X10_strength_27 2 rfl ?_
    refine z_iadd cx d_X10_strength_28 ?_
    refine z_iald cx hT_p0 za_36 hi1 (((64 : Int32) + p1).toNatClampNeg) rfl d_X10_strength_29 ?_
    refine z_imul cx d_X10_strength_30 ?_
    refine z_iload_n cx d_X10_strength_31 0 rfl ?_
    obtain ⟨hz4, hF⟩ := gd_inv hF
    refine z_idiv cx d_X10_strength_32 (zne hz4) ?_
    exact z_iret cx hr rfl hF d_X10_strength_33
  refine z_iconst (v := 0) cx d_X10_strength_17 ki_0 ?_
  refine z_goto cx 33 d_X10_strength_18 (by decide) ?_
  exact z_iret cx hr rfl hF d_X10_strength_33
/-! SunnyPansModel.sunOf -/
theorem d_X10_sunOf_0 : decode cX10_sunOf 0 = .ok (.iconst 0, 1) := by decide +kernel
theorem d_X10_sunOf_1 : decode cX10_sunOf 1 = .ok (.istore_n 2, 1) := by decide +kernel
theorem d_X10_sunOf_2 : decode cX10_sunOf 2 = .ok (.iconst 0, 1) := by decide +kernel
theorem d_X10_sunOf_3 : decode cX10_sunOf 3 = .ok (.istore_n 3, 1) := by decide +kernel
theorem d_X10_sunOf_4 : decode cX10_sunOf 4 = .ok (.iload_n 3, 1) := by decide +kernel
theorem d_X10_sunOf_5 : decode cX10_sunOf 5 = .ok (.aload_n 0, 1) := by decide +kernel
theorem d_X10_sunOf_6 : decode cX10_sunOf 6 = .ok (.getfield 23, 3) := by decide +kernel
theorem d_X10_sunOf_9 : decode cX10_sunOf 9 = .ok (.iconst 2, 1) := by decide +kernel
theorem d_X10_sunOf_10 : decode cX10_sunOf 10 = .ok (.iaload, 1) := by decide +kernel
theorem d_X10_sunOf_11 : decode cX10_sunOf 11 = .ok (.if_icmp .ge 30, 3) := by decide +kernel
theorem d_X10_sunOf_14 : decode cX10_sunOf 14 = .ok (.iload_n 2, 1) := by decide +kernel
theorem d_X10_sunOf_15 : decode cX10_sunOf 15 = .ok (.aload_n 0, 1) := by decide +kernel
theorem d_X10_sunOf_16 : decode cX10_sunOf 16 = .ok (.aload_n 0, 1) := by decide +kernel
theorem d_X10_sunOf_17 : decode cX10_sunOf 17 = .ok (.getfield 58, 3) := by decide +kernel
theorem d_X10_sunOf_20 : decode cX10_sunOf 20 = .ok (.iload_n 1, 1) := by decide +kernel
theorem d_X10_sunOf_21 : decode cX10_sunOf 21 = .ok (.iload_n 3, 1) := by decide +kernel
theorem d_X10_sunOf_22 : decode cX10_sunOf 22 = .ok (.invokevirtual 264, 3) := by decide +kernel
theorem d_X10_sunOf_25 : decode cX10_sunOf 25 = .ok (.ifCond .eq 7, 3) := by decide +kernel
theorem d_X10_sunOf_28 : decode cX10_sunOf 28 = .ok (.iconst 0, 1) := by decide +kernel
theorem d_X10_sunOf_29 : decode cX10_sunOf 29 = .ok (.goto 4, 3) := by decide +kernel
theorem d_X10_sunOf_32 : decode cX10_sunOf 32 = .ok (.iconst 1, 1) := by decide +kernel
theorem d_X10_sunOf_33 : decode cX10_sunOf 33 = .ok (.iadd, 1) := by decide +kernel
theorem d_X10_sunOf_34 : decode cX10_sunOf 34 = .ok (.istore_n 2, 1) := by decide +kernel
theorem d_X10_sunOf_35 : decode cX10_sunOf 35 = .ok (.iinc 3 1, 3) := by decide +kernel
theorem d_X10_sunOf_38 : decode cX10_sunOf 38 = .ok (.goto (-34), 3) := by decide +kernel
theorem d_X10_sunOf_41 : decode cX10_sunOf 41 = .ok (.iload_n 2, 1) := by decide +kernel
theorem d_X10_sunOf_42 : decode cX10_sunOf 42 = .ok (.ireturn, 1) := by decide +kernel
def F_X10_sunOf_33 (p0 : Int32) (self4 : Int32 → Int32 → Int32 → zMem → Option (Int32 × zMem)) (b33_L1 : Int32) (b33_L3 : Int32) (b33_S0 : Int32) (b33_S1 : Int32) (M : zMem) : Option (Int32 × zMem) :=
  zl (b33_S0 + b33_S1) fun v1 =>
  self4 b33_L1 v1 (b33_L3 + 1) M
def F_X10_sunOf_4 (p0 : Int32) (self4 : Int32 → Int32 → Int32 → zMem → Option (Int32 × zMem)) (b4_L1 : Int32) (b4_L2 : Int32) (b4_L3 : Int32) (M : zMem) : Option (Int32 × zMem) :=
  if (M.1 4 2) ≤ b4_L3 then
    some (b4_L2, M)
  else
    zb (F_X10_isShade M 451 b4_L1 b4_L3) fun v3 M2 =>
    if v3 = 0 then
      F_X10_sunOf_33 p0 self4 b4_L1 b4_L3 b4_L2 (1 : Int32) M2
    else
      F_X10_sunOf_33 p0 self4 b4_L1 b4_L3 b4_L2 (0 : Int32) M2
def F_X10_sunOf (M : zMem) (p0 : Int32) : Option (Int32 × zMem) :=
  itF (fun _ _ _ _ => none) (F_X10_sunOf_4 p0) zFuel p0 (0 : Int32) (0 : Int32) M
def rm_X10_sunOf : Room := { frames := 6, cells := 0, slots := 0, locals := 173 }
set_option maxHeartbeats 4000000 in
set_option maxRecDepth 100000 in
theorem c_X10_sunOf (l : Launch) {G : zG} {ad : Nat → Nat} {n : Nat} (hA : zInj ad n) (M : zMem) (p0 : Int32) (hT : zT shM n 0 11) {r9 : Int32} {M9 : zMem} (hF : F_X10_sunOf M p0 = some (r9, M9)) : zM l yX10_sunOf cX10_sunOf 4 (some .int) rm_X10_sunOf G shM ad n M [.ref (ad 0), .int p0] (some (.int r9)) M9 := by
  refine zM_of hA (by decide +kernel) (lv := [(0, .ref (ad 0)), (1, .int p0)]) (Nat.le_of_ble_eq_true rfl) rfl (fun p e s m args below meth c A cx hr => ?_)
  have hb33 : ∀ (self4 : Int32 → Int32 → Int32 → zMem → Option (Int32 × zMem)) (hs4 : ∀ (b4_L1 : Int32) (b4_L2 : Int32) (b4_L3 : Int32) (M : zMem), self4 b4_L1 b4_L2 b4_L3 M = some (r9, M9) → zJ p l e rm_X10_sunOf s m args below meth c G shM ad n A 4 (MQ below (zQ G shM ad n M9 (some (.int r9)) A) args s 0 0 A) 0 0 M 4 [(0, .ref (ad 0)), (1, .int b4_L1), (2, .int b4_L2), (3, .int b4_L3)] []), ∀ (b33_L1 : Int32) (b33_L3 : Int32) (b33_S0 : Int32) (b33_S1 : Int32) (M : zMem), F_X10_sunOf_33 p0 self4 b33_L1 b33_L3 b33_S0 b33_S1 M = some (r9, M9) → zJ p l e rm_X10_sunOf s m args below meth c G shM ad n A 4 (MQ below (zQ G shM ad n M9 (some (.int r9)) A) args s 0 0 A) 0 0 M 33 [(0, .ref (ad 0)), (1, .int b33_L1), (3, .int b33_L3)] [.int b33_S1, .int b33_S0] := by
    intro self4 hs4 b33_L1 b33_L3 b33_S0 b33_S1 M hF
    unfold F_X10_sunOf_33 at hF
    refine z_iadd cx d_X10_sunOf_33 ?_
    refine z_nm hF (fun v1 hF => ?_)
    refine z_istore_n cx 2 [(2, .int v1), (0, .ref (ad 0)), (1, .int b33_L1), (3, .int b33_L3)] d_X10_sunOf_34 rfl (by decide) rfl ?_
    refine z_iinc cx 3 1 [(3, .int (b33_L3 + 1)), (2, .int v1), (0, .ref (ad 0)), (1, .int b33_L1)] d_X10_sunOf_35 3 rfl ki_1 (by decide) rfl ?_
    refine z_goto cx 4 d_X10_sunOf_38 (by decide) ?_
    exact z_lv [2, 3, 1, 0] _ rfl (hs4 b33_L1 v1 (b33_L3 + 1) M hF)
  have hL4 : ∀ (fuel : Nat), ∀ (b4_L1 : Int32) (b4_L2 : Int32) (b4_L3 : Int32) (M : zMem), itF (fun _ _ _ _ => none) (F_X10_sunOf_4 p0) fuel b4_L1 b4_L2 b4_L3 M = some (r9, M9) → zJ p l e rm_X10_sunOf s m args below meth c G shM ad n A 4 (MQ below (zQ G shM ad n M9 (some (.int r9)) A) args s 0 0 A) 0 0 M 4 [(0, .ref (ad 0)), (1, .int b4_L1), (2, .int b4_L2), (3, .int b4_L3)] [] := by
    intro fuel
    induction fuel with
    | zero => intro b4_L1 b4_L2 b4_L3 M hF; cases hF
    | succ fuel hs4 =>
      intro b4_L1 b4_L2 b4_L3 M hF
      have hF : F_X10_sunOf_4 p0 (itF (fun _ _ _ _ => none) (F_X10_sunOf_4 p0) fuel) b4_L1 b4_L2 b4_L3 M = some (r9, M9) := hF
      generalize itF (fun _ _ _ _ => none) (F_X10_sunOf_4 p0) fuel = self4 at hs4 hF
      unfold F_X10_sunOf_4 at hF
      refine z_iload_n cx d_X10_sunOf_4 3 rfl ?_
      refine z_aload_n cx d_X10_sunOf_5 0 rfl ?_
      refine z_getR cx hT fg_SunnyPansModel_23 4 rfl d_X10_sunOf_6 ?_
      refine z_iconst (v := 2) cx d_X10_sunOf_9 ki_2 ?_
      refine z_iald cx (tfM_11_4 hT) za_28 (zvp (by decide +kernel)) 2 rfl d_X10_sunOf_10 ?_
      refine z_icmp_ge cx 41 d_X10_sunOf_11 (by decide) hF (fun hF => ?_) (fun hF => ?_)
      · refine z_iload_n cx d_X10_sunOf_41 2 rfl ?_
        exact z_iret cx hr rfl hF d_X10_sunOf_42
      refine z_iload_n cx d_X10_sunOf_14 2 rfl ?_
      refine z_aload_n cx d_X10_sunOf_15 0 rfl ?_
      refine z_aload_n cx d_X10_sunOf_16 0 rfl ?_
      refine z_getR cx hT fg_SunnyPansModel_58 451 rfl d_X10_sunOf_17 ?_
      refine z_iload_n cx d_X10_sunOf_20 1 rfl ?_
      refine z_iload_n cx d_X10_sunOf_21 3 rfl ?_
      obtain ⟨v3, M2, hc, hF⟩ := zb_inv hF
      refine z_callV cx (As := [.ref (ad 451), .int b4_L1, .int b4_L3]) (rest := [.int b4_L2]) (c_X10_isShade l cx.2.2.2.1.1 M 451 b4_L1 b4_L3 hT (tfM_11_451 hT) hc) hT zo_11 cv_SunnyPansModel_264 ⟨rfl, rfl, Nat.le_of_ble_eq_true rfl, Nat.le_of_ble_eq_true rfl⟩ rfl rfl ⟨Nat.zero_le _, Nat.zero_le _⟩ (Nat.le_of_ble_eq_true rfl) d_X10_sunOf_22 ?_
      refine z_if_eq cx 32 d_X10_sunOf_25 (by decide) hF (fun hF => ?_) (fun hF => ?_)
      · refine z_iconst (v := 1) cx d_X10_sunOf_32 ki_1 ?_
        exact z_lv [0, 1, 3] _ rfl (hb33 self4 hs4 b4_L1 b4_L3 b4_L2 (1 : Int32) M2 hF)
      refine z_iconst (v := 0) cx d_X10_sunOf_28 ki_0 ?_
      refine z_goto cx 33 d_X10_sunOf_29 (by decide) ?_
      exact z_lv [0, 1, 3] _ rfl (hb33 self4 hs4 b4_L1 b4_L3 b4_L2 (0 : Int32) M2 hF)
  unfold F_X10_sunOf at hF
  refine z_iconst (v := 0) cx d_X10_sunOf_0 ki_0 ?_
  refine z_istore_n cx 2 [(2, .int (0 : Int32)), (0, .ref (ad 0)), (1, .int p0)] d_X10_sunOf_1 rfl (by decide) rfl ?_
  refine z_iconst (v := 0) cx d_X10_sunOf_2 ki_0 ?_
  refine z_istore_n cx 3 [(3, .int (0 : Int32)), (2, .int (0 : Int32)), (0, .ref (ad 0)), (1, .int p0)] d_X10_sunOf_3 rfl (by decide) rfl ?_
  exact z_lv [2, 3, 1, 0] _ rfl (hL4 zFuel p0 (0 : Int32) (0 : Int32) M hF)
/-! SunnyPansModel.pan -/
theorem d_X10_pan_0 : decode cX10_pan 0 = .ok (.aload_n 0, 1) := by decide +kernel
theorem d_X10_pan_1 : decode cX10_pan 1 = .ok (.iconst 0, 1) := by decide +kernel
theorem d_X10_pan_2 : decode cX10_pan 2 = .ok (.putfield 82, 3) := by decide +kernel
theorem d_X10_pan_5 : decode cX10_pan 5 = .ok (.aload_n 0, 1) := by decide +kernel
theorem d_X10_pan_6 : decode cX10_pan 6 = .ok (.aload_n 0, 1) := by decide +kernel
theorem d_X10_pan_7 : decode cX10_pan 7 = .ok (.iload_n 1, 1) := by decide +kernel
theorem d_X10_pan_8 : decode cX10_pan 8 = .ok (.iload_n 2, 1) := by decide +kernel
theorem d_X10_pan_9 : decode cX10_pan 9 = .ok (.invokevirtual 237, 3) := by decide +kernel
theorem d_X10_pan_12 : decode cX10_pan 12 = .ok (.ifCond .ne 7, 3) := by decide +kernel
theorem d_X10_pan_15 : decode cX10_pan 15 = .ok (.iconst 1, 1) := by decide +kernel
theorem d_X10_pan_16 : decode cX10_pan 16 = .ok (.goto 4, 3) := by decide +kernel
theorem d_X10_pan_19 : decode cX10_pan 19 = .ok (.iconst 0, 1) := by decide +kernel
theorem d_X10_pan_20 : decode cX10_pan 20 = .ok (.iconst 1, 1) := by decide +kernel
theorem d_X10_pan_21 : decode cX10_pan 21 = .ok (.iconst 0, 1) := by decide +kernel
theorem d_X10_pan_22 : decode cX10_pan 22 = .ok (.invokevirtual 155, 3) := by decide +kernel
theorem d_X10_pan_25 : decode cX10_pan 25 = .ok (.ifCond .ne 27, 3) := by decide +kernel
theorem d_X10_pan_28 : decode cX10_pan 28 = .ok (.aload_n 0, 1) := by decide +kernel
theorem d_X10_pan_29 : decode cX10_pan 29 = .ok (.iload_n 3, 1) := by decide +kernel
theorem d_X10_pan_30 : decode cX10_pan 30 = .ok (.iconst 0, 1) := by decide +kernel
theorem d_X10_pan_31 : decode cX10_pan 31 = .ok (.bipush 6, 2) := by decide +kernel
theorem d_X10_pan_33 : decode cX10_pan 33 = .ok (.invokestatic 116, 3) := by decide +kernel
theorem d_X10_pan_36 : decode cX10_pan 36 = .ok (.ifCond .ne 7, 3) := by decide +kernel
theorem d_X10_pan_39 : decode cX10_pan 39 = .ok (.iconst 1, 1) := by decide +kernel
theorem d_X10_pan_40 : decode cX10_pan 40 = .ok (.goto 4, 3) := by decide +kernel
theorem d_X10_pan_43 : decode cX10_pan 43 = .ok (.iconst 0, 1) := by decide +kernel
theorem d_X10_pan_44 : decode cX10_pan 44 = .ok (.iconst 2, 1) := by decide +kernel
theorem d_X10_pan_45 : decode cX10_pan 45 = .ok (.iconst 1, 1) := by decide +kernel
theorem d_X10_pan_46 : decode cX10_pan 46 = .ok (.invokevirtual 155, 3) := by decide +kernel
theorem d_X10_pan_49 : decode cX10_pan 49 = .ok (.ifCond .eq 5, 3) := by decide +kernel
theorem d_X10_pan_52 : decode cX10_pan 52 = .ok (.iconst 0, 1) := by decide +kernel
theorem d_X10_pan_53 : decode cX10_pan 53 = .ok (.ireturn, 1) := by decide +kernel
theorem d_X10_pan_54 : decode cX10_pan 54 = .ok (.bipush 8, 2) := by decide +kernel
theorem d_X10_pan_56 : decode cX10_pan 56 = .ok (.iload_n 2, 1) := by decide +kernel
theorem d_X10_pan_57 : decode cX10_pan 57 = .ok (.imul, 1) := by decide +kernel
theorem d_X10_pan_58 : decode cX10_pan 58 = .ok (.iload_n 1, 1) := by decide +kernel
theorem d_X10_pan_59 : decode cX10_pan 59 = .ok (.iadd, 1) := by decide +kernel
theorem d_X10_pan_60 : decode cX10_pan 60 = .ok (.istore 4, 2) := by decide +kernel
theorem d_X10_pan_62 : decode cX10_pan 62 = .ok (.iload_n 3, 1) := by decide +kernel
theorem d_X10_pan_63 : decode cX10_pan 63 = .ok (.tableswitch 102 0 5 #[37, 47, 58, 68, 80, 95], 37) := by decide +kernel
theorem d_X10_pan_100 : decode cX10_pan 100 = .ok (.aload_n 0, 1) := by decide +kernel
theorem d_X10_pan_101 : decode cX10_pan 101 = .ok (.getfield 58, 3) := by decide +kernel
theorem d_X10_pan_104 : decode cX10_pan 104 = .ok (.iconst 0, 1) := by decide +kernel
theorem d_X10_pan_105 : decode cX10_pan 105 = .ok (.iload 4, 2) := by decide +kernel
theorem d_X10_pan_107 : decode cX10_pan 107 = .ok (.iadd, 1) := by decide +kernel
theorem d_X10_pan_108 : decode cX10_pan 108 = .ok (.iaload, 1) := by decide +kernel
theorem d_X10_pan_109 : decode cX10_pan 109 = .ok (.ireturn, 1) := by decide +kernel
theorem d_X10_pan_110 : decode cX10_pan 110 = .ok (.aload_n 0, 1) := by decide +kernel
theorem d_X10_pan_111 : decode cX10_pan 111 = .ok (.getfield 58, 3) := by decide +kernel
theorem d_X10_pan_114 : decode cX10_pan 114 = .ok (.bipush 64, 2) := by decide +kernel
theorem d_X10_pan_116 : decode cX10_pan 116 = .ok (.iload 4, 2) := by decide +kernel
theorem d_X10_pan_118 : decode cX10_pan 118 = .ok (.iadd, 1) := by decide +kernel
theorem d_X10_pan_119 : decode cX10_pan 119 = .ok (.iaload, 1) := by decide +kernel
theorem d_X10_pan_120 : decode cX10_pan 120 = .ok (.ireturn, 1) := by decide +kernel
theorem d_X10_pan_121 : decode cX10_pan 121 = .ok (.aload_n 0, 1) := by decide +kernel
theorem d_X10_pan_122 : decode cX10_pan 122 = .ok (.getfield 58, 3) := by decide +kernel
theorem d_X10_pan_125 : decode cX10_pan 125 = .ok (.iload 4, 2) := by decide +kernel
theorem d_X10_pan_127 : decode cX10_pan 127 = .ok (.invokestatic 330, 3) := by decide +kernel
theorem d_X10_pan_130 : decode cX10_pan 130 = .ok (.ireturn, 1) := by decide +kernel
theorem d_X10_pan_131 : decode cX10_pan 131 = .ok (.aload_n 0, 1) := by decide +kernel
theorem d_X10_pan_132 : decode cX10_pan 132 = .ok (.getfield 58, 3) := by decide +kernel
theorem d_X10_pan_135 : decode cX10_pan 135 = .ok (.sipush 128, 3) := by decide +kernel
theorem d_X10_pan_138 : decode cX10_pan 138 = .ok (.iload 4, 2) := by decide +kernel
theorem d_X10_pan_140 : decode cX10_pan 140 = .ok (.iadd, 1) := by decide +kernel
theorem d_X10_pan_141 : decode cX10_pan 141 = .ok (.iaload, 1) := by decide +kernel
theorem d_X10_pan_142 : decode cX10_pan 142 = .ok (.ireturn, 1) := by decide +kernel
theorem d_X10_pan_143 : decode cX10_pan 143 = .ok (.aload_n 0, 1) := by decide +kernel
theorem d_X10_pan_144 : decode cX10_pan 144 = .ok (.getfield 58, 3) := by decide +kernel
theorem d_X10_pan_147 : decode cX10_pan 147 = .ok (.sipush 128, 3) := by decide +kernel
theorem d_X10_pan_150 : decode cX10_pan 150 = .ok (.iload 4, 2) := by decide +kernel
theorem d_X10_pan_152 : decode cX10_pan 152 = .ok (.iadd, 1) := by decide +kernel
theorem d_X10_pan_153 : decode cX10_pan 153 = .ok (.iaload, 1) := by decide +kernel
theorem d_X10_pan_154 : decode cX10_pan 154 = .ok (.invokestatic 241, 3) := by decide +kernel
theorem d_X10_pan_157 : decode cX10_pan 157 = .ok (.ireturn, 1) := by decide +kernel
theorem d_X10_pan_158 : decode cX10_pan 158 = .ok (.aload_n 0, 1) := by decide +kernel
theorem d_X10_pan_159 : decode cX10_pan 159 = .ok (.iload 4, 2) := by decide +kernel
theorem d_X10_pan_161 : decode cX10_pan 161 = .ok (.invokevirtual 333, 3) := by decide +kernel
theorem d_X10_pan_164 : decode cX10_pan 164 = .ok (.ireturn, 1) := by decide +kernel
theorem d_X10_pan_165 : decode cX10_pan 165 = .ok (.aload_n 0, 1) := by decide +kernel
theorem d_X10_pan_166 : decode cX10_pan 166 = .ok (.getfield 23, 3) := by decide +kernel
theorem d_X10_pan_169 : decode cX10_pan 169 = .ok (.iconst 2, 1) := by decide +kernel
theorem d_X10_pan_170 : decode cX10_pan 170 = .ok (.iaload, 1) := by decide +kernel
theorem d_X10_pan_171 : decode cX10_pan 171 = .ok (.ifCond .le 28, 3) := by decide +kernel
theorem d_X10_pan_174 : decode cX10_pan 174 = .ok (.aload_n 0, 1) := by decide +kernel
theorem d_X10_pan_175 : decode cX10_pan 175 = .ok (.aload_n 0, 1) := by decide +kernel
theorem d_X10_pan_176 : decode cX10_pan 176 = .ok (.getfield 58, 3) := by decide +kernel
theorem d_X10_pan_179 : decode cX10_pan 179 = .ok (.iload 4, 2) := by decide +kernel
theorem d_X10_pan_181 : decode cX10_pan 181 = .ok (.aload_n 0, 1) := by decide +kernel
theorem d_X10_pan_182 : decode cX10_pan 182 = .ok (.getfield 58, 3) := by decide +kernel
theorem d_X10_pan_185 : decode cX10_pan 185 = .ok (.sipush 193, 3) := by decide +kernel
theorem d_X10_pan_188 : decode cX10_pan 188 = .ok (.iaload, 1) := by decide +kernel
theorem d_X10_pan_189 : decode cX10_pan 189 = .ok (.invokevirtual 264, 3) := by decide +kernel
theorem d_X10_pan_192 : decode cX10_pan 192 = .ok (.ifCond .eq 7, 3) := by decide +kernel
theorem d_X10_pan_195 : decode cX10_pan 195 = .ok (.iconst 1, 1) := by decide +kernel
theorem d_X10_pan_196 : decode cX10_pan 196 = .ok (.goto 4, 3) := by decide +kernel
theorem d_X10_pan_199 : decode cX10_pan 199 = .ok (.iconst 0, 1) := by decide +kernel
theorem d_X10_pan_200 : decode cX10_pan 200 = .ok (.ireturn, 1) := by decide +kernel
def F_X10_pan_165 (p0 : Int32) (p1 : Int32) (p2 : Int32) (b165_L4 : Int32) (M : zMem) : Option (Int32 × zMem) :=
  if (M.1 4 2) ≤ 0 then
    some ((0 : Int32), M)
  else
    zb (F_X10_isShade M 451 b165_L4 (M.1 451 193)) fun v2 M1 =>
    if v2 = 0 then
      some ((0 : Int32), M1)
    else
      some ((1 : Int32), M1)
def F_X10_pan_158 (p0 : Int32) (p1 : Int32) (p2 : Int32) (b158_L4 : Int32) (M : zMem) : Option (Int32 × zMem) :=
  zb (F_X10_sunOf M b158_L4) fun v4 M3 =>
  some (v4, M3)
def F_X10_pan_143 (p0 : Int32) (p1 : Int32) (p2 : Int32) (b143_L4 : Int32) (M : zMem) : Option (Int32 × zMem) :=
  gin ((128 : Int32) + b143_L4) 195 <|
  zb (F_X10_high M (M.1 451 ((128 : Int32) + b143_L4).toNatClampNeg)) fun v7 M6 =>
  some (v7, M6)
def F_X10_pan_131 (p0 : Int32) (p1 : Int32) (p2 : Int32) (b131_L4 : Int32) (M : zMem) : Option (Int32 × zMem) :=
  gin ((128 : Int32) + b131_L4) 195 <|
  some ((M.1 451 ((128 : Int32) + b131_L4).toNatClampNeg), M)
def F_X10_pan_121 (p0 : Int32) (p1 : Int32) (p2 : Int32) (b121_L4 : Int32) (M : zMem) : Option (Int32 × zMem) :=
  zb (F_X10_strength M 451 b121_L4) fun v10 M9 =>
  some (v10, M9)
def F_X10_pan_110 (p0 : Int32) (p1 : Int32) (p2 : Int32) (b110_L4 : Int32) (M : zMem) : Option (Int32 × zMem) :=
  gin ((64 : Int32) + b110_L4) 195 <|
  some ((M.1 451 ((64 : Int32) + b110_L4).toNatClampNeg), M)
def F_X10_pan_100 (p0 : Int32) (p1 : Int32) (p2 : Int32) (b100_L4 : Int32) (M : zMem) : Option (Int32 × zMem) :=
  gin ((0 : Int32) + b100_L4) 195 <|
  some ((M.1 451 ((0 : Int32) + b100_L4).toNatClampNeg), M)
def F_X10_pan_44 (p0 : Int32) (p1 : Int32) (p2 : Int32) (b44_L1 : Int32) (b44_L2 : Int32) (b44_L3 : Int32) (b44_S1 : Int32) (M : zMem) : Option (Int32 × zMem) :=
  zb (F_X10_bad M b44_S1 (2 : Int32) (1 : Int32)) fun v14 M13 =>
  if v14 = 0 then
    zl (((8 : Int32) * b44_L2) + b44_L1) fun v15 =>
    if b44_L3 = 0 then
      F_X10_pan_100 p0 p1 p2 v15 M13
    else
    if b44_L3 = 1 then
      F_X10_pan_110 p0 p1 p2 v15 M13
    else
    if b44_L3 = 2 then
      F_X10_pan_121 p0 p1 p2 v15 M13
    else
    if b44_L3 = 3 then
      F_X10_pan_131 p0 p1 p2 v15 M13
    else
    if b44_L3 = 4 then
      F_X10_pan_143 p0 p1 p2 v15 M13
    else
    if b44_L3 = 5 then
      F_X10_pan_158 p0 p1 p2 v15 M13
    else
    F_X10_pan_165 p0 p1 p2 v15 M13
  else
    some ((0 : Int32), M13)
def F_X10_pan_20 (p0 : Int32) (p1 : Int32) (p2 : Int32) (b20_L1 : Int32) (b20_L2 : Int32) (b20_L3 : Int32) (b20_S1 : Int32) (M : zMem) : Option (Int32 × zMem) :=
  zb (F_X10_bad M b20_S1 (1 : Int32) (0 : Int32)) fun v17 M16 =>
  if v17 = 0 then
    zb (F_X10_in M16 b20_L3 (0 : Int32) (6 : Int32)) fun v19 M18 =>
    if v19 = 0 then
      F_X10_pan_44 p0 p1 p2 b20_L1 b20_L2 b20_L3 (1 : Int32) M18
    else
      F_X10_pan_44 p0 p1 p2 b20_L1 b20_L2 b20_L3 (0 : Int32) M18
  else
    some ((0 : Int32), M16)
def F_X10_pan (M : zMem) (p0 : Int32) (p1 : Int32) (p2 : Int32) : Option (Int32 × zMem) :=
  zl (zI M 0 0 (0 : Int32)) fun M20 =>
  zb (F_X10_isWithin M20 p0 p1) fun v22 M21 =>
  if v22 = 0 then
    F_X10_pan_20 p0 p1 p2 p0 p1 p2 (1 : Int32) M21
  else
    F_X10_pan_20 p0 p1 p2 p0 p1 p2 (0 : Int32) M21
def rm_X10_pan : Room := { frames := 7, cells := 0, slots := 0, locals := 196 }
set_option maxHeartbeats 4000000 in
set_option maxRecDepth 100000 in
theorem c_X10_pan (l : Launch) {G : zG} {ad : Nat → Nat} {n : Nat} (hA : zInj ad n) (M : zMem) (p0 : Int32) (p1 : Int32) (p2 : Int32) (hT : zT shM n 0 11) {r9 : Int32} {M9 : zMem} (hF : F_X10_pan M p0 p1 p2 = some (r9, M9)) : zM l yX10_pan cX10_pan 5 (some .int) rm_X10_pan G shM ad n M [.ref (ad 0), .int p0, .int p1, .int p2] (some (.int r9)) M9 := by
  refine zM_of hA (by decide +kernel) (lv := [(0, .ref (ad 0)), (1, .int p0), (2, .int p1), (3, .int p2)]) (Nat.le_of_ble_eq_true rfl) rfl (fun p e s m args below meth c A cx hr => ?_)
  have hb165 : ∀ (b165_L4 : Int32) (M : zMem), F_X10_pan_165 p0 p1 p2 b165_L4 M = some (r9, M9) → zJ p l e rm_X10_pan s m args below meth c G shM ad n A 5 (MQ below (zQ G shM ad n M9 (some (.int r9)) A) args s 0 0 A) 0 0 M 165 [(0, .ref (ad 0)), (4, .int b165_L4)] [] := by
    intro b165_L4 M hF
    unfold F_X10_pan_165 at hF
    refine z_aload_n cx d_X10_pan_165 0 rfl ?_
    refine z_getR cx hT fg_SunnyPansModel_23 4 rfl d_X10_pan_166 ?_
    refine z_iconst (v := 2) cx d_X10_pan_169 ki_2 ?_
    refine z_iald cx (tfM_11_4 hT) za_28 (zvp (by decide +kernel)) 2 rfl d_X10_pan_170 ?_
    refine z_if_le cx 199 d_X10_pan_171 (by decide) hF (fun hF => ?_) (fun hF => ?_)
    · refine z_iconst (v := 0) cx d_X10_pan_199 ki_0 ?_
      exact z_iret cx hr rfl hF d_X10_pan_200
    refine z_aload_n cx d_X10_pan_174 0 rfl ?_
    refine z_aload_n cx d_X10_pan_175 0 rfl ?_
    refine z_getR cx hT fg_SunnyPansModel_58 451 rfl d_X10_pan_176 ?_
    refine z_iload cx d_X10_pan_179 1 rfl ?_
    refine z_aload_n cx d_X10_pan_181 0 rfl ?_
    refine z_getR cx hT fg_SunnyPansModel_58 451 rfl d_X10_pan_182 ?_
    refine z_sipush (v := 193) cx d_X10_pan_185 ks_193 ?_
    refine z_iald cx (tfM_11_451 hT) za_36 (zvp (by decide +kernel)) 193 rfl d_X10_pan_188 ?_
    obtain ⟨v2, M1, hc, hF⟩ := zb_inv hF
    refine z_callV cx (As := [.ref (ad 451), .int b165_L4, .int (M.1 451 193)]) (rest := []) (c_X10_isShade l cx.2.2.2.1.1 M 451 b165_L4 (M.1 451 193) hT (tfM_11_451 hT) hc) hT zo_11 cv_SunnyPansModel_264 ⟨rfl, rfl, Nat.le_of_ble_eq_true rfl, Nat.le_of_ble_eq_true rfl⟩ rfl rfl ⟨Nat.zero_le _, Nat.zero_le _⟩ (Nat.le_of_ble_eq_true rfl) d_X10_pan_189 ?_
    refine z_if_eq cx 199 d_X10_pan_192 (by decide) hF (fun hF => ?_) (fun hF => ?_)
    · refine z_iconst (v := 0) cx d_X10_pan_199 ki_0 ?_
      exact z_iret cx hr rfl hF d_X10_pan_200
    refine z_iconst (v := 1) cx d_X10_pan_195 ki_1 ?_
    refine z_goto cx 200 d_X10_pan_196 (by decide) ?_
    exact z_iret cx hr rfl hF d_X10_pan_200
  have hb158 : ∀ (b158_L4 : Int32) (M : zMem), F_X10_pan_158 p0 p1 p2 b158_L4 M = some (r9, M9) → zJ p l e rm_X10_pan s m args below meth c G shM ad n A 5 (MQ below (zQ G shM ad n M9 (some (.int r9)) A) args s 0 0 A) 0 0 M 158 [(0, .ref (ad 0)), (4, .int b158_L4)] [] := by
    intro b158_L4 M hF
    unfold F_X10_pan_158 at hF
    refine z_aload_n cx d_X10_pan_158 0 rfl ?_
    refine z_iload cx d_X10_pan_159 1 rfl ?_
    obtain ⟨v4, M3, hc, hF⟩ := zb_inv hF
    refine z_callV cx (As := [.int b158_L4]) (rest := []) (c_X10_sunOf l cx.2.2.2.1.1 M b158_L4 hT hc) hT zo_11 cv_SunnyPansModel_333 ⟨rfl, rfl, Nat.le_of_ble_eq_true rfl, Nat.le_of_ble_eq_true rfl⟩ rfl rfl ⟨Nat.zero_le _, Nat.zero_le _⟩ (Nat.le_of_ble_eq_true rfl) d_X10_pan_161 ?_
    exact z_iret cx hr rfl hF d_X10_pan_164
  have hb143 : ∀ (b143_L4 : Int32) (M : zMem), F_X10_pan_143 p0 p1 p2 b143_L4 M = some (r9, M9) → zJ p l e rm_X10_pan s m args below meth c G shM ad n A 5 (MQ below (zQ G shM ad n M9 (some (.int r9)) A) args s 0 0 A) 0 0 M 143 [(0, .ref (ad 0)), (4, .int b143_L4)] [] := by
    intro b143_L4 M hF
    unfold F_X10_pan_143 at hF
    refine z_aload_n cx d_X10_pan_143 0 rfl ?_
    refine z_getR cx hT fg_SunnyPansModel_58 451 rfl d_X10_pan_144 ?_
    refine z_sipush (v := 128) cx d_X10_pan_147 ks_128 ?_
    refine z_iload cx d_X10_pan_150 1 rfl ?_
    refine z_iadd cx d_X10_pan_152 ?_
    obtain ⟨hi5, hF⟩ := gin_inv hF
    refine z_iald cx (tfM_11_451 hT) za_36 hi5 (((128 : Int32) + b143_L4).toNatClampNeg) rfl d_X10_pan_153 ?_
    obtain ⟨v7, M6, hc, hF⟩ := zb_inv hF
    refine z_callS cx (As := [.int (M.1 451 ((128 : Int32) + b143_L4).toNatClampNeg)]) (rest := []) (c_X10_high l cx.2.2.2.1.1 M (M.1 451 ((128 : Int32) + b143_L4).toNatClampNeg)  hc) cs_SunnyPansModel_241 ⟨rfl, rfl, Nat.le_of_ble_eq_true rfl, Nat.le_of_ble_eq_true rfl⟩ rfl rfl ⟨Nat.zero_le _, Nat.zero_le _⟩ (Nat.le_of_ble_eq_true rfl) d_X10_pan_154 ?_
    exact z_iret cx hr rfl hF d_X10_pan_157
  have hb131 : ∀ (b131_L4 : Int32) (M : zMem), F_X10_pan_131 p0 p1 p2 b131_L4 M = some (r9, M9) → zJ p l e rm_X10_pan s m args below meth c G shM ad n A 5 (MQ below (zQ G shM ad n M9 (some (.int r9)) A) args s 0 0 A) 0 0 M 131 [(0, .ref (ad 0)), (4, .int b131_L4)] [] := by
    intro b131_L4 M hF
    unfold F_X10_pan_131 at hF
    refine z_aload_n cx d_X10_pan_131 0 rfl ?_
    refine z_getR cx hT fg_SunnyPansModel_58 451 rfl d_X10_pan_132 ?_
    refine z_sipush (v := 128) cx d_X10_pan_135 ks_128 ?_
    refine z_iload cx d_X10_pan_138 1 rfl ?_
    refine z_iadd cx d_X10_pan_140 ?_
    obtain ⟨hi8, hF⟩ := gin_inv hF
    refine z_iald cx (tfM_11_451 hT) za_36 hi8 (((128 : Int32) + b131_L4).toNatClampNeg) rfl d_X10_pan_141 ?_
    exact z_iret cx hr rfl hF d_X10_pan_142
  have hb121 : ∀ (b121_L4 : Int32) (M : zMem), F_X10_pan_121 p0 p1 p2 b121_L4 M = some (r9, M9) → zJ p l e rm_X10_pan s m args below meth c G shM ad n A 5 (MQ below (zQ G shM ad n M9 (some (.int r9)) A) args s 0 0 A) 0 0 M 121 [(0, .ref (ad 0)), (4, .int b121_L4)] [] := by
    intro b121_L4 M hF
    unfold F_X10_pan_121 at hF
    refine z_aload_n cx d_X10_pan_121 0 rfl ?_
    refine z_getR cx hT fg_SunnyPansModel_58 451 rfl d_X10_pan_122 ?_
    refine z_iload cx d_X10_pan_125 1 rfl ?_
    obtain ⟨v10, M9, hc, hF⟩ := zb_inv hF
    refine z_callS cx (As := [.ref (ad 451), .int b121_L4]) (rest := []) (c_X10_strength l cx.2.2.2.1.1 M 451 b121_L4 (tfM_11_451 hT) hc) cs_SunnyPansModel_330 ⟨rfl, rfl, Nat.le_of_ble_eq_true rfl, Nat.le_of_ble_eq_true rfl⟩ rfl rfl ⟨Nat.zero_le _, Nat.zero_le _⟩ (Nat.le_of_ble_eq_true rfl) d_X10_pan_127 ?_
    exact z_iret cx hr rfl hF d_X10_pan_130
  have hb110 : ∀ (b110_L4 : Int32) (M : zMem), F_X10_pan_110 p0 p1 p2 b110_L4 M = some (r9, M9) → zJ p l e rm_X10_pan s m args below meth c G shM ad n A 5 (MQ below (zQ G shM ad n M9 (some (.int r9)) A) args s 0 0 A) 0 0 M 110 [(0, .ref (ad 0)), (4, .int b110_L4)] [] := by
    intro b110_L4 M hF
    unfold F_X10_pan_110 at hF
    refine z_aload_n cx d_X10_pan_110 0 rfl ?_
    refine z_getR cx hT fg_SunnyPansModel_58 451 rfl d_X10_pan_111 ?_
    refine z_bipush (v := 64) cx d_X10_pan_114 kb_64 ?_
    refine z_iload cx d_X10_pan_116 1 rfl ?_
    refine z_iadd cx d_X10_pan_118 ?_
    obtain ⟨hi11, hF⟩ := gin_inv hF
    refine z_iald cx (tfM_11_451 hT) za_36 hi11 (((64 : Int32) + b110_L4).toNatClampNeg) rfl d_X10_pan_119 ?_
    exact z_iret cx hr rfl hF d_X10_pan_120
  have hb100 : ∀ (b100_L4 : Int32) (M : zMem), F_X10_pan_100 p0 p1 p2 b100_L4 M = some (r9, M9) → zJ p l e rm_X10_pan s m args below meth c G shM ad n A 5 (MQ below (zQ G shM ad n M9 (some (.int r9)) A) args s 0 0 A) 0 0 M 100 [(0, .ref (ad 0)), (4, .int b100_L4)] [] := by
    intro b100_L4 M hF
    unfold F_X10_pan_100 at hF
    refine z_aload_n cx d_X10_pan_100 0 rfl ?_
    refine z_getR cx hT fg_SunnyPansModel_58 451 rfl d_X10_pan_101 ?_
    refine z_iconst (v := 0) cx d_X10_pan_104 ki_0 ?_
    refine z_iload cx d_X10_pan_105 1 rfl ?_
    refine z_iadd cx d_X10_pan_107 ?_
    obtain ⟨hi12, hF⟩ := gin_inv hF
    refine z_iald cx (tfM_11_451 hT) za_36 hi12 (((0 : Int32) + b100_L4).toNatClampNeg) rfl d_X10_pan_108 ?_
    exact z_iret cx hr rfl hF d_X10_pan_109
  have hb44 : ∀ (b44_L1 : Int32) (b44_L2 : Int32) (b44_L3 : Int32) (b44_S1 : Int32) (M : zMem), F_X10_pan_44 p0 p1 p2 b44_L1 b44_L2 b44_L3 b44_S1 M = some (r9, M9) → zJ p l e rm_X10_pan s m args below meth c G shM ad n A 5 (MQ below (zQ G shM ad n M9 (some (.int r9)) A) args s 0 0 A) 0 0 M 44 [(0, .ref (ad 0)), (1, .int b44_L1), (2, .int b44_L2), (3, .int b44_L3)] [.int b44_S1, .ref (ad 0)] := by
    intro b44_L1 b44_L2 b44_L3 b44_S1 M hF
    unfold F_X10_pan_44 at hF
    refine z_iconst (v := 2) cx d_X10_pan_44 ki_2 ?_
    refine z_iconst (v := 1) cx d_X10_pan_45 ki_1 ?_
    obtain ⟨v14, M13, hc, hF⟩ := zb_inv hF
    refine z_callV cx (As := [.int b44_S1, .int (2 : Int32), .int (1 : Int32)]) (rest := []) (c_X10_bad l cx.2.2.2.1.1 M b44_S1 (2 : Int32) (1 : Int32) hT hc) hT zo_11 cv_SunnyPansModel_155 ⟨rfl, rfl, Nat.le_of_ble_eq_true rfl, Nat.le_of_ble_eq_true rfl⟩ rfl rfl ⟨Nat.zero_le _, Nat.zero_le _⟩ (Nat.le_of_ble_eq_true rfl) d_X10_pan_46 ?_
    refine z_if_eq cx 54 d_X10_pan_49 (by decide) hF (fun hF => ?_) (fun hF => ?_)
    · refine z_bipush (v := 8) cx d_X10_pan_54 kb_8 ?_
      refine z_iload_n cx d_X10_pan_56 2 rfl ?_
      refine z_imul cx d_X10_pan_57 ?_
      refine z_iload_n cx d_X10_pan_58 1 rfl ?_
      refine z_iadd cx d_X10_pan_59 ?_
      refine z_nm hF (fun v15 hF => ?_)
      refine z_istore cx 4 [(4, .int v15), (0, .ref (ad 0)), (1, .int b44_L1), (2, .int b44_L2), (3, .int b44_L3)] d_X10_pan_60 (by decide) rfl ?_
      refine z_iload_n cx d_X10_pan_62 4 rfl ?_
      by_cases q0 : b44_L3 = 0
      · rw [if_pos q0] at hF
        refine z_tabIn cx 100 d_X10_pan_63 (by rw [q0]; decide +kernel) (by rw [q0]; decide +kernel) (by rw [q0]; rfl) (by decide) ?_
        exact z_lv [1, 0] _ rfl (hb100 v15 M13 hF)
      rw [if_neg q0] at hF
      by_cases q1 : b44_L3 = 1
      · rw [if_pos q1] at hF
        refine z_tabIn cx 110 d_X10_pan_63 (by rw [q1]; decide +kernel) (by rw [q1]; decide +kernel) (by rw [q1]; rfl) (by decide) ?_
        exact z_lv [1, 0] _ rfl (hb110 v15 M13 hF)
      rw [if_neg q1] at hF
      by_cases q2 : b44_L3 = 2
      · rw [if_pos q2] at hF
        refine z_tabIn cx 121 d_X10_pan_63 (by rw [q2]; decide +kernel) (by rw [q2]; decide +kernel) (by rw [q2]; rfl) (by decide) ?_
        exact z_lv [1, 0] _ rfl (hb121 v15 M13 hF)
      rw [if_neg q2] at hF
      by_cases q3 : b44_L3 = 3
      · rw [if_pos q3] at hF
        refine z_tabIn cx 131 d_X10_pan_63 (by rw [q3]; decide +kernel) (by rw [q3]; decide +kernel) (by rw [q3]; rfl) (by decide) ?_
        exact z_lv [1, 0] _ rfl (hb131 v15 M13 hF)
      rw [if_neg q3] at hF
      by_cases q4 : b44_L3 = 4
      · rw [if_pos q4] at hF
        refine z_tabIn cx 143 d_X10_pan_63 (by rw [q4]; decide +kernel) (by rw [q4]; decide +kernel) (by rw [q4]; rfl) (by decide) ?_
        exact z_lv [1, 0] _ rfl (hb143 v15 M13 hF)
      rw [if_neg q4] at hF
      by_cases q5 : b44_L3 = 5
      · rw [if_pos q5] at hF
        refine z_tabIn cx 158 d_X10_pan_63 (by rw [q5]; decide +kernel) (by rw [q5]; decide +kernel) (by rw [q5]; rfl) (by decide) ?_
        exact z_lv [1, 0] _ rfl (hb158 v15 M13 hF)
      rw [if_neg q5] at hF
      refine z_tabOut cx 165 d_X10_pan_63 (by have w0 := lv_neT q0 (a := 0) (by decide +kernel); have w1 := lv_neT q1 (a := 1) (by decide +kernel); have w2 := lv_neT q2 (a := 2) (by decide +kernel); have w3 := lv_neT q3 (a := 3) (by decide +kernel); have w4 := lv_neT q4 (a := 4) (by decide +kernel); have w5 := lv_neT q5 (a := 5) (by decide +kernel); omega) (by decide) ?_
      exact z_lv [1, 0] _ rfl (hb165 v15 M13 hF)
    refine z_iconst (v := 0) cx d_X10_pan_52 ki_0 ?_
    exact z_iret cx hr rfl hF d_X10_pan_53
  have hb20 : ∀ (b20_L1 : Int32) (b20_L2 : Int32) (b20_L3 : Int32) (b20_S1 : Int32) (M : zMem), F_X10_pan_20 p0 p1 p2 b20_L1 b20_L2 b20_L3 b20_S1 M = some (r9, M9) → zJ p l e rm_X10_pan s m args below meth c G shM ad n A 5 (MQ below (zQ G shM ad n M9 (some (.int r9)) A) args s 0 0 A) 0 0 M 20 [(0, .ref (ad 0)), (1, .int b20_L1), (2, .int b20_L2), (3, .int b20_L3)] [.int b20_S1, .ref (ad 0)] := by
    intro b20_L1 b20_L2 b20_L3 b20_S1 M hF
    unfold F_X10_pan_20 at hF
    refine z_iconst (v := 1) cx d_X10_pan_20 ki_1 ?_
    refine z_iconst (v := 0) cx d_X10_pan_21 ki_0 ?_
    obtain ⟨v17, M16, hc, hF⟩ := zb_inv hF
    refine z_callV cx (As := [.int b20_S1, .int (1 : Int32), .int (0 : Int32)]) (rest := []) (c_X10_bad l cx.2.2.2.1.1 M b20_S1 (1 : Int32) (0 : Int32) hT hc) hT zo_11 cv_SunnyPansModel_155 ⟨rfl, rfl, Nat.le_of_ble_eq_true rfl, Nat.le_of_ble_eq_true rfl⟩ rfl rfl ⟨Nat.zero_le _, Nat.zero_le _⟩ (Nat.le_of_ble_eq_true rfl) d_X10_pan_22 ?_
    refine z_if_ne cx 52 d_X10_pan_25 (by decide) hF (fun hF => ?_) (fun hF => ?_)
    · refine z_iconst (v := 0) cx d_X10_pan_52 ki_0 ?_
      exact z_iret cx hr rfl hF d_X10_pan_53
    refine z_aload_n cx d_X10_pan_28 0 rfl ?_
    refine z_iload_n cx d_X10_pan_29 3 rfl ?_
    refine z_iconst (v := 0) cx d_X10_pan_30 ki_0 ?_
    refine z_bipush (v := 6) cx d_X10_pan_31 kb_6 ?_
    obtain ⟨v19, M18, hc, hF⟩ := zb_inv hF
    refine z_callS cx (As := [.int b20_L3, .int (0 : Int32), .int (6 : Int32)]) (rest := [.ref (ad 0)]) (c_X10_in l cx.2.2.2.1.1 M16 b20_L3 (0 : Int32) (6 : Int32)  hc) cs_SunnyPansModel_116 ⟨rfl, rfl, Nat.le_of_ble_eq_true rfl, Nat.le_of_ble_eq_true rfl⟩ rfl rfl ⟨Nat.zero_le _, Nat.zero_le _⟩ (Nat.le_of_ble_eq_true rfl) d_X10_pan_33 ?_
    refine z_if_ne cx 43 d_X10_pan_36 (by decide) hF (fun hF => ?_) (fun hF => ?_)
    · refine z_iconst (v := 0) cx d_X10_pan_43 ki_0 ?_
      exact hb44 b20_L1 b20_L2 b20_L3 (0 : Int32) M18 hF
    refine z_iconst (v := 1) cx d_X10_pan_39 ki_1 ?_
    refine z_goto cx 44 d_X10_pan_40 (by decide) ?_
    exact hb44 b20_L1 b20_L2 b20_L3 (1 : Int32) M18 hF
  unfold F_X10_pan at hF
  refine z_aload_n cx d_X10_pan_0 0 rfl ?_
  refine z_iconst (v := 0) cx d_X10_pan_1 ki_0 ?_
  refine z_putI cx hT fp_SunnyPansModel_82 d_X10_pan_2 ?_
  refine z_nmM hF (fun M20 hF => ?_)
  refine z_aload_n cx d_X10_pan_5 0 rfl ?_
  refine z_aload_n cx d_X10_pan_6 0 rfl ?_
  refine z_iload_n cx d_X10_pan_7 1 rfl ?_
  refine z_iload_n cx d_X10_pan_8 2 rfl ?_
  obtain ⟨v22, M21, hc, hF⟩ := zb_inv hF
  refine z_callV cx (As := [.int p0, .int p1]) (rest := [.ref (ad 0)]) (c_X10_isWithin l cx.2.2.2.1.1 M20 p0 p1 hT hc) hT zo_11 cv_SunnyPansModel_237 ⟨rfl, rfl, Nat.le_of_ble_eq_true rfl, Nat.le_of_ble_eq_true rfl⟩ rfl rfl ⟨Nat.zero_le _, Nat.zero_le _⟩ (Nat.le_of_ble_eq_true rfl) d_X10_pan_9 ?_
  refine z_if_ne cx 19 d_X10_pan_12 (by decide) hF (fun hF => ?_) (fun hF => ?_)
  · refine z_iconst (v := 0) cx d_X10_pan_19 ki_0 ?_
    exact hb20 p0 p1 p2 (0 : Int32) M21 hF
  refine z_iconst (v := 1) cx d_X10_pan_15 ki_1 ?_
  refine z_goto cx 20 d_X10_pan_16 (by decide) ?_
  exact hb20 p0 p1 p2 (1 : Int32) M21 hF
/-! SunnyPansModel.isHour -/
theorem d_X10_isHour_0 : decode cX10_isHour 0 = .ok (.iload_n 1, 1) := by decide +kernel
theorem d_X10_isHour_1 : decode cX10_isHour 1 = .ok (.iconst 0, 1) := by decide +kernel
theorem d_X10_isHour_2 : decode cX10_isHour 2 = .ok (.aload_n 0, 1) := by decide +kernel
theorem d_X10_isHour_3 : decode cX10_isHour 3 = .ok (.getfield 23, 3) := by decide +kernel
theorem d_X10_isHour_6 : decode cX10_isHour 6 = .ok (.iconst 2, 1) := by decide +kernel
theorem d_X10_isHour_7 : decode cX10_isHour 7 = .ok (.iaload, 1) := by decide +kernel
theorem d_X10_isHour_8 : decode cX10_isHour 8 = .ok (.iconst 1, 1) := by decide +kernel
theorem d_X10_isHour_9 : decode cX10_isHour 9 = .ok (.isub, 1) := by decide +kernel
theorem d_X10_isHour_10 : decode cX10_isHour 10 = .ok (.invokestatic 116, 3) := by decide +kernel
theorem d_X10_isHour_13 : decode cX10_isHour 13 = .ok (.ireturn, 1) := by decide +kernel
def F_X10_isHour (M : zMem) (p0 : Int32) : Option (Int32 × zMem) :=
  zb (F_X10_in M p0 (0 : Int32) ((M.1 4 2) - (1 : Int32))) fun v2 M1 =>
  gd (v2 == 0 || v2 == 1) <|
  some (v2, M1)
def rm_X10_isHour : Room := { frames := 3, cells := 0, slots := 0, locals := 102 }
set_option maxHeartbeats 4000000 in
set_option maxRecDepth 100000 in
theorem c_X10_isHour (l : Launch) {G : zG} {ad : Nat → Nat} {n : Nat} (hA : zInj ad n) (M : zMem) (p0 : Int32) (hT : zT shM n 0 11) {r9 : Int32} {M9 : zMem} (hF : F_X10_isHour M p0 = some (r9, M9)) : zM l yX10_isHour cX10_isHour 2 (some .boolean) rm_X10_isHour G shM ad n M [.ref (ad 0), .int p0] (some (.int r9)) M9 := by
  refine zM_of hA (by decide +kernel) (lv := [(0, .ref (ad 0)), (1, .int p0)]) (Nat.le_of_ble_eq_true rfl) rfl (fun p e s m args below meth c A cx hr => ?_)
  unfold F_X10_isHour at hF
  refine z_iload_n cx d_X10_isHour_0 1 rfl ?_
  refine z_iconst (v := 0) cx d_X10_isHour_1 ki_0 ?_
  refine z_aload_n cx d_X10_isHour_2 0 rfl ?_
  refine z_getR cx hT fg_SunnyPansModel_23 4 rfl d_X10_isHour_3 ?_
  refine z_iconst (v := 2) cx d_X10_isHour_6 ki_2 ?_
  refine z_iald cx (tfM_11_4 hT) za_28 (zvp (by decide +kernel)) 2 rfl d_X10_isHour_7 ?_
  refine z_iconst (v := 1) cx d_X10_isHour_8 ki_1 ?_
  refine z_isub cx d_X10_isHour_9 ?_
  obtain ⟨v2, M1, hc, hF⟩ := zb_inv hF
  refine z_callS cx (As := [.int p0, .int (0 : Int32), .int ((M.1 4 2) - (1 : Int32))]) (rest := []) (c_X10_in l cx.2.2.2.1.1 M p0 (0 : Int32) ((M.1 4 2) - (1 : Int32))  hc) cs_SunnyPansModel_116 ⟨rfl, rfl, Nat.le_of_ble_eq_true rfl, Nat.le_of_ble_eq_true rfl⟩ rfl rfl ⟨Nat.zero_le _, Nat.zero_le _⟩ (Nat.le_of_ble_eq_true rfl) d_X10_isHour_10 ?_
  obtain ⟨hn3, hF⟩ := gd_inv hF
  exact z_iret cx hr (nbx hn3) hF d_X10_isHour_13
/-! SunnyPansModel.shadeBits -/
theorem d_X10_shadeBits_0 : decode cX10_shadeBits 0 = .ok (.iconst 0, 1) := by decide +kernel
theorem d_X10_shadeBits_1 : decode cX10_shadeBits 1 = .ok (.istore_n 3, 1) := by decide +kernel
theorem d_X10_shadeBits_2 : decode cX10_shadeBits 2 = .ok (.iconst 0, 1) := by decide +kernel
theorem d_X10_shadeBits_3 : decode cX10_shadeBits 3 = .ok (.istore 4, 2) := by decide +kernel
theorem d_X10_shadeBits_5 : decode cX10_shadeBits 5 = .ok (.iload 4, 2) := by decide +kernel
theorem d_X10_shadeBits_7 : decode cX10_shadeBits 7 = .ok (.aload_n 0, 1) := by decide +kernel
theorem d_X10_shadeBits_8 : decode cX10_shadeBits 8 = .ok (.getfield 23, 3) := by decide +kernel
theorem d_X10_shadeBits_11 : decode cX10_shadeBits 11 = .ok (.iconst 0, 1) := by decide +kernel
theorem d_X10_shadeBits_12 : decode cX10_shadeBits 12 = .ok (.iaload, 1) := by decide +kernel
theorem d_X10_shadeBits_13 : decode cX10_shadeBits 13 = .ok (.if_icmp .ge 39, 3) := by decide +kernel
theorem d_X10_shadeBits_16 : decode cX10_shadeBits 16 = .ok (.iload_n 3, 1) := by decide +kernel
theorem d_X10_shadeBits_17 : decode cX10_shadeBits 17 = .ok (.aload_n 0, 1) := by decide +kernel
theorem d_X10_shadeBits_18 : decode cX10_shadeBits 18 = .ok (.aload_n 0, 1) := by decide +kernel
theorem d_X10_shadeBits_19 : decode cX10_shadeBits 19 = .ok (.getfield 58, 3) := by decide +kernel
theorem d_X10_shadeBits_22 : decode cX10_shadeBits 22 = .ok (.bipush 8, 2) := by decide +kernel
theorem d_X10_shadeBits_24 : decode cX10_shadeBits 24 = .ok (.iload_n 2, 1) := by decide +kernel
theorem d_X10_shadeBits_25 : decode cX10_shadeBits 25 = .ok (.imul, 1) := by decide +kernel
theorem d_X10_shadeBits_26 : decode cX10_shadeBits 26 = .ok (.iload 4, 2) := by decide +kernel
theorem d_X10_shadeBits_28 : decode cX10_shadeBits 28 = .ok (.iadd, 1) := by decide +kernel
theorem d_X10_shadeBits_29 : decode cX10_shadeBits 29 = .ok (.iload_n 1, 1) := by decide +kernel
theorem d_X10_shadeBits_30 : decode cX10_shadeBits 30 = .ok (.invokevirtual 264, 3) := by decide +kernel
theorem d_X10_shadeBits_33 : decode cX10_shadeBits 33 = .ok (.ifCond .eq 10, 3) := by decide +kernel
theorem d_X10_shadeBits_36 : decode cX10_shadeBits 36 = .ok (.iconst 1, 1) := by decide +kernel
theorem d_X10_shadeBits_37 : decode cX10_shadeBits 37 = .ok (.iload 4, 2) := by decide +kernel
theorem d_X10_shadeBits_39 : decode cX10_shadeBits 39 = .ok (.ishl, 1) := by decide +kernel
theorem d_X10_shadeBits_40 : decode cX10_shadeBits 40 = .ok (.goto 4, 3) := by decide +kernel
theorem d_X10_shadeBits_43 : decode cX10_shadeBits 43 = .ok (.iconst 0, 1) := by decide +kernel
theorem d_X10_shadeBits_44 : decode cX10_shadeBits 44 = .ok (.ior, 1) := by decide +kernel
theorem d_X10_shadeBits_45 : decode cX10_shadeBits 45 = .ok (.istore_n 3, 1) := by decide +kernel
theorem d_X10_shadeBits_46 : decode cX10_shadeBits 46 = .ok (.iinc 4 1, 3) := by decide +kernel
theorem d_X10_shadeBits_49 : decode cX10_shadeBits 49 = .ok (.goto (-44), 3) := by decide +kernel
theorem d_X10_shadeBits_52 : decode cX10_shadeBits 52 = .ok (.iload_n 3, 1) := by decide +kernel
theorem d_X10_shadeBits_53 : decode cX10_shadeBits 53 = .ok (.ireturn, 1) := by decide +kernel
def F_X10_shadeBits_44 (p0 : Int32) (p1 : Int32) (self5 : Int32 → Int32 → Int32 → Int32 → zMem → Option (Int32 × zMem)) (b44_L1 : Int32) (b44_L2 : Int32) (b44_L4 : Int32) (b44_S0 : Int32) (b44_S1 : Int32) (M : zMem) : Option (Int32 × zMem) :=
  zl (b44_S0 ||| b44_S1) fun v1 =>
  self5 b44_L1 b44_L2 v1 (b44_L4 + 1) M
def F_X10_shadeBits_5 (p0 : Int32) (p1 : Int32) (self5 : Int32 → Int32 → Int32 → Int32 → zMem → Option (Int32 × zMem)) (b5_L1 : Int32) (b5_L2 : Int32) (b5_L3 : Int32) (b5_L4 : Int32) (M : zMem) : Option (Int32 × zMem) :=
  if (M.1 4 0) ≤ b5_L4 then
    some (b5_L3, M)
  else
    zb (F_X10_isShade M 451 (((8 : Int32) * b5_L2) + b5_L4) b5_L1) fun v3 M2 =>
    if v3 = 0 then
      F_X10_shadeBits_44 p0 p1 self5 b5_L1 b5_L2 b5_L4 b5_L3 (0 : Int32) M2
    else
      F_X10_shadeBits_44 p0 p1 self5 b5_L1 b5_L2 b5_L4 b5_L3 ((1 : Int32) <<< (b5_L4 &&& 31)) M2
def F_X10_shadeBits (M : zMem) (p0 : Int32) (p1 : Int32) : Option (Int32 × zMem) :=
  itF (fun _ _ _ _ _ => none) (F_X10_shadeBits_5 p0 p1) zFuel p0 p1 (0 : Int32) (0 : Int32) M
def rm_X10_shadeBits : Room := { frames := 6, cells := 0, slots := 0, locals := 173 }
set_option maxHeartbeats 4000000 in
set_option maxRecDepth 100000 in
theorem c_X10_shadeBits (l : Launch) {G : zG} {ad : Nat → Nat} {n : Nat} (hA : zInj ad n) (M : zMem) (p0 : Int32) (p1 : Int32) (hT : zT shM n 0 11) {r9 : Int32} {M9 : zMem} (hF : F_X10_shadeBits M p0 p1 = some (r9, M9)) : zM l yX10_shadeBits cX10_shadeBits 5 (some .int) rm_X10_shadeBits G shM ad n M [.ref (ad 0), .int p0, .int p1] (some (.int r9)) M9 := by
  refine zM_of hA (by decide +kernel) (lv := [(0, .ref (ad 0)), (1, .int p0), (2, .int p1)]) (Nat.le_of_ble_eq_true rfl) rfl (fun p e s m args below meth c A cx hr => ?_)
  have hb44 : ∀ (self5 : Int32 → Int32 → Int32 → Int32 → zMem → Option (Int32 × zMem)) (hs5 : ∀ (b5_L1 : Int32) (b5_L2 : Int32) (b5_L3 : Int32) (b5_L4 : Int32) (M : zMem), self5 b5_L1 b5_L2 b5_L3 b5_L4 M = some (r9, M9) → zJ p l e rm_X10_shadeBits s m args below meth c G shM ad n A 5 (MQ below (zQ G shM ad n M9 (some (.int r9)) A) args s 0 0 A) 0 0 M 5 [(0, .ref (ad 0)), (1, .int b5_L1), (2, .int b5_L2), (3, .int b5_L3), (4, .int b5_L4)] []), ∀ (b44_L1 : Int32) (b44_L2 : Int32) (b44_L4 : Int32) (b44_S0 : Int32) (b44_S1 : Int32) (M : zMem), F_X10_shadeBits_44 p0 p1 self5 b44_L1 b44_L2 b44_L4 b44_S0 b44_S1 M = some (r9, M9) → zJ p l e rm_X10_shadeBits s m args below meth c G shM ad n A 5 (MQ below (zQ G shM ad n M9 (some (.int r9)) A) args s 0 0 A) 0 0 M 44 [(0, .ref (ad 0)), (1, .int b44_L1), (2, .int b44_L2), (4, .int b44_L4)] [.int b44_S1, .int b44_S0] := by
    intro self5 hs5 b44_L1 b44_L2 b44_L4 b44_S0 b44_S1 M hF
    unfold F_X10_shadeBits_44 at hF
    refine z_ior cx d_X10_shadeBits_44 ?_
    refine z_nm hF (fun v1 hF => ?_)
    refine z_istore_n cx 3 [(3, .int v1), (0, .ref (ad 0)), (1, .int b44_L1), (2, .int b44_L2), (4, .int b44_L4)] d_X10_shadeBits_45 rfl (by decide) rfl ?_
    refine z_iinc cx 4 1 [(4, .int (b44_L4 + 1)), (3, .int v1), (0, .ref (ad 0)), (1, .int b44_L1), (2, .int b44_L2)] d_X10_shadeBits_46 4 rfl ki_1 (by decide) rfl ?_
    refine z_goto cx 5 d_X10_shadeBits_49 (by decide) ?_
    exact z_lv [2, 3, 4, 1, 0] _ rfl (hs5 b44_L1 b44_L2 v1 (b44_L4 + 1) M hF)
  have hL5 : ∀ (fuel : Nat), ∀ (b5_L1 : Int32) (b5_L2 : Int32) (b5_L3 : Int32) (b5_L4 : Int32) (M : zMem), itF (fun _ _ _ _ _ => none) (F_X10_shadeBits_5 p0 p1) fuel b5_L1 b5_L2 b5_L3 b5_L4 M = some (r9, M9) → zJ p l e rm_X10_shadeBits s m args below meth c G shM ad n A 5 (MQ below (zQ G shM ad n M9 (some (.int r9)) A) args s 0 0 A) 0 0 M 5 [(0, .ref (ad 0)), (1, .int b5_L1), (2, .int b5_L2), (3, .int b5_L3), (4, .int b5_L4)] [] := by
    intro fuel
    induction fuel with
    | zero => intro b5_L1 b5_L2 b5_L3 b5_L4 M hF; cases hF
    | succ fuel hs5 =>
      intro b5_L1 b5_L2 b5_L3 b5_L4 M hF
      have hF : F_X10_shadeBits_5 p0 p1 (itF (fun _ _ _ _ _ => none) (F_X10_shadeBits_5 p0 p1) fuel) b5_L1 b5_L2 b5_L3 b5_L4 M = some (r9, M9) := hF
      generalize itF (fun _ _ _ _ _ => none) (F_X10_shadeBits_5 p0 p1) fuel = self5 at hs5 hF
      unfold F_X10_shadeBits_5 at hF
      refine z_iload cx d_X10_shadeBits_5 4 rfl ?_
      refine z_aload_n cx d_X10_shadeBits_7 0 rfl ?_
      refine z_getR cx hT fg_SunnyPansModel_23 4 rfl d_X10_shadeBits_8 ?_
      refine z_iconst (v := 0) cx d_X10_shadeBits_11 ki_0 ?_
      refine z_iald cx (tfM_11_4 hT) za_28 (zvp (by decide +kernel)) 0 rfl d_X10_shadeBits_12 ?_
      refine z_icmp_ge cx 52 d_X10_shadeBits_13 (by decide) hF (fun hF => ?_) (fun hF => ?_)
      · refine z_iload_n cx d_X10_shadeBits_52 3 rfl ?_
        exact z_iret cx hr rfl hF d_X10_shadeBits_53
      refine z_iload_n cx d_X10_shadeBits_16 3 rfl ?_
      refine z_aload_n cx d_X10_shadeBits_17 0 rfl ?_
      refine z_aload_n cx d_X10_shadeBits_18 0 rfl ?_
      refine z_getR cx hT fg_SunnyPansModel_58 451 rfl d_X10_shadeBits_19 ?_
      refine z_bipush (v := 8) cx d_X10_shadeBits_22 kb_8 ?_
      refine z_iload_n cx d_X10_shadeBits_24 2 rfl ?_
      refine z_imul cx d_X10_shadeBits_25 ?_
      refine z_iload cx d_X10_shadeBits_26 4 rfl ?_
      refine z_iadd cx d_X10_shadeBits_28 ?_
      refine z_iload_n cx d_X10_shadeBits_29 1 rfl ?_
      obtain ⟨v3, M2, hc, hF⟩ := zb_inv hF
      refine z_callV cx (As := [.ref (ad 451), .int (((8 : Int32) * b5_L2) + b5_L4), .int b5_L1]) (rest := [.int b5_L3]) (c_X10_isShade l cx.2.2.2.1.1 M 451 (((8 : Int32) * b5_L2) + b5_L4) b5_L1 hT (tfM_11_451 hT) hc) hT zo_11 cv_SunnyPansModel_264 ⟨rfl, rfl, Nat.le_of_ble_eq_true rfl, Nat.le_of_ble_eq_true rfl⟩ rfl rfl ⟨Nat.zero_le _, Nat.zero_le _⟩ (Nat.le_of_ble_eq_true rfl) d_X10_shadeBits_30 ?_
      refine z_if_eq cx 43 d_X10_shadeBits_33 (by decide) hF (fun hF => ?_) (fun hF => ?_)
      · refine z_iconst (v := 0) cx d_X10_shadeBits_43 ki_0 ?_
        exact z_lv [0, 1, 2, 4] _ rfl (hb44 self5 hs5 b5_L1 b5_L2 b5_L4 b5_L3 (0 : Int32) M2 hF)
      refine z_iconst (v := 1) cx d_X10_shadeBits_36 ki_1 ?_
      refine z_iload cx d_X10_shadeBits_37 4 rfl ?_
      refine z_ishl cx d_X10_shadeBits_39 ?_
      refine z_goto cx 44 d_X10_shadeBits_40 (by decide) ?_
      exact z_lv [0, 1, 2, 4] _ rfl (hb44 self5 hs5 b5_L1 b5_L2 b5_L4 b5_L3 ((1 : Int32) <<< (b5_L4 &&& 31)) M2 hF)
  unfold F_X10_shadeBits at hF
  refine z_iconst (v := 0) cx d_X10_shadeBits_0 ki_0 ?_
  refine z_istore_n cx 3 [(3, .int (0 : Int32)), (0, .ref (ad 0)), (1, .int p0), (2, .int p1)] d_X10_shadeBits_1 rfl (by decide) rfl ?_
  refine z_iconst (v := 0) cx d_X10_shadeBits_2 ki_0 ?_
  refine z_istore cx 4 [(4, .int (0 : Int32)), (3, .int (0 : Int32)), (0, .ref (ad 0)), (1, .int p0), (2, .int p1)] d_X10_shadeBits_3 (by decide) rfl ?_
  exact z_lv [2, 3, 4, 1, 0] _ rfl (hL5 zFuel p0 p1 (0 : Int32) (0 : Int32) M hF)
/-! SunnyPansModel.hour -/
theorem d_X10_hour_0 : decode cX10_hour 0 = .ok (.aload_n 0, 1) := by decide +kernel
theorem d_X10_hour_1 : decode cX10_hour 1 = .ok (.iconst 0, 1) := by decide +kernel
theorem d_X10_hour_2 : decode cX10_hour 2 = .ok (.putfield 82, 3) := by decide +kernel
theorem d_X10_hour_5 : decode cX10_hour 5 = .ok (.aload_n 0, 1) := by decide +kernel
theorem d_X10_hour_6 : decode cX10_hour 6 = .ok (.aload_n 0, 1) := by decide +kernel
theorem d_X10_hour_7 : decode cX10_hour 7 = .ok (.iload_n 1, 1) := by decide +kernel
theorem d_X10_hour_8 : decode cX10_hour 8 = .ok (.invokevirtual 336, 3) := by decide +kernel
theorem d_X10_hour_11 : decode cX10_hour 11 = .ok (.ifCond .ne 7, 3) := by decide +kernel
theorem d_X10_hour_14 : decode cX10_hour 14 = .ok (.iconst 1, 1) := by decide +kernel
theorem d_X10_hour_15 : decode cX10_hour 15 = .ok (.goto 4, 3) := by decide +kernel
theorem d_X10_hour_18 : decode cX10_hour 18 = .ok (.iconst 0, 1) := by decide +kernel
theorem d_X10_hour_19 : decode cX10_hour 19 = .ok (.iconst 1, 1) := by decide +kernel
theorem d_X10_hour_20 : decode cX10_hour 20 = .ok (.iconst 0, 1) := by decide +kernel
theorem d_X10_hour_21 : decode cX10_hour 21 = .ok (.invokevirtual 155, 3) := by decide +kernel
theorem d_X10_hour_24 : decode cX10_hour 24 = .ok (.ifCond .ne 26, 3) := by decide +kernel
theorem d_X10_hour_27 : decode cX10_hour 27 = .ok (.aload_n 0, 1) := by decide +kernel
theorem d_X10_hour_28 : decode cX10_hour 28 = .ok (.iload_n 2, 1) := by decide +kernel
theorem d_X10_hour_29 : decode cX10_hour 29 = .ok (.iconst 0, 1) := by decide +kernel
theorem d_X10_hour_30 : decode cX10_hour 30 = .ok (.iconst 2, 1) := by decide +kernel
theorem d_X10_hour_31 : decode cX10_hour 31 = .ok (.invokestatic 116, 3) := by decide +kernel
theorem d_X10_hour_34 : decode cX10_hour 34 = .ok (.ifCond .ne 7, 3) := by decide +kernel
theorem d_X10_hour_37 : decode cX10_hour 37 = .ok (.iconst 1, 1) := by decide +kernel
theorem d_X10_hour_38 : decode cX10_hour 38 = .ok (.goto 4, 3) := by decide +kernel
theorem d_X10_hour_41 : decode cX10_hour 41 = .ok (.iconst 0, 1) := by decide +kernel
theorem d_X10_hour_42 : decode cX10_hour 42 = .ok (.iconst 2, 1) := by decide +kernel
theorem d_X10_hour_43 : decode cX10_hour 43 = .ok (.iconst 1, 1) := by decide +kernel
theorem d_X10_hour_44 : decode cX10_hour 44 = .ok (.invokevirtual 155, 3) := by decide +kernel
theorem d_X10_hour_47 : decode cX10_hour 47 = .ok (.ifCond .eq 5, 3) := by decide +kernel
theorem d_X10_hour_50 : decode cX10_hour 50 = .ok (.iconst 0, 1) := by decide +kernel
theorem d_X10_hour_51 : decode cX10_hour 51 = .ok (.ireturn, 1) := by decide +kernel
theorem d_X10_hour_52 : decode cX10_hour 52 = .ok (.iload_n 2, 1) := by decide +kernel
theorem d_X10_hour_53 : decode cX10_hour 53 = .ok (.iconst 2, 1) := by decide +kernel
theorem d_X10_hour_54 : decode cX10_hour 54 = .ok (.if_icmp .ge 12, 3) := by decide +kernel
theorem d_X10_hour_57 : decode cX10_hour 57 = .ok (.aload_n 0, 1) := by decide +kernel
theorem d_X10_hour_58 : decode cX10_hour 58 = .ok (.getfield 34, 3) := by decide +kernel
theorem d_X10_hour_61 : decode cX10_hour 61 = .ok (.iload_n 1, 1) := by decide +kernel
theorem d_X10_hour_62 : decode cX10_hour 62 = .ok (.aaload, 1) := by decide +kernel
theorem d_X10_hour_63 : decode cX10_hour 63 = .ok (.iload_n 2, 1) := by decide +kernel
theorem d_X10_hour_64 : decode cX10_hour 64 = .ok (.iaload, 1) := by decide +kernel
theorem d_X10_hour_65 : decode cX10_hour 65 = .ok (.ireturn, 1) := by decide +kernel
theorem d_X10_hour_66 : decode cX10_hour 66 = .ok (.iconst 0, 1) := by decide +kernel
theorem d_X10_hour_67 : decode cX10_hour 67 = .ok (.istore_n 3, 1) := by decide +kernel
theorem d_X10_hour_68 : decode cX10_hour 68 = .ok (.iconst 0, 1) := by decide +kernel
theorem d_X10_hour_69 : decode cX10_hour 69 = .ok (.istore 4, 2) := by decide +kernel
theorem d_X10_hour_71 : decode cX10_hour 71 = .ok (.iload 4, 2) := by decide +kernel
theorem d_X10_hour_73 : decode cX10_hour 73 = .ok (.bipush 64, 2) := by decide +kernel
theorem d_X10_hour_75 : decode cX10_hour 75 = .ok (.if_icmp .ge 40, 3) := by decide +kernel
theorem d_X10_hour_78 : decode cX10_hour 78 = .ok (.iload_n 3, 1) := by decide +kernel
theorem d_X10_hour_79 : decode cX10_hour 79 = .ok (.aload_n 0, 1) := by decide +kernel
theorem d_X10_hour_80 : decode cX10_hour 80 = .ok (.iload 4, 2) := by decide +kernel
theorem d_X10_hour_82 : decode cX10_hour 82 = .ok (.invokevirtual 284, 3) := by decide +kernel
theorem d_X10_hour_85 : decode cX10_hour 85 = .ok (.ifCond .eq 21, 3) := by decide +kernel
theorem d_X10_hour_88 : decode cX10_hour 88 = .ok (.aload_n 0, 1) := by decide +kernel
theorem d_X10_hour_89 : decode cX10_hour 89 = .ok (.aload_n 0, 1) := by decide +kernel
theorem d_X10_hour_90 : decode cX10_hour 90 = .ok (.getfield 58, 3) := by decide +kernel
theorem d_X10_hour_93 : decode cX10_hour 93 = .ok (.iload 4, 2) := by decide +kernel
theorem d_X10_hour_95 : decode cX10_hour 95 = .ok (.iload_n 1, 1) := by decide +kernel
theorem d_X10_hour_96 : decode cX10_hour 96 = .ok (.invokevirtual 264, 3) := by decide +kernel
theorem d_X10_hour_99 : decode cX10_hour 99 = .ok (.ifCond .eq 7, 3) := by decide +kernel
theorem d_X10_hour_102 : decode cX10_hour 102 = .ok (.iconst 1, 1) := by decide +kernel
theorem d_X10_hour_103 : decode cX10_hour 103 = .ok (.goto 4, 3) := by decide +kernel
theorem d_X10_hour_106 : decode cX10_hour 106 = .ok (.iconst 0, 1) := by decide +kernel
theorem d_X10_hour_107 : decode cX10_hour 107 = .ok (.iadd, 1) := by decide +kernel
theorem d_X10_hour_108 : decode cX10_hour 108 = .ok (.istore_n 3, 1) := by decide +kernel
theorem d_X10_hour_109 : decode cX10_hour 109 = .ok (.iinc 4 1, 3) := by decide +kernel
theorem d_X10_hour_112 : decode cX10_hour 112 = .ok (.goto (-41), 3) := by decide +kernel
theorem d_X10_hour_115 : decode cX10_hour 115 = .ok (.iload_n 3, 1) := by decide +kernel
theorem d_X10_hour_116 : decode cX10_hour 116 = .ok (.ireturn, 1) := by decide +kernel
def F_X10_hour_107 (p0 : Int32) (p1 : Int32) (self71 : Int32 → Int32 → Int32 → zMem → Option (Int32 × zMem)) (b107_L1 : Int32) (b107_L4 : Int32) (b107_S0 : Int32) (b107_S1 : Int32) (M : zMem) : Option (Int32 × zMem) :=
  zl (b107_S0 + b107_S1) fun v1 =>
  self71 b107_L1 v1 (b107_L4 + 1) M
def F_X10_hour_106 (p0 : Int32) (p1 : Int32) (self71 : Int32 → Int32 → Int32 → zMem → Option (Int32 × zMem)) (b106_L1 : Int32) (b106_L4 : Int32) (b106_S0 : Int32) (M : zMem) : Option (Int32 × zMem) :=
  F_X10_hour_107 p0 p1 self71 b106_L1 b106_L4 b106_S0 (0 : Int32) M
def F_X10_hour_71 (p0 : Int32) (p1 : Int32) (self71 : Int32 → Int32 → Int32 → zMem → Option (Int32 × zMem)) (b71_L1 : Int32) (b71_L3 : Int32) (b71_L4 : Int32) (M : zMem) : Option (Int32 × zMem) :=
  if (64 : Int32) ≤ b71_L4 then
    some (b71_L3, M)
  else
    zb (F_X10_isHere M b71_L4) fun v3 M2 =>
    if v3 = 0 then
      F_X10_hour_106 p0 p1 self71 b71_L1 b71_L4 b71_L3 M2
    else
      zb (F_X10_isShade M2 451 b71_L4 b71_L1) fun v5 M4 =>
      if v5 = 0 then
        F_X10_hour_106 p0 p1 self71 b71_L1 b71_L4 b71_L3 M4
      else
        F_X10_hour_107 p0 p1 self71 b71_L1 b71_L4 b71_L3 (1 : Int32) M4
def F_X10_hour_42 (p0 : Int32) (p1 : Int32) (b42_L1 : Int32) (b42_L2 : Int32) (b42_S1 : Int32) (M : zMem) : Option (Int32 × zMem) :=
  zb (F_X10_bad M b42_S1 (2 : Int32) (1 : Int32)) fun v7 M6 =>
  if v7 = 0 then
    if (2 : Int32) ≤ b42_L2 then
      itF (fun _ _ _ _ => none) (F_X10_hour_71 p0 p1) zFuel b42_L1 (0 : Int32) (0 : Int32) M6
    else
      gin b42_L1 10 <|
      gin b42_L2 2 <|
      some ((M6.1 (17 + (1 + 1 * b42_L1.toNatClampNeg)) b42_L2.toNatClampNeg), M6)
  else
    some ((0 : Int32), M6)
def F_X10_hour_19 (p0 : Int32) (p1 : Int32) (b19_L1 : Int32) (b19_L2 : Int32) (b19_S1 : Int32) (M : zMem) : Option (Int32 × zMem) :=
  zb (F_X10_bad M b19_S1 (1 : Int32) (0 : Int32)) fun v11 M10 =>
  if v11 = 0 then
    zb (F_X10_in M10 b19_L2 (0 : Int32) (2 : Int32)) fun v13 M12 =>
    if v13 = 0 then
      F_X10_hour_42 p0 p1 b19_L1 b19_L2 (1 : Int32) M12
    else
      F_X10_hour_42 p0 p1 b19_L1 b19_L2 (0 : Int32) M12
  else
    some ((0 : Int32), M10)
def F_X10_hour (M : zMem) (p0 : Int32) (p1 : Int32) : Option (Int32 × zMem) :=
  zl (zI M 0 0 (0 : Int32)) fun M14 =>
  zb (F_X10_isHour M14 p0) fun v16 M15 =>
  if v16 = 0 then
    F_X10_hour_19 p0 p1 p0 p1 (1 : Int32) M15
  else
    F_X10_hour_19 p0 p1 p0 p1 (0 : Int32) M15
def rm_X10_hour : Room := { frames := 6, cells := 0, slots := 0, locals := 173 }
set_option maxHeartbeats 4000000 in
set_option maxRecDepth 100000 in
theorem c_X10_hour (l : Launch) {G : zG} {ad : Nat → Nat} {n : Nat} (hA : zInj ad n) (M : zMem) (p0 : Int32) (p1 : Int32) (hT : zT shM n 0 11) {r9 : Int32} {M9 : zMem} (hF : F_X10_hour M p0 p1 = some (r9, M9)) : zM l yX10_hour cX10_hour 5 (some .int) rm_X10_hour G shM ad n M [.ref (ad 0), .int p0, .int p1] (some (.int r9)) M9 := by
  refine zM_of hA (by decide +kernel) (lv := [(0, .ref (ad 0)), (1, .int p0), (2, .int p1)]) (Nat.le_of_ble_eq_true rfl) rfl (fun p e s m args below meth c A cx hr => ?_)
  have hb107 : ∀ (self71 : Int32 → Int32 → Int32 → zMem → Option (Int32 × zMem)) (hs71 : ∀ (b71_L1 : Int32) (b71_L3 : Int32) (b71_L4 : Int32) (M : zMem), self71 b71_L1 b71_L3 b71_L4 M = some (r9, M9) → zJ p l e rm_X10_hour s m args below meth c G shM ad n A 5 (MQ below (zQ G shM ad n M9 (some (.int r9)) A) args s 0 0 A) 0 0 M 71 [(0, .ref (ad 0)), (1, .int b71_L1), (3, .int b71_L3), (4, .int b71_L4)] []), ∀ (b107_L1 : Int32) (b107_L4 : Int32) (b107_S0 : Int32) (b107_S1 : Int32) (M : zMem), F_X10_hour_107 p0 p1 self71 b107_L1 b107_L4 b107_S0 b107_S1 M = some (r9, M9) → zJ p l e rm_X10_hour s m args below meth c G shM ad n A 5 (MQ below (zQ G shM ad n M9 (some (.int r9)) A) args s 0 0 A) 0 0 M 107 [(0, .ref (ad 0)), (1, .int b107_L1), (4, .int b107_L4)] [.int b107_S1, .int b107_S0] := by
    intro self71 hs71 b107_L1 b107_L4 b107_S0 b107_S1 M hF
    unfold F_X10_hour_107 at hF
    refine z_iadd cx d_X10_hour_107 ?_
    refine z_nm hF (fun v1 hF => ?_)
    refine z_istore_n cx 3 [(3, .int v1), (0, .ref (ad 0)), (1, .int b107_L1), (4, .int b107_L4)] d_X10_hour_108 rfl (by decide) rfl ?_
    refine z_iinc cx 4 1 [(4, .int (b107_L4 + 1)), (3, .int v1), (0, .ref (ad 0)), (1, .int b107_L1)] d_X10_hour_109 3 rfl ki_1 (by decide) rfl ?_
    refine z_goto cx 71 d_X10_hour_112 (by decide) ?_
    exact z_lv [2, 3, 1, 0] _ rfl (hs71 b107_L1 v1 (b107_L4 + 1) M hF)
  have hb106 : ∀ (self71 : Int32 → Int32 → Int32 → zMem → Option (Int32 × zMem)) (hs71 : ∀ (b71_L1 : Int32) (b71_L3 : Int32) (b71_L4 : Int32) (M : zMem), self71 b71_L1 b71_L3 b71_L4 M = some (r9, M9) → zJ p l e rm_X10_hour s m args below meth c G shM ad n A 5 (MQ below (zQ G shM ad n M9 (some (.int r9)) A) args s 0 0 A) 0 0 M 71 [(0, .ref (ad 0)), (1, .int b71_L1), (3, .int b71_L3), (4, .int b71_L4)] []), ∀ (b106_L1 : Int32) (b106_L4 : Int32) (b106_S0 : Int32) (M : zMem), F_X10_hour_106 p0 p1 self71 b106_L1 b106_L4 b106_S0 M = some (r9, M9) → zJ p l e rm_X10_hour s m args below meth c G shM ad n A 5 (MQ below (zQ G shM ad n M9 (some (.int r9)) A) args s 0 0 A) 0 0 M 106 [(0, .ref (ad 0)), (1, .int b106_L1), (4, .int b106_L4)] [.int b106_S0] := by
    intro self71 hs71 b106_L1 b106_L4 b106_S0 M hF
    unfold F_X10_hour_106 at hF
    refine z_iconst (v := 0) cx d_X10_hour_106 ki_0 ?_
    exact hb107 self71 hs71 b106_L1 b106_L4 b106_S0 (0 : Int32) M hF
  have hL71 : ∀ (fuel : Nat), ∀ (b71_L1 : Int32) (b71_L3 : Int32) (b71_L4 : Int32) (M : zMem), itF (fun _ _ _ _ => none) (F_X10_hour_71 p0 p1) fuel b71_L1 b71_L3 b71_L4 M = some (r9, M9) → zJ p l e rm_X10_hour s m args below meth c G shM ad n A 5 (MQ below (zQ G shM ad n M9 (some (.int r9)) A) args s 0 0 A) 0 0 M 71 [(0, .ref (ad 0)), (1, .int b71_L1), (3, .int b71_L3), (4, .int b71_L4)] [] := by
    intro fuel
    induction fuel with
    | zero => intro b71_L1 b71_L3 b71_L4 M hF; cases hF
    | succ fuel hs71 =>
      intro b71_L1 b71_L3 b71_L4 M hF
      have hF : F_X10_hour_71 p0 p1 (itF (fun _ _ _ _ => none) (F_X10_hour_71 p0 p1) fuel) b71_L1 b71_L3 b71_L4 M = some (r9, M9) := hF
      generalize itF (fun _ _ _ _ => none) (F_X10_hour_71 p0 p1) fuel = self71 at hs71 hF
      unfold F_X10_hour_71 at hF
      refine z_iload cx d_X10_hour_71 3 rfl ?_
      refine z_bipush (v := 64) cx d_X10_hour_73 kb_64 ?_
      refine z_icmp_ge cx 115 d_X10_hour_75 (by decide) hF (fun hF => ?_) (fun hF => ?_)
      · refine z_iload_n cx d_X10_hour_115 2 rfl ?_
        exact z_iret cx hr rfl hF d_X10_hour_116
      refine z_iload_n cx d_X10_hour_78 2 rfl ?_
      refine z_aload_n cx d_X10_hour_79 0 rfl ?_
      refine z_iload cx d_X10_hour_80 3 rfl ?_
      obtain ⟨v3, M2, hc, hF⟩ := zb_inv hF
      refine z_callV cx (As := [.int b71_L4]) (rest := [.int b71_L3]) (c_X10_isHere l cx.2.2.2.1.1 M b71_L4 hT hc) hT zo_11 cv_SunnyPansModel_284 ⟨rfl, rfl, Nat.le_of_ble_eq_true rfl, Nat.le_of_ble_eq_true rfl⟩ rfl rfl ⟨Nat.zero_le _, Nat.zero_le _⟩ (Nat.le_of_ble_eq_true rfl) d_X10_hour_82 ?_
      refine z_if_eq cx 106 d_X10_hour_85 (by decide) hF (fun hF => ?_) (fun hF => ?_)
      · exact z_lv [0, 1, 3] _ rfl (hb106 self71 hs71 b71_L1 b71_L4 b71_L3 M2 hF)
      refine z_aload_n cx d_X10_hour_88 0 rfl ?_
      refine z_aload_n cx d_X10_hour_89 0 rfl ?_
      refine z_getR cx hT fg_SunnyPansModel_58 451 rfl d_X10_hour_90 ?_
      refine z_iload cx d_X10_hour_93 3 rfl ?_
      refine z_iload_n cx d_X10_hour_95 1 rfl ?_
      obtain ⟨v5, M4, hc, hF⟩ := zb_inv hF
      refine z_callV cx (As := [.ref (ad 451), .int b71_L4, .int b71_L1]) (rest := [.int b71_L3]) (c_X10_isShade l cx.2.2.2.1.1 M2 451 b71_L4 b71_L1 hT (tfM_11_451 hT) hc) hT zo_11 cv_SunnyPansModel_264 ⟨rfl, rfl, Nat.le_of_ble_eq_true rfl, Nat.le_of_ble_eq_true rfl⟩ rfl rfl ⟨Nat.zero_le _, Nat.zero_le _⟩ (Nat.le_of_ble_eq_true rfl) d_X10_hour_96 ?_
      refine z_if_eq cx 106 d_X10_hour_99 (by decide) hF (fun hF => ?_) (fun hF => ?_)
      · exact z_lv [0, 1, 3] _ rfl (hb106 self71 hs71 b71_L1 b71_L4 b71_L3 M4 hF)
      refine z_iconst (v := 1) cx d_X10_hour_102 ki_1 ?_
      refine z_goto cx 107 d_X10_hour_103 (by decide) ?_
      exact z_lv [0, 1, 3] _ rfl (hb107 self71 hs71 b71_L1 b71_L4 b71_L3 (1 : Int32) M4 hF)
  have hb42 : ∀ (b42_L1 : Int32) (b42_L2 : Int32) (b42_S1 : Int32) (M : zMem), F_X10_hour_42 p0 p1 b42_L1 b42_L2 b42_S1 M = some (r9, M9) → zJ p l e rm_X10_hour s m args below meth c G shM ad n A 5 (MQ below (zQ G shM ad n M9 (some (.int r9)) A) args s 0 0 A) 0 0 M 42 [(0, .ref (ad 0)), (1, .int b42_L1), (2, .int b42_L2)] [.int b42_S1, .ref (ad 0)] := by
    intro b42_L1 b42_L2 b42_S1 M hF
    unfold F_X10_hour_42 at hF
    refine z_iconst (v := 2) cx d_X10_hour_42 ki_2 ?_
    refine z_iconst (v := 1) cx d_X10_hour_43 ki_1 ?_
    obtain ⟨v7, M6, hc, hF⟩ := zb_inv hF
    refine z_callV cx (As := [.int b42_S1, .int (2 : Int32), .int (1 : Int32)]) (rest := []) (c_X10_bad l cx.2.2.2.1.1 M b42_S1 (2 : Int32) (1 : Int32) hT hc) hT zo_11 cv_SunnyPansModel_155 ⟨rfl, rfl, Nat.le_of_ble_eq_true rfl, Nat.le_of_ble_eq_true rfl⟩ rfl rfl ⟨Nat.zero_le _, Nat.zero_le _⟩ (Nat.le_of_ble_eq_true rfl) d_X10_hour_44 ?_
    refine z_if_eq cx 52 d_X10_hour_47 (by decide) hF (fun hF => ?_) (fun hF => ?_)
    · refine z_iload_n cx d_X10_hour_52 2 rfl ?_
      refine z_iconst (v := 2) cx d_X10_hour_53 ki_2 ?_
      refine z_icmp_ge cx 66 d_X10_hour_54 (by decide) hF (fun hF => ?_) (fun hF => ?_)
      · refine z_iconst (v := 0) cx d_X10_hour_66 ki_0 ?_
        refine z_istore_n cx 3 [(3, .int (0 : Int32)), (0, .ref (ad 0)), (1, .int b42_L1), (2, .int b42_L2)] d_X10_hour_67 rfl (by decide) rfl ?_
        refine z_iconst (v := 0) cx d_X10_hour_68 ki_0 ?_
        refine z_istore cx 4 [(4, .int (0 : Int32)), (3, .int (0 : Int32)), (0, .ref (ad 0)), (1, .int b42_L1), (2, .int b42_L2)] d_X10_hour_69 (by decide) rfl ?_
        exact z_lv [2, 3, 1, 0] _ rfl (hL71 zFuel b42_L1 (0 : Int32) (0 : Int32) M6 hF)
      refine z_aload_n cx d_X10_hour_57 0 rfl ?_
      refine z_getR cx hT fg_SunnyPansModel_34 17 rfl d_X10_hour_58 ?_
      refine z_iload_n cx d_X10_hour_61 1 rfl ?_
      obtain ⟨hi8, hF⟩ := gin_inv hF
      refine z_aald cx (tfM_11_17 hT) za_30 hi8 (17 + (1 + 1 * b42_L1.toNatClampNeg)) rfl d_X10_hour_62 ?_
      refine z_iload_n cx d_X10_hour_63 2 rfl ?_
      obtain ⟨hi9, hF⟩ := gin_inv hF
      refine z_iald cx (teM_30 (tfM_11_17 hT) hi8) za_27 hi9 b42_L2.toNatClampNeg rfl d_X10_hour_64 ?_
      exact z_iret cx hr rfl hF d_X10_hour_65
    refine z_iconst (v := 0) cx d_X10_hour_50 ki_0 ?_
    exact z_iret cx hr rfl hF d_X10_hour_51
  have hb19 : ∀ (b19_L1 : Int32) (b19_L2 : Int32) (b19_S1 : Int32) (M : zMem), F_X10_hour_19 p0 p1 b19_L1 b19_L2 b19_S1 M = some (r9, M9) → zJ p l e rm_X10_hour s m args below meth c G shM ad n A 5 (MQ below (zQ G shM ad n M9 (some (.int r9)) A) args s 0 0 A) 0 0 M 19 [(0, .ref (ad 0)), (1, .int b19_L1), (2, .int b19_L2)] [.int b19_S1, .ref (ad 0)] := by
    intro b19_L1 b19_L2 b19_S1 M hF
    unfold F_X10_hour_19 at hF
    refine z_iconst (v := 1) cx d_X10_hour_19 ki_1 ?_
    refine z_iconst (v := 0) cx d_X10_hour_20 ki_0 ?_
    obtain ⟨v11, M10, hc, hF⟩ := zb_inv hF
    refine z_callV cx (As := [.int b19_S1, .int (1 : Int32), .int (0 : Int32)]) (rest := []) (c_X10_bad l cx.2.2.2.1.1 M b19_S1 (1 : Int32) (0 : Int32) hT hc) hT zo_11 cv_SunnyPansModel_155 ⟨rfl, rfl, Nat.le_of_ble_eq_true rfl, Nat.le_of_ble_eq_true rfl⟩ rfl rfl ⟨Nat.zero_le _, Nat.zero_le _⟩ (Nat.le_of_ble_eq_true rfl) d_X10_hour_21 ?_
    refine z_if_ne cx 50 d_X10_hour_24 (by decide) hF (fun hF => ?_) (fun hF => ?_)
    · refine z_iconst (v := 0) cx d_X10_hour_50 ki_0 ?_
      exact z_iret cx hr rfl hF d_X10_hour_51
    refine z_aload_n cx d_X10_hour_27 0 rfl ?_
    refine z_iload_n cx d_X10_hour_28 2 rfl ?_
    refine z_iconst (v := 0) cx d_X10_hour_29 ki_0 ?_
    refine z_iconst (v := 2) cx d_X10_hour_30 ki_2 ?_
    obtain ⟨v13, M12, hc, hF⟩ := zb_inv hF
    refine z_callS cx (As := [.int b19_L2, .int (0 : Int32), .int (2 : Int32)]) (rest := [.ref (ad 0)]) (c_X10_in l cx.2.2.2.1.1 M10 b19_L2 (0 : Int32) (2 : Int32)  hc) cs_SunnyPansModel_116 ⟨rfl, rfl, Nat.le_of_ble_eq_true rfl, Nat.le_of_ble_eq_true rfl⟩ rfl rfl ⟨Nat.zero_le _, Nat.zero_le _⟩ (Nat.le_of_ble_eq_true rfl) d_X10_hour_31 ?_
    refine z_if_ne cx 41 d_X10_hour_34 (by decide) hF (fun hF => ?_) (fun hF => ?_)
    · refine z_iconst (v := 0) cx d_X10_hour_41 ki_0 ?_
      exact hb42 b19_L1 b19_L2 (0 : Int32) M12 hF
    refine z_iconst (v := 1) cx d_X10_hour_37 ki_1 ?_
    refine z_goto cx 42 d_X10_hour_38 (by decide) ?_
    exact hb42 b19_L1 b19_L2 (1 : Int32) M12 hF
  unfold F_X10_hour at hF
  refine z_aload_n cx d_X10_hour_0 0 rfl ?_
  refine z_iconst (v := 0) cx d_X10_hour_1 ki_0 ?_
  refine z_putI cx hT fp_SunnyPansModel_82 d_X10_hour_2 ?_
  refine z_nmM hF (fun M14 hF => ?_)
  refine z_aload_n cx d_X10_hour_5 0 rfl ?_
  refine z_aload_n cx d_X10_hour_6 0 rfl ?_
  refine z_iload_n cx d_X10_hour_7 1 rfl ?_
  obtain ⟨v16, M15, hc, hF⟩ := zb_inv hF
  refine z_callV cx (As := [.int p0]) (rest := [.ref (ad 0)]) (c_X10_isHour l cx.2.2.2.1.1 M14 p0 hT hc) hT zo_11 cv_SunnyPansModel_336 ⟨rfl, rfl, Nat.le_of_ble_eq_true rfl, Nat.le_of_ble_eq_true rfl⟩ rfl rfl ⟨Nat.zero_le _, Nat.zero_le _⟩ (Nat.le_of_ble_eq_true rfl) d_X10_hour_8 ?_
  refine z_if_ne cx 18 d_X10_hour_11 (by decide) hF (fun hF => ?_) (fun hF => ?_)
  · refine z_iconst (v := 0) cx d_X10_hour_18 ki_0 ?_
    exact hb19 p0 p1 (0 : Int32) M15 hF
  refine z_iconst (v := 1) cx d_X10_hour_14 ki_1 ?_
  refine z_goto cx 19 d_X10_hour_15 (by decide) ?_
  exact hb19 p0 p1 (1 : Int32) M15 hF
/-! SunnyPansModel.shade -/
theorem d_X10_shade_0 : decode cX10_shade 0 = .ok (.aload_n 0, 1) := by decide +kernel
theorem d_X10_shade_1 : decode cX10_shade 1 = .ok (.iconst 0, 1) := by decide +kernel
theorem d_X10_shade_2 : decode cX10_shade 2 = .ok (.putfield 82, 3) := by decide +kernel
theorem d_X10_shade_5 : decode cX10_shade 5 = .ok (.aload_n 0, 1) := by decide +kernel
theorem d_X10_shade_6 : decode cX10_shade 6 = .ok (.aload_n 0, 1) := by decide +kernel
theorem d_X10_shade_7 : decode cX10_shade 7 = .ok (.iload_n 1, 1) := by decide +kernel
theorem d_X10_shade_8 : decode cX10_shade 8 = .ok (.invokevirtual 336, 3) := by decide +kernel
theorem d_X10_shade_11 : decode cX10_shade 11 = .ok (.ifCond .eq 19, 3) := by decide +kernel
theorem d_X10_shade_14 : decode cX10_shade 14 = .ok (.iload_n 2, 1) := by decide +kernel
theorem d_X10_shade_15 : decode cX10_shade 15 = .ok (.iconst 0, 1) := by decide +kernel
theorem d_X10_shade_16 : decode cX10_shade 16 = .ok (.aload_n 0, 1) := by decide +kernel
theorem d_X10_shade_17 : decode cX10_shade 17 = .ok (.getfield 23, 3) := by decide +kernel
theorem d_X10_shade_20 : decode cX10_shade 20 = .ok (.iconst 1, 1) := by decide +kernel
theorem d_X10_shade_21 : decode cX10_shade 21 = .ok (.iaload, 1) := by decide +kernel
theorem d_X10_shade_22 : decode cX10_shade 22 = .ok (.iconst 1, 1) := by decide +kernel
theorem d_X10_shade_23 : decode cX10_shade 23 = .ok (.isub, 1) := by decide +kernel
theorem d_X10_shade_24 : decode cX10_shade 24 = .ok (.invokestatic 116, 3) := by decide +kernel
theorem d_X10_shade_27 : decode cX10_shade 27 = .ok (.ifCond .ne 7, 3) := by decide +kernel
theorem d_X10_shade_30 : decode cX10_shade 30 = .ok (.iconst 1, 1) := by decide +kernel
theorem d_X10_shade_31 : decode cX10_shade 31 = .ok (.goto 4, 3) := by decide +kernel
theorem d_X10_shade_34 : decode cX10_shade 34 = .ok (.iconst 0, 1) := by decide +kernel
theorem d_X10_shade_35 : decode cX10_shade 35 = .ok (.iconst 1, 1) := by decide +kernel
theorem d_X10_shade_36 : decode cX10_shade 36 = .ok (.iconst 0, 1) := by decide +kernel
theorem d_X10_shade_37 : decode cX10_shade 37 = .ok (.invokevirtual 155, 3) := by decide +kernel
theorem d_X10_shade_40 : decode cX10_shade 40 = .ok (.ifCond .eq 5, 3) := by decide +kernel
theorem d_X10_shade_43 : decode cX10_shade 43 = .ok (.iconst 0, 1) := by decide +kernel
theorem d_X10_shade_44 : decode cX10_shade 44 = .ok (.ireturn, 1) := by decide +kernel
theorem d_X10_shade_45 : decode cX10_shade 45 = .ok (.aload_n 0, 1) := by decide +kernel
theorem d_X10_shade_46 : decode cX10_shade 46 = .ok (.iload_n 1, 1) := by decide +kernel
theorem d_X10_shade_47 : decode cX10_shade 47 = .ok (.iload_n 2, 1) := by decide +kernel
theorem d_X10_shade_48 : decode cX10_shade 48 = .ok (.invokevirtual 339, 3) := by decide +kernel
theorem d_X10_shade_51 : decode cX10_shade 51 = .ok (.ireturn, 1) := by decide +kernel
def F_X10_shade_35 (p0 : Int32) (p1 : Int32) (b35_L1 : Int32) (b35_L2 : Int32) (b35_S1 : Int32) (M : zMem) : Option (Int32 × zMem) :=
  zb (F_X10_bad M b35_S1 (1 : Int32) (0 : Int32)) fun v2 M1 =>
  if v2 = 0 then
    zb (F_X10_shadeBits M1 b35_L1 b35_L2) fun v4 M3 =>
    some (v4, M3)
  else
    some ((0 : Int32), M1)
def F_X10_shade (M : zMem) (p0 : Int32) (p1 : Int32) : Option (Int32 × zMem) :=
  zl (zI M 0 0 (0 : Int32)) fun M5 =>
  zb (F_X10_isHour M5 p0) fun v7 M6 =>
  if v7 = 0 then
    F_X10_shade_35 p0 p1 p0 p1 (1 : Int32) M6
  else
    zb (F_X10_in M6 p1 (0 : Int32) ((M6.1 4 1) - (1 : Int32))) fun v9 M8 =>
    if v9 = 0 then
      F_X10_shade_35 p0 p1 p0 p1 (1 : Int32) M8
    else
      F_X10_shade_35 p0 p1 p0 p1 (0 : Int32) M8
def rm_X10_shade : Room := { frames := 7, cells := 0, slots := 0, locals := 197 }
set_option maxHeartbeats 4000000 in
set_option maxRecDepth 100000 in
theorem c_X10_shade (l : Launch) {G : zG} {ad : Nat → Nat} {n : Nat} (hA : zInj ad n) (M : zMem) (p0 : Int32) (p1 : Int32) (hT : zT shM n 0 11) {r9 : Int32} {M9 : zMem} (hF : F_X10_shade M p0 p1 = some (r9, M9)) : zM l yX10_shade cX10_shade 3 (some .int) rm_X10_shade G shM ad n M [.ref (ad 0), .int p0, .int p1] (some (.int r9)) M9 := by
  refine zM_of hA (by decide +kernel) (lv := [(0, .ref (ad 0)), (1, .int p0), (2, .int p1)]) (Nat.le_of_ble_eq_true rfl) rfl (fun p e s m args below meth c A cx hr => ?_)
  have hb35 : ∀ (b35_L1 : Int32) (b35_L2 : Int32) (b35_S1 : Int32) (M : zMem), F_X10_shade_35 p0 p1 b35_L1 b35_L2 b35_S1 M = some (r9, M9) → zJ p l e rm_X10_shade s m args below meth c G shM ad n A 3 (MQ below (zQ G shM ad n M9 (some (.int r9)) A) args s 0 0 A) 0 0 M 35 [(0, .ref (ad 0)), (1, .int b35_L1), (2, .int b35_L2)] [.int b35_S1, .ref (ad 0)] := by
    intro b35_L1 b35_L2 b35_S1 M hF
    unfold F_X10_shade_35 at hF
    refine z_iconst (v := 1) cx d_X10_shade_35 ki_1 ?_
    refine z_iconst (v := 0) cx d_X10_shade_36 ki_0 ?_
    obtain ⟨v2, M1, hc, hF⟩ := zb_inv hF
    refine z_callV cx (As := [.int b35_S1, .int (1 : Int32), .int (0 : Int32)]) (rest := []) (c_X10_bad l cx.2.2.2.1.1 M b35_S1 (1 : Int32) (0 : Int32) hT hc) hT zo_11 cv_SunnyPansModel_155 ⟨rfl, rfl, Nat.le_of_ble_eq_true rfl, Nat.le_of_ble_eq_true rfl⟩ rfl rfl ⟨Nat.zero_le _, Nat.zero_le _⟩ (Nat.le_of_ble_eq_true rfl) d_X10_shade_37 ?_
    refine z_if_eq cx 45 d_X10_shade_40 (by decide) hF (fun hF => ?_) (fun hF => ?_)
    · refine z_aload_n cx d_X10_shade_45 0 rfl ?_
      refine z_iload_n cx d_X10_shade_46 1 rfl ?_
      refine z_iload_n cx d_X10_shade_47 2 rfl ?_
      obtain ⟨v4, M3, hc, hF⟩ := zb_inv hF
      refine z_callV cx (As := [.int b35_L1, .int b35_L2]) (rest := []) (c_X10_shadeBits l cx.2.2.2.1.1 M1 b35_L1 b35_L2 hT hc) hT zo_11 cv_SunnyPansModel_339 ⟨rfl, rfl, Nat.le_of_ble_eq_true rfl, Nat.le_of_ble_eq_true rfl⟩ rfl rfl ⟨Nat.zero_le _, Nat.zero_le _⟩ (Nat.le_of_ble_eq_true rfl) d_X10_shade_48 ?_
      exact z_iret cx hr rfl hF d_X10_shade_51
    refine z_iconst (v := 0) cx d_X10_shade_43 ki_0 ?_
    exact z_iret cx hr rfl hF d_X10_shade_44
  unfold F_X10_shade at hF
  refine z_aload_n cx d_X10_shade_0 0 rfl ?_
  refine z_iconst (v := 0) cx d_X10_shade_1 ki_0 ?_
  refine z_putI cx hT fp_SunnyPansModel_82 d_X10_shade_2 ?_
  refine z_nmM hF (fun M5 hF => ?_)
  refine z_aload_n cx d_X10_shade_5 0 rfl ?_
  refine z_aload_n cx d_X10_shade_6 0 rfl ?_
  refine z_iload_n cx d_X10_shade_7 1 rfl ?_
  obtain ⟨v7, M6, hc, hF⟩ := zb_inv hF
  refine z_callV cx (As := [.int p0]) (rest := [.ref (ad 0)]) (c_X10_isHour l cx.2.2.2.1.1 M5 p0 hT hc) hT zo_11 cv_SunnyPansModel_336 ⟨rfl, rfl, Nat.le_of_ble_eq_true rfl, Nat.le_of_ble_eq_true rfl⟩ rfl rfl ⟨Nat.zero_le _, Nat.zero_le _⟩ (Nat.le_of_ble_eq_true rfl) d_X10_shade_8 ?_
  refine z_if_eq cx 30 d_X10_shade_11 (by decide) hF (fun hF => ?_) (fun hF => ?_)
  · refine z_iconst (v := 1) cx d_X10_shade_30 ki_1 ?_
    refine z_goto cx 35 d_X10_shade_31 (by decide) ?_
    exact hb35 p0 p1 (1 : Int32) M6 hF
  refine z_iload_n cx d_X10_shade_14 2 rfl ?_
  refine z_iconst (v := 0) cx d_X10_shade_15 ki_0 ?_
  refine z_aload_n cx d_X10_shade_16 0 rfl ?_
  refine z_getR cx hT fg_SunnyPansModel_23 4 rfl d_X10_shade_17 ?_
  refine z_iconst (v := 1) cx d_X10_shade_20 ki_1 ?_
  refine z_iald cx (tfM_11_4 hT) za_28 (zvp (by decide +kernel)) 1 rfl d_X10_shade_21 ?_
  refine z_iconst (v := 1) cx d_X10_shade_22 ki_1 ?_
  refine z_isub cx d_X10_shade_23 ?_
  obtain ⟨v9, M8, hc, hF⟩ := zb_inv hF
  refine z_callS cx (As := [.int p1, .int (0 : Int32), .int ((M6.1 4 1) - (1 : Int32))]) (rest := [.ref (ad 0)]) (c_X10_in l cx.2.2.2.1.1 M6 p1 (0 : Int32) ((M6.1 4 1) - (1 : Int32))  hc) cs_SunnyPansModel_116 ⟨rfl, rfl, Nat.le_of_ble_eq_true rfl, Nat.le_of_ble_eq_true rfl⟩ rfl rfl ⟨Nat.zero_le _, Nat.zero_le _⟩ (Nat.le_of_ble_eq_true rfl) d_X10_shade_24 ?_
  refine z_if_ne cx 34 d_X10_shade_27 (by decide) hF (fun hF => ?_) (fun hF => ?_)
  · refine z_iconst (v := 0) cx d_X10_shade_34 ki_0 ?_
    exact hb35 p0 p1 (0 : Int32) M8 hF
  refine z_iconst (v := 1) cx d_X10_shade_30 ki_1 ?_
  refine z_goto cx 35 d_X10_shade_31 (by decide) ?_
  exact hb35 p0 p1 (1 : Int32) M8 hF
/-! SunnyPansModel.dries -/
theorem d_X10_dries_0 : decode cX10_dries 0 = .ok (.aload_n 0, 1) := by decide +kernel
theorem d_X10_dries_1 : decode cX10_dries 1 = .ok (.iconst 0, 1) := by decide +kernel
theorem d_X10_dries_2 : decode cX10_dries 2 = .ok (.putfield 82, 3) := by decide +kernel
theorem d_X10_dries_5 : decode cX10_dries 5 = .ok (.aload_n 0, 1) := by decide +kernel
theorem d_X10_dries_6 : decode cX10_dries 6 = .ok (.aload_n 0, 1) := by decide +kernel
theorem d_X10_dries_7 : decode cX10_dries 7 = .ok (.iload_n 1, 1) := by decide +kernel
theorem d_X10_dries_8 : decode cX10_dries 8 = .ok (.iload_n 2, 1) := by decide +kernel
theorem d_X10_dries_9 : decode cX10_dries 9 = .ok (.invokevirtual 237, 3) := by decide +kernel
theorem d_X10_dries_12 : decode cX10_dries 12 = .ok (.ifCond .eq 11, 3) := by decide +kernel
theorem d_X10_dries_15 : decode cX10_dries 15 = .ok (.aload_n 0, 1) := by decide +kernel
theorem d_X10_dries_16 : decode cX10_dries 16 = .ok (.iload_n 3, 1) := by decide +kernel
theorem d_X10_dries_17 : decode cX10_dries 17 = .ok (.invokevirtual 336, 3) := by decide +kernel
theorem d_X10_dries_20 : decode cX10_dries 20 = .ok (.ifCond .ne 7, 3) := by decide +kernel
theorem d_X10_dries_23 : decode cX10_dries 23 = .ok (.iconst 1, 1) := by decide +kernel
theorem d_X10_dries_24 : decode cX10_dries 24 = .ok (.goto 4, 3) := by decide +kernel
theorem d_X10_dries_27 : decode cX10_dries 27 = .ok (.iconst 0, 1) := by decide +kernel
theorem d_X10_dries_28 : decode cX10_dries 28 = .ok (.iconst 1, 1) := by decide +kernel
theorem d_X10_dries_29 : decode cX10_dries 29 = .ok (.iconst 0, 1) := by decide +kernel
theorem d_X10_dries_30 : decode cX10_dries 30 = .ok (.invokevirtual 155, 3) := by decide +kernel
theorem d_X10_dries_33 : decode cX10_dries 33 = .ok (.ifCond .eq 5, 3) := by decide +kernel
theorem d_X10_dries_36 : decode cX10_dries 36 = .ok (.iconst 0, 1) := by decide +kernel
theorem d_X10_dries_37 : decode cX10_dries 37 = .ok (.ireturn, 1) := by decide +kernel
theorem d_X10_dries_38 : decode cX10_dries 38 = .ok (.aload_n 0, 1) := by decide +kernel
theorem d_X10_dries_39 : decode cX10_dries 39 = .ok (.aload_n 0, 1) := by decide +kernel
theorem d_X10_dries_40 : decode cX10_dries 40 = .ok (.getfield 58, 3) := by decide +kernel
theorem d_X10_dries_43 : decode cX10_dries 43 = .ok (.bipush 8, 2) := by decide +kernel
theorem d_X10_dries_45 : decode cX10_dries 45 = .ok (.iload_n 2, 1) := by decide +kernel
theorem d_X10_dries_46 : decode cX10_dries 46 = .ok (.imul, 1) := by decide +kernel
theorem d_X10_dries_47 : decode cX10_dries 47 = .ok (.iload_n 1, 1) := by decide +kernel
theorem d_X10_dries_48 : decode cX10_dries 48 = .ok (.iadd, 1) := by decide +kernel
theorem d_X10_dries_49 : decode cX10_dries 49 = .ok (.iload_n 3, 1) := by decide +kernel
theorem d_X10_dries_50 : decode cX10_dries 50 = .ok (.invokevirtual 268, 3) := by decide +kernel
theorem d_X10_dries_53 : decode cX10_dries 53 = .ok (.ireturn, 1) := by decide +kernel
def F_X10_dries_28 (p0 : Int32) (p1 : Int32) (p2 : Int32) (b28_L1 : Int32) (b28_L2 : Int32) (b28_L3 : Int32) (b28_S1 : Int32) (M : zMem) : Option (Int32 × zMem) :=
  zb (F_X10_bad M b28_S1 (1 : Int32) (0 : Int32)) fun v2 M1 =>
  if v2 = 0 then
    zb (F_X10_driesOf M1 451 (((8 : Int32) * b28_L2) + b28_L1) b28_L3) fun v4 M3 =>
    some (v4, M3)
  else
    some ((0 : Int32), M1)
def F_X10_dries (M : zMem) (p0 : Int32) (p1 : Int32) (p2 : Int32) : Option (Int32 × zMem) :=
  zl (zI M 0 0 (0 : Int32)) fun M5 =>
  zb (F_X10_isWithin M5 p0 p1) fun v7 M6 =>
  if v7 = 0 then
    F_X10_dries_28 p0 p1 p2 p0 p1 p2 (1 : Int32) M6
  else
    zb (F_X10_isHour M6 p2) fun v9 M8 =>
    if v9 = 0 then
      F_X10_dries_28 p0 p1 p2 p0 p1 p2 (1 : Int32) M8
    else
      F_X10_dries_28 p0 p1 p2 p0 p1 p2 (0 : Int32) M8
def rm_X10_dries : Room := { frames := 7, cells := 0, slots := 0, locals := 196 }
set_option maxHeartbeats 4000000 in
set_option maxRecDepth 100000 in
theorem c_X10_dries (l : Launch) {G : zG} {ad : Nat → Nat} {n : Nat} (hA : zInj ad n) (M : zMem) (p0 : Int32) (p1 : Int32) (p2 : Int32) (hT : zT shM n 0 11) {r9 : Int32} {M9 : zMem} (hF : F_X10_dries M p0 p1 p2 = some (r9, M9)) : zM l yX10_dries cX10_dries 4 (some .int) rm_X10_dries G shM ad n M [.ref (ad 0), .int p0, .int p1, .int p2] (some (.int r9)) M9 := by
  refine zM_of hA (by decide +kernel) (lv := [(0, .ref (ad 0)), (1, .int p0), (2, .int p1), (3, .int p2)]) (Nat.le_of_ble_eq_true rfl) rfl (fun p e s m args below meth c A cx hr => ?_)
  have hb28 : ∀ (b28_L1 : Int32) (b28_L2 : Int32) (b28_L3 : Int32) (b28_S1 : Int32) (M : zMem), F_X10_dries_28 p0 p1 p2 b28_L1 b28_L2 b28_L3 b28_S1 M = some (r9, M9) → zJ p l e rm_X10_dries s m args below meth c G shM ad n A 4 (MQ below (zQ G shM ad n M9 (some (.int r9)) A) args s 0 0 A) 0 0 M 28 [(0, .ref (ad 0)), (1, .int b28_L1), (2, .int b28_L2), (3, .int b28_L3)] [.int b28_S1, .ref (ad 0)] := by
    intro b28_L1 b28_L2 b28_L3 b28_S1 M hF
    unfold F_X10_dries_28 at hF
    refine z_iconst (v := 1) cx d_X10_dries_28 ki_1 ?_
    refine z_iconst (v := 0) cx d_X10_dries_29 ki_0 ?_
    obtain ⟨v2, M1, hc, hF⟩ := zb_inv hF
    refine z_callV cx (As := [.int b28_S1, .int (1 : Int32), .int (0 : Int32)]) (rest := []) (c_X10_bad l cx.2.2.2.1.1 M b28_S1 (1 : Int32) (0 : Int32) hT hc) hT zo_11 cv_SunnyPansModel_155 ⟨rfl, rfl, Nat.le_of_ble_eq_true rfl, Nat.le_of_ble_eq_true rfl⟩ rfl rfl ⟨Nat.zero_le _, Nat.zero_le _⟩ (Nat.le_of_ble_eq_true rfl) d_X10_dries_30 ?_
    refine z_if_eq cx 38 d_X10_dries_33 (by decide) hF (fun hF => ?_) (fun hF => ?_)
    · refine z_aload_n cx d_X10_dries_38 0 rfl ?_
      refine z_aload_n cx d_X10_dries_39 0 rfl ?_
      refine z_getR cx hT fg_SunnyPansModel_58 451 rfl d_X10_dries_40 ?_
      refine z_bipush (v := 8) cx d_X10_dries_43 kb_8 ?_
      refine z_iload_n cx d_X10_dries_45 2 rfl ?_
      refine z_imul cx d_X10_dries_46 ?_
      refine z_iload_n cx d_X10_dries_47 1 rfl ?_
      refine z_iadd cx d_X10_dries_48 ?_
      refine z_iload_n cx d_X10_dries_49 3 rfl ?_
      obtain ⟨v4, M3, hc, hF⟩ := zb_inv hF
      refine z_callV cx (As := [.ref (ad 451), .int (((8 : Int32) * b28_L2) + b28_L1), .int b28_L3]) (rest := []) (c_X10_driesOf l cx.2.2.2.1.1 M1 451 (((8 : Int32) * b28_L2) + b28_L1) b28_L3 hT (tfM_11_451 hT) hc) hT zo_11 cv_SunnyPansModel_268 ⟨rfl, rfl, Nat.le_of_ble_eq_true rfl, Nat.le_of_ble_eq_true rfl⟩ rfl rfl ⟨Nat.zero_le _, Nat.zero_le _⟩ (Nat.le_of_ble_eq_true rfl) d_X10_dries_50 ?_
      exact z_iret cx hr rfl hF d_X10_dries_53
    refine z_iconst (v := 0) cx d_X10_dries_36 ki_0 ?_
    exact z_iret cx hr rfl hF d_X10_dries_37
  unfold F_X10_dries at hF
  refine z_aload_n cx d_X10_dries_0 0 rfl ?_
  refine z_iconst (v := 0) cx d_X10_dries_1 ki_0 ?_
  refine z_putI cx hT fp_SunnyPansModel_82 d_X10_dries_2 ?_
  refine z_nmM hF (fun M5 hF => ?_)
  refine z_aload_n cx d_X10_dries_5 0 rfl ?_
  refine z_aload_n cx d_X10_dries_6 0 rfl ?_
  refine z_iload_n cx d_X10_dries_7 1 rfl ?_
  refine z_iload_n cx d_X10_dries_8 2 rfl ?_
  obtain ⟨v7, M6, hc, hF⟩ := zb_inv hF
  refine z_callV cx (As := [.int p0, .int p1]) (rest := [.ref (ad 0)]) (c_X10_isWithin l cx.2.2.2.1.1 M5 p0 p1 hT hc) hT zo_11 cv_SunnyPansModel_237 ⟨rfl, rfl, Nat.le_of_ble_eq_true rfl, Nat.le_of_ble_eq_true rfl⟩ rfl rfl ⟨Nat.zero_le _, Nat.zero_le _⟩ (Nat.le_of_ble_eq_true rfl) d_X10_dries_9 ?_
  refine z_if_eq cx 23 d_X10_dries_12 (by decide) hF (fun hF => ?_) (fun hF => ?_)
  · refine z_iconst (v := 1) cx d_X10_dries_23 ki_1 ?_
    refine z_goto cx 28 d_X10_dries_24 (by decide) ?_
    exact hb28 p0 p1 p2 (1 : Int32) M6 hF
  refine z_aload_n cx d_X10_dries_15 0 rfl ?_
  refine z_iload_n cx d_X10_dries_16 3 rfl ?_
  obtain ⟨v9, M8, hc, hF⟩ := zb_inv hF
  refine z_callV cx (As := [.int p2]) (rest := [.ref (ad 0)]) (c_X10_isHour l cx.2.2.2.1.1 M6 p2 hT hc) hT zo_11 cv_SunnyPansModel_336 ⟨rfl, rfl, Nat.le_of_ble_eq_true rfl, Nat.le_of_ble_eq_true rfl⟩ rfl rfl ⟨Nat.zero_le _, Nat.zero_le _⟩ (Nat.le_of_ble_eq_true rfl) d_X10_dries_17 ?_
  refine z_if_ne cx 27 d_X10_dries_20 (by decide) hF (fun hF => ?_) (fun hF => ?_)
  · refine z_iconst (v := 0) cx d_X10_dries_27 ki_0 ?_
    exact hb28 p0 p1 p2 (0 : Int32) M8 hF
  refine z_iconst (v := 1) cx d_X10_dries_23 ki_1 ?_
  refine z_goto cx 28 d_X10_dries_24 (by decide) ?_
  exact hb28 p0 p1 p2 (1 : Int32) M8 hF
/-! SunnyPansModel.would -/
theorem d_X10_would_0 : decode cX10_would 0 = .ok (.aload_n 0, 1) := by decide +kernel
theorem d_X10_would_1 : decode cX10_would 1 = .ok (.iconst 0, 1) := by decide +kernel
theorem d_X10_would_2 : decode cX10_would 2 = .ok (.putfield 82, 3) := by decide +kernel
theorem d_X10_would_5 : decode cX10_would 5 = .ok (.aload_n 0, 1) := by decide +kernel
theorem d_X10_would_6 : decode cX10_would 6 = .ok (.iload_n 1, 1) := by decide +kernel
theorem d_X10_would_7 : decode cX10_would 7 = .ok (.iconst 0, 1) := by decide +kernel
theorem d_X10_would_8 : decode cX10_would 8 = .ok (.sipush 9999, 3) := by decide +kernel
theorem d_X10_would_11 : decode cX10_would 11 = .ok (.invokestatic 116, 3) := by decide +kernel
theorem d_X10_would_14 : decode cX10_would 14 = .ok (.ifCond .eq 80, 3) := by decide +kernel
theorem d_X10_would_17 : decode cX10_would 17 = .ok (.iload_n 2, 1) := by decide +kernel
theorem d_X10_would_18 : decode cX10_would 18 = .ok (.iconst 0, 1) := by decide +kernel
theorem d_X10_would_19 : decode cX10_would 19 = .ok (.sipush 9999, 3) := by decide +kernel
theorem d_X10_would_22 : decode cX10_would 22 = .ok (.invokestatic 116, 3) := by decide +kernel
theorem d_X10_would_25 : decode cX10_would 25 = .ok (.ifCond .eq 69, 3) := by decide +kernel
theorem d_X10_would_28 : decode cX10_would 28 = .ok (.iload_n 3, 1) := by decide +kernel
theorem d_X10_would_29 : decode cX10_would 29 = .ok (.iconst 0, 1) := by decide +kernel
theorem d_X10_would_30 : decode cX10_would 30 = .ok (.bipush 40, 2) := by decide +kernel
theorem d_X10_would_32 : decode cX10_would 32 = .ok (.invokestatic 116, 3) := by decide +kernel
theorem d_X10_would_35 : decode cX10_would 35 = .ok (.ifCond .eq 59, 3) := by decide +kernel
theorem d_X10_would_38 : decode cX10_would 38 = .ok (.iload 4, 2) := by decide +kernel
theorem d_X10_would_40 : decode cX10_would 40 = .ok (.iconst 0, 1) := by decide +kernel
theorem d_X10_would_41 : decode cX10_would 41 = .ok (.bipush 7, 2) := by decide +kernel
theorem d_X10_would_43 : decode cX10_would 43 = .ok (.invokestatic 116, 3) := by decide +kernel
theorem d_X10_would_46 : decode cX10_would 46 = .ok (.ifCond .eq 48, 3) := by decide +kernel
theorem d_X10_would_49 : decode cX10_would 49 = .ok (.iload 5, 2) := by decide +kernel
theorem d_X10_would_51 : decode cX10_would 51 = .ok (.iconst 0, 1) := by decide +kernel
theorem d_X10_would_52 : decode cX10_would 52 = .ok (.bipush 9, 2) := by decide +kernel
theorem d_X10_would_54 : decode cX10_would 54 = .ok (.invokestatic 116, 3) := by decide +kernel
theorem d_X10_would_57 : decode cX10_would 57 = .ok (.ifCond .eq 37, 3) := by decide +kernel
theorem d_X10_would_60 : decode cX10_would 60 = .ok (.iload 6, 2) := by decide +kernel
theorem d_X10_would_62 : decode cX10_would 62 = .ok (.iconst 0, 1) := by decide +kernel
theorem d_X10_would_63 : decode cX10_would 63 = .ok (.sipush 400, 3) := by decide +kernel
theorem d_X10_would_66 : decode cX10_would 66 = .ok (.invokestatic 116, 3) := by decide +kernel
theorem d_X10_would_69 : decode cX10_would 69 = .ok (.ifCond .eq 25, 3) := by decide +kernel
theorem d_X10_would_72 : decode cX10_would 72 = .ok (.iload 7, 2) := by decide +kernel
theorem d_X10_would_74 : decode cX10_would 74 = .ok (.iconst 0, 1) := by decide +kernel
theorem d_X10_would_75 : decode cX10_would 75 = .ok (.bipush 7, 2) := by decide +kernel
theorem d_X10_would_77 : decode cX10_would 77 = .ok (.invokestatic 116, 3) := by decide +kernel
theorem d_X10_would_80 : decode cX10_would 80 = .ok (.ifCond .eq 14, 3) := by decide +kernel
theorem d_X10_would_83 : decode cX10_would 83 = .ok (.iload 8, 2) := by decide +kernel
theorem d_X10_would_85 : decode cX10_would 85 = .ok (.iconst 0, 1) := by decide +kernel
theorem d_X10_would_86 : decode cX10_would 86 = .ok (.bipush 7, 2) := by decide +kernel
theorem d_X10_would_88 : decode cX10_would 88 = .ok (.invokestatic 116, 3) := by decide +kernel
theorem d_X10_would_91 : decode cX10_would 91 = .ok (.ifCond .ne 7, 3) := by decide +kernel
theorem d_X10_would_94 : decode cX10_would 94 = .ok (.iconst 1, 1) := by decide +kernel
theorem d_X10_would_95 : decode cX10_would 95 = .ok (.goto 4, 3) := by decide +kernel
theorem d_X10_would_98 : decode cX10_would 98 = .ok (.iconst 0, 1) := by decide +kernel
theorem d_X10_would_99 : decode cX10_would 99 = .ok (.iconst 1, 1) := by decide +kernel
theorem d_X10_would_100 : decode cX10_would 100 = .ok (.iconst 1, 1) := by decide +kernel
theorem d_X10_would_101 : decode cX10_would 101 = .ok (.invokevirtual 155, 3) := by decide +kernel
theorem d_X10_would_104 : decode cX10_would 104 = .ok (.ifCond .eq 5, 3) := by decide +kernel
theorem d_X10_would_107 : decode cX10_would 107 = .ok (.iconst 0, 1) := by decide +kernel
theorem d_X10_would_108 : decode cX10_would 108 = .ok (.ireturn, 1) := by decide +kernel
theorem d_X10_would_109 : decode cX10_would 109 = .ok (.aload_n 0, 1) := by decide +kernel
theorem d_X10_would_110 : decode cX10_would 110 = .ok (.iload_n 1, 1) := by decide +kernel
theorem d_X10_would_111 : decode cX10_would 111 = .ok (.iload_n 2, 1) := by decide +kernel
theorem d_X10_would_112 : decode cX10_would 112 = .ok (.iload_n 3, 1) := by decide +kernel
theorem d_X10_would_113 : decode cX10_would 113 = .ok (.iload 4, 2) := by decide +kernel
theorem d_X10_would_115 : decode cX10_would 115 = .ok (.iload 5, 2) := by decide +kernel
theorem d_X10_would_117 : decode cX10_would 117 = .ok (.iload 6, 2) := by decide +kernel
theorem d_X10_would_119 : decode cX10_would 119 = .ok (.iload 7, 2) := by decide +kernel
theorem d_X10_would_121 : decode cX10_would 121 = .ok (.iload 8, 2) := by decide +kernel
theorem d_X10_would_123 : decode cX10_would 123 = .ok (.invokevirtual 260, 3) := by decide +kernel
theorem d_X10_would_126 : decode cX10_would 126 = .ok (.ireturn, 1) := by decide +kernel
def F_X10_would_99 (p0 : Int32) (p1 : Int32) (p2 : Int32) (p3 : Int32) (p4 : Int32) (p5 : Int32) (p6 : Int32) (p7 : Int32) (b99_L1 : Int32) (b99_L2 : Int32) (b99_L3 : Int32) (b99_L4 : Int32) (b99_L5 : Int32) (b99_L6 : Int32) (b99_L7 : Int32) (b99_L8 : Int32) (b99_S1 : Int32) (M : zMem) : Option (Int32 × zMem) :=
  zb (F_X10_bad M b99_S1 (1 : Int32) (1 : Int32)) fun v2 M1 =>
  if v2 = 0 then
    zb (F_X10_driesBy M1 b99_L1 b99_L2 b99_L3 b99_L4 b99_L5 b99_L6 b99_L7 b99_L8) fun v4 M3 =>
    some (v4, M3)
  else
    some ((0 : Int32), M1)
def F_X10_would (M : zMem) (p0 : Int32) (p1 : Int32) (p2 : Int32) (p3 : Int32) (p4 : Int32) (p5 : Int32) (p6 : Int32) (p7 : Int32) : Option (Int32 × zMem) :=
  zl (zI M 0 0 (0 : Int32)) fun M5 =>
  zb (F_X10_in M5 p0 (0 : Int32) (9999 : Int32)) fun v7 M6 =>
  if v7 = 0 then
    F_X10_would_99 p0 p1 p2 p3 p4 p5 p6 p7 p0 p1 p2 p3 p4 p5 p6 p7 (1 : Int32) M6
  else
    zb (F_X10_in M6 p1 (0 : Int32) (9999 : Int32)) fun v9 M8 =>
    if v9 = 0 then
      F_X10_would_99 p0 p1 p2 p3 p4 p5 p6 p7 p0 p1 p2 p3 p4 p5 p6 p7 (1 : Int32) M8
    else
      zb (F_X10_in M8 p2 (0 : Int32) (40 : Int32)) fun v11 M10 =>
      if v11 = 0 then
        F_X10_would_99 p0 p1 p2 p3 p4 p5 p6 p7 p0 p1 p2 p3 p4 p5 p6 p7 (1 : Int32) M10
      else
        zb (F_X10_in M10 p3 (0 : Int32) (7 : Int32)) fun v13 M12 =>
        if v13 = 0 then
          F_X10_would_99 p0 p1 p2 p3 p4 p5 p6 p7 p0 p1 p2 p3 p4 p5 p6 p7 (1 : Int32) M12
        else
          zb (F_X10_in M12 p4 (0 : Int32) (9 : Int32)) fun v15 M14 =>
          if v15 = 0 then
            F_X10_would_99 p0 p1 p2 p3 p4 p5 p6 p7 p0 p1 p2 p3 p4 p5 p6 p7 (1 : Int32) M14
          else
            zb (F_X10_in M14 p5 (0 : Int32) (400 : Int32)) fun v17 M16 =>
            if v17 = 0 then
              F_X10_would_99 p0 p1 p2 p3 p4 p5 p6 p7 p0 p1 p2 p3 p4 p5 p6 p7 (1 : Int32) M16
            else
              zb (F_X10_in M16 p6 (0 : Int32) (7 : Int32)) fun v19 M18 =>
              if v19 = 0 then
                F_X10_would_99 p0 p1 p2 p3 p4 p5 p6 p7 p0 p1 p2 p3 p4 p5 p6 p7 (1 : Int32) M18
              else
                zb (F_X10_in M18 p7 (0 : Int32) (7 : Int32)) fun v21 M20 =>
                if v21 = 0 then
                  F_X10_would_99 p0 p1 p2 p3 p4 p5 p6 p7 p0 p1 p2 p3 p4 p5 p6 p7 (1 : Int32) M20
                else
                  F_X10_would_99 p0 p1 p2 p3 p4 p5 p6 p7 p0 p1 p2 p3 p4 p5 p6 p7 (0 : Int32) M20
def rm_X10_would : Room := { frames := 6, cells := 0, slots := 0, locals := 173 }
set_option maxHeartbeats 4000000 in
set_option maxRecDepth 100000 in
theorem c_X10_would (l : Launch) {G : zG} {ad : Nat → Nat} {n : Nat} (hA : zInj ad n) (M : zMem) (p0 : Int32) (p1 : Int32) (p2 : Int32) (p3 : Int32) (p4 : Int32) (p5 : Int32) (p6 : Int32) (p7 : Int32) (hT : zT shM n 0 11) {r9 : Int32} {M9 : zMem} (hF : F_X10_would M p0 p1 p2 p3 p4 p5 p6 p7 = some (r9, M9)) : zM l yX10_would cX10_would 9 (some .int) rm_X10_would G shM ad n M [.ref (ad 0), .int p0, .int p1, .int p2, .int p3, .int p4, .int p5, .int p6, .int p7] (some (.int r9)) M9 := by
  refine zM_of hA (by decide +kernel) (lv := [(0, .ref (ad 0)), (1, .int p0), (2, .int p1), (3, .int p2), (4, .int p3), (5, .int p4), (6, .int p5), (7, .int p6), (8, .int p7)]) (Nat.le_of_ble_eq_true rfl) rfl (fun p e s m args below meth c A cx hr => ?_)
  have hb99 : ∀ (b99_L1 : Int32) (b99_L2 : Int32) (b99_L3 : Int32) (b99_L4 : Int32) (b99_L5 : Int32) (b99_L6 : Int32) (b99_L7 : Int32) (b99_L8 : Int32) (b99_S1 : Int32) (M : zMem), F_X10_would_99 p0 p1 p2 p3 p4 p5 p6 p7 b99_L1 b99_L2 b99_L3 b99_L4 b99_L5 b99_L6 b99_L7 b99_L8 b99_S1 M = some (r9, M9) → zJ p l e rm_X10_would s m args below meth c G shM ad n A 9 (MQ below (zQ G shM ad n M9 (some (.int r9)) A) args s 0 0 A) 0 0 M 99 [(0, .ref (ad 0)), (1, .int b99_L1), (2, .int b99_L2), (3, .int b99_L3), (4, .int b99_L4), (5, .int b99_L5), (6, .int b99_L6), (7, .int b99_L7), (8, .int b99_L8)] [.int b99_S1, .ref (ad 0)] := by
    intro b99_L1 b99_L2 b99_L3 b99_L4 b99_L5 b99_L6 b99_L7 b99_L8 b99_S1 M hF
    unfold F_X10_would_99 at hF
    refine z_iconst (v := 1) cx d_X10_would_99 ki_1 ?_
    refine z_iconst (v := 1) cx d_X10_would_100 ki_1 ?_
    obtain ⟨v2, M1, hc, hF⟩ := zb_inv hF
    refine z_callV cx (As := [.int b99_S1, .int (1 : Int32), .int (1 : Int32)]) (rest := []) (c_X10_bad l cx.2.2.2.1.1 M b99_S1 (1 : Int32) (1 : Int32) hT hc) hT zo_11 cv_SunnyPansModel_155 ⟨rfl, rfl, Nat.le_of_ble_eq_true rfl, Nat.le_of_ble_eq_true rfl⟩ rfl rfl ⟨Nat.zero_le _, Nat.zero_le _⟩ (Nat.le_of_ble_eq_true rfl) d_X10_would_101 ?_
    refine z_if_eq cx 109 d_X10_would_104 (by decide) hF (fun hF => ?_) (fun hF => ?_)
    · refine z_aload_n cx d_X10_would_109 0 rfl ?_
      refine z_iload_n cx d_X10_would_110 1 rfl ?_
      refine z_iload_n cx d_X10_would_111 2 rfl ?_
      refine z_iload_n cx d_X10_would_112 3 rfl ?_
      refine z_iload cx d_X10_would_113 4 rfl ?_
      refine z_iload cx d_X10_would_115 5 rfl ?_
      refine z_iload cx d_X10_would_117 6 rfl ?_
      refine z_iload cx d_X10_would_119 7 rfl ?_
      refine z_iload cx d_X10_would_121 8 rfl ?_
      obtain ⟨v4, M3, hc, hF⟩ := zb_inv hF
      refine z_callV cx (As := [.int b99_L1, .int b99_L2, .int b99_L3, .int b99_L4, .int b99_L5, .int b99_L6, .int b99_L7, .int b99_L8]) (rest := []) (c_X10_driesBy l cx.2.2.2.1.1 M1 b99_L1 b99_L2 b99_L3 b99_L4 b99_L5 b99_L6 b99_L7 b99_L8 hT hc) hT zo_11 cv_SunnyPansModel_260 ⟨rfl, rfl, Nat.le_of_ble_eq_true rfl, Nat.le_of_ble_eq_true rfl⟩ rfl rfl ⟨Nat.zero_le _, Nat.zero_le _⟩ (Nat.le_of_ble_eq_true rfl) d_X10_would_123 ?_
      exact z_iret cx hr rfl hF d_X10_would_126
    refine z_iconst (v := 0) cx d_X10_would_107 ki_0 ?_
    exact z_iret cx hr rfl hF d_X10_would_108
  unfold F_X10_would at hF
  refine z_aload_n cx d_X10_would_0 0 rfl ?_
  refine z_iconst (v := 0) cx d_X10_would_1 ki_0 ?_
  refine z_putI cx hT fp_SunnyPansModel_82 d_X10_would_2 ?_
  refine z_nmM hF (fun M5 hF => ?_)
  refine z_aload_n cx d_X10_would_5 0 rfl ?_
  refine z_iload_n cx d_X10_would_6 1 rfl ?_
  refine z_iconst (v := 0) cx d_X10_would_7 ki_0 ?_
  refine z_sipush (v := 9999) cx d_X10_would_8 ks_9999 ?_
  obtain ⟨v7, M6, hc, hF⟩ := zb_inv hF
  refine z_callS cx (As := [.int p0, .int (0 : Int32), .int (9999 : Int32)]) (rest := [.ref (ad 0)]) (c_X10_in l cx.2.2.2.1.1 M5 p0 (0 : Int32) (9999 : Int32)  hc) cs_SunnyPansModel_116 ⟨rfl, rfl, Nat.le_of_ble_eq_true rfl, Nat.le_of_ble_eq_true rfl⟩ rfl rfl ⟨Nat.zero_le _, Nat.zero_le _⟩ (Nat.le_of_ble_eq_true rfl) d_X10_would_11 ?_
  refine z_if_eq cx 94 d_X10_would_14 (by decide) hF (fun hF => ?_) (fun hF => ?_)
  · refine z_iconst (v := 1) cx d_X10_would_94 ki_1 ?_
    refine z_goto cx 99 d_X10_would_95 (by decide) ?_
    exact hb99 p0 p1 p2 p3 p4 p5 p6 p7 (1 : Int32) M6 hF
  refine z_iload_n cx d_X10_would_17 2 rfl ?_
  refine z_iconst (v := 0) cx d_X10_would_18 ki_0 ?_
  refine z_sipush (v := 9999) cx d_X10_would_19 ks_9999 ?_
  obtain ⟨v9, M8, hc, hF⟩ := zb_inv hF
  refine z_callS cx (As := [.int p1, .int (0 : Int32), .int (9999 : Int32)]) (rest := [.ref (ad 0)]) (c_X10_in l cx.2.2.2.1.1 M6 p1 (0 : Int32) (9999 : Int32)  hc) cs_SunnyPansModel_116 ⟨rfl, rfl, Nat.le_of_ble_eq_true rfl, Nat.le_of_ble_eq_true rfl⟩ rfl rfl ⟨Nat.zero_le _, Nat.zero_le _⟩ (Nat.le_of_ble_eq_true rfl) d_X10_would_22 ?_
  refine z_if_eq cx 94 d_X10_would_25 (by decide) hF (fun hF => ?_) (fun hF => ?_)
  · refine z_iconst (v := 1) cx d_X10_would_94 ki_1 ?_
    refine z_goto cx 99 d_X10_would_95 (by decide) ?_
    exact hb99 p0 p1 p2 p3 p4 p5 p6 p7 (1 : Int32) M8 hF
  refine z_iload_n cx d_X10_would_28 3 rfl ?_
  refine z_iconst (v := 0) cx d_X10_would_29 ki_0 ?_
  refine z_bipush (v := 40) cx d_X10_would_30 kb_40 ?_
  obtain ⟨v11, M10, hc, hF⟩ := zb_inv hF
  refine z_callS cx (As := [.int p2, .int (0 : Int32), .int (40 : Int32)]) (rest := [.ref (ad 0)]) (c_X10_in l cx.2.2.2.1.1 M8 p2 (0 : Int32) (40 : Int32)  hc) cs_SunnyPansModel_116 ⟨rfl, rfl, Nat.le_of_ble_eq_true rfl, Nat.le_of_ble_eq_true rfl⟩ rfl rfl ⟨Nat.zero_le _, Nat.zero_le _⟩ (Nat.le_of_ble_eq_true rfl) d_X10_would_32 ?_
  refine z_if_eq cx 94 d_X10_would_35 (by decide) hF (fun hF => ?_) (fun hF => ?_)
  · refine z_iconst (v := 1) cx d_X10_would_94 ki_1 ?_
    refine z_goto cx 99 d_X10_would_95 (by decide) ?_
    exact hb99 p0 p1 p2 p3 p4 p5 p6 p7 (1 : Int32) M10 hF
  refine z_iload cx d_X10_would_38 4 rfl ?_
  refine z_iconst (v := 0) cx d_X10_would_40 ki_0 ?_
  refine z_bipush (v := 7) cx d_X10_would_41 kb_7 ?_
  obtain ⟨v13, M12, hc, hF⟩ := zb_inv hF
  refine z_callS cx (As := [.int p3, .int (0 : Int32), .int (7 : Int32)]) (rest := [.ref (ad 0)]) (c_X10_in l cx.2.2.2.1.1 M10 p3 (0 : Int32) (7 : Int32)  hc) cs_SunnyPansModel_116 ⟨rfl, rfl, Nat.le_of_ble_eq_true rfl, Nat.le_of_ble_eq_true rfl⟩ rfl rfl ⟨Nat.zero_le _, Nat.zero_le _⟩ (Nat.le_of_ble_eq_true rfl) d_X10_would_43 ?_
  refine z_if_eq cx 94 d_X10_would_46 (by decide) hF (fun hF => ?_) (fun hF => ?_)
  · refine z_iconst (v := 1) cx d_X10_would_94 ki_1 ?_
    refine z_goto cx 99 d_X10_would_95 (by decide) ?_
    exact hb99 p0 p1 p2 p3 p4 p5 p6 p7 (1 : Int32) M12 hF
  refine z_iload cx d_X10_would_49 5 rfl ?_
  refine z_iconst (v := 0) cx d_X10_would_51 ki_0 ?_
  refine z_bipush (v := 9) cx d_X10_would_52 kb_9 ?_
  obtain ⟨v15, M14, hc, hF⟩ := zb_inv hF
  refine z_callS cx (As := [.int p4, .int (0 : Int32), .int (9 : Int32)]) (rest := [.ref (ad 0)]) (c_X10_in l cx.2.2.2.1.1 M12 p4 (0 : Int32) (9 : Int32)  hc) cs_SunnyPansModel_116 ⟨rfl, rfl, Nat.le_of_ble_eq_true rfl, Nat.le_of_ble_eq_true rfl⟩ rfl rfl ⟨Nat.zero_le _, Nat.zero_le _⟩ (Nat.le_of_ble_eq_true rfl) d_X10_would_54 ?_
  refine z_if_eq cx 94 d_X10_would_57 (by decide) hF (fun hF => ?_) (fun hF => ?_)
  · refine z_iconst (v := 1) cx d_X10_would_94 ki_1 ?_
    refine z_goto cx 99 d_X10_would_95 (by decide) ?_
    exact hb99 p0 p1 p2 p3 p4 p5 p6 p7 (1 : Int32) M14 hF
  refine z_iload cx d_X10_would_60 6 rfl ?_
  refine z_iconst (v := 0) cx d_X10_would_62 ki_0 ?_
  refine z_sipush (v := 400) cx d_X10_would_63 ks_400 ?_
  obtain ⟨v17, M16, hc, hF⟩ := zb_inv hF
  refine z_callS cx (As := [.int p5, .int (0 : Int32), .int (400 : Int32)]) (rest := [.ref (ad 0)]) (c_X10_in l cx.2.2.2.1.1 M14 p5 (0 : Int32) (400 : Int32)  hc) cs_SunnyPansModel_116 ⟨rfl, rfl, Nat.le_of_ble_eq_true rfl, Nat.le_of_ble_eq_true rfl⟩ rfl rfl ⟨Nat.zero_le _, Nat.zero_le _⟩ (Nat.le_of_ble_eq_true rfl) d_X10_would_66 ?_
  refine z_if_eq cx 94 d_X10_would_69 (by decide) hF (fun hF => ?_) (fun hF => ?_)
  · refine z_iconst (v := 1) cx d_X10_would_94 ki_1 ?_
    refine z_goto cx 99 d_X10_would_95 (by decide) ?_
    exact hb99 p0 p1 p2 p3 p4 p5 p6 p7 (1 : Int32) M16 hF
  refine z_iload cx d_X10_would_72 7 rfl ?_
  refine z_iconst (v := 0) cx d_X10_would_74 ki_0 ?_
  refine z_bipush (v := 7) cx d_X10_would_75 kb_7 ?_
  obtain ⟨v19, M18, hc, hF⟩ := zb_inv hF
  refine z_callS cx (As := [.int p6, .int (0 : Int32), .int (7 : Int32)]) (rest := [.ref (ad 0)]) (c_X10_in l cx.2.2.2.1.1 M16 p6 (0 : Int32) (7 : Int32)  hc) cs_SunnyPansModel_116 ⟨rfl, rfl, Nat.le_of_ble_eq_true rfl, Nat.le_of_ble_eq_true rfl⟩ rfl rfl ⟨Nat.zero_le _, Nat.zero_le _⟩ (Nat.le_of_ble_eq_true rfl) d_X10_would_77 ?_
  refine z_if_eq cx 94 d_X10_would_80 (by decide) hF (fun hF => ?_) (fun hF => ?_)
  · refine z_iconst (v := 1) cx d_X10_would_94 ki_1 ?_
    refine z_goto cx 99 d_X10_would_95 (by decide) ?_
    exact hb99 p0 p1 p2 p3 p4 p5 p6 p7 (1 : Int32) M18 hF
  refine z_iload cx d_X10_would_83 8 rfl ?_
  refine z_iconst (v := 0) cx d_X10_would_85 ki_0 ?_
  refine z_bipush (v := 7) cx d_X10_would_86 kb_7 ?_
  obtain ⟨v21, M20, hc, hF⟩ := zb_inv hF
  refine z_callS cx (As := [.int p7, .int (0 : Int32), .int (7 : Int32)]) (rest := [.ref (ad 0)]) (c_X10_in l cx.2.2.2.1.1 M18 p7 (0 : Int32) (7 : Int32)  hc) cs_SunnyPansModel_116 ⟨rfl, rfl, Nat.le_of_ble_eq_true rfl, Nat.le_of_ble_eq_true rfl⟩ rfl rfl ⟨Nat.zero_le _, Nat.zero_le _⟩ (Nat.le_of_ble_eq_true rfl) d_X10_would_88 ?_
  refine z_if_ne cx 98 d_X10_would_91 (by decide) hF (fun hF => ?_) (fun hF => ?_)
  · refine z_iconst (v := 0) cx d_X10_would_98 ki_0 ?_
    exact hb99 p0 p1 p2 p3 p4 p5 p6 p7 (0 : Int32) M20 hF
  refine z_iconst (v := 1) cx d_X10_would_94 ki_1 ?_
  refine z_goto cx 99 d_X10_would_95 (by decide) ?_
  exact hb99 p0 p1 p2 p3 p4 p5 p6 p7 (1 : Int32) M20 hF
/-! SunnyPansModel.ahead -/
theorem d_X10_ahead_0 : decode cX10_ahead 0 = .ok (.aload_n 0, 1) := by decide +kernel
theorem d_X10_ahead_1 : decode cX10_ahead 1 = .ok (.iconst 0, 1) := by decide +kernel
theorem d_X10_ahead_2 : decode cX10_ahead 2 = .ok (.putfield 82, 3) := by decide +kernel
theorem d_X10_ahead_5 : decode cX10_ahead 5 = .ok (.aload_n 0, 1) := by decide +kernel
theorem d_X10_ahead_6 : decode cX10_ahead 6 = .ok (.iload_n 1, 1) := by decide +kernel
theorem d_X10_ahead_7 : decode cX10_ahead 7 = .ok (.iconst 0, 1) := by decide +kernel
theorem d_X10_ahead_8 : decode cX10_ahead 8 = .ok (.sipush 500, 3) := by decide +kernel
theorem d_X10_ahead_11 : decode cX10_ahead 11 = .ok (.invokestatic 116, 3) := by decide +kernel
theorem d_X10_ahead_14 : decode cX10_ahead 14 = .ok (.ifCond .eq 12, 3) := by decide +kernel
theorem d_X10_ahead_17 : decode cX10_ahead 17 = .ok (.iload_n 2, 1) := by decide +kernel
theorem d_X10_ahead_18 : decode cX10_ahead 18 = .ok (.iconst 0, 1) := by decide +kernel
theorem d_X10_ahead_19 : decode cX10_ahead 19 = .ok (.iconst 2, 1) := by decide +kernel
theorem d_X10_ahead_20 : decode cX10_ahead 20 = .ok (.invokestatic 116, 3) := by decide +kernel
theorem d_X10_ahead_23 : decode cX10_ahead 23 = .ok (.ifCond .ne 7, 3) := by decide +kernel
theorem d_X10_ahead_26 : decode cX10_ahead 26 = .ok (.iconst 1, 1) := by decide +kernel
theorem d_X10_ahead_27 : decode cX10_ahead 27 = .ok (.goto 4, 3) := by decide +kernel
theorem d_X10_ahead_30 : decode cX10_ahead 30 = .ok (.iconst 0, 1) := by decide +kernel
theorem d_X10_ahead_31 : decode cX10_ahead 31 = .ok (.iconst 1, 1) := by decide +kernel
theorem d_X10_ahead_32 : decode cX10_ahead 32 = .ok (.iconst 1, 1) := by decide +kernel
theorem d_X10_ahead_33 : decode cX10_ahead 33 = .ok (.invokevirtual 155, 3) := by decide +kernel
theorem d_X10_ahead_36 : decode cX10_ahead 36 = .ok (.ifCond .eq 5, 3) := by decide +kernel
theorem d_X10_ahead_39 : decode cX10_ahead 39 = .ok (.iconst 0, 1) := by decide +kernel
theorem d_X10_ahead_40 : decode cX10_ahead 40 = .ok (.ireturn, 1) := by decide +kernel
theorem d_X10_ahead_41 : decode cX10_ahead 41 = .ok (.aload_n 0, 1) := by decide +kernel
theorem d_X10_ahead_42 : decode cX10_ahead 42 = .ok (.getfield 58, 3) := by decide +kernel
theorem d_X10_ahead_45 : decode cX10_ahead 45 = .ok (.aload_n 0, 1) := by decide +kernel
theorem d_X10_ahead_46 : decode cX10_ahead 46 = .ok (.getfield 61, 3) := by decide +kernel
theorem d_X10_ahead_49 : decode cX10_ahead 49 = .ok (.invokestatic 315, 3) := by decide +kernel
theorem d_X10_ahead_52 : decode cX10_ahead 52 = .ok (.iconst 0, 1) := by decide +kernel
theorem d_X10_ahead_53 : decode cX10_ahead 53 = .ok (.istore_n 3, 1) := by decide +kernel
theorem d_X10_ahead_54 : decode cX10_ahead 54 = .ok (.iload_n 3, 1) := by decide +kernel
theorem d_X10_ahead_55 : decode cX10_ahead 55 = .ok (.iload_n 1, 1) := by decide +kernel
theorem d_X10_ahead_56 : decode cX10_ahead 56 = .ok (.if_icmp .ge 26, 3) := by decide +kernel
theorem d_X10_ahead_59 : decode cX10_ahead 59 = .ok (.aload_n 0, 1) := by decide +kernel
theorem d_X10_ahead_60 : decode cX10_ahead 60 = .ok (.getfield 23, 3) := by decide +kernel
theorem d_X10_ahead_63 : decode cX10_ahead 63 = .ok (.iconst 2, 1) := by decide +kernel
theorem d_X10_ahead_64 : decode cX10_ahead 64 = .ok (.iaload, 1) := by decide +kernel
theorem d_X10_ahead_65 : decode cX10_ahead 65 = .ok (.ifCond .le 17, 3) := by decide +kernel
theorem d_X10_ahead_68 : decode cX10_ahead 68 = .ok (.aload_n 0, 1) := by decide +kernel
theorem d_X10_ahead_69 : decode cX10_ahead 69 = .ok (.aload_n 0, 1) := by decide +kernel
theorem d_X10_ahead_70 : decode cX10_ahead 70 = .ok (.getfield 61, 3) := by decide +kernel
theorem d_X10_ahead_73 : decode cX10_ahead 73 = .ok (.invokevirtual 299, 3) := by decide +kernel
theorem d_X10_ahead_76 : decode cX10_ahead 76 = .ok (.iinc 3 1, 3) := by decide +kernel
theorem d_X10_ahead_79 : decode cX10_ahead 79 = .ok (.goto (-25), 3) := by decide +kernel
theorem d_X10_ahead_82 : decode cX10_ahead 82 = .ok (.iload_n 2, 1) := by decide +kernel
theorem d_X10_ahead_83 : decode cX10_ahead 83 = .ok (.ifCond .ne 14, 3) := by decide +kernel
theorem d_X10_ahead_86 : decode cX10_ahead 86 = .ok (.aload_n 0, 1) := by decide +kernel
theorem d_X10_ahead_87 : decode cX10_ahead 87 = .ok (.getfield 61, 3) := by decide +kernel
theorem d_X10_ahead_90 : decode cX10_ahead 90 = .ok (.iconst 0, 1) := by decide +kernel
theorem d_X10_ahead_91 : decode cX10_ahead 91 = .ok (.invokestatic 319, 3) := by decide +kernel
theorem d_X10_ahead_94 : decode cX10_ahead 94 = .ok (.goto 28, 3) := by decide +kernel
theorem d_X10_ahead_97 : decode cX10_ahead 97 = .ok (.iload_n 2, 1) := by decide +kernel
theorem d_X10_ahead_98 : decode cX10_ahead 98 = .ok (.iconst 1, 1) := by decide +kernel
theorem d_X10_ahead_99 : decode cX10_ahead 99 = .ok (.if_icmp .ne 15, 3) := by decide +kernel
theorem d_X10_ahead_102 : decode cX10_ahead 102 = .ok (.aload_n 0, 1) := by decide +kernel
theorem d_X10_ahead_103 : decode cX10_ahead 103 = .ok (.aload_n 0, 1) := by decide +kernel
theorem d_X10_ahead_104 : decode cX10_ahead 104 = .ok (.getfield 61, 3) := by decide +kernel
theorem d_X10_ahead_107 : decode cX10_ahead 107 = .ok (.iconst 0, 1) := by decide +kernel
theorem d_X10_ahead_108 : decode cX10_ahead 108 = .ok (.invokevirtual 326, 3) := by decide +kernel
theorem d_X10_ahead_111 : decode cX10_ahead 111 = .ok (.goto 11, 3) := by decide +kernel
theorem d_X10_ahead_114 : decode cX10_ahead 114 = .ok (.aload_n 0, 1) := by decide +kernel
theorem d_X10_ahead_115 : decode cX10_ahead 115 = .ok (.getfield 61, 3) := by decide +kernel
theorem d_X10_ahead_118 : decode cX10_ahead 118 = .ok (.sipush 192, 3) := by decide +kernel
theorem d_X10_ahead_121 : decode cX10_ahead 121 = .ok (.iaload, 1) := by decide +kernel
theorem d_X10_ahead_122 : decode cX10_ahead 122 = .ok (.ireturn, 1) := by decide +kernel
def F_X10_ahead_82 (p0 : Int32) (p1 : Int32) (b82_L2 : Int32) (M : zMem) : Option (Int32 × zMem) :=
  if b82_L2 = 0 then
    zb (F_X10_together M 452 (0 : Int32)) fun v4 M3 =>
    some (v4, M3)
  else
    if b82_L2 = (1 : Int32) then
      zb (F_X10_dryOnes M 452 (0 : Int32)) fun v2 M1 =>
      some (v2, M1)
    else
      some ((M.1 452 192), M)
def F_X10_ahead_54 (p0 : Int32) (p1 : Int32) (self54 : Int32 → Int32 → Int32 → zMem → Option (Int32 × zMem)) (b54_L1 : Int32) (b54_L2 : Int32) (b54_L3 : Int32) (M : zMem) : Option (Int32 × zMem) :=
  if b54_L1 ≤ b54_L3 then
    F_X10_ahead_82 p0 p1 b54_L2 M
  else
    if (M.1 4 2) ≤ 0 then
      F_X10_ahead_82 p0 p1 b54_L2 M
    else
      zbv (F_X10_hourEnds M 452) fun M5 =>
      self54 b54_L1 b54_L2 (b54_L3 + 1) M5
def F_X10_ahead_31 (p0 : Int32) (p1 : Int32) (b31_L1 : Int32) (b31_L2 : Int32) (b31_S1 : Int32) (M : zMem) : Option (Int32 × zMem) :=
  zb (F_X10_bad M b31_S1 (1 : Int32) (1 : Int32)) fun v7 M6 =>
  if v7 = 0 then
    zbv (F_X10_copies M6 451 452) fun M8 =>
    itF (fun _ _ _ _ => none) (F_X10_ahead_54 p0 p1) zFuel b31_L1 b31_L2 (0 : Int32) M8
  else
    some ((0 : Int32), M6)
def F_X10_ahead (M : zMem) (p0 : Int32) (p1 : Int32) : Option (Int32 × zMem) :=
  zl (zI M 0 0 (0 : Int32)) fun M9 =>
  zb (F_X10_in M9 p0 (0 : Int32) (500 : Int32)) fun v11 M10 =>
  if v11 = 0 then
    F_X10_ahead_31 p0 p1 p0 p1 (1 : Int32) M10
  else
    zb (F_X10_in M10 p1 (0 : Int32) (2 : Int32)) fun v13 M12 =>
    if v13 = 0 then
      F_X10_ahead_31 p0 p1 p0 p1 (1 : Int32) M12
    else
      F_X10_ahead_31 p0 p1 p0 p1 (0 : Int32) M12
def rm_X10_ahead : Room := { frames := 9, cells := 0, slots := 0, locals := 240 }
set_option maxHeartbeats 4000000 in
set_option maxRecDepth 100000 in
theorem c_X10_ahead (l : Launch) {G : zG} {ad : Nat → Nat} {n : Nat} (hA : zInj ad n) (M : zMem) (p0 : Int32) (p1 : Int32) (hT : zT shM n 0 11) {r9 : Int32} {M9 : zMem} (hF : F_X10_ahead M p0 p1 = some (r9, M9)) : zM l yX10_ahead cX10_ahead 4 (some .int) rm_X10_ahead G shM ad n M [.ref (ad 0), .int p0, .int p1] (some (.int r9)) M9 := by
  refine zM_of hA (by decide +kernel) (lv := [(0, .ref (ad 0)), (1, .int p0), (2, .int p1)]) (Nat.le_of_ble_eq_true rfl) rfl (fun p e s m args below meth c A cx hr => ?_)
  have hb82 : ∀ (b82_L2 : Int32) (M : zMem), F_X10_ahead_82 p0 p1 b82_L2 M = some (r9, M9) → zJ p l e rm_X10_ahead s m args below meth c G shM ad n A 4 (MQ below (zQ G shM ad n M9 (some (.int r9)) A) args s 0 0 A) 0 0 M 82 [(0, .ref (ad 0)), (2, .int b82_L2)] [] := by
    intro b82_L2 M hF
    unfold F_X10_ahead_82 at hF
    refine z_iload_n cx d_X10_ahead_82 1 rfl ?_
    refine z_if_ne cx 97 d_X10_ahead_83 (by decide) hF (fun hF => ?_) (fun hF => ?_)
    · refine z_iload_n cx d_X10_ahead_97 1 rfl ?_
      refine z_iconst (v := 1) cx d_X10_ahead_98 ki_1 ?_
      refine z_icmp_ne cx 114 d_X10_ahead_99 (by decide) hF (fun hF => ?_) (fun hF => ?_)
      · refine z_aload_n cx d_X10_ahead_114 0 rfl ?_
        refine z_getR cx hT fg_SunnyPansModel_61 452 rfl d_X10_ahead_115 ?_
        refine z_sipush (v := 192) cx d_X10_ahead_118 ks_192 ?_
        refine z_iald cx (tfM_11_452 hT) za_36 (zvp (by decide +kernel)) 192 rfl d_X10_ahead_121 ?_
        exact z_iret cx hr rfl hF d_X10_ahead_122
      refine z_aload_n cx d_X10_ahead_102 0 rfl ?_
      refine z_aload_n cx d_X10_ahead_103 0 rfl ?_
      refine z_getR cx hT fg_SunnyPansModel_61 452 rfl d_X10_ahead_104 ?_
      refine z_iconst (v := 0) cx d_X10_ahead_107 ki_0 ?_
      obtain ⟨v2, M1, hc, hF⟩ := zb_inv hF
      refine z_callV cx (As := [.ref (ad 452), .int (0 : Int32)]) (rest := []) (c_X10_dryOnes l cx.2.2.2.1.1 M 452 (0 : Int32) hT (tfM_11_452 hT) hc) hT zo_11 cv_SunnyPansModel_326 ⟨rfl, rfl, Nat.le_of_ble_eq_true rfl, Nat.le_of_ble_eq_true rfl⟩ rfl rfl ⟨Nat.zero_le _, Nat.zero_le _⟩ (Nat.le_of_ble_eq_true rfl) d_X10_ahead_108 ?_
      refine z_goto cx 122 d_X10_ahead_111 (by decide) ?_
      exact z_iret cx hr rfl hF d_X10_ahead_122
    refine z_aload_n cx d_X10_ahead_86 0 rfl ?_
    refine z_getR cx hT fg_SunnyPansModel_61 452 rfl d_X10_ahead_87 ?_
    refine z_iconst (v := 0) cx d_X10_ahead_90 ki_0 ?_
    obtain ⟨v4, M3, hc, hF⟩ := zb_inv hF
    refine z_callS cx (As := [.ref (ad 452), .int (0 : Int32)]) (rest := []) (c_X10_together l cx.2.2.2.1.1 M 452 (0 : Int32) (tfM_11_452 hT) hc) cs_SunnyPansModel_319 ⟨rfl, rfl, Nat.le_of_ble_eq_true rfl, Nat.le_of_ble_eq_true rfl⟩ rfl rfl ⟨Nat.zero_le _, Nat.zero_le _⟩ (Nat.le_of_ble_eq_true rfl) d_X10_ahead_91 ?_
    refine z_goto cx 122 d_X10_ahead_94 (by decide) ?_
    exact z_iret cx hr rfl hF d_X10_ahead_122
  have hL54 : ∀ (fuel : Nat), ∀ (b54_L1 : Int32) (b54_L2 : Int32) (b54_L3 : Int32) (M : zMem), itF (fun _ _ _ _ => none) (F_X10_ahead_54 p0 p1) fuel b54_L1 b54_L2 b54_L3 M = some (r9, M9) → zJ p l e rm_X10_ahead s m args below meth c G shM ad n A 4 (MQ below (zQ G shM ad n M9 (some (.int r9)) A) args s 0 0 A) 0 0 M 54 [(0, .ref (ad 0)), (1, .int b54_L1), (2, .int b54_L2), (3, .int b54_L3)] [] := by
    intro fuel
    induction fuel with
    | zero => intro b54_L1 b54_L2 b54_L3 M hF; cases hF
    | succ fuel hs54 =>
      intro b54_L1 b54_L2 b54_L3 M hF
      have hF : F_X10_ahead_54 p0 p1 (itF (fun _ _ _ _ => none) (F_X10_ahead_54 p0 p1) fuel) b54_L1 b54_L2 b54_L3 M = some (r9, M9) := hF
      generalize itF (fun _ _ _ _ => none) (F_X10_ahead_54 p0 p1) fuel = self54 at hs54 hF
      unfold F_X10_ahead_54 at hF
      refine z_iload_n cx d_X10_ahead_54 3 rfl ?_
      refine z_iload_n cx d_X10_ahead_55 1 rfl ?_
      refine z_icmp_ge cx 82 d_X10_ahead_56 (by decide) hF (fun hF => ?_) (fun hF => ?_)
      · exact z_lv [0, 2] _ rfl (hb82 b54_L2 M hF)
      refine z_aload_n cx d_X10_ahead_59 0 rfl ?_
      refine z_getR cx hT fg_SunnyPansModel_23 4 rfl d_X10_ahead_60 ?_
      refine z_iconst (v := 2) cx d_X10_ahead_63 ki_2 ?_
      refine z_iald cx (tfM_11_4 hT) za_28 (zvp (by decide +kernel)) 2 rfl d_X10_ahead_64 ?_
      refine z_if_le cx 82 d_X10_ahead_65 (by decide) hF (fun hF => ?_) (fun hF => ?_)
      · exact z_lv [0, 2] _ rfl (hb82 b54_L2 M hF)
      refine z_aload_n cx d_X10_ahead_68 0 rfl ?_
      refine z_aload_n cx d_X10_ahead_69 0 rfl ?_
      refine z_getR cx hT fg_SunnyPansModel_61 452 rfl d_X10_ahead_70 ?_
      obtain ⟨M5, hc, hF⟩ := zbv_inv hF
      refine z_callV cx (As := [.ref (ad 452)]) (rest := []) (c_X10_hourEnds l cx.2.2.2.1.1 M 452 hT (tfM_11_452 hT) hc) hT zo_11 cv_SunnyPansModel_299 ⟨rfl, rfl, Nat.le_of_ble_eq_true rfl, Nat.le_of_ble_eq_true rfl⟩ rfl rfl ⟨Nat.zero_le _, Nat.zero_le _⟩ (Nat.le_of_ble_eq_true rfl) d_X10_ahead_73 ?_
      refine z_iinc cx 3 1 [(3, .int (b54_L3 + 1)), (0, .ref (ad 0)), (1, .int b54_L1), (2, .int b54_L2)] d_X10_ahead_76 3 rfl ki_1 (by decide) rfl ?_
      refine z_goto cx 54 d_X10_ahead_79 (by decide) ?_
      exact z_lv [1, 2, 3, 0] _ rfl (hs54 b54_L1 b54_L2 (b54_L3 + 1) M5 hF)
  have hb31 : ∀ (b31_L1 : Int32) (b31_L2 : Int32) (b31_S1 : Int32) (M : zMem), F_X10_ahead_31 p0 p1 b31_L1 b31_L2 b31_S1 M = some (r9, M9) → zJ p l e rm_X10_ahead s m args below meth c G shM ad n A 4 (MQ below (zQ G shM ad n M9 (some (.int r9)) A) args s 0 0 A) 0 0 M 31 [(0, .ref (ad 0)), (1, .int b31_L1), (2, .int b31_L2)] [.int b31_S1, .ref (ad 0)] := by
    intro b31_L1 b31_L2 b31_S1 M hF
    unfold F_X10_ahead_31 at hF
    refine z_iconst (v := 1) cx d_X10_ahead_31 ki_1 ?_
    refine z_iconst (v := 1) cx d_X10_ahead_32 ki_1 ?_
    obtain ⟨v7, M6, hc, hF⟩ := zb_inv hF
    refine z_callV cx (As := [.int b31_S1, .int (1 : Int32), .int (1 : Int32)]) (rest := []) (c_X10_bad l cx.2.2.2.1.1 M b31_S1 (1 : Int32) (1 : Int32) hT hc) hT zo_11 cv_SunnyPansModel_155 ⟨rfl, rfl, Nat.le_of_ble_eq_true rfl, Nat.le_of_ble_eq_true rfl⟩ rfl rfl ⟨Nat.zero_le _, Nat.zero_le _⟩ (Nat.le_of_ble_eq_true rfl) d_X10_ahead_33 ?_
    refine z_if_eq cx 41 d_X10_ahead_36 (by decide) hF (fun hF => ?_) (fun hF => ?_)
    · refine z_aload_n cx d_X10_ahead_41 0 rfl ?_
      refine z_getR cx hT fg_SunnyPansModel_58 451 rfl d_X10_ahead_42 ?_
      refine z_aload_n cx d_X10_ahead_45 0 rfl ?_
      refine z_getR cx hT fg_SunnyPansModel_61 452 rfl d_X10_ahead_46 ?_
      obtain ⟨M8, hc, hF⟩ := zbv_inv hF
      refine z_callS cx (As := [.ref (ad 451), .ref (ad 452)]) (rest := []) (c_X10_copies l cx.2.2.2.1.1 M6 451 452 (tfM_11_451 hT) (tfM_11_452 hT) hc) cs_SunnyPansModel_315 ⟨rfl, rfl, Nat.le_of_ble_eq_true rfl, Nat.le_of_ble_eq_true rfl⟩ rfl rfl ⟨Nat.zero_le _, Nat.zero_le _⟩ (Nat.le_of_ble_eq_true rfl) d_X10_ahead_49 ?_
      refine z_iconst (v := 0) cx d_X10_ahead_52 ki_0 ?_
      refine z_istore_n cx 3 [(3, .int (0 : Int32)), (0, .ref (ad 0)), (1, .int b31_L1), (2, .int b31_L2)] d_X10_ahead_53 rfl (by decide) rfl ?_
      exact z_lv [1, 2, 3, 0] _ rfl (hL54 zFuel b31_L1 b31_L2 (0 : Int32) M8 hF)
    refine z_iconst (v := 0) cx d_X10_ahead_39 ki_0 ?_
    exact z_iret cx hr rfl hF d_X10_ahead_40
  unfold F_X10_ahead at hF
  refine z_aload_n cx d_X10_ahead_0 0 rfl ?_
  refine z_iconst (v := 0) cx d_X10_ahead_1 ki_0 ?_
  refine z_putI cx hT fp_SunnyPansModel_82 d_X10_ahead_2 ?_
  refine z_nmM hF (fun M9 hF => ?_)
  refine z_aload_n cx d_X10_ahead_5 0 rfl ?_
  refine z_iload_n cx d_X10_ahead_6 1 rfl ?_
  refine z_iconst (v := 0) cx d_X10_ahead_7 ki_0 ?_
  refine z_sipush (v := 500) cx d_X10_ahead_8 ks_500 ?_
  obtain ⟨v11, M10, hc, hF⟩ := zb_inv hF
  refine z_callS cx (As := [.int p0, .int (0 : Int32), .int (500 : Int32)]) (rest := [.ref (ad 0)]) (c_X10_in l cx.2.2.2.1.1 M9 p0 (0 : Int32) (500 : Int32)  hc) cs_SunnyPansModel_116 ⟨rfl, rfl, Nat.le_of_ble_eq_true rfl, Nat.le_of_ble_eq_true rfl⟩ rfl rfl ⟨Nat.zero_le _, Nat.zero_le _⟩ (Nat.le_of_ble_eq_true rfl) d_X10_ahead_11 ?_
  refine z_if_eq cx 26 d_X10_ahead_14 (by decide) hF (fun hF => ?_) (fun hF => ?_)
  · refine z_iconst (v := 1) cx d_X10_ahead_26 ki_1 ?_
    refine z_goto cx 31 d_X10_ahead_27 (by decide) ?_
    exact hb31 p0 p1 (1 : Int32) M10 hF
  refine z_iload_n cx d_X10_ahead_17 2 rfl ?_
  refine z_iconst (v := 0) cx d_X10_ahead_18 ki_0 ?_
  refine z_iconst (v := 2) cx d_X10_ahead_19 ki_2 ?_
  obtain ⟨v13, M12, hc, hF⟩ := zb_inv hF
  refine z_callS cx (As := [.int p1, .int (0 : Int32), .int (2 : Int32)]) (rest := [.ref (ad 0)]) (c_X10_in l cx.2.2.2.1.1 M10 p1 (0 : Int32) (2 : Int32)  hc) cs_SunnyPansModel_116 ⟨rfl, rfl, Nat.le_of_ble_eq_true rfl, Nat.le_of_ble_eq_true rfl⟩ rfl rfl ⟨Nat.zero_le _, Nat.zero_le _⟩ (Nat.le_of_ble_eq_true rfl) d_X10_ahead_20 ?_
  refine z_if_ne cx 30 d_X10_ahead_23 (by decide) hF (fun hF => ?_) (fun hF => ?_)
  · refine z_iconst (v := 0) cx d_X10_ahead_30 ki_0 ?_
    exact hb31 p0 p1 (0 : Int32) M12 hF
  refine z_iconst (v := 1) cx d_X10_ahead_26 ki_1 ?_
  refine z_goto cx 31 d_X10_ahead_27 (by decide) ?_
  exact hb31 p0 p1 (1 : Int32) M12 hF
/-! SunnyPansModel.dryingOf -/
theorem d_X10_dryingOf_0 : decode cX10_dryingOf 0 = .ok (.aload_n 0, 1) := by decide +kernel
theorem d_X10_dryingOf_1 : decode cX10_dryingOf 1 = .ok (.getfield 58, 3) := by decide +kernel
theorem d_X10_dryingOf_4 : decode cX10_dryingOf 4 = .ok (.sipush 128, 3) := by decide +kernel
theorem d_X10_dryingOf_7 : decode cX10_dryingOf 7 = .ok (.iload_n 1, 1) := by decide +kernel
theorem d_X10_dryingOf_8 : decode cX10_dryingOf 8 = .ok (.iadd, 1) := by decide +kernel
theorem d_X10_dryingOf_9 : decode cX10_dryingOf 9 = .ok (.iaload, 1) := by decide +kernel
theorem d_X10_dryingOf_10 : decode cX10_dryingOf 10 = .ok (.ifCond .le 5, 3) := by decide +kernel
theorem d_X10_dryingOf_13 : decode cX10_dryingOf 13 = .ok (.iconst (-1), 1) := by decide +kernel
theorem d_X10_dryingOf_14 : decode cX10_dryingOf 14 = .ok (.ireturn, 1) := by decide +kernel
theorem d_X10_dryingOf_15 : decode cX10_dryingOf 15 = .ok (.aload_n 0, 1) := by decide +kernel
theorem d_X10_dryingOf_16 : decode cX10_dryingOf 16 = .ok (.getfield 58, 3) := by decide +kernel
theorem d_X10_dryingOf_19 : decode cX10_dryingOf 19 = .ok (.aload_n 0, 1) := by decide +kernel
theorem d_X10_dryingOf_20 : decode cX10_dryingOf 20 = .ok (.getfield 61, 3) := by decide +kernel
theorem d_X10_dryingOf_23 : decode cX10_dryingOf 23 = .ok (.invokestatic 315, 3) := by decide +kernel
theorem d_X10_dryingOf_26 : decode cX10_dryingOf 26 = .ok (.iconst 0, 1) := by decide +kernel
theorem d_X10_dryingOf_27 : decode cX10_dryingOf 27 = .ok (.istore_n 2, 1) := by decide +kernel
theorem d_X10_dryingOf_28 : decode cX10_dryingOf 28 = .ok (.iload_n 2, 1) := by decide +kernel
theorem d_X10_dryingOf_29 : decode cX10_dryingOf 29 = .ok (.sipush 500, 3) := by decide +kernel
theorem d_X10_dryingOf_32 : decode cX10_dryingOf 32 = .ok (.if_icmp .gt 50, 3) := by decide +kernel
theorem d_X10_dryingOf_35 : decode cX10_dryingOf 35 = .ok (.aload_n 0, 1) := by decide +kernel
theorem d_X10_dryingOf_36 : decode cX10_dryingOf 36 = .ok (.getfield 61, 3) := by decide +kernel
theorem d_X10_dryingOf_39 : decode cX10_dryingOf 39 = .ok (.iconst 0, 1) := by decide +kernel
theorem d_X10_dryingOf_40 : decode cX10_dryingOf 40 = .ok (.iload_n 1, 1) := by decide +kernel
theorem d_X10_dryingOf_41 : decode cX10_dryingOf 41 = .ok (.iadd, 1) := by decide +kernel
theorem d_X10_dryingOf_42 : decode cX10_dryingOf 42 = .ok (.iaload, 1) := by decide +kernel
theorem d_X10_dryingOf_43 : decode cX10_dryingOf 43 = .ok (.ifCond .ne 5, 3) := by decide +kernel
theorem d_X10_dryingOf_46 : decode cX10_dryingOf 46 = .ok (.iload_n 2, 1) := by decide +kernel
theorem d_X10_dryingOf_47 : decode cX10_dryingOf 47 = .ok (.ireturn, 1) := by decide +kernel
theorem d_X10_dryingOf_48 : decode cX10_dryingOf 48 = .ok (.aload_n 0, 1) := by decide +kernel
theorem d_X10_dryingOf_49 : decode cX10_dryingOf 49 = .ok (.getfield 23, 3) := by decide +kernel
theorem d_X10_dryingOf_52 : decode cX10_dryingOf 52 = .ok (.iconst 2, 1) := by decide +kernel
theorem d_X10_dryingOf_53 : decode cX10_dryingOf 53 = .ok (.iaload, 1) := by decide +kernel
theorem d_X10_dryingOf_54 : decode cX10_dryingOf 54 = .ok (.ifCond .ne 5, 3) := by decide +kernel
theorem d_X10_dryingOf_57 : decode cX10_dryingOf 57 = .ok (.iconst (-1), 1) := by decide +kernel
theorem d_X10_dryingOf_58 : decode cX10_dryingOf 58 = .ok (.ireturn, 1) := by decide +kernel
theorem d_X10_dryingOf_59 : decode cX10_dryingOf 59 = .ok (.aload_n 0, 1) := by decide +kernel
theorem d_X10_dryingOf_60 : decode cX10_dryingOf 60 = .ok (.aload_n 0, 1) := by decide +kernel
theorem d_X10_dryingOf_61 : decode cX10_dryingOf 61 = .ok (.getfield 61, 3) := by decide +kernel
theorem d_X10_dryingOf_64 : decode cX10_dryingOf 64 = .ok (.iload_n 1, 1) := by decide +kernel
theorem d_X10_dryingOf_65 : decode cX10_dryingOf 65 = .ok (.invokevirtual 272, 3) := by decide +kernel
theorem d_X10_dryingOf_68 : decode cX10_dryingOf 68 = .ok (.aload_n 0, 1) := by decide +kernel
theorem d_X10_dryingOf_69 : decode cX10_dryingOf 69 = .ok (.aload_n 0, 1) := by decide +kernel
theorem d_X10_dryingOf_70 : decode cX10_dryingOf 70 = .ok (.getfield 61, 3) := by decide +kernel
theorem d_X10_dryingOf_73 : decode cX10_dryingOf 73 = .ok (.invokevirtual 276, 3) := by decide +kernel
theorem d_X10_dryingOf_76 : decode cX10_dryingOf 76 = .ok (.iinc 2 1, 3) := by decide +kernel
theorem d_X10_dryingOf_79 : decode cX10_dryingOf 79 = .ok (.goto (-51), 3) := by decide +kernel
theorem d_X10_dryingOf_82 : decode cX10_dryingOf 82 = .ok (.iconst (-1), 1) := by decide +kernel
theorem d_X10_dryingOf_83 : decode cX10_dryingOf 83 = .ok (.ireturn, 1) := by decide +kernel
def F_X10_dryingOf_28 (p0 : Int32) (self28 : Int32 → Int32 → zMem → Option (Int32 × zMem)) (b28_L1 : Int32) (b28_L2 : Int32) (M : zMem) : Option (Int32 × zMem) :=
  if (500 : Int32) < b28_L2 then
    some ((-1 : Int32), M)
  else
    gin ((0 : Int32) + b28_L1) 195 <|
    if (M.1 452 ((0 : Int32) + b28_L1).toNatClampNeg) = 0 then
      some (b28_L2, M)
    else
      if (M.1 4 2) = 0 then
        some ((-1 : Int32), M)
      else
        zbv (F_X10_driesOne M 452 b28_L1) fun M2 =>
        zbv (F_X10_nextHour M2 452) fun M3 =>
        self28 b28_L1 (b28_L2 + 1) M3
def F_X10_dryingOf (M : zMem) (p0 : Int32) : Option (Int32 × zMem) :=
  gin ((128 : Int32) + p0) 195 <|
  if (M.1 451 ((128 : Int32) + p0).toNatClampNeg) ≤ 0 then
    zbv (F_X10_copies M 451 452) fun M5 =>
    itF (fun _ _ _ => none) (F_X10_dryingOf_28 p0) zFuel p0 (0 : Int32) M5
  else
    some ((-1 : Int32), M)
def rm_X10_dryingOf : Room := { frames := 8, cells := 0, slots := 0, locals := 218 }
set_option maxHeartbeats 4000000 in
set_option maxRecDepth 100000 in
theorem c_X10_dryingOf (l : Launch) {G : zG} {ad : Nat → Nat} {n : Nat} (hA : zInj ad n) (M : zMem) (p0 : Int32) (hT : zT shM n 0 11) {r9 : Int32} {M9 : zMem} (hF : F_X10_dryingOf M p0 = some (r9, M9)) : zM l yX10_dryingOf cX10_dryingOf 3 (some .int) rm_X10_dryingOf G shM ad n M [.ref (ad 0), .int p0] (some (.int r9)) M9 := by
  refine zM_of hA (by decide +kernel) (lv := [(0, .ref (ad 0)), (1, .int p0)]) (Nat.le_of_ble_eq_true rfl) rfl (fun p e s m args below meth c A cx hr => ?_)
  have hL28 : ∀ (fuel : Nat), ∀ (b28_L1 : Int32) (b28_L2 : Int32) (M : zMem), itF (fun _ _ _ => none) (F_X10_dryingOf_28 p0) fuel b28_L1 b28_L2 M = some (r9, M9) → zJ p l e rm_X10_dryingOf s m args below meth c G shM ad n A 3 (MQ below (zQ G shM ad n M9 (some (.int r9)) A) args s 0 0 A) 0 0 M 28 [(0, .ref (ad 0)), (1, .int b28_L1), (2, .int b28_L2)] [] := by
    intro fuel
    induction fuel with
    | zero => intro b28_L1 b28_L2 M hF; cases hF
    | succ fuel hs28 =>
      intro b28_L1 b28_L2 M hF
      have hF : F_X10_dryingOf_28 p0 (itF (fun _ _ _ => none) (F_X10_dryingOf_28 p0) fuel) b28_L1 b28_L2 M = some (r9, M9) := hF
      generalize itF (fun _ _ _ => none) (F_X10_dryingOf_28 p0) fuel = self28 at hs28 hF
      unfold F_X10_dryingOf_28 at hF
      refine z_iload_n cx d_X10_dryingOf_28 2 rfl ?_
      refine z_sipush (v := 500) cx d_X10_dryingOf_29 ks_500 ?_
      refine z_icmp_gt cx 82 d_X10_dryingOf_32 (by decide) hF (fun hF => ?_) (fun hF => ?_)
      · refine z_iconst (v := -1) cx d_X10_dryingOf_82 ki_m1 ?_
        exact z_iret cx hr rfl hF d_X10_dryingOf_83
      refine z_aload_n cx d_X10_dryingOf_35 0 rfl ?_
      refine z_getR cx hT fg_SunnyPansModel_61 452 rfl d_X10_dryingOf_36 ?_
      refine z_iconst (v := 0) cx d_X10_dryingOf_39 ki_0 ?_
      refine z_iload_n cx d_X10_dryingOf_40 1 rfl ?_
      refine z_iadd cx d_X10_dryingOf_41 ?_
      obtain ⟨hi1, hF⟩ := gin_inv hF
      refine z_iald cx (tfM_11_452 hT) za_36 hi1 (((0 : Int32) + b28_L1).toNatClampNeg) rfl d_X10_dryingOf_42 ?_
      refine z_if_ne cx 48 d_X10_dryingOf_43 (by decide) hF (fun hF => ?_) (fun hF => ?_)
      · refine z_aload_n cx d_X10_dryingOf_48 0 rfl ?_
        refine z_getR cx hT fg_SunnyPansModel_23 4 rfl d_X10_dryingOf_49 ?_
        refine z_iconst (v := 2) cx d_X10_dryingOf_52 ki_2 ?_
        refine z_iald cx (tfM_11_4 hT) za_28 (zvp (by decide +kernel)) 2 rfl d_X10_dryingOf_53 ?_
        refine z_if_ne cx 59 d_X10_dryingOf_54 (by decide) hF (fun hF => ?_) (fun hF => ?_)
        · refine z_aload_n cx d_X10_dryingOf_59 0 rfl ?_
          refine z_aload_n cx d_X10_dryingOf_60 0 rfl ?_
          refine z_getR cx hT fg_SunnyPansModel_61 452 rfl d_X10_dryingOf_61 ?_
          refine z_iload_n cx d_X10_dryingOf_64 1 rfl ?_
          obtain ⟨M2, hc, hF⟩ := zbv_inv hF
          refine z_callV cx (As := [.ref (ad 452), .int b28_L1]) (rest := []) (c_X10_driesOne l cx.2.2.2.1.1 M 452 b28_L1 hT (tfM_11_452 hT) hc) hT zo_11 cv_SunnyPansModel_272 ⟨rfl, rfl, Nat.le_of_ble_eq_true rfl, Nat.le_of_ble_eq_true rfl⟩ rfl rfl ⟨Nat.zero_le _, Nat.zero_le _⟩ (Nat.le_of_ble_eq_true rfl) d_X10_dryingOf_65 ?_
          refine z_aload_n cx d_X10_dryingOf_68 0 rfl ?_
          refine z_aload_n cx d_X10_dryingOf_69 0 rfl ?_
          refine z_getR cx hT fg_SunnyPansModel_61 452 rfl d_X10_dryingOf_70 ?_
          obtain ⟨M3, hc, hF⟩ := zbv_inv hF
          refine z_callV cx (As := [.ref (ad 452)]) (rest := []) (c_X10_nextHour l cx.2.2.2.1.1 M2 452 hT (tfM_11_452 hT) hc) hT zo_11 cv_SunnyPansModel_276 ⟨rfl, rfl, Nat.le_of_ble_eq_true rfl, Nat.le_of_ble_eq_true rfl⟩ rfl rfl ⟨Nat.zero_le _, Nat.zero_le _⟩ (Nat.le_of_ble_eq_true rfl) d_X10_dryingOf_73 ?_
          refine z_iinc cx 2 1 [(2, .int (b28_L2 + 1)), (0, .ref (ad 0)), (1, .int b28_L1)] d_X10_dryingOf_76 2 rfl ki_1 (by decide) rfl ?_
          refine z_goto cx 28 d_X10_dryingOf_79 (by decide) ?_
          exact z_lv [1, 2, 0] _ rfl (hs28 b28_L1 (b28_L2 + 1) M3 hF)
        refine z_iconst (v := -1) cx d_X10_dryingOf_57 ki_m1 ?_
        exact z_iret cx hr rfl hF d_X10_dryingOf_58
      refine z_iload_n cx d_X10_dryingOf_46 2 rfl ?_
      exact z_iret cx hr rfl hF d_X10_dryingOf_47
  unfold F_X10_dryingOf at hF
  refine z_aload_n cx d_X10_dryingOf_0 0 rfl ?_
  refine z_getR cx hT fg_SunnyPansModel_58 451 rfl d_X10_dryingOf_1 ?_
  refine z_sipush (v := 128) cx d_X10_dryingOf_4 ks_128 ?_
  refine z_iload_n cx d_X10_dryingOf_7 1 rfl ?_
  refine z_iadd cx d_X10_dryingOf_8 ?_
  obtain ⟨hi4, hF⟩ := gin_inv hF
  refine z_iald cx (tfM_11_451 hT) za_36 hi4 (((128 : Int32) + p0).toNatClampNeg) rfl d_X10_dryingOf_9 ?_
  refine z_if_le cx 15 d_X10_dryingOf_10 (by decide) hF (fun hF => ?_) (fun hF => ?_)
  · refine z_aload_n cx d_X10_dryingOf_15 0 rfl ?_
    refine z_getR cx hT fg_SunnyPansModel_58 451 rfl d_X10_dryingOf_16 ?_
    refine z_aload_n cx d_X10_dryingOf_19 0 rfl ?_
    refine z_getR cx hT fg_SunnyPansModel_61 452 rfl d_X10_dryingOf_20 ?_
    obtain ⟨M5, hc, hF⟩ := zbv_inv hF
    refine z_callS cx (As := [.ref (ad 451), .ref (ad 452)]) (rest := []) (c_X10_copies l cx.2.2.2.1.1 M 451 452 (tfM_11_451 hT) (tfM_11_452 hT) hc) cs_SunnyPansModel_315 ⟨rfl, rfl, Nat.le_of_ble_eq_true rfl, Nat.le_of_ble_eq_true rfl⟩ rfl rfl ⟨Nat.zero_le _, Nat.zero_le _⟩ (Nat.le_of_ble_eq_true rfl) d_X10_dryingOf_23 ?_
    refine z_iconst (v := 0) cx d_X10_dryingOf_26 ki_0 ?_
    refine z_istore_n cx 2 [(2, .int (0 : Int32)), (0, .ref (ad 0)), (1, .int p0)] d_X10_dryingOf_27 rfl (by decide) rfl ?_
    exact z_lv [1, 2, 0] _ rfl (hL28 zFuel p0 (0 : Int32) M5 hF)
  refine z_iconst (v := -1) cx d_X10_dryingOf_13 ki_m1 ?_
  exact z_iret cx hr rfl hF d_X10_dryingOf_14
/-! SunnyPansModel.drying -/
theorem d_X10_drying_0 : decode cX10_drying 0 = .ok (.aload_n 0, 1) := by decide +kernel
theorem d_X10_drying_1 : decode cX10_drying 1 = .ok (.iconst 0, 1) := by decide +kernel
theorem d_X10_drying_2 : decode cX10_drying 2 = .ok (.putfield 82, 3) := by decide +kernel
theorem d_X10_drying_5 : decode cX10_drying 5 = .ok (.aload_n 0, 1) := by decide +kernel
theorem d_X10_drying_6 : decode cX10_drying 6 = .ok (.aload_n 0, 1) := by decide +kernel
theorem d_X10_drying_7 : decode cX10_drying 7 = .ok (.iload_n 1, 1) := by decide +kernel
theorem d_X10_drying_8 : decode cX10_drying 8 = .ok (.iload_n 2, 1) := by decide +kernel
theorem d_X10_drying_9 : decode cX10_drying 9 = .ok (.invokevirtual 237, 3) := by decide +kernel
theorem d_X10_drying_12 : decode cX10_drying 12 = .ok (.ifCond .ne 7, 3) := by decide +kernel
theorem d_X10_drying_15 : decode cX10_drying 15 = .ok (.iconst 1, 1) := by decide +kernel
theorem d_X10_drying_16 : decode cX10_drying 16 = .ok (.goto 4, 3) := by decide +kernel
theorem d_X10_drying_19 : decode cX10_drying 19 = .ok (.iconst 0, 1) := by decide +kernel
theorem d_X10_drying_20 : decode cX10_drying 20 = .ok (.iconst 1, 1) := by decide +kernel
theorem d_X10_drying_21 : decode cX10_drying 21 = .ok (.iconst 0, 1) := by decide +kernel
theorem d_X10_drying_22 : decode cX10_drying 22 = .ok (.invokevirtual 155, 3) := by decide +kernel
theorem d_X10_drying_25 : decode cX10_drying 25 = .ok (.ifCond .eq 5, 3) := by decide +kernel
theorem d_X10_drying_28 : decode cX10_drying 28 = .ok (.iconst 0, 1) := by decide +kernel
theorem d_X10_drying_29 : decode cX10_drying 29 = .ok (.ireturn, 1) := by decide +kernel
theorem d_X10_drying_30 : decode cX10_drying 30 = .ok (.aload_n 0, 1) := by decide +kernel
theorem d_X10_drying_31 : decode cX10_drying 31 = .ok (.bipush 8, 2) := by decide +kernel
theorem d_X10_drying_33 : decode cX10_drying 33 = .ok (.iload_n 2, 1) := by decide +kernel
theorem d_X10_drying_34 : decode cX10_drying 34 = .ok (.imul, 1) := by decide +kernel
theorem d_X10_drying_35 : decode cX10_drying 35 = .ok (.iload_n 1, 1) := by decide +kernel
theorem d_X10_drying_36 : decode cX10_drying 36 = .ok (.iadd, 1) := by decide +kernel
theorem d_X10_drying_37 : decode cX10_drying 37 = .ok (.invokevirtual 342, 3) := by decide +kernel
theorem d_X10_drying_40 : decode cX10_drying 40 = .ok (.ireturn, 1) := by decide +kernel
def F_X10_drying_20 (p0 : Int32) (p1 : Int32) (b20_L1 : Int32) (b20_L2 : Int32) (b20_S1 : Int32) (M : zMem) : Option (Int32 × zMem) :=
  zb (F_X10_bad M b20_S1 (1 : Int32) (0 : Int32)) fun v2 M1 =>
  if v2 = 0 then
    zb (F_X10_dryingOf M1 (((8 : Int32) * b20_L2) + b20_L1)) fun v4 M3 =>
    some (v4, M3)
  else
    some ((0 : Int32), M1)
def F_X10_drying (M : zMem) (p0 : Int32) (p1 : Int32) : Option (Int32 × zMem) :=
  zl (zI M 0 0 (0 : Int32)) fun M5 =>
  zb (F_X10_isWithin M5 p0 p1) fun v7 M6 =>
  if v7 = 0 then
    F_X10_drying_20 p0 p1 p0 p1 (1 : Int32) M6
  else
    F_X10_drying_20 p0 p1 p0 p1 (0 : Int32) M6
def rm_X10_drying : Room := { frames := 9, cells := 0, slots := 0, locals := 240 }
set_option maxHeartbeats 4000000 in
set_option maxRecDepth 100000 in
theorem c_X10_drying (l : Launch) {G : zG} {ad : Nat → Nat} {n : Nat} (hA : zInj ad n) (M : zMem) (p0 : Int32) (p1 : Int32) (hT : zT shM n 0 11) {r9 : Int32} {M9 : zMem} (hF : F_X10_drying M p0 p1 = some (r9, M9)) : zM l yX10_drying cX10_drying 3 (some .int) rm_X10_drying G shM ad n M [.ref (ad 0), .int p0, .int p1] (some (.int r9)) M9 := by
  refine zM_of hA (by decide +kernel) (lv := [(0, .ref (ad 0)), (1, .int p0), (2, .int p1)]) (Nat.le_of_ble_eq_true rfl) rfl (fun p e s m args below meth c A cx hr => ?_)
  have hb20 : ∀ (b20_L1 : Int32) (b20_L2 : Int32) (b20_S1 : Int32) (M : zMem), F_X10_drying_20 p0 p1 b20_L1 b20_L2 b20_S1 M = some (r9, M9) → zJ p l e rm_X10_drying s m args below meth c G shM ad n A 3 (MQ below (zQ G shM ad n M9 (some (.int r9)) A) args s 0 0 A) 0 0 M 20 [(0, .ref (ad 0)), (1, .int b20_L1), (2, .int b20_L2)] [.int b20_S1, .ref (ad 0)] := by
    intro b20_L1 b20_L2 b20_S1 M hF
    unfold F_X10_drying_20 at hF
    refine z_iconst (v := 1) cx d_X10_drying_20 ki_1 ?_
    refine z_iconst (v := 0) cx d_X10_drying_21 ki_0 ?_
    obtain ⟨v2, M1, hc, hF⟩ := zb_inv hF
    refine z_callV cx (As := [.int b20_S1, .int (1 : Int32), .int (0 : Int32)]) (rest := []) (c_X10_bad l cx.2.2.2.1.1 M b20_S1 (1 : Int32) (0 : Int32) hT hc) hT zo_11 cv_SunnyPansModel_155 ⟨rfl, rfl, Nat.le_of_ble_eq_true rfl, Nat.le_of_ble_eq_true rfl⟩ rfl rfl ⟨Nat.zero_le _, Nat.zero_le _⟩ (Nat.le_of_ble_eq_true rfl) d_X10_drying_22 ?_
    refine z_if_eq cx 30 d_X10_drying_25 (by decide) hF (fun hF => ?_) (fun hF => ?_)
    · refine z_aload_n cx d_X10_drying_30 0 rfl ?_
      refine z_bipush (v := 8) cx d_X10_drying_31 kb_8 ?_
      refine z_iload_n cx d_X10_drying_33 2 rfl ?_
      refine z_imul cx d_X10_drying_34 ?_
      refine z_iload_n cx d_X10_drying_35 1 rfl ?_
      refine z_iadd cx d_X10_drying_36 ?_
      obtain ⟨v4, M3, hc, hF⟩ := zb_inv hF
      refine z_callV cx (As := [.int (((8 : Int32) * b20_L2) + b20_L1)]) (rest := []) (c_X10_dryingOf l cx.2.2.2.1.1 M1 (((8 : Int32) * b20_L2) + b20_L1) hT hc) hT zo_11 cv_SunnyPansModel_342 ⟨rfl, rfl, Nat.le_of_ble_eq_true rfl, Nat.le_of_ble_eq_true rfl⟩ rfl rfl ⟨Nat.zero_le _, Nat.zero_le _⟩ (Nat.le_of_ble_eq_true rfl) d_X10_drying_37 ?_
      exact z_iret cx hr rfl hF d_X10_drying_40
    refine z_iconst (v := 0) cx d_X10_drying_28 ki_0 ?_
    exact z_iret cx hr rfl hF d_X10_drying_29
  unfold F_X10_drying at hF
  refine z_aload_n cx d_X10_drying_0 0 rfl ?_
  refine z_iconst (v := 0) cx d_X10_drying_1 ki_0 ?_
  refine z_putI cx hT fp_SunnyPansModel_82 d_X10_drying_2 ?_
  refine z_nmM hF (fun M5 hF => ?_)
  refine z_aload_n cx d_X10_drying_5 0 rfl ?_
  refine z_aload_n cx d_X10_drying_6 0 rfl ?_
  refine z_iload_n cx d_X10_drying_7 1 rfl ?_
  refine z_iload_n cx d_X10_drying_8 2 rfl ?_
  obtain ⟨v7, M6, hc, hF⟩ := zb_inv hF
  refine z_callV cx (As := [.int p0, .int p1]) (rest := [.ref (ad 0)]) (c_X10_isWithin l cx.2.2.2.1.1 M5 p0 p1 hT hc) hT zo_11 cv_SunnyPansModel_237 ⟨rfl, rfl, Nat.le_of_ble_eq_true rfl, Nat.le_of_ble_eq_true rfl⟩ rfl rfl ⟨Nat.zero_le _, Nat.zero_le _⟩ (Nat.le_of_ble_eq_true rfl) d_X10_drying_9 ?_
  refine z_if_ne cx 19 d_X10_drying_12 (by decide) hF (fun hF => ?_) (fun hF => ?_)
  · refine z_iconst (v := 0) cx d_X10_drying_19 ki_0 ?_
    exact hb20 p0 p1 (0 : Int32) M6 hF
  refine z_iconst (v := 1) cx d_X10_drying_15 ki_1 ?_
  refine z_goto cx 20 d_X10_drying_16 (by decide) ?_
  exact hb20 p0 p1 (1 : Int32) M6 hF
/-! SunnyPansModel.asTold -/
theorem d_X10_asTold_0 : decode cX10_asTold 0 = .ok (.iload_n 0, 1) := by decide +kernel
theorem d_X10_asTold_1 : decode cX10_asTold 1 = .ok (.iconst (-1), 1) := by decide +kernel
theorem d_X10_asTold_2 : decode cX10_asTold 2 = .ok (.if_icmp .ne 7, 3) := by decide +kernel
theorem d_X10_asTold_5 : decode cX10_asTold 5 = .ok (.iconst (-1), 1) := by decide +kernel
theorem d_X10_asTold_6 : decode cX10_asTold 6 = .ok (.goto 15, 3) := by decide +kernel
theorem d_X10_asTold_9 : decode cX10_asTold 9 = .ok (.bipush 10, 2) := by decide +kernel
theorem d_X10_asTold_11 : decode cX10_asTold 11 = .ok (.iload_n 0, 1) := by decide +kernel
theorem d_X10_asTold_12 : decode cX10_asTold 12 = .ok (.bipush 8, 2) := by decide +kernel
theorem d_X10_asTold_14 : decode cX10_asTold 14 = .ok (.idiv, 1) := by decide +kernel
theorem d_X10_asTold_15 : decode cX10_asTold 15 = .ok (.imul, 1) := by decide +kernel
theorem d_X10_asTold_16 : decode cX10_asTold 16 = .ok (.iload_n 0, 1) := by decide +kernel
theorem d_X10_asTold_17 : decode cX10_asTold 17 = .ok (.bipush 8, 2) := by decide +kernel
theorem d_X10_asTold_19 : decode cX10_asTold 19 = .ok (.irem, 1) := by decide +kernel
theorem d_X10_asTold_20 : decode cX10_asTold 20 = .ok (.iadd, 1) := by decide +kernel
theorem d_X10_asTold_21 : decode cX10_asTold 21 = .ok (.ireturn, 1) := by decide +kernel
def F_X10_asTold (M : zMem) (p0 : Int32) : Option (Int32 × zMem) :=
  if p0 = (-1 : Int32) then
    some ((-1 : Int32), M)
  else
    some ((((10 : Int32) * (p0 / (8 : Int32))) + (p0 - p0 / (8 : Int32) * (8 : Int32))), M)
def rm_X10_asTold : Room := { frames := 2, cells := 0, slots := 0, locals := 80 }
set_option maxHeartbeats 4000000 in
set_option maxRecDepth 100000 in
theorem c_X10_asTold (l : Launch) {G : zG} {ad : Nat → Nat} {n : Nat} (hA : zInj ad n) (M : zMem) (p0 : Int32) {r9 : Int32} {M9 : zMem} (hF : F_X10_asTold M p0 = some (r9, M9)) : zM l yX10_asTold cX10_asTold 1 (some .int) rm_X10_asTold G shM ad n M [.int p0] (some (.int r9)) M9 := by
  refine zM_of hA (by decide +kernel) (lv := [(0, .int p0)]) (Nat.le_of_ble_eq_true rfl) rfl (fun p e s m args below meth c A cx hr => ?_)
  unfold F_X10_asTold at hF
  refine z_iload_n cx d_X10_asTold_0 0 rfl ?_
  refine z_iconst (v := -1) cx d_X10_asTold_1 ki_m1 ?_
  refine z_icmp_ne cx 9 d_X10_asTold_2 (by decide) hF (fun hF => ?_) (fun hF => ?_)
  · refine z_bipush (v := 10) cx d_X10_asTold_9 kb_10 ?_
    refine z_iload_n cx d_X10_asTold_11 0 rfl ?_
    refine z_bipush (v := 8) cx d_X10_asTold_12 kb_8 ?_
    refine z_idiv cx d_X10_asTold_14 (by decide) ?_
    refine z_imul cx d_X10_asTold_15 ?_
    refine z_iload_n cx d_X10_asTold_16 0 rfl ?_
    refine z_bipush (v := 8) cx d_X10_asTold_17 kb_8 ?_
    refine z_irem cx d_X10_asTold_19 (by decide) ?_
    refine z_iadd cx d_X10_asTold_20 ?_
    exact z_iret cx hr rfl hF d_X10_asTold_21
  refine z_iconst (v := -1) cx d_X10_asTold_5 ki_m1 ?_
  refine z_goto cx 21 d_X10_asTold_6 (by decide) ?_
  exact z_iret cx hr rfl hF d_X10_asTold_21
/-! SunnyPansModel.first -/
theorem d_X10_first_0 : decode cX10_first 0 = .ok (.aload_n 0, 1) := by decide +kernel
theorem d_X10_first_1 : decode cX10_first 1 = .ok (.iconst 0, 1) := by decide +kernel
theorem d_X10_first_2 : decode cX10_first 2 = .ok (.putfield 82, 3) := by decide +kernel
theorem d_X10_first_5 : decode cX10_first 5 = .ok (.aload_n 0, 1) := by decide +kernel
theorem d_X10_first_6 : decode cX10_first 6 = .ok (.iload_n 1, 1) := by decide +kernel
theorem d_X10_first_7 : decode cX10_first 7 = .ok (.iconst 0, 1) := by decide +kernel
theorem d_X10_first_8 : decode cX10_first 8 = .ok (.iconst 1, 1) := by decide +kernel
theorem d_X10_first_9 : decode cX10_first 9 = .ok (.invokestatic 116, 3) := by decide +kernel
theorem d_X10_first_12 : decode cX10_first 12 = .ok (.ifCond .ne 7, 3) := by decide +kernel
theorem d_X10_first_15 : decode cX10_first 15 = .ok (.iconst 1, 1) := by decide +kernel
theorem d_X10_first_16 : decode cX10_first 16 = .ok (.goto 4, 3) := by decide +kernel
theorem d_X10_first_19 : decode cX10_first 19 = .ok (.iconst 0, 1) := by decide +kernel
theorem d_X10_first_20 : decode cX10_first 20 = .ok (.iconst 1, 1) := by decide +kernel
theorem d_X10_first_21 : decode cX10_first 21 = .ok (.iconst 1, 1) := by decide +kernel
theorem d_X10_first_22 : decode cX10_first 22 = .ok (.invokevirtual 155, 3) := by decide +kernel
theorem d_X10_first_25 : decode cX10_first 25 = .ok (.ifCond .eq 5, 3) := by decide +kernel
theorem d_X10_first_28 : decode cX10_first 28 = .ok (.iconst 0, 1) := by decide +kernel
theorem d_X10_first_29 : decode cX10_first 29 = .ok (.ireturn, 1) := by decide +kernel
theorem d_X10_first_30 : decode cX10_first 30 = .ok (.iconst (-1), 1) := by decide +kernel
theorem d_X10_first_31 : decode cX10_first 31 = .ok (.istore_n 2, 1) := by decide +kernel
theorem d_X10_first_32 : decode cX10_first 32 = .ok (.iconst (-1), 1) := by decide +kernel
theorem d_X10_first_33 : decode cX10_first 33 = .ok (.istore_n 3, 1) := by decide +kernel
theorem d_X10_first_34 : decode cX10_first 34 = .ok (.iconst 0, 1) := by decide +kernel
theorem d_X10_first_35 : decode cX10_first 35 = .ok (.istore 4, 2) := by decide +kernel
theorem d_X10_first_37 : decode cX10_first 37 = .ok (.iload 4, 2) := by decide +kernel
theorem d_X10_first_39 : decode cX10_first 39 = .ok (.bipush 64, 2) := by decide +kernel
theorem d_X10_first_41 : decode cX10_first 41 = .ok (.if_icmp .ge 59, 3) := by decide +kernel
theorem d_X10_first_44 : decode cX10_first 44 = .ok (.aload_n 0, 1) := by decide +kernel
theorem d_X10_first_45 : decode cX10_first 45 = .ok (.getfield 58, 3) := by decide +kernel
theorem d_X10_first_48 : decode cX10_first 48 = .ok (.iconst 0, 1) := by decide +kernel
theorem d_X10_first_49 : decode cX10_first 49 = .ok (.iload 4, 2) := by decide +kernel
theorem d_X10_first_51 : decode cX10_first 51 = .ok (.iadd, 1) := by decide +kernel
theorem d_X10_first_52 : decode cX10_first 52 = .ok (.iaload, 1) := by decide +kernel
theorem d_X10_first_53 : decode cX10_first 53 = .ok (.ifCond .ne 7, 3) := by decide +kernel
theorem d_X10_first_56 : decode cX10_first 56 = .ok (.iconst (-1), 1) := by decide +kernel
theorem d_X10_first_57 : decode cX10_first 57 = .ok (.goto 9, 3) := by decide +kernel
theorem d_X10_first_60 : decode cX10_first 60 = .ok (.aload_n 0, 1) := by decide +kernel
theorem d_X10_first_61 : decode cX10_first 61 = .ok (.iload 4, 2) := by decide +kernel
theorem d_X10_first_63 : decode cX10_first 63 = .ok (.invokevirtual 342, 3) := by decide +kernel
theorem d_X10_first_66 : decode cX10_first 66 = .ok (.istore 5, 2) := by decide +kernel
theorem d_X10_first_68 : decode cX10_first 68 = .ok (.iload 5, 2) := by decide +kernel
theorem d_X10_first_70 : decode cX10_first 70 = .ok (.iconst (-1), 1) := by decide +kernel
theorem d_X10_first_71 : decode cX10_first 71 = .ok (.if_icmp .eq 23, 3) := by decide +kernel
theorem d_X10_first_74 : decode cX10_first 74 = .ok (.iload_n 2, 1) := by decide +kernel
theorem d_X10_first_75 : decode cX10_first 75 = .ok (.iconst (-1), 1) := by decide +kernel
theorem d_X10_first_76 : decode cX10_first 76 = .ok (.if_icmp .eq 12, 3) := by decide +kernel
theorem d_X10_first_79 : decode cX10_first 79 = .ok (.iload 5, 2) := by decide +kernel
theorem d_X10_first_81 : decode cX10_first 81 = .ok (.iload_n 3, 1) := by decide +kernel
theorem d_X10_first_82 : decode cX10_first 82 = .ok (.if_icmp .lt 6, 3) := by decide +kernel
theorem d_X10_first_85 : decode cX10_first 85 = .ok (.goto 9, 3) := by decide +kernel
theorem d_X10_first_88 : decode cX10_first 88 = .ok (.iload 4, 2) := by decide +kernel
theorem d_X10_first_90 : decode cX10_first 90 = .ok (.istore_n 2, 1) := by decide +kernel
theorem d_X10_first_91 : decode cX10_first 91 = .ok (.iload 5, 2) := by decide +kernel
theorem d_X10_first_93 : decode cX10_first 93 = .ok (.istore_n 3, 1) := by decide +kernel
theorem d_X10_first_94 : decode cX10_first 94 = .ok (.iinc 4 1, 3) := by decide +kernel
theorem d_X10_first_97 : decode cX10_first 97 = .ok (.goto (-60), 3) := by decide +kernel
theorem d_X10_first_100 : decode cX10_first 100 = .ok (.iload_n 1, 1) := by decide +kernel
theorem d_X10_first_101 : decode cX10_first 101 = .ok (.ifCond .ne 10, 3) := by decide +kernel
theorem d_X10_first_104 : decode cX10_first 104 = .ok (.iload_n 2, 1) := by decide +kernel
theorem d_X10_first_105 : decode cX10_first 105 = .ok (.invokestatic 345, 3) := by decide +kernel
theorem d_X10_first_108 : decode cX10_first 108 = .ok (.goto 4, 3) := by decide +kernel
theorem d_X10_first_111 : decode cX10_first 111 = .ok (.iload_n 3, 1) := by decide +kernel
theorem d_X10_first_112 : decode cX10_first 112 = .ok (.ireturn, 1) := by decide +kernel
def F_X10_first_94 (p0 : Int32) (self37 : Int32 → Int32 → Int32 → Int32 → zMem → Option (Int32 × zMem)) (b94_L1 : Int32) (b94_L2 : Int32) (b94_L3 : Int32) (b94_L4 : Int32) (M : zMem) : Option (Int32 × zMem) :=
  self37 b94_L1 b94_L2 b94_L3 (b94_L4 + 1) M
def F_X10_first_88 (p0 : Int32) (self37 : Int32 → Int32 → Int32 → Int32 → zMem → Option (Int32 × zMem)) (b88_L1 : Int32) (b88_L4 : Int32) (b88_L5 : Int32) (M : zMem) : Option (Int32 × zMem) :=
  F_X10_first_94 p0 self37 b88_L1 b88_L4 b88_L5 b88_L4 M
def F_X10_first_66 (p0 : Int32) (self37 : Int32 → Int32 → Int32 → Int32 → zMem → Option (Int32 × zMem)) (b66_L1 : Int32) (b66_L2 : Int32) (b66_L3 : Int32) (b66_L4 : Int32) (b66_S0 : Int32) (M : zMem) : Option (Int32 × zMem) :=
  if b66_S0 = (-1 : Int32) then
    F_X10_first_94 p0 self37 b66_L1 b66_L2 b66_L3 b66_L4 M
  else
    if b66_L2 = (-1 : Int32) then
      F_X10_first_88 p0 self37 b66_L1 b66_L4 b66_S0 M
    else
      if b66_S0 < b66_L3 then
        F_X10_first_88 p0 self37 b66_L1 b66_L4 b66_S0 M
      else
        F_X10_first_94 p0 self37 b66_L1 b66_L2 b66_L3 b66_L4 M
def F_X10_first_37 (p0 : Int32) (self37 : Int32 → Int32 → Int32 → Int32 → zMem → Option (Int32 × zMem)) (b37_L1 : Int32) (b37_L2 : Int32) (b37_L3 : Int32) (b37_L4 : Int32) (M : zMem) : Option (Int32 × zMem) :=
  if (64 : Int32) ≤ b37_L4 then
    if b37_L1 = 0 then
      zb (F_X10_asTold M b37_L2) fun v2 M1 =>
      some (v2, M1)
    else
      some (b37_L3, M)
  else
    gin ((0 : Int32) + b37_L4) 195 <|
    if (M.1 451 ((0 : Int32) + b37_L4).toNatClampNeg) = 0 then
      F_X10_first_66 p0 self37 b37_L1 b37_L2 b37_L3 b37_L4 (-1 : Int32) M
    else
      zb (F_X10_dryingOf M b37_L4) fun v5 M4 =>
      F_X10_first_66 p0 self37 b37_L1 b37_L2 b37_L3 b37_L4 v5 M4
def F_X10_first_20 (p0 : Int32) (b20_L1 : Int32) (b20_S1 : Int32) (M : zMem) : Option (Int32 × zMem) :=
  zb (F_X10_bad M b20_S1 (1 : Int32) (1 : Int32)) fun v7 M6 =>
  if v7 = 0 then
    itF (fun _ _ _ _ _ => none) (F_X10_first_37 p0) zFuel b20_L1 (-1 : Int32) (-1 : Int32) (0 : Int32) M6
  else
    some ((0 : Int32), M6)
def F_X10_first (M : zMem) (p0 : Int32) : Option (Int32 × zMem) :=
  zl (zI M 0 0 (0 : Int32)) fun M8 =>
  zb (F_X10_in M8 p0 (0 : Int32) (1 : Int32)) fun v10 M9 =>
  if v10 = 0 then
    F_X10_first_20 p0 p0 (1 : Int32) M9
  else
    F_X10_first_20 p0 p0 (0 : Int32) M9
def rm_X10_first : Room := { frames := 9, cells := 0, slots := 0, locals := 240 }
set_option maxHeartbeats 4000000 in
set_option maxRecDepth 100000 in
theorem c_X10_first (l : Launch) {G : zG} {ad : Nat → Nat} {n : Nat} (hA : zInj ad n) (M : zMem) (p0 : Int32) (hT : zT shM n 0 11) {r9 : Int32} {M9 : zMem} (hF : F_X10_first M p0 = some (r9, M9)) : zM l yX10_first cX10_first 6 (some .int) rm_X10_first G shM ad n M [.ref (ad 0), .int p0] (some (.int r9)) M9 := by
  refine zM_of hA (by decide +kernel) (lv := [(0, .ref (ad 0)), (1, .int p0)]) (Nat.le_of_ble_eq_true rfl) rfl (fun p e s m args below meth c A cx hr => ?_)
  have hb94 : ∀ (self37 : Int32 → Int32 → Int32 → Int32 → zMem → Option (Int32 × zMem)) (hs37 : ∀ (b37_L1 : Int32) (b37_L2 : Int32) (b37_L3 : Int32) (b37_L4 : Int32) (M : zMem), self37 b37_L1 b37_L2 b37_L3 b37_L4 M = some (r9, M9) → zJ p l e rm_X10_first s m args below meth c G shM ad n A 6 (MQ below (zQ G shM ad n M9 (some (.int r9)) A) args s 0 0 A) 0 0 M 37 [(0, .ref (ad 0)), (1, .int b37_L1), (2, .int b37_L2), (3, .int b37_L3), (4, .int b37_L4)] []), ∀ (b94_L1 : Int32) (b94_L2 : Int32) (b94_L3 : Int32) (b94_L4 : Int32) (M : zMem), F_X10_first_94 p0 self37 b94_L1 b94_L2 b94_L3 b94_L4 M = some (r9, M9) → zJ p l e rm_X10_first s m args below meth c G shM ad n A 6 (MQ below (zQ G shM ad n M9 (some (.int r9)) A) args s 0 0 A) 0 0 M 94 [(0, .ref (ad 0)), (1, .int b94_L1), (2, .int b94_L2), (3, .int b94_L3), (4, .int b94_L4)] [] := by
    intro self37 hs37 b94_L1 b94_L2 b94_L3 b94_L4 M hF
    unfold F_X10_first_94 at hF
    refine z_iinc cx 4 1 [(4, .int (b94_L4 + 1)), (0, .ref (ad 0)), (1, .int b94_L1), (2, .int b94_L2), (3, .int b94_L3)] d_X10_first_94 4 rfl ki_1 (by decide) rfl ?_
    refine z_goto cx 37 d_X10_first_97 (by decide) ?_
    exact z_lv [1, 2, 3, 4, 0] _ rfl (hs37 b94_L1 b94_L2 b94_L3 (b94_L4 + 1) M hF)
  have hb88 : ∀ (self37 : Int32 → Int32 → Int32 → Int32 → zMem → Option (Int32 × zMem)) (hs37 : ∀ (b37_L1 : Int32) (b37_L2 : Int32) (b37_L3 : Int32) (b37_L4 : Int32) (M : zMem), self37 b37_L1 b37_L2 b37_L3 b37_L4 M = some (r9, M9) → zJ p l e rm_X10_first s m args below meth c G shM ad n A 6 (MQ below (zQ G shM ad n M9 (some (.int r9)) A) args s 0 0 A) 0 0 M 37 [(0, .ref (ad 0)), (1, .int b37_L1), (2, .int b37_L2), (3, .int b37_L3), (4, .int b37_L4)] []), ∀ (b88_L1 : Int32) (b88_L4 : Int32) (b88_L5 : Int32) (M : zMem), F_X10_first_88 p0 self37 b88_L1 b88_L4 b88_L5 M = some (r9, M9) → zJ p l e rm_X10_first s m args below meth c G shM ad n A 6 (MQ below (zQ G shM ad n M9 (some (.int r9)) A) args s 0 0 A) 0 0 M 88 [(0, .ref (ad 0)), (1, .int b88_L1), (4, .int b88_L4), (5, .int b88_L5)] [] := by
    intro self37 hs37 b88_L1 b88_L4 b88_L5 M hF
    unfold F_X10_first_88 at hF
    refine z_iload cx d_X10_first_88 2 rfl ?_
    refine z_istore_n cx 2 [(2, .int b88_L4), (0, .ref (ad 0)), (1, .int b88_L1), (4, .int b88_L4), (5, .int b88_L5)] d_X10_first_90 rfl (by decide) rfl ?_
    refine z_iload cx d_X10_first_91 4 rfl ?_
    refine z_istore_n cx 3 [(3, .int b88_L5), (2, .int b88_L4), (0, .ref (ad 0)), (1, .int b88_L1), (4, .int b88_L4), (5, .int b88_L5)] d_X10_first_93 rfl (by decide) rfl ?_
    exact z_lv [2, 3, 1, 0, 4] _ rfl (hb94 self37 hs37 b88_L1 b88_L4 b88_L5 b88_L4 M hF)
  have hb66 : ∀ (self37 : Int32 → Int32 → Int32 → Int32 → zMem → Option (Int32 × zMem)) (hs37 : ∀ (b37_L1 : Int32) (b37_L2 : Int32) (b37_L3 : Int32) (b37_L4 : Int32) (M : zMem), self37 b37_L1 b37_L2 b37_L3 b37_L4 M = some (r9, M9) → zJ p l e rm_X10_first s m args below meth c G shM ad n A 6 (MQ below (zQ G shM ad n M9 (some (.int r9)) A) args s 0 0 A) 0 0 M 37 [(0, .ref (ad 0)), (1, .int b37_L1), (2, .int b37_L2), (3, .int b37_L3), (4, .int b37_L4)] []), ∀ (b66_L1 : Int32) (b66_L2 : Int32) (b66_L3 : Int32) (b66_L4 : Int32) (b66_S0 : Int32) (M : zMem), F_X10_first_66 p0 self37 b66_L1 b66_L2 b66_L3 b66_L4 b66_S0 M = some (r9, M9) → zJ p l e rm_X10_first s m args below meth c G shM ad n A 6 (MQ below (zQ G shM ad n M9 (some (.int r9)) A) args s 0 0 A) 0 0 M 66 [(0, .ref (ad 0)), (1, .int b66_L1), (2, .int b66_L2), (3, .int b66_L3), (4, .int b66_L4)] [.int b66_S0] := by
    intro self37 hs37 b66_L1 b66_L2 b66_L3 b66_L4 b66_S0 M hF
    unfold F_X10_first_66 at hF
    refine z_istore cx 5 [(5, .int b66_S0), (0, .ref (ad 0)), (1, .int b66_L1), (2, .int b66_L2), (3, .int b66_L3), (4, .int b66_L4)] d_X10_first_66 (by decide) rfl ?_
    refine z_iload cx d_X10_first_68 0 rfl ?_
    refine z_iconst (v := -1) cx d_X10_first_70 ki_m1 ?_
    refine z_icmp_eq cx 94 d_X10_first_71 (by decide) hF (fun hF => ?_) (fun hF => ?_)
    · exact z_lv [1, 2, 3, 4, 5] _ rfl (hb94 self37 hs37 b66_L1 b66_L2 b66_L3 b66_L4 M hF)
    refine z_iload_n cx d_X10_first_74 3 rfl ?_
    refine z_iconst (v := -1) cx d_X10_first_75 ki_m1 ?_
    refine z_icmp_eq cx 88 d_X10_first_76 (by decide) hF (fun hF => ?_) (fun hF => ?_)
    · exact z_lv [1, 2, 5, 0] _ rfl (hb88 self37 hs37 b66_L1 b66_L4 b66_S0 M hF)
    refine z_iload cx d_X10_first_79 0 rfl ?_
    refine z_iload_n cx d_X10_first_81 4 rfl ?_
    refine z_icmp_lt cx 88 d_X10_first_82 (by decide) hF (fun hF => ?_) (fun hF => ?_)
    · exact z_lv [1, 2, 5, 0] _ rfl (hb88 self37 hs37 b66_L1 b66_L4 b66_S0 M hF)
    refine z_goto cx 94 d_X10_first_85 (by decide) ?_
    exact z_lv [1, 2, 3, 4, 5] _ rfl (hb94 self37 hs37 b66_L1 b66_L2 b66_L3 b66_L4 M hF)
  have hL37 : ∀ (fuel : Nat), ∀ (b37_L1 : Int32) (b37_L2 : Int32) (b37_L3 : Int32) (b37_L4 : Int32) (M : zMem), itF (fun _ _ _ _ _ => none) (F_X10_first_37 p0) fuel b37_L1 b37_L2 b37_L3 b37_L4 M = some (r9, M9) → zJ p l e rm_X10_first s m args below meth c G shM ad n A 6 (MQ below (zQ G shM ad n M9 (some (.int r9)) A) args s 0 0 A) 0 0 M 37 [(0, .ref (ad 0)), (1, .int b37_L1), (2, .int b37_L2), (3, .int b37_L3), (4, .int b37_L4)] [] := by
    intro fuel
    induction fuel with
    | zero => intro b37_L1 b37_L2 b37_L3 b37_L4 M hF; cases hF
    | succ fuel hs37 =>
      intro b37_L1 b37_L2 b37_L3 b37_L4 M hF
      have hF : F_X10_first_37 p0 (itF (fun _ _ _ _ _ => none) (F_X10_first_37 p0) fuel) b37_L1 b37_L2 b37_L3 b37_L4 M = some (r9, M9) := hF
      generalize itF (fun _ _ _ _ _ => none) (F_X10_first_37 p0) fuel = self37 at hs37 hF
      unfold F_X10_first_37 at hF
      refine z_iload cx d_X10_first_37 4 rfl ?_
      refine z_bipush (v := 64) cx d_X10_first_39 kb_64 ?_
      refine z_icmp_ge cx 100 d_X10_first_41 (by decide) hF (fun hF => ?_) (fun hF => ?_)
      · refine z_iload_n cx d_X10_first_100 1 rfl ?_
        refine z_if_ne cx 111 d_X10_first_101 (by decide) hF (fun hF => ?_) (fun hF => ?_)
        · refine z_iload_n cx d_X10_first_111 3 rfl ?_
          exact z_iret cx hr rfl hF d_X10_first_112
        refine z_iload_n cx d_X10_first_104 2 rfl ?_
        obtain ⟨v2, M1, hc, hF⟩ := zb_inv hF
        refine z_callS cx (As := [.int b37_L2]) (rest := []) (c_X10_asTold l cx.2.2.2.1.1 M b37_L2  hc) cs_SunnyPansModel_345 ⟨rfl, rfl, Nat.le_of_ble_eq_true rfl, Nat.le_of_ble_eq_true rfl⟩ rfl rfl ⟨Nat.zero_le _, Nat.zero_le _⟩ (Nat.le_of_ble_eq_true rfl) d_X10_first_105 ?_
        refine z_goto cx 112 d_X10_first_108 (by decide) ?_
        exact z_iret cx hr rfl hF d_X10_first_112
      refine z_aload_n cx d_X10_first_44 0 rfl ?_
      refine z_getR cx hT fg_SunnyPansModel_58 451 rfl d_X10_first_45 ?_
      refine z_iconst (v := 0) cx d_X10_first_48 ki_0 ?_
      refine z_iload cx d_X10_first_49 4 rfl ?_
      refine z_iadd cx d_X10_first_51 ?_
      obtain ⟨hi3, hF⟩ := gin_inv hF
      refine z_iald cx (tfM_11_451 hT) za_36 hi3 (((0 : Int32) + b37_L4).toNatClampNeg) rfl d_X10_first_52 ?_
      refine z_if_ne cx 60 d_X10_first_53 (by decide) hF (fun hF => ?_) (fun hF => ?_)
      · refine z_aload_n cx d_X10_first_60 0 rfl ?_
        refine z_iload cx d_X10_first_61 4 rfl ?_
        obtain ⟨v5, M4, hc, hF⟩ := zb_inv hF
        refine z_callV cx (As := [.int b37_L4]) (rest := []) (c_X10_dryingOf l cx.2.2.2.1.1 M b37_L4 hT hc) hT zo_11 cv_SunnyPansModel_342 ⟨rfl, rfl, Nat.le_of_ble_eq_true rfl, Nat.le_of_ble_eq_true rfl⟩ rfl rfl ⟨Nat.zero_le _, Nat.zero_le _⟩ (Nat.le_of_ble_eq_true rfl) d_X10_first_63 ?_
        exact hb66 self37 hs37 b37_L1 b37_L2 b37_L3 b37_L4 v5 M4 hF
      refine z_iconst (v := -1) cx d_X10_first_56 ki_m1 ?_
      refine z_goto cx 66 d_X10_first_57 (by decide) ?_
      exact hb66 self37 hs37 b37_L1 b37_L2 b37_L3 b37_L4 (-1 : Int32) M hF
  have hb20 : ∀ (b20_L1 : Int32) (b20_S1 : Int32) (M : zMem), F_X10_first_20 p0 b20_L1 b20_S1 M = some (r9, M9) → zJ p l e rm_X10_first s m args below meth c G shM ad n A 6 (MQ below (zQ G shM ad n M9 (some (.int r9)) A) args s 0 0 A) 0 0 M 20 [(0, .ref (ad 0)), (1, .int b20_L1)] [.int b20_S1, .ref (ad 0)] := by
    intro b20_L1 b20_S1 M hF
    unfold F_X10_first_20 at hF
    refine z_iconst (v := 1) cx d_X10_first_20 ki_1 ?_
    refine z_iconst (v := 1) cx d_X10_first_21 ki_1 ?_
    obtain ⟨v7, M6, hc, hF⟩ := zb_inv hF
    refine z_callV cx (As := [.int b20_S1, .int (1 : Int32), .int (1 : Int32)]) (rest := []) (c_X10_bad l cx.2.2.2.1.1 M b20_S1 (1 : Int32) (1 : Int32) hT hc) hT zo_11 cv_SunnyPansModel_155 ⟨rfl, rfl, Nat.le_of_ble_eq_true rfl, Nat.le_of_ble_eq_true rfl⟩ rfl rfl ⟨Nat.zero_le _, Nat.zero_le _⟩ (Nat.le_of_ble_eq_true rfl) d_X10_first_22 ?_
    refine z_if_eq cx 30 d_X10_first_25 (by decide) hF (fun hF => ?_) (fun hF => ?_)
    · refine z_iconst (v := -1) cx d_X10_first_30 ki_m1 ?_
      refine z_istore_n cx 2 [(2, .int (-1 : Int32)), (0, .ref (ad 0)), (1, .int b20_L1)] d_X10_first_31 rfl (by decide) rfl ?_
      refine z_iconst (v := -1) cx d_X10_first_32 ki_m1 ?_
      refine z_istore_n cx 3 [(3, .int (-1 : Int32)), (2, .int (-1 : Int32)), (0, .ref (ad 0)), (1, .int b20_L1)] d_X10_first_33 rfl (by decide) rfl ?_
      refine z_iconst (v := 0) cx d_X10_first_34 ki_0 ?_
      refine z_istore cx 4 [(4, .int (0 : Int32)), (3, .int (-1 : Int32)), (2, .int (-1 : Int32)), (0, .ref (ad 0)), (1, .int b20_L1)] d_X10_first_35 (by decide) rfl ?_
      exact z_lv [3, 4, 2, 1, 0] _ rfl (hL37 zFuel b20_L1 (-1 : Int32) (-1 : Int32) (0 : Int32) M6 hF)
    refine z_iconst (v := 0) cx d_X10_first_28 ki_0 ?_
    exact z_iret cx hr rfl hF d_X10_first_29
  unfold F_X10_first at hF
  refine z_aload_n cx d_X10_first_0 0 rfl ?_
  refine z_iconst (v := 0) cx d_X10_first_1 ki_0 ?_
  refine z_putI cx hT fp_SunnyPansModel_82 d_X10_first_2 ?_
  refine z_nmM hF (fun M8 hF => ?_)
  refine z_aload_n cx d_X10_first_5 0 rfl ?_
  refine z_iload_n cx d_X10_first_6 1 rfl ?_
  refine z_iconst (v := 0) cx d_X10_first_7 ki_0 ?_
  refine z_iconst (v := 1) cx d_X10_first_8 ki_1 ?_
  obtain ⟨v10, M9, hc, hF⟩ := zb_inv hF
  refine z_callS cx (As := [.int p0, .int (0 : Int32), .int (1 : Int32)]) (rest := [.ref (ad 0)]) (c_X10_in l cx.2.2.2.1.1 M8 p0 (0 : Int32) (1 : Int32)  hc) cs_SunnyPansModel_116 ⟨rfl, rfl, Nat.le_of_ble_eq_true rfl, Nat.le_of_ble_eq_true rfl⟩ rfl rfl ⟨Nat.zero_le _, Nat.zero_le _⟩ (Nat.le_of_ble_eq_true rfl) d_X10_first_9 ?_
  refine z_if_ne cx 19 d_X10_first_12 (by decide) hF (fun hF => ?_) (fun hF => ?_)
  · refine z_iconst (v := 0) cx d_X10_first_19 ki_0 ?_
    exact hb20 p0 (0 : Int32) M9 hF
  refine z_iconst (v := 1) cx d_X10_first_15 ki_1 ?_
  refine z_goto cx 20 d_X10_first_16 (by decide) ?_
  exact hb20 p0 (1 : Int32) M9 hF
/-! SunnyPansModel.isFree -/
theorem d_X10_isFree_0 : decode cX10_isFree 0 = .ok (.aload_n 0, 1) := by decide +kernel
theorem d_X10_isFree_1 : decode cX10_isFree 1 = .ok (.iload_n 1, 1) := by decide +kernel
theorem d_X10_isFree_2 : decode cX10_isFree 2 = .ok (.invokevirtual 284, 3) := by decide +kernel
theorem d_X10_isFree_5 : decode cX10_isFree 5 = .ok (.ifCond .eq 30, 3) := by decide +kernel
theorem d_X10_isFree_8 : decode cX10_isFree 8 = .ok (.aload_n 0, 1) := by decide +kernel
theorem d_X10_isFree_9 : decode cX10_isFree 9 = .ok (.getfield 58, 3) := by decide +kernel
theorem d_X10_isFree_12 : decode cX10_isFree 12 = .ok (.iload_n 1, 1) := by decide +kernel
theorem d_X10_isFree_13 : decode cX10_isFree 13 = .ok (.invokestatic 280, 3) := by decide +kernel
theorem d_X10_isFree_16 : decode cX10_isFree 16 = .ok (.ifCond .eq 19, 3) := by decide +kernel
theorem d_X10_isFree_19 : decode cX10_isFree 19 = .ok (.aload_n 0, 1) := by decide +kernel
theorem d_X10_isFree_20 : decode cX10_isFree 20 = .ok (.getfield 58, 3) := by decide +kernel
theorem d_X10_isFree_23 : decode cX10_isFree 23 = .ok (.bipush 64, 2) := by decide +kernel
theorem d_X10_isFree_25 : decode cX10_isFree 25 = .ok (.iload_n 1, 1) := by decide +kernel
theorem d_X10_isFree_26 : decode cX10_isFree 26 = .ok (.iadd, 1) := by decide +kernel
theorem d_X10_isFree_27 : decode cX10_isFree 27 = .ok (.iaload, 1) := by decide +kernel
theorem d_X10_isFree_28 : decode cX10_isFree 28 = .ok (.ifCond .ne 7, 3) := by decide +kernel
theorem d_X10_isFree_31 : decode cX10_isFree 31 = .ok (.iconst 1, 1) := by decide +kernel
theorem d_X10_isFree_32 : decode cX10_isFree 32 = .ok (.goto 4, 3) := by decide +kernel
theorem d_X10_isFree_35 : decode cX10_isFree 35 = .ok (.iconst 0, 1) := by decide +kernel
theorem d_X10_isFree_36 : decode cX10_isFree 36 = .ok (.ireturn, 1) := by decide +kernel
def F_X10_isFree (M : zMem) (p0 : Int32) : Option (Int32 × zMem) :=
  zb (F_X10_isHere M p0) fun v2 M1 =>
  if v2 = 0 then
    some ((0 : Int32), M1)
  else
    zb (F_X10_isDry M1 451 p0) fun v4 M3 =>
    if v4 = 0 then
      some ((0 : Int32), M3)
    else
      gin ((64 : Int32) + p0) 195 <|
      if (M3.1 451 ((64 : Int32) + p0).toNatClampNeg) = 0 then
        some ((1 : Int32), M3)
      else
        some ((0 : Int32), M3)
def rm_X10_isFree : Room := { frames := 5, cells := 0, slots := 0, locals := 145 }
set_option maxHeartbeats 4000000 in
set_option maxRecDepth 100000 in
theorem c_X10_isFree (l : Launch) {G : zG} {ad : Nat → Nat} {n : Nat} (hA : zInj ad n) (M : zMem) (p0 : Int32) (hT : zT shM n 0 11) {r9 : Int32} {M9 : zMem} (hF : F_X10_isFree M p0 = some (r9, M9)) : zM l yX10_isFree cX10_isFree 2 (some .boolean) rm_X10_isFree G shM ad n M [.ref (ad 0), .int p0] (some (.int r9)) M9 := by
  refine zM_of hA (by decide +kernel) (lv := [(0, .ref (ad 0)), (1, .int p0)]) (Nat.le_of_ble_eq_true rfl) rfl (fun p e s m args below meth c A cx hr => ?_)
  unfold F_X10_isFree at hF
  refine z_aload_n cx d_X10_isFree_0 0 rfl ?_
  refine z_iload_n cx d_X10_isFree_1 1 rfl ?_
  obtain ⟨v2, M1, hc, hF⟩ := zb_inv hF
  refine z_callV cx (As := [.int p0]) (rest := []) (c_X10_isHere l cx.2.2.2.1.1 M p0 hT hc) hT zo_11 cv_SunnyPansModel_284 ⟨rfl, rfl, Nat.le_of_ble_eq_true rfl, Nat.le_of_ble_eq_true rfl⟩ rfl rfl ⟨Nat.zero_le _, Nat.zero_le _⟩ (Nat.le_of_ble_eq_true rfl) d_X10_isFree_2 ?_
  refine z_if_eq cx 35 d_X10_isFree_5 (by decide) hF (fun hF => ?_) (fun hF => ?_)
  · refine z_iconst (v := 0) cx d_X10_isFree_35 ki_0 ?_
    exact z_iret cx hr nb0 hF d_X10_isFree_36
  refine z_aload_n cx d_X10_isFree_8 0 rfl ?_
  refine z_getR cx hT fg_SunnyPansModel_58 451 rfl d_X10_isFree_9 ?_
  refine z_iload_n cx d_X10_isFree_12 1 rfl ?_
  obtain ⟨v4, M3, hc, hF⟩ := zb_inv hF
  refine z_callS cx (As := [.ref (ad 451), .int p0]) (rest := []) (c_X10_isDry l cx.2.2.2.1.1 M1 451 p0 (tfM_11_451 hT) hc) cs_SunnyPansModel_280 ⟨rfl, rfl, Nat.le_of_ble_eq_true rfl, Nat.le_of_ble_eq_true rfl⟩ rfl rfl ⟨Nat.zero_le _, Nat.zero_le _⟩ (Nat.le_of_ble_eq_true rfl) d_X10_isFree_13 ?_
  refine z_if_eq cx 35 d_X10_isFree_16 (by decide) hF (fun hF => ?_) (fun hF => ?_)
  · refine z_iconst (v := 0) cx d_X10_isFree_35 ki_0 ?_
    exact z_iret cx hr nb0 hF d_X10_isFree_36
  refine z_aload_n cx d_X10_isFree_19 0 rfl ?_
  refine z_getR cx hT fg_SunnyPansModel_58 451 rfl d_X10_isFree_20 ?_
  refine z_bipush (v := 64) cx d_X10_isFree_23 kb_64 ?_
  refine z_iload_n cx d_X10_isFree_25 1 rfl ?_
  refine z_iadd cx d_X10_isFree_26 ?_
  obtain ⟨hi5, hF⟩ := gin_inv hF
  refine z_iald cx (tfM_11_451 hT) za_36 hi5 (((64 : Int32) + p0).toNatClampNeg) rfl d_X10_isFree_27 ?_
  refine z_if_ne cx 35 d_X10_isFree_28 (by decide) hF (fun hF => ?_) (fun hF => ?_)
  · refine z_iconst (v := 0) cx d_X10_isFree_35 ki_0 ?_
    exact z_iret cx hr nb0 hF d_X10_isFree_36
  refine z_iconst (v := 1) cx d_X10_isFree_31 ki_1 ?_
  refine z_goto cx 36 d_X10_isFree_32 (by decide) ?_
  exact z_iret cx hr nb1 hF d_X10_isFree_36
/-! SunnyPansModel.shades -/
theorem d_X10_shades_0 : decode cX10_shades 0 = .ok (.iconst 0, 1) := by decide +kernel
theorem d_X10_shades_1 : decode cX10_shades 1 = .ok (.istore 4, 2) := by decide +kernel
theorem d_X10_shades_3 : decode cX10_shades 3 = .ok (.iconst 0, 1) := by decide +kernel
theorem d_X10_shades_4 : decode cX10_shades 4 = .ok (.istore 5, 2) := by decide +kernel
theorem d_X10_shades_6 : decode cX10_shades 6 = .ok (.iload 5, 2) := by decide +kernel
theorem d_X10_shades_8 : decode cX10_shades 8 = .ok (.aload_n 0, 1) := by decide +kernel
theorem d_X10_shades_9 : decode cX10_shades 9 = .ok (.getfield 23, 3) := by decide +kernel
theorem d_X10_shades_12 : decode cX10_shades 12 = .ok (.iconst 2, 1) := by decide +kernel
theorem d_X10_shades_13 : decode cX10_shades 13 = .ok (.iaload, 1) := by decide +kernel
theorem d_X10_shades_14 : decode cX10_shades 14 = .ok (.if_icmp .ge 93, 3) := by decide +kernel
theorem d_X10_shades_17 : decode cX10_shades 17 = .ok (.iconst 0, 1) := by decide +kernel
theorem d_X10_shades_18 : decode cX10_shades 18 = .ok (.istore 6, 2) := by decide +kernel
theorem d_X10_shades_20 : decode cX10_shades 20 = .ok (.iload 6, 2) := by decide +kernel
theorem d_X10_shades_22 : decode cX10_shades 22 = .ok (.bipush 64, 2) := by decide +kernel
theorem d_X10_shades_24 : decode cX10_shades 24 = .ok (.if_icmp .ge 77, 3) := by decide +kernel
theorem d_X10_shades_27 : decode cX10_shades 27 = .ok (.aload_n 0, 1) := by decide +kernel
theorem d_X10_shades_28 : decode cX10_shades 28 = .ok (.iload 6, 2) := by decide +kernel
theorem d_X10_shades_30 : decode cX10_shades 30 = .ok (.invokevirtual 284, 3) := by decide +kernel
theorem d_X10_shades_33 : decode cX10_shades 33 = .ok (.ifCond .eq 62, 3) := by decide +kernel
theorem d_X10_shades_36 : decode cX10_shades 36 = .ok (.aload_n 0, 1) := by decide +kernel
theorem d_X10_shades_37 : decode cX10_shades 37 = .ok (.iload_n 1, 1) := by decide +kernel
theorem d_X10_shades_38 : decode cX10_shades 38 = .ok (.iload_n 3, 1) := by decide +kernel
theorem d_X10_shades_39 : decode cX10_shades 39 = .ok (.iload 6, 2) := by decide +kernel
theorem d_X10_shades_41 : decode cX10_shades 41 = .ok (.iload 5, 2) := by decide +kernel
theorem d_X10_shades_43 : decode cX10_shades 43 = .ok (.invokevirtual 253, 3) := by decide +kernel
theorem d_X10_shades_46 : decode cX10_shades 46 = .ok (.ifCond .ne 24, 3) := by decide +kernel
theorem d_X10_shades_49 : decode cX10_shades 49 = .ok (.iload_n 2, 1) := by decide +kernel
theorem d_X10_shades_50 : decode cX10_shades 50 = .ok (.iconst (-1), 1) := by decide +kernel
theorem d_X10_shades_51 : decode cX10_shades 51 = .ok (.if_icmp .eq 44, 3) := by decide +kernel
theorem d_X10_shades_54 : decode cX10_shades 54 = .ok (.aload_n 0, 1) := by decide +kernel
theorem d_X10_shades_55 : decode cX10_shades 55 = .ok (.iload_n 2, 1) := by decide +kernel
theorem d_X10_shades_56 : decode cX10_shades 56 = .ok (.iload_n 3, 1) := by decide +kernel
theorem d_X10_shades_57 : decode cX10_shades 57 = .ok (.iload 6, 2) := by decide +kernel
theorem d_X10_shades_59 : decode cX10_shades 59 = .ok (.iload 5, 2) := by decide +kernel
theorem d_X10_shades_61 : decode cX10_shades 61 = .ok (.invokevirtual 253, 3) := by decide +kernel
theorem d_X10_shades_64 : decode cX10_shades 64 = .ok (.ifCond .ne 6, 3) := by decide +kernel
theorem d_X10_shades_67 : decode cX10_shades 67 = .ok (.goto 28, 3) := by decide +kernel
theorem d_X10_shades_70 : decode cX10_shades 70 = .ok (.iload 4, 2) := by decide +kernel
theorem d_X10_shades_72 : decode cX10_shades 72 = .ok (.aload_n 0, 1) := by decide +kernel
theorem d_X10_shades_73 : decode cX10_shades 73 = .ok (.aload_n 0, 1) := by decide +kernel
theorem d_X10_shades_74 : decode cX10_shades 74 = .ok (.getfield 58, 3) := by decide +kernel
theorem d_X10_shades_77 : decode cX10_shades 77 = .ok (.iload 6, 2) := by decide +kernel
theorem d_X10_shades_79 : decode cX10_shades 79 = .ok (.iload 5, 2) := by decide +kernel
theorem d_X10_shades_81 : decode cX10_shades 81 = .ok (.invokevirtual 264, 3) := by decide +kernel
theorem d_X10_shades_84 : decode cX10_shades 84 = .ok (.ifCond .eq 7, 3) := by decide +kernel
theorem d_X10_shades_87 : decode cX10_shades 87 = .ok (.iconst 0, 1) := by decide +kernel
theorem d_X10_shades_88 : decode cX10_shades 88 = .ok (.goto 4, 3) := by decide +kernel
theorem d_X10_shades_91 : decode cX10_shades 91 = .ok (.iconst 1, 1) := by decide +kernel
theorem d_X10_shades_92 : decode cX10_shades 92 = .ok (.iadd, 1) := by decide +kernel
theorem d_X10_shades_93 : decode cX10_shades 93 = .ok (.istore 4, 2) := by decide +kernel
theorem d_X10_shades_95 : decode cX10_shades 95 = .ok (.iinc 6 1, 3) := by decide +kernel
theorem d_X10_shades_98 : decode cX10_shades 98 = .ok (.goto (-78), 3) := by decide +kernel
theorem d_X10_shades_101 : decode cX10_shades 101 = .ok (.iinc 5 1, 3) := by decide +kernel
theorem d_X10_shades_104 : decode cX10_shades 104 = .ok (.goto (-98), 3) := by decide +kernel
theorem d_X10_shades_107 : decode cX10_shades 107 = .ok (.iload 4, 2) := by decide +kernel
theorem d_X10_shades_109 : decode cX10_shades 109 = .ok (.ireturn, 1) := by decide +kernel
def F_X10_shades_95 (p0 : Int32) (p1 : Int32) (p2 : Int32) (self6 : Int32 → Int32 → Int32 → Int32 → Int32 → zMem → Option (Int32 × zMem)) (self20 : Int32 → Int32 → Int32 → Int32 → Int32 → Int32 → zMem → Option (Int32 × zMem)) (b95_L1 : Int32) (b95_L2 : Int32) (b95_L3 : Int32) (b95_L4 : Int32) (b95_L5 : Int32) (b95_L6 : Int32) (M : zMem) : Option (Int32 × zMem) :=
  self20 b95_L1 b95_L2 b95_L3 b95_L4 b95_L5 (b95_L6 + 1) M
def F_X10_shades_92 (p0 : Int32) (p1 : Int32) (p2 : Int32) (self6 : Int32 → Int32 → Int32 → Int32 → Int32 → zMem → Option (Int32 × zMem)) (self20 : Int32 → Int32 → Int32 → Int32 → Int32 → Int32 → zMem → Option (Int32 × zMem)) (b92_L1 : Int32) (b92_L2 : Int32) (b92_L3 : Int32) (b92_L5 : Int32) (b92_L6 : Int32) (b92_S0 : Int32) (b92_S1 : Int32) (M : zMem) : Option (Int32 × zMem) :=
  zl (b92_S0 + b92_S1) fun v1 =>
  F_X10_shades_95 p0 p1 p2 self6 self20 b92_L1 b92_L2 b92_L3 v1 b92_L5 b92_L6 M
def F_X10_shades_70 (p0 : Int32) (p1 : Int32) (p2 : Int32) (self6 : Int32 → Int32 → Int32 → Int32 → Int32 → zMem → Option (Int32 × zMem)) (self20 : Int32 → Int32 → Int32 → Int32 → Int32 → Int32 → zMem → Option (Int32 × zMem)) (b70_L1 : Int32) (b70_L2 : Int32) (b70_L3 : Int32) (b70_L4 : Int32) (b70_L5 : Int32) (b70_L6 : Int32) (M : zMem) : Option (Int32 × zMem) :=
  zb (F_X10_isShade M 451 b70_L6 b70_L5) fun v3 M2 =>
  if v3 = 0 then
    F_X10_shades_92 p0 p1 p2 self6 self20 b70_L1 b70_L2 b70_L3 b70_L5 b70_L6 b70_L4 (1 : Int32) M2
  else
    F_X10_shades_92 p0 p1 p2 self6 self20 b70_L1 b70_L2 b70_L3 b70_L5 b70_L6 b70_L4 (0 : Int32) M2
def F_X10_shades_20 (p0 : Int32) (p1 : Int32) (p2 : Int32) (self6 : Int32 → Int32 → Int32 → Int32 → Int32 → zMem → Option (Int32 × zMem)) (self20 : Int32 → Int32 → Int32 → Int32 → Int32 → Int32 → zMem → Option (Int32 × zMem)) (b20_L1 : Int32) (b20_L2 : Int32) (b20_L3 : Int32) (b20_L4 : Int32) (b20_L5 : Int32) (b20_L6 : Int32) (M : zMem) : Option (Int32 × zMem) :=
  if (64 : Int32) ≤ b20_L6 then
    self6 b20_L1 b20_L2 b20_L3 b20_L4 (b20_L5 + 1) M
  else
    zb (F_X10_isHere M b20_L6) fun v5 M4 =>
    if v5 = 0 then
      F_X10_shades_95 p0 p1 p2 self6 self20 b20_L1 b20_L2 b20_L3 b20_L4 b20_L5 b20_L6 M4
    else
      zb (F_X10_covers M4 b20_L1 b20_L3 b20_L6 b20_L5) fun v7 M6 =>
      if v7 = 0 then
        if b20_L2 = (-1 : Int32) then
          F_X10_shades_95 p0 p1 p2 self6 self20 b20_L1 b20_L2 b20_L3 b20_L4 b20_L5 b20_L6 M6
        else
          zb (F_X10_covers M6 b20_L2 b20_L3 b20_L6 b20_L5) fun v9 M8 =>
          if v9 = 0 then
            F_X10_shades_95 p0 p1 p2 self6 self20 b20_L1 b20_L2 b20_L3 b20_L4 b20_L5 b20_L6 M8
          else
            F_X10_shades_70 p0 p1 p2 self6 self20 b20_L1 b20_L2 b20_L3 b20_L4 b20_L5 b20_L6 M8
      else
        F_X10_shades_70 p0 p1 p2 self6 self20 b20_L1 b20_L2 b20_L3 b20_L4 b20_L5 b20_L6 M6
def F_X10_shades_6 (p0 : Int32) (p1 : Int32) (p2 : Int32) (self6 : Int32 → Int32 → Int32 → Int32 → Int32 → zMem → Option (Int32 × zMem)) (b6_L1 : Int32) (b6_L2 : Int32) (b6_L3 : Int32) (b6_L4 : Int32) (b6_L5 : Int32) (M : zMem) : Option (Int32 × zMem) :=
  if (M.1 4 2) ≤ b6_L5 then
    some (b6_L4, M)
  else
    itF (fun _ _ _ _ _ _ _ => none) (F_X10_shades_20 p0 p1 p2 self6) zFuel b6_L1 b6_L2 b6_L3 b6_L4 b6_L5 (0 : Int32) M
def F_X10_shades (M : zMem) (p0 : Int32) (p1 : Int32) (p2 : Int32) : Option (Int32 × zMem) :=
  itF (fun _ _ _ _ _ _ => none) (F_X10_shades_6 p0 p1 p2) zFuel p0 p1 p2 (0 : Int32) (0 : Int32) M
def rm_X10_shades : Room := { frames := 6, cells := 0, slots := 0, locals := 173 }
set_option maxHeartbeats 4000000 in
set_option maxRecDepth 100000 in
theorem c_X10_shades (l : Launch) {G : zG} {ad : Nat → Nat} {n : Nat} (hA : zInj ad n) (M : zMem) (p0 : Int32) (p1 : Int32) (p2 : Int32) (hT : zT shM n 0 11) {r9 : Int32} {M9 : zMem} (hF : F_X10_shades M p0 p1 p2 = some (r9, M9)) : zM l yX10_shades cX10_shades 7 (some .int) rm_X10_shades G shM ad n M [.ref (ad 0), .int p0, .int p1, .int p2] (some (.int r9)) M9 := by
  refine zM_of hA (by decide +kernel) (lv := [(0, .ref (ad 0)), (1, .int p0), (2, .int p1), (3, .int p2)]) (Nat.le_of_ble_eq_true rfl) rfl (fun p e s m args below meth c A cx hr => ?_)
  have hb95 : ∀ (self6 : Int32 → Int32 → Int32 → Int32 → Int32 → zMem → Option (Int32 × zMem)) (hs6 : ∀ (b6_L1 : Int32) (b6_L2 : Int32) (b6_L3 : Int32) (b6_L4 : Int32) (b6_L5 : Int32) (M : zMem), self6 b6_L1 b6_L2 b6_L3 b6_L4 b6_L5 M = some (r9, M9) → zJ p l e rm_X10_shades s m args below meth c G shM ad n A 7 (MQ below (zQ G shM ad n M9 (some (.int r9)) A) args s 0 0 A) 0 0 M 6 [(0, .ref (ad 0)), (1, .int b6_L1), (2, .int b6_L2), (3, .int b6_L3), (4, .int b6_L4), (5, .int b6_L5)] []) (self20 : Int32 → Int32 → Int32 → Int32 → Int32 → Int32 → zMem → Option (Int32 × zMem)) (hs20 : ∀ (b20_L1 : Int32) (b20_L2 : Int32) (b20_L3 : Int32) (b20_L4 : Int32) (b20_L5 : Int32) (b20_L6 : Int32) (M : zMem), self20 b20_L1 b20_L2 b20_L3 b20_L4 b20_L5 b20_L6 M = some (r9, M9) → zJ p l e rm_X10_shades s m args below meth c G shM ad n A 7 (MQ below (zQ G shM ad n M9 (some (.int r9)) A) args s 0 0 A) 0 0 M 20 [(0, .ref (ad 0)), (1, .int b20_L1), (2, .int b20_L2), (3, .int b20_L3), (4, .int b20_L4), (5, .int b20_L5), (6, .int b20_L6)] []), ∀ (b95_L1 : Int32) (b95_L2 : Int32) (b95_L3 : Int32) (b95_L4 : Int32) (b95_L5 : Int32) (b95_L6 : Int32) (M : zMem), F_X10_shades_95 p0 p1 p2 self6 self20 b95_L1 b95_L2 b95_L3 b95_L4 b95_L5 b95_L6 M = some (r9, M9) → zJ p l e rm_X10_shades s m args below meth c G shM ad n A 7 (MQ below (zQ G shM ad n M9 (some (.int r9)) A) args s 0 0 A) 0 0 M 95 [(0, .ref (ad 0)), (1, .int b95_L1), (2, .int b95_L2), (3, .int b95_L3), (4, .int b95_L4), (5, .int b95_L5), (6, .int b95_L6)] [] := by
    intro self6 hs6 self20 hs20 b95_L1 b95_L2 b95_L3 b95_L4 b95_L5 b95_L6 M hF
    unfold F_X10_shades_95 at hF
    refine z_iinc cx 6 1 [(6, .int (b95_L6 + 1)), (0, .ref (ad 0)), (1, .int b95_L1), (2, .int b95_L2), (3, .int b95_L3), (4, .int b95_L4), (5, .int b95_L5)] d_X10_shades_95 6 rfl ki_1 (by decide) rfl ?_
    refine z_goto cx 20 d_X10_shades_98 (by decide) ?_
    exact z_lv [1, 2, 3, 4, 5, 6, 0] _ rfl (hs20 b95_L1 b95_L2 b95_L3 b95_L4 b95_L5 (b95_L6 + 1) M hF)
  have hb92 : ∀ (self6 : Int32 → Int32 → Int32 → Int32 → Int32 → zMem → Option (Int32 × zMem)) (hs6 : ∀ (b6_L1 : Int32) (b6_L2 : Int32) (b6_L3 : Int32) (b6_L4 : Int32) (b6_L5 : Int32) (M : zMem), self6 b6_L1 b6_L2 b6_L3 b6_L4 b6_L5 M = some (r9, M9) → zJ p l e rm_X10_shades s m args below meth c G shM ad n A 7 (MQ below (zQ G shM ad n M9 (some (.int r9)) A) args s 0 0 A) 0 0 M 6 [(0, .ref (ad 0)), (1, .int b6_L1), (2, .int b6_L2), (3, .int b6_L3), (4, .int b6_L4), (5, .int b6_L5)] []) (self20 : Int32 → Int32 → Int32 → Int32 → Int32 → Int32 → zMem → Option (Int32 × zMem)) (hs20 : ∀ (b20_L1 : Int32) (b20_L2 : Int32) (b20_L3 : Int32) (b20_L4 : Int32) (b20_L5 : Int32) (b20_L6 : Int32) (M : zMem), self20 b20_L1 b20_L2 b20_L3 b20_L4 b20_L5 b20_L6 M = some (r9, M9) → zJ p l e rm_X10_shades s m args below meth c G shM ad n A 7 (MQ below (zQ G shM ad n M9 (some (.int r9)) A) args s 0 0 A) 0 0 M 20 [(0, .ref (ad 0)), (1, .int b20_L1), (2, .int b20_L2), (3, .int b20_L3), (4, .int b20_L4), (5, .int b20_L5), (6, .int b20_L6)] []), ∀ (b92_L1 : Int32) (b92_L2 : Int32) (b92_L3 : Int32) (b92_L5 : Int32) (b92_L6 : Int32) (b92_S0 : Int32) (b92_S1 : Int32) (M : zMem), F_X10_shades_92 p0 p1 p2 self6 self20 b92_L1 b92_L2 b92_L3 b92_L5 b92_L6 b92_S0 b92_S1 M = some (r9, M9) → zJ p l e rm_X10_shades s m args below meth c G shM ad n A 7 (MQ below (zQ G shM ad n M9 (some (.int r9)) A) args s 0 0 A) 0 0 M 92 [(0, .ref (ad 0)), (1, .int b92_L1), (2, .int b92_L2), (3, .int b92_L3), (5, .int b92_L5), (6, .int b92_L6)] [.int b92_S1, .int b92_S0] := by
    intro self6 hs6 self20 hs20 b92_L1 b92_L2 b92_L3 b92_L5 b92_L6 b92_S0 b92_S1 M hF
    unfold F_X10_shades_92 at hF
    refine z_iadd cx d_X10_shades_92 ?_
    refine z_nm hF (fun v1 hF => ?_)
    refine z_istore cx 4 [(4, .int v1), (0, .ref (ad 0)), (1, .int b92_L1), (2, .int b92_L2), (3, .int b92_L3), (5, .int b92_L5), (6, .int b92_L6)] d_X10_shades_93 (by decide) rfl ?_
    exact z_lv [1, 2, 3, 4, 0, 5, 6] _ rfl (hb95 self6 hs6 self20 hs20 b92_L1 b92_L2 b92_L3 v1 b92_L5 b92_L6 M hF)
  have hb70 : ∀ (self6 : Int32 → Int32 → Int32 → Int32 → Int32 → zMem → Option (Int32 × zMem)) (hs6 : ∀ (b6_L1 : Int32) (b6_L2 : Int32) (b6_L3 : Int32) (b6_L4 : Int32) (b6_L5 : Int32) (M : zMem), self6 b6_L1 b6_L2 b6_L3 b6_L4 b6_L5 M = some (r9, M9) → zJ p l e rm_X10_shades s m args below meth c G shM ad n A 7 (MQ below (zQ G shM ad n M9 (some (.int r9)) A) args s 0 0 A) 0 0 M 6 [(0, .ref (ad 0)), (1, .int b6_L1), (2, .int b6_L2), (3, .int b6_L3), (4, .int b6_L4), (5, .int b6_L5)] []) (self20 : Int32 → Int32 → Int32 → Int32 → Int32 → Int32 → zMem → Option (Int32 × zMem)) (hs20 : ∀ (b20_L1 : Int32) (b20_L2 : Int32) (b20_L3 : Int32) (b20_L4 : Int32) (b20_L5 : Int32) (b20_L6 : Int32) (M : zMem), self20 b20_L1 b20_L2 b20_L3 b20_L4 b20_L5 b20_L6 M = some (r9, M9) → zJ p l e rm_X10_shades s m args below meth c G shM ad n A 7 (MQ below (zQ G shM ad n M9 (some (.int r9)) A) args s 0 0 A) 0 0 M 20 [(0, .ref (ad 0)), (1, .int b20_L1), (2, .int b20_L2), (3, .int b20_L3), (4, .int b20_L4), (5, .int b20_L5), (6, .int b20_L6)] []), ∀ (b70_L1 : Int32) (b70_L2 : Int32) (b70_L3 : Int32) (b70_L4 : Int32) (b70_L5 : Int32) (b70_L6 : Int32) (M : zMem), F_X10_shades_70 p0 p1 p2 self6 self20 b70_L1 b70_L2 b70_L3 b70_L4 b70_L5 b70_L6 M = some (r9, M9) → zJ p l e rm_X10_shades s m args below meth c G shM ad n A 7 (MQ below (zQ G shM ad n M9 (some (.int r9)) A) args s 0 0 A) 0 0 M 70 [(0, .ref (ad 0)), (1, .int b70_L1), (2, .int b70_L2), (3, .int b70_L3), (4, .int b70_L4), (5, .int b70_L5), (6, .int b70_L6)] [] := by
    intro self6 hs6 self20 hs20 b70_L1 b70_L2 b70_L3 b70_L4 b70_L5 b70_L6 M hF
    unfold F_X10_shades_70 at hF
    refine z_iload cx d_X10_shades_70 4 rfl ?_
    refine z_aload_n cx d_X10_shades_72 0 rfl ?_
    refine z_aload_n cx d_X10_shades_73 0 rfl ?_
    refine z_getR cx hT fg_SunnyPansModel_58 451 rfl d_X10_shades_74 ?_
    refine z_iload cx d_X10_shades_77 6 rfl ?_
    refine z_iload cx d_X10_shades_79 5 rfl ?_
    obtain ⟨v3, M2, hc, hF⟩ := zb_inv hF
    refine z_callV cx (As := [.ref (ad 451), .int b70_L6, .int b70_L5]) (rest := [.int b70_L4]) (c_X10_isShade l cx.2.2.2.1.1 M 451 b70_L6 b70_L5 hT (tfM_11_451 hT) hc) hT zo_11 cv_SunnyPansModel_264 ⟨rfl, rfl, Nat.le_of_ble_eq_true rfl, Nat.le_of_ble_eq_true rfl⟩ rfl rfl ⟨Nat.zero_le _, Nat.zero_le _⟩ (Nat.le_of_ble_eq_true rfl) d_X10_shades_81 ?_
    refine z_if_eq cx 91 d_X10_shades_84 (by decide) hF (fun hF => ?_) (fun hF => ?_)
    · refine z_iconst (v := 1) cx d_X10_shades_91 ki_1 ?_
      exact z_lv [0, 1, 2, 3, 5, 6] _ rfl (hb92 self6 hs6 self20 hs20 b70_L1 b70_L2 b70_L3 b70_L5 b70_L6 b70_L4 (1 : Int32) M2 hF)
    refine z_iconst (v := 0) cx d_X10_shades_87 ki_0 ?_
    refine z_goto cx 92 d_X10_shades_88 (by decide) ?_
    exact z_lv [0, 1, 2, 3, 5, 6] _ rfl (hb92 self6 hs6 self20 hs20 b70_L1 b70_L2 b70_L3 b70_L5 b70_L6 b70_L4 (0 : Int32) M2 hF)
  have hL20 : ∀ (self6 : Int32 → Int32 → Int32 → Int32 → Int32 → zMem → Option (Int32 × zMem)) (hs6 : ∀ (b6_L1 : Int32) (b6_L2 : Int32) (b6_L3 : Int32) (b6_L4 : Int32) (b6_L5 : Int32) (M : zMem), self6 b6_L1 b6_L2 b6_L3 b6_L4 b6_L5 M = some (r9, M9) → zJ p l e rm_X10_shades s m args below meth c G shM ad n A 7 (MQ below (zQ G shM ad n M9 (some (.int r9)) A) args s 0 0 A) 0 0 M 6 [(0, .ref (ad 0)), (1, .int b6_L1), (2, .int b6_L2), (3, .int b6_L3), (4, .int b6_L4), (5, .int b6_L5)] []) (fuel : Nat), ∀ (b20_L1 : Int32) (b20_L2 : Int32) (b20_L3 : Int32) (b20_L4 : Int32) (b20_L5 : Int32) (b20_L6 : Int32) (M : zMem), itF (fun _ _ _ _ _ _ _ => none) (F_X10_shades_20 p0 p1 p2 self6) fuel b20_L1 b20_L2 b20_L3 b20_L4 b20_L5 b20_L6 M = some (r9, M9) → zJ p l e rm_X10_shades s m args below meth c G shM ad n A 7 (MQ below (zQ G shM ad n M9 (some (.int r9)) A) args s 0 0 A) 0 0 M 20 [(0, .ref (ad 0)), (1, .int b20_L1), (2, .int b20_L2), (3, .int b20_L3), (4, .int b20_L4), (5, .int b20_L5), (6, .int b20_L6)] [] := by
    intro self6 hs6 fuel
    induction fuel with
    | zero => intro b20_L1 b20_L2 b20_L3 b20_L4 b20_L5 b20_L6 M hF; cases hF
    | succ fuel hs20 =>
      intro b20_L1 b20_L2 b20_L3 b20_L4 b20_L5 b20_L6 M hF
      have hF : F_X10_shades_20 p0 p1 p2 self6 (itF (fun _ _ _ _ _ _ _ => none) (F_X10_shades_20 p0 p1 p2 self6) fuel) b20_L1 b20_L2 b20_L3 b20_L4 b20_L5 b20_L6 M = some (r9, M9) := hF
      generalize itF (fun _ _ _ _ _ _ _ => none) (F_X10_shades_20 p0 p1 p2 self6) fuel = self20 at hs20 hF
      unfold F_X10_shades_20 at hF
      refine z_iload cx d_X10_shades_20 6 rfl ?_
      refine z_bipush (v := 64) cx d_X10_shades_22 kb_64 ?_
      refine z_icmp_ge cx 101 d_X10_shades_24 (by decide) hF (fun hF => ?_) (fun hF => ?_)
      · refine z_iinc cx 5 1 [(5, .int (b20_L5 + 1)), (0, .ref (ad 0)), (1, .int b20_L1), (2, .int b20_L2), (3, .int b20_L3), (4, .int b20_L4), (6, .int b20_L6)] d_X10_shades_101 5 rfl ki_1 (by decide) rfl ?_
        refine z_goto cx 6 d_X10_shades_104 (by decide) ?_
        exact z_lv [1, 2, 3, 4, 5, 0] _ rfl (hs6 b20_L1 b20_L2 b20_L3 b20_L4 (b20_L5 + 1) M hF)
      refine z_aload_n cx d_X10_shades_27 0 rfl ?_
      refine z_iload cx d_X10_shades_28 6 rfl ?_
      obtain ⟨v5, M4, hc, hF⟩ := zb_inv hF
      refine z_callV cx (As := [.int b20_L6]) (rest := []) (c_X10_isHere l cx.2.2.2.1.1 M b20_L6 hT hc) hT zo_11 cv_SunnyPansModel_284 ⟨rfl, rfl, Nat.le_of_ble_eq_true rfl, Nat.le_of_ble_eq_true rfl⟩ rfl rfl ⟨Nat.zero_le _, Nat.zero_le _⟩ (Nat.le_of_ble_eq_true rfl) d_X10_shades_30 ?_
      refine z_if_eq cx 95 d_X10_shades_33 (by decide) hF (fun hF => ?_) (fun hF => ?_)
      · exact hb95 self6 hs6 self20 hs20 b20_L1 b20_L2 b20_L3 b20_L4 b20_L5 b20_L6 M4 hF
      refine z_aload_n cx d_X10_shades_36 0 rfl ?_
      refine z_iload_n cx d_X10_shades_37 1 rfl ?_
      refine z_iload_n cx d_X10_shades_38 3 rfl ?_
      refine z_iload cx d_X10_shades_39 6 rfl ?_
      refine z_iload cx d_X10_shades_41 5 rfl ?_
      obtain ⟨v7, M6, hc, hF⟩ := zb_inv hF
      refine z_callV cx (As := [.int b20_L1, .int b20_L3, .int b20_L6, .int b20_L5]) (rest := []) (c_X10_covers l cx.2.2.2.1.1 M4 b20_L1 b20_L3 b20_L6 b20_L5 hT hc) hT zo_11 cv_SunnyPansModel_253 ⟨rfl, rfl, Nat.le_of_ble_eq_true rfl, Nat.le_of_ble_eq_true rfl⟩ rfl rfl ⟨Nat.zero_le _, Nat.zero_le _⟩ (Nat.le_of_ble_eq_true rfl) d_X10_shades_43 ?_
      refine z_if_ne cx 70 d_X10_shades_46 (by decide) hF (fun hF => ?_) (fun hF => ?_)
      · exact hb70 self6 hs6 self20 hs20 b20_L1 b20_L2 b20_L3 b20_L4 b20_L5 b20_L6 M6 hF
      refine z_iload_n cx d_X10_shades_49 2 rfl ?_
      refine z_iconst (v := -1) cx d_X10_shades_50 ki_m1 ?_
      refine z_icmp_eq cx 95 d_X10_shades_51 (by decide) hF (fun hF => ?_) (fun hF => ?_)
      · exact hb95 self6 hs6 self20 hs20 b20_L1 b20_L2 b20_L3 b20_L4 b20_L5 b20_L6 M6 hF
      refine z_aload_n cx d_X10_shades_54 0 rfl ?_
      refine z_iload_n cx d_X10_shades_55 2 rfl ?_
      refine z_iload_n cx d_X10_shades_56 3 rfl ?_
      refine z_iload cx d_X10_shades_57 6 rfl ?_
      refine z_iload cx d_X10_shades_59 5 rfl ?_
      obtain ⟨v9, M8, hc, hF⟩ := zb_inv hF
      refine z_callV cx (As := [.int b20_L2, .int b20_L3, .int b20_L6, .int b20_L5]) (rest := []) (c_X10_covers l cx.2.2.2.1.1 M6 b20_L2 b20_L3 b20_L6 b20_L5 hT hc) hT zo_11 cv_SunnyPansModel_253 ⟨rfl, rfl, Nat.le_of_ble_eq_true rfl, Nat.le_of_ble_eq_true rfl⟩ rfl rfl ⟨Nat.zero_le _, Nat.zero_le _⟩ (Nat.le_of_ble_eq_true rfl) d_X10_shades_61 ?_
      refine z_if_ne cx 70 d_X10_shades_64 (by decide) hF (fun hF => ?_) (fun hF => ?_)
      · exact hb70 self6 hs6 self20 hs20 b20_L1 b20_L2 b20_L3 b20_L4 b20_L5 b20_L6 M8 hF
      refine z_goto cx 95 d_X10_shades_67 (by decide) ?_
      exact hb95 self6 hs6 self20 hs20 b20_L1 b20_L2 b20_L3 b20_L4 b20_L5 b20_L6 M8 hF
  have hL6 : ∀ (fuel : Nat), ∀ (b6_L1 : Int32) (b6_L2 : Int32) (b6_L3 : Int32) (b6_L4 : Int32) (b6_L5 : Int32) (M : zMem), itF (fun _ _ _ _ _ _ => none) (F_X10_shades_6 p0 p1 p2) fuel b6_L1 b6_L2 b6_L3 b6_L4 b6_L5 M = some (r9, M9) → zJ p l e rm_X10_shades s m args below meth c G shM ad n A 7 (MQ below (zQ G shM ad n M9 (some (.int r9)) A) args s 0 0 A) 0 0 M 6 [(0, .ref (ad 0)), (1, .int b6_L1), (2, .int b6_L2), (3, .int b6_L3), (4, .int b6_L4), (5, .int b6_L5)] [] := by
    intro fuel
    induction fuel with
    | zero => intro b6_L1 b6_L2 b6_L3 b6_L4 b6_L5 M hF; cases hF
    | succ fuel hs6 =>
      intro b6_L1 b6_L2 b6_L3 b6_L4 b6_L5 M hF
      have hF : F_X10_shades_6 p0 p1 p2 (itF (fun _ _ _ _ _ _ => none) (F_X10_shades_6 p0 p1 p2) fuel) b6_L1 b6_L2 b6_L3 b6_L4 b6_L5 M = some (r9, M9) := hF
      generalize itF (fun _ _ _ _ _ _ => none) (F_X10_shades_6 p0 p1 p2) fuel = self6 at hs6 hF
      unfold F_X10_shades_6 at hF
      refine z_iload cx d_X10_shades_6 5 rfl ?_
      refine z_aload_n cx d_X10_shades_8 0 rfl ?_
      refine z_getR cx hT fg_SunnyPansModel_23 4 rfl d_X10_shades_9 ?_
      refine z_iconst (v := 2) cx d_X10_shades_12 ki_2 ?_
      refine z_iald cx (tfM_11_4 hT) za_28 (zvp (by decide +kernel)) 2 rfl d_X10_shades_13 ?_
      refine z_icmp_ge cx 107 d_X10_shades_14 (by decide) hF (fun hF => ?_) (fun hF => ?_)
      · refine z_iload cx d_X10_shades_107 4 rfl ?_
        exact z_iret cx hr rfl hF d_X10_shades_109
      refine z_iconst (v := 0) cx d_X10_shades_17 ki_0 ?_
      refine z_istore cx 6 [(6, .int (0 : Int32)), (0, .ref (ad 0)), (1, .int b6_L1), (2, .int b6_L2), (3, .int b6_L3), (4, .int b6_L4), (5, .int b6_L5)] d_X10_shades_18 (by decide) rfl ?_
      exact z_lv [1, 2, 3, 4, 5, 6, 0] _ rfl (hL20 self6 hs6 zFuel b6_L1 b6_L2 b6_L3 b6_L4 b6_L5 (0 : Int32) M hF)
  unfold F_X10_shades at hF
  refine z_iconst (v := 0) cx d_X10_shades_0 ki_0 ?_
  refine z_istore cx 4 [(4, .int (0 : Int32)), (0, .ref (ad 0)), (1, .int p0), (2, .int p1), (3, .int p2)] d_X10_shades_1 (by decide) rfl ?_
  refine z_iconst (v := 0) cx d_X10_shades_3 ki_0 ?_
  refine z_istore cx 5 [(5, .int (0 : Int32)), (4, .int (0 : Int32)), (0, .ref (ad 0)), (1, .int p0), (2, .int p1), (3, .int p2)] d_X10_shades_4 (by decide) rfl ?_
  exact z_lv [2, 3, 4, 5, 1, 0] _ rfl (hL6 zFuel p0 p1 p2 (0 : Int32) (0 : Int32) M hF)
/-! SunnyPansModel.site -/
theorem d_X10_site_0 : decode cX10_site 0 = .ok (.aload_n 0, 1) := by decide +kernel
theorem d_X10_site_1 : decode cX10_site 1 = .ok (.iconst 0, 1) := by decide +kernel
theorem d_X10_site_2 : decode cX10_site 2 = .ok (.putfield 82, 3) := by decide +kernel
theorem d_X10_site_5 : decode cX10_site 5 = .ok (.aload_n 0, 1) := by decide +kernel
theorem d_X10_site_6 : decode cX10_site 6 = .ok (.iload_n 1, 1) := by decide +kernel
theorem d_X10_site_7 : decode cX10_site 7 = .ok (.iconst 1, 1) := by decide +kernel
theorem d_X10_site_8 : decode cX10_site 8 = .ok (.sipush 999, 3) := by decide +kernel
theorem d_X10_site_11 : decode cX10_site 11 = .ok (.invokestatic 116, 3) := by decide +kernel
theorem d_X10_site_14 : decode cX10_site 14 = .ok (.ifCond .eq 12, 3) := by decide +kernel
theorem d_X10_site_17 : decode cX10_site 17 = .ok (.iload_n 2, 1) := by decide +kernel
theorem d_X10_site_18 : decode cX10_site 18 = .ok (.iconst 0, 1) := by decide +kernel
theorem d_X10_site_19 : decode cX10_site 19 = .ok (.iconst 1, 1) := by decide +kernel
theorem d_X10_site_20 : decode cX10_site 20 = .ok (.invokestatic 116, 3) := by decide +kernel
theorem d_X10_site_23 : decode cX10_site 23 = .ok (.ifCond .ne 7, 3) := by decide +kernel
theorem d_X10_site_26 : decode cX10_site 26 = .ok (.iconst 1, 1) := by decide +kernel
theorem d_X10_site_27 : decode cX10_site 27 = .ok (.goto 4, 3) := by decide +kernel
theorem d_X10_site_30 : decode cX10_site 30 = .ok (.iconst 0, 1) := by decide +kernel
theorem d_X10_site_31 : decode cX10_site 31 = .ok (.iconst 1, 1) := by decide +kernel
theorem d_X10_site_32 : decode cX10_site 32 = .ok (.iconst 1, 1) := by decide +kernel
theorem d_X10_site_33 : decode cX10_site 33 = .ok (.invokevirtual 155, 3) := by decide +kernel
theorem d_X10_site_36 : decode cX10_site 36 = .ok (.ifCond .eq 5, 3) := by decide +kernel
theorem d_X10_site_39 : decode cX10_site 39 = .ok (.iconst 0, 1) := by decide +kernel
theorem d_X10_site_40 : decode cX10_site 40 = .ok (.ireturn, 1) := by decide +kernel
theorem d_X10_site_41 : decode cX10_site 41 = .ok (.iconst (-1), 1) := by decide +kernel
theorem d_X10_site_42 : decode cX10_site 42 = .ok (.istore_n 3, 1) := by decide +kernel
theorem d_X10_site_43 : decode cX10_site 43 = .ok (.iconst (-1), 1) := by decide +kernel
theorem d_X10_site_44 : decode cX10_site 44 = .ok (.istore 4, 2) := by decide +kernel
theorem d_X10_site_46 : decode cX10_site 46 = .ok (.iconst 0, 1) := by decide +kernel
theorem d_X10_site_47 : decode cX10_site 47 = .ok (.istore 5, 2) := by decide +kernel
theorem d_X10_site_49 : decode cX10_site 49 = .ok (.iload 5, 2) := by decide +kernel
theorem d_X10_site_51 : decode cX10_site 51 = .ok (.bipush 64, 2) := by decide +kernel
theorem d_X10_site_53 : decode cX10_site 53 = .ok (.if_icmp .ge 53, 3) := by decide +kernel
theorem d_X10_site_56 : decode cX10_site 56 = .ok (.aload_n 0, 1) := by decide +kernel
theorem d_X10_site_57 : decode cX10_site 57 = .ok (.iload 5, 2) := by decide +kernel
theorem d_X10_site_59 : decode cX10_site 59 = .ok (.invokevirtual 348, 3) := by decide +kernel
theorem d_X10_site_62 : decode cX10_site 62 = .ok (.ifCond .ne 6, 3) := by decide +kernel
theorem d_X10_site_65 : decode cX10_site 65 = .ok (.goto 35, 3) := by decide +kernel
theorem d_X10_site_68 : decode cX10_site 68 = .ok (.aload_n 0, 1) := by decide +kernel
theorem d_X10_site_69 : decode cX10_site 69 = .ok (.iload 5, 2) := by decide +kernel
theorem d_X10_site_71 : decode cX10_site 71 = .ok (.iconst (-1), 1) := by decide +kernel
theorem d_X10_site_72 : decode cX10_site 72 = .ok (.iload_n 1, 1) := by decide +kernel
theorem d_X10_site_73 : decode cX10_site 73 = .ok (.invokevirtual 351, 3) := by decide +kernel
theorem d_X10_site_76 : decode cX10_site 76 = .ok (.istore 6, 2) := by decide +kernel
theorem d_X10_site_78 : decode cX10_site 78 = .ok (.iload_n 3, 1) := by decide +kernel
theorem d_X10_site_79 : decode cX10_site 79 = .ok (.iconst (-1), 1) := by decide +kernel
theorem d_X10_site_80 : decode cX10_site 80 = .ok (.if_icmp .eq 13, 3) := by decide +kernel
theorem d_X10_site_83 : decode cX10_site 83 = .ok (.iload 6, 2) := by decide +kernel
theorem d_X10_site_85 : decode cX10_site 85 = .ok (.iload 4, 2) := by decide +kernel
theorem d_X10_site_87 : decode cX10_site 87 = .ok (.if_icmp .lt 6, 3) := by decide +kernel
theorem d_X10_site_90 : decode cX10_site 90 = .ok (.goto 10, 3) := by decide +kernel
theorem d_X10_site_93 : decode cX10_site 93 = .ok (.iload 5, 2) := by decide +kernel
theorem d_X10_site_95 : decode cX10_site 95 = .ok (.istore_n 3, 1) := by decide +kernel
theorem d_X10_site_96 : decode cX10_site 96 = .ok (.iload 6, 2) := by decide +kernel
theorem d_X10_site_98 : decode cX10_site 98 = .ok (.istore 4, 2) := by decide +kernel
theorem d_X10_site_100 : decode cX10_site 100 = .ok (.iinc 5 1, 3) := by decide +kernel
theorem d_X10_site_103 : decode cX10_site 103 = .ok (.goto (-54), 3) := by decide +kernel
theorem d_X10_site_106 : decode cX10_site 106 = .ok (.iload_n 2, 1) := by decide +kernel
theorem d_X10_site_107 : decode cX10_site 107 = .ok (.ifCond .ne 10, 3) := by decide +kernel
theorem d_X10_site_110 : decode cX10_site 110 = .ok (.iload_n 3, 1) := by decide +kernel
theorem d_X10_site_111 : decode cX10_site 111 = .ok (.invokestatic 345, 3) := by decide +kernel
theorem d_X10_site_114 : decode cX10_site 114 = .ok (.goto 5, 3) := by decide +kernel
theorem d_X10_site_117 : decode cX10_site 117 = .ok (.iload 4, 2) := by decide +kernel
theorem d_X10_site_119 : decode cX10_site 119 = .ok (.ireturn, 1) := by decide +kernel
def F_X10_site_100 (p0 : Int32) (p1 : Int32) (self49 : Int32 → Int32 → Int32 → Int32 → Int32 → zMem → Option (Int32 × zMem)) (b100_L1 : Int32) (b100_L2 : Int32) (b100_L3 : Int32) (b100_L4 : Int32) (b100_L5 : Int32) (M : zMem) : Option (Int32 × zMem) :=
  self49 b100_L1 b100_L2 b100_L3 b100_L4 (b100_L5 + 1) M
def F_X10_site_93 (p0 : Int32) (p1 : Int32) (self49 : Int32 → Int32 → Int32 → Int32 → Int32 → zMem → Option (Int32 × zMem)) (b93_L1 : Int32) (b93_L2 : Int32) (b93_L5 : Int32) (b93_L6 : Int32) (M : zMem) : Option (Int32 × zMem) :=
  F_X10_site_100 p0 p1 self49 b93_L1 b93_L2 b93_L5 b93_L6 b93_L5 M
def F_X10_site_49 (p0 : Int32) (p1 : Int32) (self49 : Int32 → Int32 → Int32 → Int32 → Int32 → zMem → Option (Int32 × zMem)) (b49_L1 : Int32) (b49_L2 : Int32) (b49_L3 : Int32) (b49_L4 : Int32) (b49_L5 : Int32) (M : zMem) : Option (Int32 × zMem) :=
  if (64 : Int32) ≤ b49_L5 then
    if b49_L2 = 0 then
      zb (F_X10_asTold M b49_L3) fun v2 M1 =>
      some (v2, M1)
    else
      some (b49_L4, M)
  else
    zb (F_X10_isFree M b49_L5) fun v4 M3 =>
    if v4 = 0 then
      F_X10_site_100 p0 p1 self49 b49_L1 b49_L2 b49_L3 b49_L4 b49_L5 M3
    else
      zb (F_X10_shades M3 b49_L5 (-1 : Int32) b49_L1) fun v6 M5 =>
      if b49_L3 = (-1 : Int32) then
        F_X10_site_93 p0 p1 self49 b49_L1 b49_L2 b49_L5 v6 M5
      else
        if v6 < b49_L4 then
          F_X10_site_93 p0 p1 self49 b49_L1 b49_L2 b49_L5 v6 M5
        else
          F_X10_site_100 p0 p1 self49 b49_L1 b49_L2 b49_L3 b49_L4 b49_L5 M5
def F_X10_site_31 (p0 : Int32) (p1 : Int32) (b31_L1 : Int32) (b31_L2 : Int32) (b31_S1 : Int32) (M : zMem) : Option (Int32 × zMem) :=
  zb (F_X10_bad M b31_S1 (1 : Int32) (1 : Int32)) fun v8 M7 =>
  if v8 = 0 then
    itF (fun _ _ _ _ _ _ => none) (F_X10_site_49 p0 p1) zFuel b31_L1 b31_L2 (-1 : Int32) (-1 : Int32) (0 : Int32) M7
  else
    some ((0 : Int32), M7)
def F_X10_site (M : zMem) (p0 : Int32) (p1 : Int32) : Option (Int32 × zMem) :=
  zl (zI M 0 0 (0 : Int32)) fun M9 =>
  zb (F_X10_in M9 p0 (1 : Int32) (999 : Int32)) fun v11 M10 =>
  if v11 = 0 then
    F_X10_site_31 p0 p1 p0 p1 (1 : Int32) M10
  else
    zb (F_X10_in M10 p1 (0 : Int32) (1 : Int32)) fun v13 M12 =>
    if v13 = 0 then
      F_X10_site_31 p0 p1 p0 p1 (1 : Int32) M12
    else
      F_X10_site_31 p0 p1 p0 p1 (0 : Int32) M12
def rm_X10_site : Room := { frames := 7, cells := 0, slots := 0, locals := 199 }
set_option maxHeartbeats 4000000 in
set_option maxRecDepth 100000 in
theorem c_X10_site (l : Launch) {G : zG} {ad : Nat → Nat} {n : Nat} (hA : zInj ad n) (M : zMem) (p0 : Int32) (p1 : Int32) (hT : zT shM n 0 11) {r9 : Int32} {M9 : zMem} (hF : F_X10_site M p0 p1 = some (r9, M9)) : zM l yX10_site cX10_site 7 (some .int) rm_X10_site G shM ad n M [.ref (ad 0), .int p0, .int p1] (some (.int r9)) M9 := by
  refine zM_of hA (by decide +kernel) (lv := [(0, .ref (ad 0)), (1, .int p0), (2, .int p1)]) (Nat.le_of_ble_eq_true rfl) rfl (fun p e s m args below meth c A cx hr => ?_)
  have hb100 : ∀ (self49 : Int32 → Int32 → Int32 → Int32 → Int32 → zMem → Option (Int32 × zMem)) (hs49 : ∀ (b49_L1 : Int32) (b49_L2 : Int32) (b49_L3 : Int32) (b49_L4 : Int32) (b49_L5 : Int32) (M : zMem), self49 b49_L1 b49_L2 b49_L3 b49_L4 b49_L5 M = some (r9, M9) → zJ p l e rm_X10_site s m args below meth c G shM ad n A 7 (MQ below (zQ G shM ad n M9 (some (.int r9)) A) args s 0 0 A) 0 0 M 49 [(0, .ref (ad 0)), (1, .int b49_L1), (2, .int b49_L2), (3, .int b49_L3), (4, .int b49_L4), (5, .int b49_L5)] []), ∀ (b100_L1 : Int32) (b100_L2 : Int32) (b100_L3 : Int32) (b100_L4 : Int32) (b100_L5 : Int32) (M : zMem), F_X10_site_100 p0 p1 self49 b100_L1 b100_L2 b100_L3 b100_L4 b100_L5 M = some (r9, M9) → zJ p l e rm_X10_site s m args below meth c G shM ad n A 7 (MQ below (zQ G shM ad n M9 (some (.int r9)) A) args s 0 0 A) 0 0 M 100 [(0, .ref (ad 0)), (1, .int b100_L1), (2, .int b100_L2), (3, .int b100_L3), (4, .int b100_L4), (5, .int b100_L5)] [] := by
    intro self49 hs49 b100_L1 b100_L2 b100_L3 b100_L4 b100_L5 M hF
    unfold F_X10_site_100 at hF
    refine z_iinc cx 5 1 [(5, .int (b100_L5 + 1)), (0, .ref (ad 0)), (1, .int b100_L1), (2, .int b100_L2), (3, .int b100_L3), (4, .int b100_L4)] d_X10_site_100 5 rfl ki_1 (by decide) rfl ?_
    refine z_goto cx 49 d_X10_site_103 (by decide) ?_
    exact z_lv [1, 2, 3, 4, 5, 0] _ rfl (hs49 b100_L1 b100_L2 b100_L3 b100_L4 (b100_L5 + 1) M hF)
  have hb93 : ∀ (self49 : Int32 → Int32 → Int32 → Int32 → Int32 → zMem → Option (Int32 × zMem)) (hs49 : ∀ (b49_L1 : Int32) (b49_L2 : Int32) (b49_L3 : Int32) (b49_L4 : Int32) (b49_L5 : Int32) (M : zMem), self49 b49_L1 b49_L2 b49_L3 b49_L4 b49_L5 M = some (r9, M9) → zJ p l e rm_X10_site s m args below meth c G shM ad n A 7 (MQ below (zQ G shM ad n M9 (some (.int r9)) A) args s 0 0 A) 0 0 M 49 [(0, .ref (ad 0)), (1, .int b49_L1), (2, .int b49_L2), (3, .int b49_L3), (4, .int b49_L4), (5, .int b49_L5)] []), ∀ (b93_L1 : Int32) (b93_L2 : Int32) (b93_L5 : Int32) (b93_L6 : Int32) (M : zMem), F_X10_site_93 p0 p1 self49 b93_L1 b93_L2 b93_L5 b93_L6 M = some (r9, M9) → zJ p l e rm_X10_site s m args below meth c G shM ad n A 7 (MQ below (zQ G shM ad n M9 (some (.int r9)) A) args s 0 0 A) 0 0 M 93 [(0, .ref (ad 0)), (1, .int b93_L1), (2, .int b93_L2), (5, .int b93_L5), (6, .int b93_L6)] [] := by
    intro self49 hs49 b93_L1 b93_L2 b93_L5 b93_L6 M hF
    unfold F_X10_site_93 at hF
    refine z_iload cx d_X10_site_93 3 rfl ?_
    refine z_istore_n cx 3 [(3, .int b93_L5), (0, .ref (ad 0)), (1, .int b93_L1), (2, .int b93_L2), (5, .int b93_L5), (6, .int b93_L6)] d_X10_site_95 rfl (by decide) rfl ?_
    refine z_iload cx d_X10_site_96 5 rfl ?_
    refine z_istore cx 4 [(4, .int b93_L6), (3, .int b93_L5), (0, .ref (ad 0)), (1, .int b93_L1), (2, .int b93_L2), (5, .int b93_L5), (6, .int b93_L6)] d_X10_site_98 (by decide) rfl ?_
    exact z_lv [2, 3, 4, 1, 0, 5] _ rfl (hb100 self49 hs49 b93_L1 b93_L2 b93_L5 b93_L6 b93_L5 M hF)
  have hL49 : ∀ (fuel : Nat), ∀ (b49_L1 : Int32) (b49_L2 : Int32) (b49_L3 : Int32) (b49_L4 : Int32) (b49_L5 : Int32) (M : zMem), itF (fun _ _ _ _ _ _ => none) (F_X10_site_49 p0 p1) fuel b49_L1 b49_L2 b49_L3 b49_L4 b49_L5 M = some (r9, M9) → zJ p l e rm_X10_site s m args below meth c G shM ad n A 7 (MQ below (zQ G shM ad n M9 (some (.int r9)) A) args s 0 0 A) 0 0 M 49 [(0, .ref (ad 0)), (1, .int b49_L1), (2, .int b49_L2), (3, .int b49_L3), (4, .int b49_L4), (5, .int b49_L5)] [] := by
    intro fuel
    induction fuel with
    | zero => intro b49_L1 b49_L2 b49_L3 b49_L4 b49_L5 M hF; cases hF
    | succ fuel hs49 =>
      intro b49_L1 b49_L2 b49_L3 b49_L4 b49_L5 M hF
      have hF : F_X10_site_49 p0 p1 (itF (fun _ _ _ _ _ _ => none) (F_X10_site_49 p0 p1) fuel) b49_L1 b49_L2 b49_L3 b49_L4 b49_L5 M = some (r9, M9) := hF
      generalize itF (fun _ _ _ _ _ _ => none) (F_X10_site_49 p0 p1) fuel = self49 at hs49 hF
      unfold F_X10_site_49 at hF
      refine z_iload cx d_X10_site_49 5 rfl ?_
      refine z_bipush (v := 64) cx d_X10_site_51 kb_64 ?_
      refine z_icmp_ge cx 106 d_X10_site_53 (by decide) hF (fun hF => ?_) (fun hF => ?_)
      · refine z_iload_n cx d_X10_site_106 2 rfl ?_
        refine z_if_ne cx 117 d_X10_site_107 (by decide) hF (fun hF => ?_) (fun hF => ?_)
        · refine z_iload cx d_X10_site_117 4 rfl ?_
          exact z_iret cx hr rfl hF d_X10_site_119
        refine z_iload_n cx d_X10_site_110 3 rfl ?_
        obtain ⟨v2, M1, hc, hF⟩ := zb_inv hF
        refine z_callS cx (As := [.int b49_L3]) (rest := []) (c_X10_asTold l cx.2.2.2.1.1 M b49_L3  hc) cs_SunnyPansModel_345 ⟨rfl, rfl, Nat.le_of_ble_eq_true rfl, Nat.le_of_ble_eq_true rfl⟩ rfl rfl ⟨Nat.zero_le _, Nat.zero_le _⟩ (Nat.le_of_ble_eq_true rfl) d_X10_site_111 ?_
        refine z_goto cx 119 d_X10_site_114 (by decide) ?_
        exact z_iret cx hr rfl hF d_X10_site_119
      refine z_aload_n cx d_X10_site_56 0 rfl ?_
      refine z_iload cx d_X10_site_57 5 rfl ?_
      obtain ⟨v4, M3, hc, hF⟩ := zb_inv hF
      refine z_callV cx (As := [.int b49_L5]) (rest := []) (c_X10_isFree l cx.2.2.2.1.1 M b49_L5 hT hc) hT zo_11 cv_SunnyPansModel_348 ⟨rfl, rfl, Nat.le_of_ble_eq_true rfl, Nat.le_of_ble_eq_true rfl⟩ rfl rfl ⟨Nat.zero_le _, Nat.zero_le _⟩ (Nat.le_of_ble_eq_true rfl) d_X10_site_59 ?_
      refine z_if_ne cx 68 d_X10_site_62 (by decide) hF (fun hF => ?_) (fun hF => ?_)
      · refine z_aload_n cx d_X10_site_68 0 rfl ?_
        refine z_iload cx d_X10_site_69 5 rfl ?_
        refine z_iconst (v := -1) cx d_X10_site_71 ki_m1 ?_
        refine z_iload_n cx d_X10_site_72 1 rfl ?_
        obtain ⟨v6, M5, hc, hF⟩ := zb_inv hF
        refine z_callV cx (As := [.int b49_L5, .int (-1 : Int32), .int b49_L1]) (rest := []) (c_X10_shades l cx.2.2.2.1.1 M3 b49_L5 (-1 : Int32) b49_L1 hT hc) hT zo_11 cv_SunnyPansModel_351 ⟨rfl, rfl, Nat.le_of_ble_eq_true rfl, Nat.le_of_ble_eq_true rfl⟩ rfl rfl ⟨Nat.zero_le _, Nat.zero_le _⟩ (Nat.le_of_ble_eq_true rfl) d_X10_site_73 ?_
        refine z_istore cx 6 [(6, .int v6), (0, .ref (ad 0)), (1, .int b49_L1), (2, .int b49_L2), (3, .int b49_L3), (4, .int b49_L4), (5, .int b49_L5)] d_X10_site_76 (by decide) rfl ?_
        refine z_iload_n cx d_X10_site_78 4 rfl ?_
        refine z_iconst (v := -1) cx d_X10_site_79 ki_m1 ?_
        refine z_icmp_eq cx 93 d_X10_site_80 (by decide) hF (fun hF => ?_) (fun hF => ?_)
        · exact z_lv [1, 2, 3, 6, 0] _ rfl (hb93 self49 hs49 b49_L1 b49_L2 b49_L5 v6 M5 hF)
        refine z_iload cx d_X10_site_83 0 rfl ?_
        refine z_iload cx d_X10_site_85 5 rfl ?_
        refine z_icmp_lt cx 93 d_X10_site_87 (by decide) hF (fun hF => ?_) (fun hF => ?_)
        · exact z_lv [1, 2, 3, 6, 0] _ rfl (hb93 self49 hs49 b49_L1 b49_L2 b49_L5 v6 M5 hF)
        refine z_goto cx 100 d_X10_site_90 (by decide) ?_
        exact z_lv [1, 2, 3, 4, 5, 6] _ rfl (hb100 self49 hs49 b49_L1 b49_L2 b49_L3 b49_L4 b49_L5 M5 hF)
      refine z_goto cx 100 d_X10_site_65 (by decide) ?_
      exact hb100 self49 hs49 b49_L1 b49_L2 b49_L3 b49_L4 b49_L5 M3 hF
  have hb31 : ∀ (b31_L1 : Int32) (b31_L2 : Int32) (b31_S1 : Int32) (M : zMem), F_X10_site_31 p0 p1 b31_L1 b31_L2 b31_S1 M = some (r9, M9) → zJ p l e rm_X10_site s m args below meth c G shM ad n A 7 (MQ below (zQ G shM ad n M9 (some (.int r9)) A) args s 0 0 A) 0 0 M 31 [(0, .ref (ad 0)), (1, .int b31_L1), (2, .int b31_L2)] [.int b31_S1, .ref (ad 0)] := by
    intro b31_L1 b31_L2 b31_S1 M hF
    unfold F_X10_site_31 at hF
    refine z_iconst (v := 1) cx d_X10_site_31 ki_1 ?_
    refine z_iconst (v := 1) cx d_X10_site_32 ki_1 ?_
    obtain ⟨v8, M7, hc, hF⟩ := zb_inv hF
    refine z_callV cx (As := [.int b31_S1, .int (1 : Int32), .int (1 : Int32)]) (rest := []) (c_X10_bad l cx.2.2.2.1.1 M b31_S1 (1 : Int32) (1 : Int32) hT hc) hT zo_11 cv_SunnyPansModel_155 ⟨rfl, rfl, Nat.le_of_ble_eq_true rfl, Nat.le_of_ble_eq_true rfl⟩ rfl rfl ⟨Nat.zero_le _, Nat.zero_le _⟩ (Nat.le_of_ble_eq_true rfl) d_X10_site_33 ?_
    refine z_if_eq cx 41 d_X10_site_36 (by decide) hF (fun hF => ?_) (fun hF => ?_)
    · refine z_iconst (v := -1) cx d_X10_site_41 ki_m1 ?_
      refine z_istore_n cx 3 [(3, .int (-1 : Int32)), (0, .ref (ad 0)), (1, .int b31_L1), (2, .int b31_L2)] d_X10_site_42 rfl (by decide) rfl ?_
      refine z_iconst (v := -1) cx d_X10_site_43 ki_m1 ?_
      refine z_istore cx 4 [(4, .int (-1 : Int32)), (3, .int (-1 : Int32)), (0, .ref (ad 0)), (1, .int b31_L1), (2, .int b31_L2)] d_X10_site_44 (by decide) rfl ?_
      refine z_iconst (v := 0) cx d_X10_site_46 ki_0 ?_
      refine z_istore cx 5 [(5, .int (0 : Int32)), (4, .int (-1 : Int32)), (3, .int (-1 : Int32)), (0, .ref (ad 0)), (1, .int b31_L1), (2, .int b31_L2)] d_X10_site_47 (by decide) rfl ?_
      exact z_lv [3, 4, 5, 2, 1, 0] _ rfl (hL49 zFuel b31_L1 b31_L2 (-1 : Int32) (-1 : Int32) (0 : Int32) M7 hF)
    refine z_iconst (v := 0) cx d_X10_site_39 ki_0 ?_
    exact z_iret cx hr rfl hF d_X10_site_40
  unfold F_X10_site at hF
  refine z_aload_n cx d_X10_site_0 0 rfl ?_
  refine z_iconst (v := 0) cx d_X10_site_1 ki_0 ?_
  refine z_putI cx hT fp_SunnyPansModel_82 d_X10_site_2 ?_
  refine z_nmM hF (fun M9 hF => ?_)
  refine z_aload_n cx d_X10_site_5 0 rfl ?_
  refine z_iload_n cx d_X10_site_6 1 rfl ?_
  refine z_iconst (v := 1) cx d_X10_site_7 ki_1 ?_
  refine z_sipush (v := 999) cx d_X10_site_8 ks_999 ?_
  obtain ⟨v11, M10, hc, hF⟩ := zb_inv hF
  refine z_callS cx (As := [.int p0, .int (1 : Int32), .int (999 : Int32)]) (rest := [.ref (ad 0)]) (c_X10_in l cx.2.2.2.1.1 M9 p0 (1 : Int32) (999 : Int32)  hc) cs_SunnyPansModel_116 ⟨rfl, rfl, Nat.le_of_ble_eq_true rfl, Nat.le_of_ble_eq_true rfl⟩ rfl rfl ⟨Nat.zero_le _, Nat.zero_le _⟩ (Nat.le_of_ble_eq_true rfl) d_X10_site_11 ?_
  refine z_if_eq cx 26 d_X10_site_14 (by decide) hF (fun hF => ?_) (fun hF => ?_)
  · refine z_iconst (v := 1) cx d_X10_site_26 ki_1 ?_
    refine z_goto cx 31 d_X10_site_27 (by decide) ?_
    exact hb31 p0 p1 (1 : Int32) M10 hF
  refine z_iload_n cx d_X10_site_17 2 rfl ?_
  refine z_iconst (v := 0) cx d_X10_site_18 ki_0 ?_
  refine z_iconst (v := 1) cx d_X10_site_19 ki_1 ?_
  obtain ⟨v13, M12, hc, hF⟩ := zb_inv hF
  refine z_callS cx (As := [.int p1, .int (0 : Int32), .int (1 : Int32)]) (rest := [.ref (ad 0)]) (c_X10_in l cx.2.2.2.1.1 M10 p1 (0 : Int32) (1 : Int32)  hc) cs_SunnyPansModel_116 ⟨rfl, rfl, Nat.le_of_ble_eq_true rfl, Nat.le_of_ble_eq_true rfl⟩ rfl rfl ⟨Nat.zero_le _, Nat.zero_le _⟩ (Nat.le_of_ble_eq_true rfl) d_X10_site_20 ?_
  refine z_if_ne cx 30 d_X10_site_23 (by decide) hF (fun hF => ?_) (fun hF => ?_)
  · refine z_iconst (v := 0) cx d_X10_site_30 ki_0 ?_
    exact hb31 p0 p1 (0 : Int32) M12 hF
  refine z_iconst (v := 1) cx d_X10_site_26 ki_1 ?_
  refine z_goto cx 31 d_X10_site_27 (by decide) ?_
  exact hb31 p0 p1 (1 : Int32) M12 hF
/-! SunnyPansModel.pair -/
theorem d_X10_pair_0 : decode cX10_pair 0 = .ok (.aload_n 0, 1) := by decide +kernel
theorem d_X10_pair_1 : decode cX10_pair 1 = .ok (.iconst 0, 1) := by decide +kernel
theorem d_X10_pair_2 : decode cX10_pair 2 = .ok (.putfield 82, 3) := by decide +kernel
theorem d_X10_pair_5 : decode cX10_pair 5 = .ok (.aload_n 0, 1) := by decide +kernel
theorem d_X10_pair_6 : decode cX10_pair 6 = .ok (.iload_n 1, 1) := by decide +kernel
theorem d_X10_pair_7 : decode cX10_pair 7 = .ok (.iconst 1, 1) := by decide +kernel
theorem d_X10_pair_8 : decode cX10_pair 8 = .ok (.sipush 999, 3) := by decide +kernel
theorem d_X10_pair_11 : decode cX10_pair 11 = .ok (.invokestatic 116, 3) := by decide +kernel
theorem d_X10_pair_14 : decode cX10_pair 14 = .ok (.ifCond .eq 12, 3) := by decide +kernel
theorem d_X10_pair_17 : decode cX10_pair 17 = .ok (.iload_n 2, 1) := by decide +kernel
theorem d_X10_pair_18 : decode cX10_pair 18 = .ok (.iconst 0, 1) := by decide +kernel
theorem d_X10_pair_19 : decode cX10_pair 19 = .ok (.iconst 2, 1) := by decide +kernel
theorem d_X10_pair_20 : decode cX10_pair 20 = .ok (.invokestatic 116, 3) := by decide +kernel
theorem d_X10_pair_23 : decode cX10_pair 23 = .ok (.ifCond .ne 7, 3) := by decide +kernel
theorem d_X10_pair_26 : decode cX10_pair 26 = .ok (.iconst 1, 1) := by decide +kernel
theorem d_X10_pair_27 : decode cX10_pair 27 = .ok (.goto 4, 3) := by decide +kernel
theorem d_X10_pair_30 : decode cX10_pair 30 = .ok (.iconst 0, 1) := by decide +kernel
theorem d_X10_pair_31 : decode cX10_pair 31 = .ok (.iconst 1, 1) := by decide +kernel
theorem d_X10_pair_32 : decode cX10_pair 32 = .ok (.iconst 1, 1) := by decide +kernel
theorem d_X10_pair_33 : decode cX10_pair 33 = .ok (.invokevirtual 155, 3) := by decide +kernel
theorem d_X10_pair_36 : decode cX10_pair 36 = .ok (.ifCond .eq 5, 3) := by decide +kernel
theorem d_X10_pair_39 : decode cX10_pair 39 = .ok (.iconst 0, 1) := by decide +kernel
theorem d_X10_pair_40 : decode cX10_pair 40 = .ok (.ireturn, 1) := by decide +kernel
theorem d_X10_pair_41 : decode cX10_pair 41 = .ok (.iconst (-1), 1) := by decide +kernel
theorem d_X10_pair_42 : decode cX10_pair 42 = .ok (.istore_n 3, 1) := by decide +kernel
theorem d_X10_pair_43 : decode cX10_pair 43 = .ok (.iconst (-1), 1) := by decide +kernel
theorem d_X10_pair_44 : decode cX10_pair 44 = .ok (.istore 4, 2) := by decide +kernel
theorem d_X10_pair_46 : decode cX10_pair 46 = .ok (.iconst (-1), 1) := by decide +kernel
theorem d_X10_pair_47 : decode cX10_pair 47 = .ok (.istore 5, 2) := by decide +kernel
theorem d_X10_pair_49 : decode cX10_pair 49 = .ok (.iconst 0, 1) := by decide +kernel
theorem d_X10_pair_50 : decode cX10_pair 50 = .ok (.istore 6, 2) := by decide +kernel
theorem d_X10_pair_52 : decode cX10_pair 52 = .ok (.iload 6, 2) := by decide +kernel
theorem d_X10_pair_54 : decode cX10_pair 54 = .ok (.bipush 64, 2) := by decide +kernel
theorem d_X10_pair_56 : decode cX10_pair 56 = .ok (.if_icmp .ge 86, 3) := by decide +kernel
theorem d_X10_pair_59 : decode cX10_pair 59 = .ok (.iload 6, 2) := by decide +kernel
theorem d_X10_pair_61 : decode cX10_pair 61 = .ok (.iconst 1, 1) := by decide +kernel
theorem d_X10_pair_62 : decode cX10_pair 62 = .ok (.iadd, 1) := by decide +kernel
theorem d_X10_pair_63 : decode cX10_pair 63 = .ok (.istore 7, 2) := by decide +kernel
theorem d_X10_pair_65 : decode cX10_pair 65 = .ok (.iload 7, 2) := by decide +kernel
theorem d_X10_pair_67 : decode cX10_pair 67 = .ok (.bipush 64, 2) := by decide +kernel
theorem d_X10_pair_69 : decode cX10_pair 69 = .ok (.if_icmp .ge 67, 3) := by decide +kernel
theorem d_X10_pair_72 : decode cX10_pair 72 = .ok (.aload_n 0, 1) := by decide +kernel
theorem d_X10_pair_73 : decode cX10_pair 73 = .ok (.iload 6, 2) := by decide +kernel
theorem d_X10_pair_75 : decode cX10_pair 75 = .ok (.invokevirtual 348, 3) := by decide +kernel
theorem d_X10_pair_78 : decode cX10_pair 78 = .ok (.ifCond .eq 52, 3) := by decide +kernel
theorem d_X10_pair_81 : decode cX10_pair 81 = .ok (.aload_n 0, 1) := by decide +kernel
theorem d_X10_pair_82 : decode cX10_pair 82 = .ok (.iload 7, 2) := by decide +kernel
theorem d_X10_pair_84 : decode cX10_pair 84 = .ok (.invokevirtual 348, 3) := by decide +kernel
theorem d_X10_pair_87 : decode cX10_pair 87 = .ok (.ifCond .ne 6, 3) := by decide +kernel
theorem d_X10_pair_90 : decode cX10_pair 90 = .ok (.goto 40, 3) := by decide +kernel
theorem d_X10_pair_93 : decode cX10_pair 93 = .ok (.aload_n 0, 1) := by decide +kernel
theorem d_X10_pair_94 : decode cX10_pair 94 = .ok (.iload 6, 2) := by decide +kernel
theorem d_X10_pair_96 : decode cX10_pair 96 = .ok (.iload 7, 2) := by decide +kernel
theorem d_X10_pair_98 : decode cX10_pair 98 = .ok (.iload_n 1, 1) := by decide +kernel
theorem d_X10_pair_99 : decode cX10_pair 99 = .ok (.invokevirtual 351, 3) := by decide +kernel
theorem d_X10_pair_102 : decode cX10_pair 102 = .ok (.istore 8, 2) := by decide +kernel
theorem d_X10_pair_104 : decode cX10_pair 104 = .ok (.iload_n 3, 1) := by decide +kernel
theorem d_X10_pair_105 : decode cX10_pair 105 = .ok (.iconst (-1), 1) := by decide +kernel
theorem d_X10_pair_106 : decode cX10_pair 106 = .ok (.if_icmp .eq 13, 3) := by decide +kernel
theorem d_X10_pair_109 : decode cX10_pair 109 = .ok (.iload 8, 2) := by decide +kernel
theorem d_X10_pair_111 : decode cX10_pair 111 = .ok (.iload 5, 2) := by decide +kernel
theorem d_X10_pair_113 : decode cX10_pair 113 = .ok (.if_icmp .lt 6, 3) := by decide +kernel
theorem d_X10_pair_116 : decode cX10_pair 116 = .ok (.goto 14, 3) := by decide +kernel
theorem d_X10_pair_119 : decode cX10_pair 119 = .ok (.iload 6, 2) := by decide +kernel
theorem d_X10_pair_121 : decode cX10_pair 121 = .ok (.istore_n 3, 1) := by decide +kernel
theorem d_X10_pair_122 : decode cX10_pair 122 = .ok (.iload 7, 2) := by decide +kernel
theorem d_X10_pair_124 : decode cX10_pair 124 = .ok (.istore 4, 2) := by decide +kernel
theorem d_X10_pair_126 : decode cX10_pair 126 = .ok (.iload 8, 2) := by decide +kernel
theorem d_X10_pair_128 : decode cX10_pair 128 = .ok (.istore 5, 2) := by decide +kernel
theorem d_X10_pair_130 : decode cX10_pair 130 = .ok (.iinc 7 1, 3) := by decide +kernel
theorem d_X10_pair_133 : decode cX10_pair 133 = .ok (.goto (-68), 3) := by decide +kernel
theorem d_X10_pair_136 : decode cX10_pair 136 = .ok (.iinc 6 1, 3) := by decide +kernel
theorem d_X10_pair_139 : decode cX10_pair 139 = .ok (.goto (-87), 3) := by decide +kernel
theorem d_X10_pair_142 : decode cX10_pair 142 = .ok (.iload_n 2, 1) := by decide +kernel
theorem d_X10_pair_143 : decode cX10_pair 143 = .ok (.iconst 2, 1) := by decide +kernel
theorem d_X10_pair_144 : decode cX10_pair 144 = .ok (.if_icmp .ne 8, 3) := by decide +kernel
theorem d_X10_pair_147 : decode cX10_pair 147 = .ok (.iload 5, 2) := by decide +kernel
theorem d_X10_pair_149 : decode cX10_pair 149 = .ok (.goto 16, 3) := by decide +kernel
theorem d_X10_pair_152 : decode cX10_pair 152 = .ok (.iload_n 2, 1) := by decide +kernel
theorem d_X10_pair_153 : decode cX10_pair 153 = .ok (.ifCond .ne 7, 3) := by decide +kernel
theorem d_X10_pair_156 : decode cX10_pair 156 = .ok (.iload_n 3, 1) := by decide +kernel
theorem d_X10_pair_157 : decode cX10_pair 157 = .ok (.goto 5, 3) := by decide +kernel
theorem d_X10_pair_160 : decode cX10_pair 160 = .ok (.iload 4, 2) := by decide +kernel
theorem d_X10_pair_162 : decode cX10_pair 162 = .ok (.invokestatic 345, 3) := by decide +kernel
theorem d_X10_pair_165 : decode cX10_pair 165 = .ok (.ireturn, 1) := by decide +kernel
def F_X10_pair_162 (p0 : Int32) (p1 : Int32) (b162_S0 : Int32) (M : zMem) : Option (Int32 × zMem) :=
  zb (F_X10_asTold M b162_S0) fun v2 M1 =>
  some (v2, M1)
def F_X10_pair_130 (p0 : Int32) (p1 : Int32) (self52 : Int32 → Int32 → Int32 → Int32 → Int32 → Int32 → zMem → Option (Int32 × zMem)) (self65 : Int32 → Int32 → Int32 → Int32 → Int32 → Int32 → Int32 → zMem → Option (Int32 × zMem)) (b130_L1 : Int32) (b130_L2 : Int32) (b130_L3 : Int32) (b130_L4 : Int32) (b130_L5 : Int32) (b130_L6 : Int32) (b130_L7 : Int32) (M : zMem) : Option (Int32 × zMem) :=
  self65 b130_L1 b130_L2 b130_L3 b130_L4 b130_L5 b130_L6 (b130_L7 + 1) M
def F_X10_pair_119 (p0 : Int32) (p1 : Int32) (self52 : Int32 → Int32 → Int32 → Int32 → Int32 → Int32 → zMem → Option (Int32 × zMem)) (self65 : Int32 → Int32 → Int32 → Int32 → Int32 → Int32 → Int32 → zMem → Option (Int32 × zMem)) (b119_L1 : Int32) (b119_L2 : Int32) (b119_L6 : Int32) (b119_L7 : Int32) (b119_L8 : Int32) (M : zMem) : Option (Int32 × zMem) :=
  F_X10_pair_130 p0 p1 self52 self65 b119_L1 b119_L2 b119_L6 b119_L7 b119_L8 b119_L6 b119_L7 M
def F_X10_pair_65 (p0 : Int32) (p1 : Int32) (self52 : Int32 → Int32 → Int32 → Int32 → Int32 → Int32 → zMem → Option (Int32 × zMem)) (self65 : Int32 → Int32 → Int32 → Int32 → Int32 → Int32 → Int32 → zMem → Option (Int32 × zMem)) (b65_L1 : Int32) (b65_L2 : Int32) (b65_L3 : Int32) (b65_L4 : Int32) (b65_L5 : Int32) (b65_L6 : Int32) (b65_L7 : Int32) (M : zMem) : Option (Int32 × zMem) :=
  if (64 : Int32) ≤ b65_L7 then
    self52 b65_L1 b65_L2 b65_L3 b65_L4 b65_L5 (b65_L6 + 1) M
  else
    zb (F_X10_isFree M b65_L6) fun v4 M3 =>
    if v4 = 0 then
      F_X10_pair_130 p0 p1 self52 self65 b65_L1 b65_L2 b65_L3 b65_L4 b65_L5 b65_L6 b65_L7 M3
    else
      zb (F_X10_isFree M3 b65_L7) fun v6 M5 =>
      if v6 = 0 then
        F_X10_pair_130 p0 p1 self52 self65 b65_L1 b65_L2 b65_L3 b65_L4 b65_L5 b65_L6 b65_L7 M5
      else
        zb (F_X10_shades M5 b65_L6 b65_L7 b65_L1) fun v8 M7 =>
        if b65_L3 = (-1 : Int32) then
          F_X10_pair_119 p0 p1 self52 self65 b65_L1 b65_L2 b65_L6 b65_L7 v8 M7
        else
          if v8 < b65_L5 then
            F_X10_pair_119 p0 p1 self52 self65 b65_L1 b65_L2 b65_L6 b65_L7 v8 M7
          else
            F_X10_pair_130 p0 p1 self52 self65 b65_L1 b65_L2 b65_L3 b65_L4 b65_L5 b65_L6 b65_L7 M7
def F_X10_pair_52 (p0 : Int32) (p1 : Int32) (self52 : Int32 → Int32 → Int32 → Int32 → Int32 → Int32 → zMem → Option (Int32 × zMem)) (b52_L1 : Int32) (b52_L2 : Int32) (b52_L3 : Int32) (b52_L4 : Int32) (b52_L5 : Int32) (b52_L6 : Int32) (M : zMem) : Option (Int32 × zMem) :=
  if (64 : Int32) ≤ b52_L6 then
    if b52_L2 = (2 : Int32) then
      some (b52_L5, M)
    else
      if b52_L2 = 0 then
        F_X10_pair_162 p0 p1 b52_L3 M
      else
        F_X10_pair_162 p0 p1 b52_L4 M
  else
    zl (b52_L6 + (1 : Int32)) fun v9 =>
    itF (fun _ _ _ _ _ _ _ _ => none) (F_X10_pair_65 p0 p1 self52) zFuel b52_L1 b52_L2 b52_L3 b52_L4 b52_L5 b52_L6 v9 M
def F_X10_pair_31 (p0 : Int32) (p1 : Int32) (b31_L1 : Int32) (b31_L2 : Int32) (b31_S1 : Int32) (M : zMem) : Option (Int32 × zMem) :=
  zb (F_X10_bad M b31_S1 (1 : Int32) (1 : Int32)) fun v11 M10 =>
  if v11 = 0 then
    itF (fun _ _ _ _ _ _ _ => none) (F_X10_pair_52 p0 p1) zFuel b31_L1 b31_L2 (-1 : Int32) (-1 : Int32) (-1 : Int32) (0 : Int32) M10
  else
    some ((0 : Int32), M10)
def F_X10_pair (M : zMem) (p0 : Int32) (p1 : Int32) : Option (Int32 × zMem) :=
  zl (zI M 0 0 (0 : Int32)) fun M12 =>
  zb (F_X10_in M12 p0 (1 : Int32) (999 : Int32)) fun v14 M13 =>
  if v14 = 0 then
    F_X10_pair_31 p0 p1 p0 p1 (1 : Int32) M13
  else
    zb (F_X10_in M13 p1 (0 : Int32) (2 : Int32)) fun v16 M15 =>
    if v16 = 0 then
      F_X10_pair_31 p0 p1 p0 p1 (1 : Int32) M15
    else
      F_X10_pair_31 p0 p1 p0 p1 (0 : Int32) M15
def rm_X10_pair : Room := { frames := 7, cells := 0, slots := 0, locals := 199 }
set_option maxHeartbeats 4000000 in
set_option maxRecDepth 100000 in
theorem c_X10_pair (l : Launch) {G : zG} {ad : Nat → Nat} {n : Nat} (hA : zInj ad n) (M : zMem) (p0 : Int32) (p1 : Int32) (hT : zT shM n 0 11) {r9 : Int32} {M9 : zMem} (hF : F_X10_pair M p0 p1 = some (r9, M9)) : zM l yX10_pair cX10_pair 9 (some .int) rm_X10_pair G shM ad n M [.ref (ad 0), .int p0, .int p1] (some (.int r9)) M9 := by
  refine zM_of hA (by decide +kernel) (lv := [(0, .ref (ad 0)), (1, .int p0), (2, .int p1)]) (Nat.le_of_ble_eq_true rfl) rfl (fun p e s m args below meth c A cx hr => ?_)
  have hb162 : ∀ (b162_S0 : Int32) (M : zMem), F_X10_pair_162 p0 p1 b162_S0 M = some (r9, M9) → zJ p l e rm_X10_pair s m args below meth c G shM ad n A 9 (MQ below (zQ G shM ad n M9 (some (.int r9)) A) args s 0 0 A) 0 0 M 162 [] [.int b162_S0] := by
    intro b162_S0 M hF
    unfold F_X10_pair_162 at hF
    obtain ⟨v2, M1, hc, hF⟩ := zb_inv hF
    refine z_callS cx (As := [.int b162_S0]) (rest := []) (c_X10_asTold l cx.2.2.2.1.1 M b162_S0  hc) cs_SunnyPansModel_345 ⟨rfl, rfl, Nat.le_of_ble_eq_true rfl, Nat.le_of_ble_eq_true rfl⟩ rfl rfl ⟨Nat.zero_le _, Nat.zero_le _⟩ (Nat.le_of_ble_eq_true rfl) d_X10_pair_162 ?_
    exact z_iret cx hr rfl hF d_X10_pair_165
  have hb130 : ∀ (self52 : Int32 → Int32 → Int32 → Int32 → Int32 → Int32 → zMem → Option (Int32 × zMem)) (hs52 : ∀ (b52_L1 : Int32) (b52_L2 : Int32) (b52_L3 : Int32) (b52_L4 : Int32) (b52_L5 : Int32) (b52_L6 : Int32) (M : zMem), self52 b52_L1 b52_L2 b52_L3 b52_L4 b52_L5 b52_L6 M = some (r9, M9) → zJ p l e rm_X10_pair s m args below meth c G shM ad n A 9 (MQ below (zQ G shM ad n M9 (some (.int r9)) A) args s 0 0 A) 0 0 M 52 [(0, .ref (ad 0)), (1, .int b52_L1), (2, .int b52_L2), (3, .int b52_L3), (4, .int b52_L4), (5, .int b52_L5), (6, .int b52_L6)] []) (self65 : Int32 → Int32 → Int32 → Int32 → Int32 → Int32 → Int32 → zMem → Option (Int32 × zMem)) (hs65 : ∀ (b65_L1 : Int32) (b65_L2 : Int32) (b65_L3 : Int32) (b65_L4 : Int32) (b65_L5 : Int32) (b65_L6 : Int32) (b65_L7 : Int32) (M : zMem), self65 b65_L1 b65_L2 b65_L3 b65_L4 b65_L5 b65_L6 b65_L7 M = some (r9, M9) → zJ p l e rm_X10_pair s m args below meth c G shM ad n A 9 (MQ below (zQ G shM ad n M9 (some (.int r9)) A) args s 0 0 A) 0 0 M 65 [(0, .ref (ad 0)), (1, .int b65_L1), (2, .int b65_L2), (3, .int b65_L3), (4, .int b65_L4), (5, .int b65_L5), (6, .int b65_L6), (7, .int b65_L7)] []), ∀ (b130_L1 : Int32) (b130_L2 : Int32) (b130_L3 : Int32) (b130_L4 : Int32) (b130_L5 : Int32) (b130_L6 : Int32) (b130_L7 : Int32) (M : zMem), F_X10_pair_130 p0 p1 self52 self65 b130_L1 b130_L2 b130_L3 b130_L4 b130_L5 b130_L6 b130_L7 M = some (r9, M9) → zJ p l e rm_X10_pair s m args below meth c G shM ad n A 9 (MQ below (zQ G shM ad n M9 (some (.int r9)) A) args s 0 0 A) 0 0 M 130 [(0, .ref (ad 0)), (1, .int b130_L1), (2, .int b130_L2), (3, .int b130_L3), (4, .int b130_L4), (5, .int b130_L5), (6, .int b130_L6), (7, .int b130_L7)] [] := by
    intro self52 hs52 self65 hs65 b130_L1 b130_L2 b130_L3 b130_L4 b130_L5 b130_L6 b130_L7 M hF
    unfold F_X10_pair_130 at hF
    refine z_iinc cx 7 1 [(7, .int (b130_L7 + 1)), (0, .ref (ad 0)), (1, .int b130_L1), (2, .int b130_L2), (3, .int b130_L3), (4, .int b130_L4), (5, .int b130_L5), (6, .int b130_L6)] d_X10_pair_130 7 rfl ki_1 (by decide) rfl ?_
    refine z_goto cx 65 d_X10_pair_133 (by decide) ?_
    exact z_lv [1, 2, 3, 4, 5, 6, 7, 0] _ rfl (hs65 b130_L1 b130_L2 b130_L3 b130_L4 b130_L5 b130_L6 (b130_L7 + 1) M hF)
  have hb119 : ∀ (self52 : Int32 → Int32 → Int32 → Int32 → Int32 → Int32 → zMem → Option (Int32 × zMem)) (hs52 : ∀ (b52_L1 : Int32) (b52_L2 : Int32) (b52_L3 : Int32) (b52_L4 : Int32) (b52_L5 : Int32) (b52_L6 : Int32) (M : zMem), self52 b52_L1 b52_L2 b52_L3 b52_L4 b52_L5 b52_L6 M = some (r9, M9) → zJ p l e rm_X10_pair s m args below meth c G shM ad n A 9 (MQ below (zQ G shM ad n M9 (some (.int r9)) A) args s 0 0 A) 0 0 M 52 [(0, .ref (ad 0)), (1, .int b52_L1), (2, .int b52_L2), (3, .int b52_L3), (4, .int b52_L4), (5, .int b52_L5), (6, .int b52_L6)] []) (self65 : Int32 → Int32 → Int32 → Int32 → Int32 → Int32 → Int32 → zMem → Option (Int32 × zMem)) (hs65 : ∀ (b65_L1 : Int32) (b65_L2 : Int32) (b65_L3 : Int32) (b65_L4 : Int32) (b65_L5 : Int32) (b65_L6 : Int32) (b65_L7 : Int32) (M : zMem), self65 b65_L1 b65_L2 b65_L3 b65_L4 b65_L5 b65_L6 b65_L7 M = some (r9, M9) → zJ p l e rm_X10_pair s m args below meth c G shM ad n A 9 (MQ below (zQ G shM ad n M9 (some (.int r9)) A) args s 0 0 A) 0 0 M 65 [(0, .ref (ad 0)), (1, .int b65_L1), (2, .int b65_L2), (3, .int b65_L3), (4, .int b65_L4), (5, .int b65_L5), (6, .int b65_L6), (7, .int b65_L7)] []), ∀ (b119_L1 : Int32) (b119_L2 : Int32) (b119_L6 : Int32) (b119_L7 : Int32) (b119_L8 : Int32) (M : zMem), F_X10_pair_119 p0 p1 self52 self65 b119_L1 b119_L2 b119_L6 b119_L7 b119_L8 M = some (r9, M9) → zJ p l e rm_X10_pair s m args below meth c G shM ad n A 9 (MQ below (zQ G shM ad n M9 (some (.int r9)) A) args s 0 0 A) 0 0 M 119 [(0, .ref (ad 0)), (1, .int b119_L1), (2, .int b119_L2), (6, .int b119_L6), (7, .int b119_L7), (8, .int b119_L8)] [] := by
    intro self52 hs52 self65 hs65 b119_L1 b119_L2 b119_L6 b119_L7 b119_L8 M hF
    unfold F_X10_pair_119 at hF
    refine z_iload cx d_X10_pair_119 3 rfl ?_
    refine z_istore_n cx 3 [(3, .int b119_L6), (0, .ref (ad 0)), (1, .int b119_L1), (2, .int b119_L2), (6, .int b119_L6), (7, .int b119_L7), (8, .int b119_L8)] d_X10_pair_121 rfl (by decide) rfl ?_
    refine z_iload cx d_X10_pair_122 5 rfl ?_
    refine z_istore cx 4 [(4, .int b119_L7), (3, .int b119_L6), (0, .ref (ad 0)), (1, .int b119_L1), (2, .int b119_L2), (6, .int b119_L6), (7, .int b119_L7), (8, .int b119_L8)] d_X10_pair_124 (by decide) rfl ?_
    refine z_iload cx d_X10_pair_126 7 rfl ?_
    refine z_istore cx 5 [(5, .int b119_L8), (4, .int b119_L7), (3, .int b119_L6), (0, .ref (ad 0)), (1, .int b119_L1), (2, .int b119_L2), (6, .int b119_L6), (7, .int b119_L7), (8, .int b119_L8)] d_X10_pair_128 (by decide) rfl ?_
    exact z_lv [3, 4, 5, 2, 1, 0, 6, 7] _ rfl (hb130 self52 hs52 self65 hs65 b119_L1 b119_L2 b119_L6 b119_L7 b119_L8 b119_L6 b119_L7 M hF)
  have hL65 : ∀ (self52 : Int32 → Int32 → Int32 → Int32 → Int32 → Int32 → zMem → Option (Int32 × zMem)) (hs52 : ∀ (b52_L1 : Int32) (b52_L2 : Int32) (b52_L3 : Int32) (b52_L4 : Int32) (b52_L5 : Int32) (b52_L6 : Int32) (M : zMem), self52 b52_L1 b52_L2 b52_L3 b52_L4 b52_L5 b52_L6 M = some (r9, M9) → zJ p l e rm_X10_pair s m args below meth c G shM ad n A 9 (MQ below (zQ G shM ad n M9 (some (.int r9)) A) args s 0 0 A) 0 0 M 52 [(0, .ref (ad 0)), (1, .int b52_L1), (2, .int b52_L2), (3, .int b52_L3), (4, .int b52_L4), (5, .int b52_L5), (6, .int b52_L6)] []) (fuel : Nat), ∀ (b65_L1 : Int32) (b65_L2 : Int32) (b65_L3 : Int32) (b65_L4 : Int32) (b65_L5 : Int32) (b65_L6 : Int32) (b65_L7 : Int32) (M : zMem), itF (fun _ _ _ _ _ _ _ _ => none) (F_X10_pair_65 p0 p1 self52) fuel b65_L1 b65_L2 b65_L3 b65_L4 b65_L5 b65_L6 b65_L7 M = some (r9, M9) → zJ p l e rm_X10_pair s m args below meth c G shM ad n A 9 (MQ below (zQ G shM ad n M9 (some (.int r9)) A) args s 0 0 A) 0 0 M 65 [(0, .ref (ad 0)), (1, .int b65_L1), (2, .int b65_L2), (3, .int b65_L3), (4, .int b65_L4), (5, .int b65_L5), (6, .int b65_L6), (7, .int b65_L7)] [] := by
    intro self52 hs52 fuel
    induction fuel with
    | zero => intro b65_L1 b65_L2 b65_L3 b65_L4 b65_L5 b65_L6 b65_L7 M hF; cases hF
    | succ fuel hs65 =>
      intro b65_L1 b65_L2 b65_L3 b65_L4 b65_L5 b65_L6 b65_L7 M hF
      have hF : F_X10_pair_65 p0 p1 self52 (itF (fun _ _ _ _ _ _ _ _ => none) (F_X10_pair_65 p0 p1 self52) fuel) b65_L1 b65_L2 b65_L3 b65_L4 b65_L5 b65_L6 b65_L7 M = some (r9, M9) := hF
      generalize itF (fun _ _ _ _ _ _ _ _ => none) (F_X10_pair_65 p0 p1 self52) fuel = self65 at hs65 hF
      unfold F_X10_pair_65 at hF
      refine z_iload cx d_X10_pair_65 7 rfl ?_
      refine z_bipush (v := 64) cx d_X10_pair_67 kb_64 ?_
      refine z_icmp_ge cx 136 d_X10_pair_69 (by decide) hF (fun hF => ?_) (fun hF => ?_)
      · refine z_iinc cx 6 1 [(6, .int (b65_L6 + 1)), (0, .ref (ad 0)), (1, .int b65_L1), (2, .int b65_L2), (3, .int b65_L3), (4, .int b65_L4), (5, .int b65_L5), (7, .int b65_L7)] d_X10_pair_136 6 rfl ki_1 (by decide) rfl ?_
        refine z_goto cx 52 d_X10_pair_139 (by decide) ?_
        exact z_lv [1, 2, 3, 4, 5, 6, 0] _ rfl (hs52 b65_L1 b65_L2 b65_L3 b65_L4 b65_L5 (b65_L6 + 1) M hF)
      refine z_aload_n cx d_X10_pair_72 0 rfl ?_
      refine z_iload cx d_X10_pair_73 6 rfl ?_
      obtain ⟨v4, M3, hc, hF⟩ := zb_inv hF
      refine z_callV cx (As := [.int b65_L6]) (rest := []) (c_X10_isFree l cx.2.2.2.1.1 M b65_L6 hT hc) hT zo_11 cv_SunnyPansModel_348 ⟨rfl, rfl, Nat.le_of_ble_eq_true rfl, Nat.le_of_ble_eq_true rfl⟩ rfl rfl ⟨Nat.zero_le _, Nat.zero_le _⟩ (Nat.le_of_ble_eq_true rfl) d_X10_pair_75 ?_
      refine z_if_eq cx 130 d_X10_pair_78 (by decide) hF (fun hF => ?_) (fun hF => ?_)
      · exact hb130 self52 hs52 self65 hs65 b65_L1 b65_L2 b65_L3 b65_L4 b65_L5 b65_L6 b65_L7 M3 hF
      refine z_aload_n cx d_X10_pair_81 0 rfl ?_
      refine z_iload cx d_X10_pair_82 7 rfl ?_
      obtain ⟨v6, M5, hc, hF⟩ := zb_inv hF
      refine z_callV cx (As := [.int b65_L7]) (rest := []) (c_X10_isFree l cx.2.2.2.1.1 M3 b65_L7 hT hc) hT zo_11 cv_SunnyPansModel_348 ⟨rfl, rfl, Nat.le_of_ble_eq_true rfl, Nat.le_of_ble_eq_true rfl⟩ rfl rfl ⟨Nat.zero_le _, Nat.zero_le _⟩ (Nat.le_of_ble_eq_true rfl) d_X10_pair_84 ?_
      refine z_if_ne cx 93 d_X10_pair_87 (by decide) hF (fun hF => ?_) (fun hF => ?_)
      · refine z_aload_n cx d_X10_pair_93 0 rfl ?_
        refine z_iload cx d_X10_pair_94 6 rfl ?_
        refine z_iload cx d_X10_pair_96 7 rfl ?_
        refine z_iload_n cx d_X10_pair_98 1 rfl ?_
        obtain ⟨v8, M7, hc, hF⟩ := zb_inv hF
        refine z_callV cx (As := [.int b65_L6, .int b65_L7, .int b65_L1]) (rest := []) (c_X10_shades l cx.2.2.2.1.1 M5 b65_L6 b65_L7 b65_L1 hT hc) hT zo_11 cv_SunnyPansModel_351 ⟨rfl, rfl, Nat.le_of_ble_eq_true rfl, Nat.le_of_ble_eq_true rfl⟩ rfl rfl ⟨Nat.zero_le _, Nat.zero_le _⟩ (Nat.le_of_ble_eq_true rfl) d_X10_pair_99 ?_
        refine z_istore cx 8 [(8, .int v8), (0, .ref (ad 0)), (1, .int b65_L1), (2, .int b65_L2), (3, .int b65_L3), (4, .int b65_L4), (5, .int b65_L5), (6, .int b65_L6), (7, .int b65_L7)] d_X10_pair_102 (by decide) rfl ?_
        refine z_iload_n cx d_X10_pair_104 4 rfl ?_
        refine z_iconst (v := -1) cx d_X10_pair_105 ki_m1 ?_
        refine z_icmp_eq cx 119 d_X10_pair_106 (by decide) hF (fun hF => ?_) (fun hF => ?_)
        · exact z_lv [1, 2, 3, 7, 8, 0] _ rfl (hb119 self52 hs52 self65 hs65 b65_L1 b65_L2 b65_L6 b65_L7 v8 M7 hF)
        refine z_iload cx d_X10_pair_109 0 rfl ?_
        refine z_iload cx d_X10_pair_111 6 rfl ?_
        refine z_icmp_lt cx 119 d_X10_pair_113 (by decide) hF (fun hF => ?_) (fun hF => ?_)
        · exact z_lv [1, 2, 3, 7, 8, 0] _ rfl (hb119 self52 hs52 self65 hs65 b65_L1 b65_L2 b65_L6 b65_L7 v8 M7 hF)
        refine z_goto cx 130 d_X10_pair_116 (by decide) ?_
        exact z_lv [1, 2, 3, 4, 5, 6, 7, 8] _ rfl (hb130 self52 hs52 self65 hs65 b65_L1 b65_L2 b65_L3 b65_L4 b65_L5 b65_L6 b65_L7 M7 hF)
      refine z_goto cx 130 d_X10_pair_90 (by decide) ?_
      exact hb130 self52 hs52 self65 hs65 b65_L1 b65_L2 b65_L3 b65_L4 b65_L5 b65_L6 b65_L7 M5 hF
  have hL52 : ∀ (fuel : Nat), ∀ (b52_L1 : Int32) (b52_L2 : Int32) (b52_L3 : Int32) (b52_L4 : Int32) (b52_L5 : Int32) (b52_L6 : Int32) (M : zMem), itF (fun _ _ _ _ _ _ _ => none) (F_X10_pair_52 p0 p1) fuel b52_L1 b52_L2 b52_L3 b52_L4 b52_L5 b52_L6 M = some (r9, M9) → zJ p l e rm_X10_pair s m args below meth c G shM ad n A 9 (MQ below (zQ G shM ad n M9 (some (.int r9)) A) args s 0 0 A) 0 0 M 52 [(0, .ref (ad 0)), (1, .int b52_L1), (2, .int b52_L2), (3, .int b52_L3), (4, .int b52_L4), (5, .int b52_L5), (6, .int b52_L6)] [] := by
    intro fuel
    induction fuel with
    | zero => intro b52_L1 b52_L2 b52_L3 b52_L4 b52_L5 b52_L6 M hF; cases hF
    | succ fuel hs52 =>
      intro b52_L1 b52_L2 b52_L3 b52_L4 b52_L5 b52_L6 M hF
      have hF : F_X10_pair_52 p0 p1 (itF (fun _ _ _ _ _ _ _ => none) (F_X10_pair_52 p0 p1) fuel) b52_L1 b52_L2 b52_L3 b52_L4 b52_L5 b52_L6 M = some (r9, M9) := hF
      generalize itF (fun _ _ _ _ _ _ _ => none) (F_X10_pair_52 p0 p1) fuel = self52 at hs52 hF
      unfold F_X10_pair_52 at hF
      refine z_iload cx d_X10_pair_52 6 rfl ?_
      refine z_bipush (v := 64) cx d_X10_pair_54 kb_64 ?_
      refine z_icmp_ge cx 142 d_X10_pair_56 (by decide) hF (fun hF => ?_) (fun hF => ?_)
      · refine z_iload_n cx d_X10_pair_142 2 rfl ?_
        refine z_iconst (v := 2) cx d_X10_pair_143 ki_2 ?_
        refine z_icmp_ne cx 152 d_X10_pair_144 (by decide) hF (fun hF => ?_) (fun hF => ?_)
        · refine z_iload_n cx d_X10_pair_152 2 rfl ?_
          refine z_if_ne cx 160 d_X10_pair_153 (by decide) hF (fun hF => ?_) (fun hF => ?_)
          · refine z_iload cx d_X10_pair_160 4 rfl ?_
            exact z_lv [] _ rfl (hb162 b52_L4 M hF)
          refine z_iload_n cx d_X10_pair_156 3 rfl ?_
          refine z_goto cx 162 d_X10_pair_157 (by decide) ?_
          exact z_lv [] _ rfl (hb162 b52_L3 M hF)
        refine z_iload cx d_X10_pair_147 5 rfl ?_
        refine z_goto cx 165 d_X10_pair_149 (by decide) ?_
        exact z_iret cx hr rfl hF d_X10_pair_165
      refine z_iload cx d_X10_pair_59 6 rfl ?_
      refine z_iconst (v := 1) cx d_X10_pair_61 ki_1 ?_
      refine z_iadd cx d_X10_pair_62 ?_
      refine z_nm hF (fun v9 hF => ?_)
      refine z_istore cx 7 [(7, .int v9), (0, .ref (ad 0)), (1, .int b52_L1), (2, .int b52_L2), (3, .int b52_L3), (4, .int b52_L4), (5, .int b52_L5), (6, .int b52_L6)] d_X10_pair_63 (by decide) rfl ?_
      exact z_lv [1, 2, 3, 4, 5, 6, 7, 0] _ rfl (hL65 self52 hs52 zFuel b52_L1 b52_L2 b52_L3 b52_L4 b52_L5 b52_L6 v9 M hF)
  have hb31 : ∀ (b31_L1 : Int32) (b31_L2 : Int32) (b31_S1 : Int32) (M : zMem), F_X10_pair_31 p0 p1 b31_L1 b31_L2 b31_S1 M = some (r9, M9) → zJ p l e rm_X10_pair s m args below meth c G shM ad n A 9 (MQ below (zQ G shM ad n M9 (some (.int r9)) A) args s 0 0 A) 0 0 M 31 [(0, .ref (ad 0)), (1, .int b31_L1), (2, .int b31_L2)] [.int b31_S1, .ref (ad 0)] := by
    intro b31_L1 b31_L2 b31_S1 M hF
    unfold F_X10_pair_31 at hF
    refine z_iconst (v := 1) cx d_X10_pair_31 ki_1 ?_
    refine z_iconst (v := 1) cx d_X10_pair_32 ki_1 ?_
    obtain ⟨v11, M10, hc, hF⟩ := zb_inv hF
    refine z_callV cx (As := [.int b31_S1, .int (1 : Int32), .int (1 : Int32)]) (rest := []) (c_X10_bad l cx.2.2.2.1.1 M b31_S1 (1 : Int32) (1 : Int32) hT hc) hT zo_11 cv_SunnyPansModel_155 ⟨rfl, rfl, Nat.le_of_ble_eq_true rfl, Nat.le_of_ble_eq_true rfl⟩ rfl rfl ⟨Nat.zero_le _, Nat.zero_le _⟩ (Nat.le_of_ble_eq_true rfl) d_X10_pair_33 ?_
    refine z_if_eq cx 41 d_X10_pair_36 (by decide) hF (fun hF => ?_) (fun hF => ?_)
    · refine z_iconst (v := -1) cx d_X10_pair_41 ki_m1 ?_
      refine z_istore_n cx 3 [(3, .int (-1 : Int32)), (0, .ref (ad 0)), (1, .int b31_L1), (2, .int b31_L2)] d_X10_pair_42 rfl (by decide) rfl ?_
      refine z_iconst (v := -1) cx d_X10_pair_43 ki_m1 ?_
      refine z_istore cx 4 [(4, .int (-1 : Int32)), (3, .int (-1 : Int32)), (0, .ref (ad 0)), (1, .int b31_L1), (2, .int b31_L2)] d_X10_pair_44 (by decide) rfl ?_
      refine z_iconst (v := -1) cx d_X10_pair_46 ki_m1 ?_
      refine z_istore cx 5 [(5, .int (-1 : Int32)), (4, .int (-1 : Int32)), (3, .int (-1 : Int32)), (0, .ref (ad 0)), (1, .int b31_L1), (2, .int b31_L2)] d_X10_pair_47 (by decide) rfl ?_
      refine z_iconst (v := 0) cx d_X10_pair_49 ki_0 ?_
      refine z_istore cx 6 [(6, .int (0 : Int32)), (5, .int (-1 : Int32)), (4, .int (-1 : Int32)), (3, .int (-1 : Int32)), (0, .ref (ad 0)), (1, .int b31_L1), (2, .int b31_L2)] d_X10_pair_50 (by decide) rfl ?_
      exact z_lv [4, 5, 6, 3, 2, 1, 0] _ rfl (hL52 zFuel b31_L1 b31_L2 (-1 : Int32) (-1 : Int32) (-1 : Int32) (0 : Int32) M10 hF)
    refine z_iconst (v := 0) cx d_X10_pair_39 ki_0 ?_
    exact z_iret cx hr rfl hF d_X10_pair_40
  unfold F_X10_pair at hF
  refine z_aload_n cx d_X10_pair_0 0 rfl ?_
  refine z_iconst (v := 0) cx d_X10_pair_1 ki_0 ?_
  refine z_putI cx hT fp_SunnyPansModel_82 d_X10_pair_2 ?_
  refine z_nmM hF (fun M12 hF => ?_)
  refine z_aload_n cx d_X10_pair_5 0 rfl ?_
  refine z_iload_n cx d_X10_pair_6 1 rfl ?_
  refine z_iconst (v := 1) cx d_X10_pair_7 ki_1 ?_
  refine z_sipush (v := 999) cx d_X10_pair_8 ks_999 ?_
  obtain ⟨v14, M13, hc, hF⟩ := zb_inv hF
  refine z_callS cx (As := [.int p0, .int (1 : Int32), .int (999 : Int32)]) (rest := [.ref (ad 0)]) (c_X10_in l cx.2.2.2.1.1 M12 p0 (1 : Int32) (999 : Int32)  hc) cs_SunnyPansModel_116 ⟨rfl, rfl, Nat.le_of_ble_eq_true rfl, Nat.le_of_ble_eq_true rfl⟩ rfl rfl ⟨Nat.zero_le _, Nat.zero_le _⟩ (Nat.le_of_ble_eq_true rfl) d_X10_pair_11 ?_
  refine z_if_eq cx 26 d_X10_pair_14 (by decide) hF (fun hF => ?_) (fun hF => ?_)
  · refine z_iconst (v := 1) cx d_X10_pair_26 ki_1 ?_
    refine z_goto cx 31 d_X10_pair_27 (by decide) ?_
    exact hb31 p0 p1 (1 : Int32) M13 hF
  refine z_iload_n cx d_X10_pair_17 2 rfl ?_
  refine z_iconst (v := 0) cx d_X10_pair_18 ki_0 ?_
  refine z_iconst (v := 2) cx d_X10_pair_19 ki_2 ?_
  obtain ⟨v16, M15, hc, hF⟩ := zb_inv hF
  refine z_callS cx (As := [.int p1, .int (0 : Int32), .int (2 : Int32)]) (rest := [.ref (ad 0)]) (c_X10_in l cx.2.2.2.1.1 M13 p1 (0 : Int32) (2 : Int32)  hc) cs_SunnyPansModel_116 ⟨rfl, rfl, Nat.le_of_ble_eq_true rfl, Nat.le_of_ble_eq_true rfl⟩ rfl rfl ⟨Nat.zero_le _, Nat.zero_le _⟩ (Nat.le_of_ble_eq_true rfl) d_X10_pair_20 ?_
  refine z_if_ne cx 30 d_X10_pair_23 (by decide) hF (fun hF => ?_) (fun hF => ?_)
  · refine z_iconst (v := 0) cx d_X10_pair_30 ki_0 ?_
    exact hb31 p0 p1 (0 : Int32) M15 hF
  refine z_iconst (v := 1) cx d_X10_pair_26 ki_1 ?_
  refine z_goto cx 31 d_X10_pair_27 (by decide) ?_
  exact hb31 p0 p1 (1 : Int32) M15 hF
