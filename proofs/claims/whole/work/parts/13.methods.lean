/-! SunnyPansModel.number -/
set_option maxRecDepth 100000 in
theorem wd_1582 : Cond.code yX10_isDigit cX10_isDigit 1 (some .boolean) ∈ tbG := tw7 42 rfl rfl
set_option maxRecDepth 100000 in
theorem wd_1580 : Cond.methodLink "SunnyPansModel" 107 yX10_isDigit ∈ tbG := tw7 40 rfl rfl
set_option maxRecDepth 100000 in
theorem wd_1581 : Cond.static yX10_isDigit ∈ tbG := tw7 41 rfl rfl
theorem cs_SunnyPansModel_107 : zCS "SunnyPansModel" 107 yX10_isDigit cX10_isDigit 1 (some .boolean) 1 := zCS_of wd_1580 wd_1581 wd_111 wd_1582 (by decide +kernel)
set_option maxRecDepth 100000 in
theorem wd_1529 : Cond.code yX10_in cX10_in 3 (some .boolean) ∈ tbG := tw6 229 rfl rfl
set_option maxRecDepth 100000 in
theorem wd_1527 : Cond.methodLink "SunnyPansModel" 116 yX10_in ∈ tbG := tw6 227 rfl rfl
set_option maxRecDepth 100000 in
theorem wd_1528 : Cond.static yX10_in ∈ tbG := tw6 228 rfl rfl
theorem cs_SunnyPansModel_116 : zCS "SunnyPansModel" 116 yX10_in cX10_in 3 (some .boolean) 3 := zCS_of wd_1527 wd_1528 wd_111 wd_1529 (by decide +kernel)
set_option maxRecDepth 100000 in
theorem wd_1571 : Cond.code yX10_wrong cX10_wrong 3 none ∈ tbG := tw7 31 rfl rfl
set_option maxRecDepth 100000 in
theorem wd_1568 : Cond.methodLink "SunnyPansModel" 111 yX10_wrong ∈ tbG := tw7 28 rfl rfl
set_option maxRecDepth 100000 in
theorem wd_1570 : Cond.instanceMethod yX10_wrong ∈ tbG := tw7 30 rfl rfl
theorem wd_51 : Cond.selects "SunnyPansModel" yX10_wrong yX10_wrong ∈ tbG := tw 51 (by decide +kernel) rfl
theorem cv_SunnyPansModel_111 : zCV "SunnyPansModel" 111 "SunnyPansModel" yX10_wrong cX10_wrong 3 none 2 := zCV_of wd_1568 wd_1570 wd_51 wd_111 wd_1571 (by decide +kernel)
set_option maxRecDepth 100000 in
theorem wd_1583 : Cond.constant "SunnyPansModel" 115 (100000) ∈ tbG := tw7 43 rfl rfl
set_option maxRecDepth 100000 in
theorem wd_1541 : Cond.code yX10_blanks cX10_blanks 1 none ∈ tbG := tw7 1 rfl rfl
set_option maxRecDepth 100000 in
theorem wd_1538 : Cond.methodLink "SunnyPansModel" 104 yX10_blanks ∈ tbG := tw6 238 rfl rfl
set_option maxRecDepth 100000 in
theorem wd_1540 : Cond.instanceMethod yX10_blanks ∈ tbG := tw7 0 rfl rfl
theorem wd_45 : Cond.selects "SunnyPansModel" yX10_blanks yX10_blanks ∈ tbG := tw 45 (by decide +kernel) rfl
theorem cv_SunnyPansModel_104 : zCV "SunnyPansModel" 104 "SunnyPansModel" yX10_blanks cX10_blanks 1 none 0 := zCV_of wd_1538 wd_1540 wd_45 wd_111 wd_1541 (by decide +kernel)
theorem d_X10_number_0 : decode cX10_number 0 = .ok (.aload_n 0, 1) := by decide +kernel
theorem d_X10_number_1 : decode cX10_number 1 = .ok (.getfield 98, 3) := by decide +kernel
theorem d_X10_number_4 : decode cX10_number 4 = .ok (.ifCond .eq 5, 3) := by decide +kernel
theorem d_X10_number_7 : decode cX10_number 7 = .ok (.iconst 0, 1) := by decide +kernel
theorem d_X10_number_8 : decode cX10_number 8 = .ok (.ireturn, 1) := by decide +kernel
theorem d_X10_number_9 : decode cX10_number 9 = .ok (.aload_n 0, 1) := by decide +kernel
theorem d_X10_number_10 : decode cX10_number 10 = .ok (.invokevirtual 104, 3) := by decide +kernel
theorem d_X10_number_13 : decode cX10_number 13 = .ok (.aload_n 0, 1) := by decide +kernel
theorem d_X10_number_14 : decode cX10_number 14 = .ok (.getfield 91, 3) := by decide +kernel
theorem d_X10_number_17 : decode cX10_number 17 = .ok (.istore_n 3, 1) := by decide +kernel
theorem d_X10_number_18 : decode cX10_number 18 = .ok (.iconst 0, 1) := by decide +kernel
theorem d_X10_number_19 : decode cX10_number 19 = .ok (.istore 4, 2) := by decide +kernel
theorem d_X10_number_21 : decode cX10_number 21 = .ok (.aload_n 0, 1) := by decide +kernel
theorem d_X10_number_22 : decode cX10_number 22 = .ok (.aload_n 0, 1) := by decide +kernel
theorem d_X10_number_23 : decode cX10_number 23 = .ok (.getfield 91, 3) := by decide +kernel
theorem d_X10_number_26 : decode cX10_number 26 = .ok (.invokevirtual 94, 3) := by decide +kernel
theorem d_X10_number_29 : decode cX10_number 29 = .ok (.invokestatic 107, 3) := by decide +kernel
theorem d_X10_number_32 : decode cX10_number 32 = .ok (.ifCond .ne 12, 3) := by decide +kernel
theorem d_X10_number_35 : decode cX10_number 35 = .ok (.aload_n 0, 1) := by decide +kernel
theorem d_X10_number_36 : decode cX10_number 36 = .ok (.iconst 1, 1) := by decide +kernel
theorem d_X10_number_37 : decode cX10_number 37 = .ok (.aload_n 0, 1) := by decide +kernel
theorem d_X10_number_38 : decode cX10_number 38 = .ok (.getfield 91, 3) := by decide +kernel
theorem d_X10_number_41 : decode cX10_number 41 = .ok (.invokevirtual 111, 3) := by decide +kernel
theorem d_X10_number_44 : decode cX10_number 44 = .ok (.aload_n 0, 1) := by decide +kernel
theorem d_X10_number_45 : decode cX10_number 45 = .ok (.aload_n 0, 1) := by decide +kernel
theorem d_X10_number_46 : decode cX10_number 46 = .ok (.getfield 91, 3) := by decide +kernel
theorem d_X10_number_49 : decode cX10_number 49 = .ok (.invokevirtual 94, 3) := by decide +kernel
theorem d_X10_number_52 : decode cX10_number 52 = .ok (.invokestatic 107, 3) := by decide +kernel
theorem d_X10_number_55 : decode cX10_number 55 = .ok (.ifCond .eq 51, 3) := by decide +kernel
theorem d_X10_number_58 : decode cX10_number 58 = .ok (.bipush 10, 2) := by decide +kernel
theorem d_X10_number_60 : decode cX10_number 60 = .ok (.iload 4, 2) := by decide +kernel
theorem d_X10_number_62 : decode cX10_number 62 = .ok (.imul, 1) := by decide +kernel
theorem d_X10_number_63 : decode cX10_number 63 = .ok (.aload_n 0, 1) := by decide +kernel
theorem d_X10_number_64 : decode cX10_number 64 = .ok (.aload_n 0, 1) := by decide +kernel
theorem d_X10_number_65 : decode cX10_number 65 = .ok (.getfield 91, 3) := by decide +kernel
theorem d_X10_number_68 : decode cX10_number 68 = .ok (.invokevirtual 94, 3) := by decide +kernel
theorem d_X10_number_71 : decode cX10_number 71 = .ok (.iadd, 1) := by decide +kernel
theorem d_X10_number_72 : decode cX10_number 72 = .ok (.bipush 48, 2) := by decide +kernel
theorem d_X10_number_74 : decode cX10_number 74 = .ok (.isub, 1) := by decide +kernel
theorem d_X10_number_75 : decode cX10_number 75 = .ok (.istore 4, 2) := by decide +kernel
theorem d_X10_number_77 : decode cX10_number 77 = .ok (.iload 4, 2) := by decide +kernel
theorem d_X10_number_79 : decode cX10_number 79 = .ok (.ldc 115, 2) := by decide +kernel
theorem d_X10_number_81 : decode cX10_number 81 = .ok (.if_icmp .le 8, 3) := by decide +kernel
theorem d_X10_number_84 : decode cX10_number 84 = .ok (.ldc 115, 2) := by decide +kernel
theorem d_X10_number_86 : decode cX10_number 86 = .ok (.goto 5, 3) := by decide +kernel
theorem d_X10_number_89 : decode cX10_number 89 = .ok (.iload 4, 2) := by decide +kernel
theorem d_X10_number_91 : decode cX10_number 91 = .ok (.istore 4, 2) := by decide +kernel
theorem d_X10_number_93 : decode cX10_number 93 = .ok (.aload_n 0, 1) := by decide +kernel
theorem d_X10_number_94 : decode cX10_number 94 = .ok (.dup, 1) := by decide +kernel
theorem d_X10_number_95 : decode cX10_number 95 = .ok (.getfield 91, 3) := by decide +kernel
theorem d_X10_number_98 : decode cX10_number 98 = .ok (.iconst 1, 1) := by decide +kernel
theorem d_X10_number_99 : decode cX10_number 99 = .ok (.iadd, 1) := by decide +kernel
theorem d_X10_number_100 : decode cX10_number 100 = .ok (.putfield 91, 3) := by decide +kernel
theorem d_X10_number_103 : decode cX10_number 103 = .ok (.goto (-59), 3) := by decide +kernel
theorem d_X10_number_106 : decode cX10_number 106 = .ok (.iload 4, 2) := by decide +kernel
theorem d_X10_number_108 : decode cX10_number 108 = .ok (.iload_n 1, 1) := by decide +kernel
theorem d_X10_number_109 : decode cX10_number 109 = .ok (.iload_n 2, 1) := by decide +kernel
theorem d_X10_number_110 : decode cX10_number 110 = .ok (.invokestatic 116, 3) := by decide +kernel
theorem d_X10_number_113 : decode cX10_number 113 = .ok (.ifCond .ne 9, 3) := by decide +kernel
theorem d_X10_number_116 : decode cX10_number 116 = .ok (.aload_n 0, 1) := by decide +kernel
theorem d_X10_number_117 : decode cX10_number 117 = .ok (.iconst 2, 1) := by decide +kernel
theorem d_X10_number_118 : decode cX10_number 118 = .ok (.iload_n 3, 1) := by decide +kernel
theorem d_X10_number_119 : decode cX10_number 119 = .ok (.invokevirtual 111, 3) := by decide +kernel
theorem d_X10_number_122 : decode cX10_number 122 = .ok (.aload_n 0, 1) := by decide +kernel
theorem d_X10_number_123 : decode cX10_number 123 = .ok (.getfield 98, 3) := by decide +kernel
theorem d_X10_number_126 : decode cX10_number 126 = .ok (.ifCond .ne 8, 3) := by decide +kernel
theorem d_X10_number_129 : decode cX10_number 129 = .ok (.iload 4, 2) := by decide +kernel
theorem d_X10_number_131 : decode cX10_number 131 = .ok (.goto 4, 3) := by decide +kernel
theorem d_X10_number_134 : decode cX10_number 134 = .ok (.iconst 0, 1) := by decide +kernel
theorem d_X10_number_135 : decode cX10_number 135 = .ok (.ireturn, 1) := by decide +kernel
def F_X10_number_122 (p0 : Int32) (p1 : Int32) (b122_L4 : Int32) (M : zMem) : Option (Int32 × zMem) :=
  if (M.1 0 5) = 0 then
    some (b122_L4, M)
  else
    some ((0 : Int32), M)
def F_X10_number_91 (p0 : Int32) (p1 : Int32) (self44 : Int32 → Int32 → Int32 → Int32 → zMem → Option (Int32 × zMem)) (b91_L1 : Int32) (b91_L2 : Int32) (b91_L3 : Int32) (b91_S0 : Int32) (M : zMem) : Option (Int32 × zMem) :=
  zl (zI M 0 4 ((M.1 0 4) + (1 : Int32))) fun M1 =>
  self44 b91_L1 b91_L2 b91_L3 b91_S0 M1
def F_X10_number_44 (p0 : Int32) (p1 : Int32) (self44 : Int32 → Int32 → Int32 → Int32 → zMem → Option (Int32 × zMem)) (b44_L1 : Int32) (b44_L2 : Int32) (b44_L3 : Int32) (b44_L4 : Int32) (M : zMem) : Option (Int32 × zMem) :=
  zb (F_X10_byteAt M (M.1 0 4)) fun v3 M2 =>
  zb (F_X10_isDigit M2 v3) fun v5 M4 =>
  if v5 = 0 then
    zb (F_X10_in M4 b44_L4 b44_L1 b44_L2) fun v7 M6 =>
    if v7 = 0 then
      zbv (F_X10_wrong M6 (2 : Int32) b44_L3) fun M8 =>
      F_X10_number_122 p0 p1 b44_L4 M8
    else
      F_X10_number_122 p0 p1 b44_L4 M6
  else
    zb (F_X10_byteAt M4 (M4.1 0 4)) fun v10 M9 =>
    zl ((((10 : Int32) * b44_L4) + v10) - (48 : Int32)) fun v11 =>
    if v11 ≤ (100000 : Int32) then
      F_X10_number_91 p0 p1 self44 b44_L1 b44_L2 b44_L3 v11 M9
    else
      F_X10_number_91 p0 p1 self44 b44_L1 b44_L2 b44_L3 (100000 : Int32) M9
def F_X10_number (M : zMem) (p0 : Int32) (p1 : Int32) : Option (Int32 × zMem) :=
  if (M.1 0 5) = 0 then
    zbv (F_X10_blanks M) fun M12 =>
    zl (M12.1 0 4) fun v13 =>
    zb (F_X10_byteAt M12 (M12.1 0 4)) fun v15 M14 =>
    zb (F_X10_isDigit M14 v15) fun v17 M16 =>
    if v17 = 0 then
      zbv (F_X10_wrong M16 (1 : Int32) (M16.1 0 4)) fun M18 =>
      itF (fun _ _ _ _ _ => none) (F_X10_number_44 p0 p1) zFuel p0 p1 v13 (0 : Int32) M18
    else
      itF (fun _ _ _ _ _ => none) (F_X10_number_44 p0 p1) zFuel p0 p1 v13 (0 : Int32) M16
  else
    some ((0 : Int32), M)
def rm_X10_number : Room := { frames := 4, cells := 0, slots := 0, locals := 121 }
set_option maxHeartbeats 4000000 in
set_option maxRecDepth 100000 in
theorem c_X10_number (l : Launch) {G : zG} {ad : Nat → Nat} {n : Nat} (hA : zInj ad n) (M : zMem) (p0 : Int32) (p1 : Int32) (hT : zT shM n 0 11) {r9 : Int32} {M9 : zMem} (hF : F_X10_number M p0 p1 = some (r9, M9)) : zM l yX10_number cX10_number 5 (some .int) rm_X10_number G shM ad n M [.ref (ad 0), .int p0, .int p1] (some (.int r9)) M9 := by
  refine zM_of hA (by decide +kernel) (lv := [(0, .ref (ad 0)), (1, .int p0), (2, .int p1)]) (Nat.le_of_ble_eq_true rfl) rfl (fun p e s m args below meth c A cx hr => ?_)
  have hb122 : ∀ (b122_L4 : Int32) (M : zMem), F_X10_number_122 p0 p1 b122_L4 M = some (r9, M9) → zJ p l e rm_X10_number s m args below meth c G shM ad n A 5 (MQ below (zQ G shM ad n M9 (some (.int r9)) A) args s 0 0 A) 0 0 M 122 [(0, .ref (ad 0)), (4, .int b122_L4)] [] := by
    intro b122_L4 M hF
    unfold F_X10_number_122 at hF
    refine z_aload_n cx d_X10_number_122 0 rfl ?_
    refine z_getI cx hT fg_SunnyPansModel_98 d_X10_number_123 ?_
    refine z_if_ne cx 134 d_X10_number_126 (by decide) hF (fun hF => ?_) (fun hF => ?_)
    · refine z_iconst (v := 0) cx d_X10_number_134 ki_0 ?_
      exact z_iret cx hr rfl hF d_X10_number_135
    refine z_iload cx d_X10_number_129 1 rfl ?_
    refine z_goto cx 135 d_X10_number_131 (by decide) ?_
    exact z_iret cx hr rfl hF d_X10_number_135
  have hb91 : ∀ (self44 : Int32 → Int32 → Int32 → Int32 → zMem → Option (Int32 × zMem)) (hs44 : ∀ (b44_L1 : Int32) (b44_L2 : Int32) (b44_L3 : Int32) (b44_L4 : Int32) (M : zMem), self44 b44_L1 b44_L2 b44_L3 b44_L4 M = some (r9, M9) → zJ p l e rm_X10_number s m args below meth c G shM ad n A 5 (MQ below (zQ G shM ad n M9 (some (.int r9)) A) args s 0 0 A) 0 0 M 44 [(0, .ref (ad 0)), (1, .int b44_L1), (2, .int b44_L2), (3, .int b44_L3), (4, .int b44_L4)] []), ∀ (b91_L1 : Int32) (b91_L2 : Int32) (b91_L3 : Int32) (b91_S0 : Int32) (M : zMem), F_X10_number_91 p0 p1 self44 b91_L1 b91_L2 b91_L3 b91_S0 M = some (r9, M9) → zJ p l e rm_X10_number s m args below meth c G shM ad n A 5 (MQ below (zQ G shM ad n M9 (some (.int r9)) A) args s 0 0 A) 0 0 M 91 [(0, .ref (ad 0)), (1, .int b91_L1), (2, .int b91_L2), (3, .int b91_L3)] [.int b91_S0] := by
    intro self44 hs44 b91_L1 b91_L2 b91_L3 b91_S0 M hF
    unfold F_X10_number_91 at hF
    refine z_istore cx 4 [(4, .int b91_S0), (0, .ref (ad 0)), (1, .int b91_L1), (2, .int b91_L2), (3, .int b91_L3)] d_X10_number_91 (by decide) rfl ?_
    refine z_aload_n cx d_X10_number_93 1 rfl ?_
    refine z_dup cx d_X10_number_94 rfl ?_
    refine z_getI cx hT fg_SunnyPansModel_91 d_X10_number_95 ?_
    refine z_iconst (v := 1) cx d_X10_number_98 ki_1 ?_
    refine z_iadd cx d_X10_number_99 ?_
    refine z_putI cx hT fp_SunnyPansModel_91 d_X10_number_100 ?_
    refine z_nmM hF (fun M1 hF => ?_)
    refine z_goto cx 44 d_X10_number_103 (by decide) ?_
    exact z_lv [1, 2, 3, 4, 0] _ rfl (hs44 b91_L1 b91_L2 b91_L3 b91_S0 M1 hF)
  have hL44 : ∀ (fuel : Nat), ∀ (b44_L1 : Int32) (b44_L2 : Int32) (b44_L3 : Int32) (b44_L4 : Int32) (M : zMem), itF (fun _ _ _ _ _ => none) (F_X10_number_44 p0 p1) fuel b44_L1 b44_L2 b44_L3 b44_L4 M = some (r9, M9) → zJ p l e rm_X10_number s m args below meth c G shM ad n A 5 (MQ below (zQ G shM ad n M9 (some (.int r9)) A) args s 0 0 A) 0 0 M 44 [(0, .ref (ad 0)), (1, .int b44_L1), (2, .int b44_L2), (3, .int b44_L3), (4, .int b44_L4)] [] := by
    intro fuel
    induction fuel with
    | zero => intro b44_L1 b44_L2 b44_L3 b44_L4 M hF; cases hF
    | succ fuel hs44 =>
      intro b44_L1 b44_L2 b44_L3 b44_L4 M hF
      have hF : F_X10_number_44 p0 p1 (itF (fun _ _ _ _ _ => none) (F_X10_number_44 p0 p1) fuel) b44_L1 b44_L2 b44_L3 b44_L4 M = some (r9, M9) := hF
      generalize itF (fun _ _ _ _ _ => none) (F_X10_number_44 p0 p1) fuel = self44 at hs44 hF
      unfold F_X10_number_44 at hF
      refine z_aload_n cx d_X10_number_44 0 rfl ?_
      refine z_aload_n cx d_X10_number_45 0 rfl ?_
      refine z_getI cx hT fg_SunnyPansModel_91 d_X10_number_46 ?_
      obtain ⟨v3, M2, hc, hF⟩ := zb_inv hF
      refine z_callV cx (As := [.int (M.1 0 4)]) (rest := []) (c_X10_byteAt l cx.2.2.2.1.1 M (M.1 0 4) hT hc) hT zo_11 cv_SunnyPansModel_94 ⟨rfl, rfl, Nat.le_of_ble_eq_true rfl, Nat.le_of_ble_eq_true rfl⟩ rfl rfl ⟨Nat.zero_le _, Nat.zero_le _⟩ (Nat.le_of_ble_eq_true rfl) d_X10_number_49 ?_
      obtain ⟨v5, M4, hc, hF⟩ := zb_inv hF
      refine z_callS cx (As := [.int v3]) (rest := []) (c_X10_isDigit l cx.2.2.2.1.1 M2 v3  hc) cs_SunnyPansModel_107 ⟨rfl, rfl, Nat.le_of_ble_eq_true rfl, Nat.le_of_ble_eq_true rfl⟩ rfl rfl ⟨Nat.zero_le _, Nat.zero_le _⟩ (Nat.le_of_ble_eq_true rfl) d_X10_number_52 ?_
      refine z_if_eq cx 106 d_X10_number_55 (by decide) hF (fun hF => ?_) (fun hF => ?_)
      · refine z_iload cx d_X10_number_106 4 rfl ?_
        refine z_iload_n cx d_X10_number_108 1 rfl ?_
        refine z_iload_n cx d_X10_number_109 2 rfl ?_
        obtain ⟨v7, M6, hc, hF⟩ := zb_inv hF
        refine z_callS cx (As := [.int b44_L4, .int b44_L1, .int b44_L2]) (rest := []) (c_X10_in l cx.2.2.2.1.1 M4 b44_L4 b44_L1 b44_L2  hc) cs_SunnyPansModel_116 ⟨rfl, rfl, Nat.le_of_ble_eq_true rfl, Nat.le_of_ble_eq_true rfl⟩ rfl rfl ⟨Nat.zero_le _, Nat.zero_le _⟩ (Nat.le_of_ble_eq_true rfl) d_X10_number_110 ?_
        refine z_if_ne cx 122 d_X10_number_113 (by decide) hF (fun hF => ?_) (fun hF => ?_)
        · exact z_lv [0, 4] _ rfl (hb122 b44_L4 M6 hF)
        refine z_aload_n cx d_X10_number_116 0 rfl ?_
        refine z_iconst (v := 2) cx d_X10_number_117 ki_2 ?_
        refine z_iload_n cx d_X10_number_118 3 rfl ?_
        obtain ⟨M8, hc, hF⟩ := zbv_inv hF
        refine z_callV cx (As := [.int (2 : Int32), .int b44_L3]) (rest := []) (c_X10_wrong l cx.2.2.2.1.1 M6 (2 : Int32) b44_L3 hT hc) hT zo_11 cv_SunnyPansModel_111 ⟨rfl, rfl, Nat.le_of_ble_eq_true rfl, Nat.le_of_ble_eq_true rfl⟩ rfl rfl ⟨Nat.zero_le _, Nat.zero_le _⟩ (Nat.le_of_ble_eq_true rfl) d_X10_number_119 ?_
        exact z_lv [0, 4] _ rfl (hb122 b44_L4 M8 hF)
      refine z_bipush (v := 10) cx d_X10_number_58 kb_10 ?_
      refine z_iload cx d_X10_number_60 4 rfl ?_
      refine z_imul cx d_X10_number_62 ?_
      refine z_aload_n cx d_X10_number_63 0 rfl ?_
      refine z_aload_n cx d_X10_number_64 0 rfl ?_
      refine z_getI cx hT fg_SunnyPansModel_91 d_X10_number_65 ?_
      obtain ⟨v10, M9, hc, hF⟩ := zb_inv hF
      refine z_callV cx (As := [.int (M4.1 0 4)]) (rest := [.int ((10 : Int32) * b44_L4)]) (c_X10_byteAt l cx.2.2.2.1.1 M4 (M4.1 0 4) hT hc) hT zo_11 cv_SunnyPansModel_94 ⟨rfl, rfl, Nat.le_of_ble_eq_true rfl, Nat.le_of_ble_eq_true rfl⟩ rfl rfl ⟨Nat.zero_le _, Nat.zero_le _⟩ (Nat.le_of_ble_eq_true rfl) d_X10_number_68 ?_
      refine z_iadd cx d_X10_number_71 ?_
      refine z_bipush (v := 48) cx d_X10_number_72 kb_48 ?_
      refine z_isub cx d_X10_number_74 ?_
      refine z_nm hF (fun v11 hF => ?_)
      refine z_istore cx 4 [(4, .int v11), (0, .ref (ad 0)), (1, .int b44_L1), (2, .int b44_L2), (3, .int b44_L3)] d_X10_number_75 (by decide) rfl ?_
      refine z_iload cx d_X10_number_77 0 rfl ?_
      refine z_ldc cx wd_1583 d_X10_number_79 ?_
      refine z_icmp_le cx 89 d_X10_number_81 (by decide) hF (fun hF => ?_) (fun hF => ?_)
      · refine z_iload cx d_X10_number_89 0 rfl ?_
        exact z_lv [1, 2, 3, 4] _ rfl (hb91 self44 hs44 b44_L1 b44_L2 b44_L3 v11 M9 hF)
      refine z_ldc cx wd_1583 d_X10_number_84 ?_
      refine z_goto cx 91 d_X10_number_86 (by decide) ?_
      exact z_lv [1, 2, 3, 4] _ rfl (hb91 self44 hs44 b44_L1 b44_L2 b44_L3 (100000 : Int32) M9 hF)
  unfold F_X10_number at hF
  refine z_aload_n cx d_X10_number_0 0 rfl ?_
  refine z_getI cx hT fg_SunnyPansModel_98 d_X10_number_1 ?_
  refine z_if_eq cx 9 d_X10_number_4 (by decide) hF (fun hF => ?_) (fun hF => ?_)
  · refine z_aload_n cx d_X10_number_9 0 rfl ?_
    obtain ⟨M12, hc, hF⟩ := zbv_inv hF
    refine z_callV cx (As := []) (rest := []) (c_X10_blanks l cx.2.2.2.1.1 M hT hc) hT zo_11 cv_SunnyPansModel_104 ⟨rfl, rfl, Nat.le_of_ble_eq_true rfl, Nat.le_of_ble_eq_true rfl⟩ rfl rfl ⟨Nat.zero_le _, Nat.zero_le _⟩ (Nat.le_of_ble_eq_true rfl) d_X10_number_10 ?_
    refine z_aload_n cx d_X10_number_13 0 rfl ?_
    refine z_getI cx hT fg_SunnyPansModel_91 d_X10_number_14 ?_
    refine z_nm hF (fun v13 hF => ?_)
    refine z_istore_n cx 3 [(3, .int v13), (0, .ref (ad 0)), (1, .int p0), (2, .int p1)] d_X10_number_17 rfl (by decide) rfl ?_
    refine z_iconst (v := 0) cx d_X10_number_18 ki_0 ?_
    refine z_istore cx 4 [(4, .int (0 : Int32)), (3, .int v13), (0, .ref (ad 0)), (1, .int p0), (2, .int p1)] d_X10_number_19 (by decide) rfl ?_
    refine z_aload_n cx d_X10_number_21 2 rfl ?_
    refine z_aload_n cx d_X10_number_22 2 rfl ?_
    refine z_getI cx hT fg_SunnyPansModel_91 d_X10_number_23 ?_
    obtain ⟨v15, M14, hc, hF⟩ := zb_inv hF
    refine z_callV cx (As := [.int (M12.1 0 4)]) (rest := []) (c_X10_byteAt l cx.2.2.2.1.1 M12 (M12.1 0 4) hT hc) hT zo_11 cv_SunnyPansModel_94 ⟨rfl, rfl, Nat.le_of_ble_eq_true rfl, Nat.le_of_ble_eq_true rfl⟩ rfl rfl ⟨Nat.zero_le _, Nat.zero_le _⟩ (Nat.le_of_ble_eq_true rfl) d_X10_number_26 ?_
    obtain ⟨v17, M16, hc, hF⟩ := zb_inv hF
    refine z_callS cx (As := [.int v15]) (rest := []) (c_X10_isDigit l cx.2.2.2.1.1 M14 v15  hc) cs_SunnyPansModel_107 ⟨rfl, rfl, Nat.le_of_ble_eq_true rfl, Nat.le_of_ble_eq_true rfl⟩ rfl rfl ⟨Nat.zero_le _, Nat.zero_le _⟩ (Nat.le_of_ble_eq_true rfl) d_X10_number_29 ?_
    refine z_if_ne cx 44 d_X10_number_32 (by decide) hF (fun hF => ?_) (fun hF => ?_)
    · exact z_lv [2, 3, 4, 1, 0] _ rfl (hL44 zFuel p0 p1 v13 (0 : Int32) M16 hF)
    refine z_aload_n cx d_X10_number_35 2 rfl ?_
    refine z_iconst (v := 1) cx d_X10_number_36 ki_1 ?_
    refine z_aload_n cx d_X10_number_37 2 rfl ?_
    refine z_getI cx hT fg_SunnyPansModel_91 d_X10_number_38 ?_
    obtain ⟨M18, hc, hF⟩ := zbv_inv hF
    refine z_callV cx (As := [.int (1 : Int32), .int (M16.1 0 4)]) (rest := []) (c_X10_wrong l cx.2.2.2.1.1 M16 (1 : Int32) (M16.1 0 4) hT hc) hT zo_11 cv_SunnyPansModel_111 ⟨rfl, rfl, Nat.le_of_ble_eq_true rfl, Nat.le_of_ble_eq_true rfl⟩ rfl rfl ⟨Nat.zero_le _, Nat.zero_le _⟩ (Nat.le_of_ble_eq_true rfl) d_X10_number_41 ?_
    exact z_lv [2, 3, 4, 1, 0] _ rfl (hL44 zFuel p0 p1 v13 (0 : Int32) M18 hF)
  refine z_iconst (v := 0) cx d_X10_number_7 ki_0 ?_
  exact z_iret cx hr rfl hF d_X10_number_8
/-! SunnyPansModel.wordHere -/
set_option maxRecDepth 100000 in
theorem wd_1564 : Cond.code yX10_isSmall cX10_isSmall 1 (some .boolean) ∈ tbG := tw7 24 rfl rfl
set_option maxRecDepth 100000 in
theorem wd_1562 : Cond.methodLink "SunnyPansModel" 120 yX10_isSmall ∈ tbG := tw7 22 rfl rfl
set_option maxRecDepth 100000 in
theorem wd_1563 : Cond.static yX10_isSmall ∈ tbG := tw7 23 rfl rfl
theorem cs_SunnyPansModel_120 : zCS "SunnyPansModel" 120 yX10_isSmall cX10_isSmall 1 (some .boolean) 1 := zCS_of wd_1562 wd_1563 wd_111 wd_1564 (by decide +kernel)
theorem kb_27 : (Int8.ofInt (27)).toInt32 = (27 : Int32) := by decide +kernel
theorem d_X10_wordHere_0 : decode cX10_wordHere 0 = .ok (.aload_n 0, 1) := by decide +kernel
theorem d_X10_wordHere_1 : decode cX10_wordHere 1 = .ok (.invokevirtual 104, 3) := by decide +kernel
theorem d_X10_wordHere_4 : decode cX10_wordHere 4 = .ok (.iconst 0, 1) := by decide +kernel
theorem d_X10_wordHere_5 : decode cX10_wordHere 5 = .ok (.istore_n 1, 1) := by decide +kernel
theorem d_X10_wordHere_6 : decode cX10_wordHere 6 = .ok (.iconst 0, 1) := by decide +kernel
theorem d_X10_wordHere_7 : decode cX10_wordHere 7 = .ok (.istore_n 2, 1) := by decide +kernel
theorem d_X10_wordHere_8 : decode cX10_wordHere 8 = .ok (.aload_n 0, 1) := by decide +kernel
theorem d_X10_wordHere_9 : decode cX10_wordHere 9 = .ok (.aload_n 0, 1) := by decide +kernel
theorem d_X10_wordHere_10 : decode cX10_wordHere 10 = .ok (.getfield 91, 3) := by decide +kernel
theorem d_X10_wordHere_13 : decode cX10_wordHere 13 = .ok (.iload_n 2, 1) := by decide +kernel
theorem d_X10_wordHere_14 : decode cX10_wordHere 14 = .ok (.iadd, 1) := by decide +kernel
theorem d_X10_wordHere_15 : decode cX10_wordHere 15 = .ok (.invokevirtual 94, 3) := by decide +kernel
theorem d_X10_wordHere_18 : decode cX10_wordHere 18 = .ok (.invokestatic 120, 3) := by decide +kernel
theorem d_X10_wordHere_21 : decode cX10_wordHere 21 = .ok (.ifCond .eq 40, 3) := by decide +kernel
theorem d_X10_wordHere_24 : decode cX10_wordHere 24 = .ok (.iload_n 2, 1) := by decide +kernel
theorem d_X10_wordHere_25 : decode cX10_wordHere 25 = .ok (.bipush 6, 2) := by decide +kernel
theorem d_X10_wordHere_27 : decode cX10_wordHere 27 = .ok (.if_icmp .ge 26, 3) := by decide +kernel
theorem d_X10_wordHere_30 : decode cX10_wordHere 30 = .ok (.bipush 27, 2) := by decide +kernel
theorem d_X10_wordHere_32 : decode cX10_wordHere 32 = .ok (.iload_n 1, 1) := by decide +kernel
theorem d_X10_wordHere_33 : decode cX10_wordHere 33 = .ok (.imul, 1) := by decide +kernel
theorem d_X10_wordHere_34 : decode cX10_wordHere 34 = .ok (.aload_n 0, 1) := by decide +kernel
theorem d_X10_wordHere_35 : decode cX10_wordHere 35 = .ok (.aload_n 0, 1) := by decide +kernel
theorem d_X10_wordHere_36 : decode cX10_wordHere 36 = .ok (.getfield 91, 3) := by decide +kernel
theorem d_X10_wordHere_39 : decode cX10_wordHere 39 = .ok (.iload_n 2, 1) := by decide +kernel
theorem d_X10_wordHere_40 : decode cX10_wordHere 40 = .ok (.iadd, 1) := by decide +kernel
theorem d_X10_wordHere_41 : decode cX10_wordHere 41 = .ok (.invokevirtual 94, 3) := by decide +kernel
theorem d_X10_wordHere_44 : decode cX10_wordHere 44 = .ok (.iadd, 1) := by decide +kernel
theorem d_X10_wordHere_45 : decode cX10_wordHere 45 = .ok (.bipush 97, 2) := by decide +kernel
theorem d_X10_wordHere_47 : decode cX10_wordHere 47 = .ok (.isub, 1) := by decide +kernel
theorem d_X10_wordHere_48 : decode cX10_wordHere 48 = .ok (.iconst 1, 1) := by decide +kernel
theorem d_X10_wordHere_49 : decode cX10_wordHere 49 = .ok (.iadd, 1) := by decide +kernel
theorem d_X10_wordHere_50 : decode cX10_wordHere 50 = .ok (.goto 4, 3) := by decide +kernel
theorem d_X10_wordHere_53 : decode cX10_wordHere 53 = .ok (.iload_n 1, 1) := by decide +kernel
theorem d_X10_wordHere_54 : decode cX10_wordHere 54 = .ok (.istore_n 1, 1) := by decide +kernel
theorem d_X10_wordHere_55 : decode cX10_wordHere 55 = .ok (.iinc 2 1, 3) := by decide +kernel
theorem d_X10_wordHere_58 : decode cX10_wordHere 58 = .ok (.goto (-50), 3) := by decide +kernel
theorem d_X10_wordHere_61 : decode cX10_wordHere 61 = .ok (.iload_n 2, 1) := by decide +kernel
theorem d_X10_wordHere_62 : decode cX10_wordHere 62 = .ok (.bipush 6, 2) := by decide +kernel
theorem d_X10_wordHere_64 : decode cX10_wordHere 64 = .ok (.if_icmp .le 7, 3) := by decide +kernel
theorem d_X10_wordHere_67 : decode cX10_wordHere 67 = .ok (.iconst (-1), 1) := by decide +kernel
theorem d_X10_wordHere_68 : decode cX10_wordHere 68 = .ok (.goto 4, 3) := by decide +kernel
theorem d_X10_wordHere_71 : decode cX10_wordHere 71 = .ok (.iload_n 1, 1) := by decide +kernel
theorem d_X10_wordHere_72 : decode cX10_wordHere 72 = .ok (.ireturn, 1) := by decide +kernel
def F_X10_wordHere_54 (self8 : Int32 → Int32 → zMem → Option (Int32 × zMem)) (b54_L2 : Int32) (b54_S0 : Int32) (M : zMem) : Option (Int32 × zMem) :=
  self8 b54_S0 (b54_L2 + 1) M
def F_X10_wordHere_8 (self8 : Int32 → Int32 → zMem → Option (Int32 × zMem)) (b8_L1 : Int32) (b8_L2 : Int32) (M : zMem) : Option (Int32 × zMem) :=
  zb (F_X10_byteAt M ((M.1 0 4) + b8_L2)) fun v2 M1 =>
  zb (F_X10_isSmall M1 v2) fun v4 M3 =>
  if v4 = 0 then
    if b8_L2 ≤ (6 : Int32) then
      some (b8_L1, M3)
    else
      some ((-1 : Int32), M3)
  else
    if (6 : Int32) ≤ b8_L2 then
      F_X10_wordHere_54 self8 b8_L2 b8_L1 M3
    else
      zb (F_X10_byteAt M3 ((M3.1 0 4) + b8_L2)) fun v6 M5 =>
      F_X10_wordHere_54 self8 b8_L2 (((((27 : Int32) * b8_L1) + v6) - (97 : Int32)) + (1 : Int32)) M5
def F_X10_wordHere (M : zMem)  : Option (Int32 × zMem) :=
  zbv (F_X10_blanks M) fun M7 =>
  itF (fun _ _ _ => none) (F_X10_wordHere_8) zFuel (0 : Int32) (0 : Int32) M7
def rm_X10_wordHere : Room := { frames := 4, cells := 0, slots := 0, locals := 121 }
set_option maxHeartbeats 4000000 in
set_option maxRecDepth 100000 in
theorem c_X10_wordHere (l : Launch) {G : zG} {ad : Nat → Nat} {n : Nat} (hA : zInj ad n) (M : zMem)  (hT : zT shM n 0 11) {r9 : Int32} {M9 : zMem} (hF : F_X10_wordHere M  = some (r9, M9)) : zM l yX10_wordHere cX10_wordHere 3 (some .int) rm_X10_wordHere G shM ad n M [.ref (ad 0)] (some (.int r9)) M9 := by
  refine zM_of hA (by decide +kernel) (lv := [(0, .ref (ad 0))]) (Nat.le_of_ble_eq_true rfl) rfl (fun p e s m args below meth c A cx hr => ?_)
  have hb54 : ∀ (self8 : Int32 → Int32 → zMem → Option (Int32 × zMem)) (hs8 : ∀ (b8_L1 : Int32) (b8_L2 : Int32) (M : zMem), self8 b8_L1 b8_L2 M = some (r9, M9) → zJ p l e rm_X10_wordHere s m args below meth c G shM ad n A 3 (MQ below (zQ G shM ad n M9 (some (.int r9)) A) args s 0 0 A) 0 0 M 8 [(0, .ref (ad 0)), (1, .int b8_L1), (2, .int b8_L2)] []), ∀ (b54_L2 : Int32) (b54_S0 : Int32) (M : zMem), F_X10_wordHere_54 self8 b54_L2 b54_S0 M = some (r9, M9) → zJ p l e rm_X10_wordHere s m args below meth c G shM ad n A 3 (MQ below (zQ G shM ad n M9 (some (.int r9)) A) args s 0 0 A) 0 0 M 54 [(0, .ref (ad 0)), (2, .int b54_L2)] [.int b54_S0] := by
    intro self8 hs8 b54_L2 b54_S0 M hF
    unfold F_X10_wordHere_54 at hF
    refine z_istore_n cx 1 [(1, .int b54_S0), (0, .ref (ad 0)), (2, .int b54_L2)] d_X10_wordHere_54 rfl (by decide) rfl ?_
    refine z_iinc cx 2 1 [(2, .int (b54_L2 + 1)), (1, .int b54_S0), (0, .ref (ad 0))] d_X10_wordHere_55 2 rfl ki_1 (by decide) rfl ?_
    refine z_goto cx 8 d_X10_wordHere_58 (by decide) ?_
    exact z_lv [2, 1, 0] _ rfl (hs8 b54_S0 (b54_L2 + 1) M hF)
  have hL8 : ∀ (fuel : Nat), ∀ (b8_L1 : Int32) (b8_L2 : Int32) (M : zMem), itF (fun _ _ _ => none) (F_X10_wordHere_8) fuel b8_L1 b8_L2 M = some (r9, M9) → zJ p l e rm_X10_wordHere s m args below meth c G shM ad n A 3 (MQ below (zQ G shM ad n M9 (some (.int r9)) A) args s 0 0 A) 0 0 M 8 [(0, .ref (ad 0)), (1, .int b8_L1), (2, .int b8_L2)] [] := by
    intro fuel
    induction fuel with
    | zero => intro b8_L1 b8_L2 M hF; cases hF
    | succ fuel hs8 =>
      intro b8_L1 b8_L2 M hF
      have hF : F_X10_wordHere_8 (itF (fun _ _ _ => none) (F_X10_wordHere_8) fuel) b8_L1 b8_L2 M = some (r9, M9) := hF
      generalize itF (fun _ _ _ => none) (F_X10_wordHere_8) fuel = self8 at hs8 hF
      unfold F_X10_wordHere_8 at hF
      refine z_aload_n cx d_X10_wordHere_8 0 rfl ?_
      refine z_aload_n cx d_X10_wordHere_9 0 rfl ?_
      refine z_getI cx hT fg_SunnyPansModel_91 d_X10_wordHere_10 ?_
      refine z_iload_n cx d_X10_wordHere_13 2 rfl ?_
      refine z_iadd cx d_X10_wordHere_14 ?_
      obtain ⟨v2, M1, hc, hF⟩ := zb_inv hF
      refine z_callV cx (As := [.int ((M.1 0 4) + b8_L2)]) (rest := []) (c_X10_byteAt l cx.2.2.2.1.1 M ((M.1 0 4) + b8_L2) hT hc) hT zo_11 cv_SunnyPansModel_94 ⟨rfl, rfl, Nat.le_of_ble_eq_true rfl, Nat.le_of_ble_eq_true rfl⟩ rfl rfl ⟨Nat.zero_le _, Nat.zero_le _⟩ (Nat.le_of_ble_eq_true rfl) d_X10_wordHere_15 ?_
      obtain ⟨v4, M3, hc, hF⟩ := zb_inv hF
      refine z_callS cx (As := [.int v2]) (rest := []) (c_X10_isSmall l cx.2.2.2.1.1 M1 v2  hc) cs_SunnyPansModel_120 ⟨rfl, rfl, Nat.le_of_ble_eq_true rfl, Nat.le_of_ble_eq_true rfl⟩ rfl rfl ⟨Nat.zero_le _, Nat.zero_le _⟩ (Nat.le_of_ble_eq_true rfl) d_X10_wordHere_18 ?_
      refine z_if_eq cx 61 d_X10_wordHere_21 (by decide) hF (fun hF => ?_) (fun hF => ?_)
      · refine z_iload_n cx d_X10_wordHere_61 2 rfl ?_
        refine z_bipush (v := 6) cx d_X10_wordHere_62 kb_6 ?_
        refine z_icmp_le cx 71 d_X10_wordHere_64 (by decide) hF (fun hF => ?_) (fun hF => ?_)
        · refine z_iload_n cx d_X10_wordHere_71 1 rfl ?_
          exact z_iret cx hr rfl hF d_X10_wordHere_72
        refine z_iconst (v := -1) cx d_X10_wordHere_67 ki_m1 ?_
        refine z_goto cx 72 d_X10_wordHere_68 (by decide) ?_
        exact z_iret cx hr rfl hF d_X10_wordHere_72
      refine z_iload_n cx d_X10_wordHere_24 2 rfl ?_
      refine z_bipush (v := 6) cx d_X10_wordHere_25 kb_6 ?_
      refine z_icmp_ge cx 53 d_X10_wordHere_27 (by decide) hF (fun hF => ?_) (fun hF => ?_)
      · refine z_iload_n cx d_X10_wordHere_53 1 rfl ?_
        exact z_lv [0, 2] _ rfl (hb54 self8 hs8 b8_L2 b8_L1 M3 hF)
      refine z_bipush (v := 27) cx d_X10_wordHere_30 kb_27 ?_
      refine z_iload_n cx d_X10_wordHere_32 1 rfl ?_
      refine z_imul cx d_X10_wordHere_33 ?_
      refine z_aload_n cx d_X10_wordHere_34 0 rfl ?_
      refine z_aload_n cx d_X10_wordHere_35 0 rfl ?_
      refine z_getI cx hT fg_SunnyPansModel_91 d_X10_wordHere_36 ?_
      refine z_iload_n cx d_X10_wordHere_39 2 rfl ?_
      refine z_iadd cx d_X10_wordHere_40 ?_
      obtain ⟨v6, M5, hc, hF⟩ := zb_inv hF
      refine z_callV cx (As := [.int ((M3.1 0 4) + b8_L2)]) (rest := [.int ((27 : Int32) * b8_L1)]) (c_X10_byteAt l cx.2.2.2.1.1 M3 ((M3.1 0 4) + b8_L2) hT hc) hT zo_11 cv_SunnyPansModel_94 ⟨rfl, rfl, Nat.le_of_ble_eq_true rfl, Nat.le_of_ble_eq_true rfl⟩ rfl rfl ⟨Nat.zero_le _, Nat.zero_le _⟩ (Nat.le_of_ble_eq_true rfl) d_X10_wordHere_41 ?_
      refine z_iadd cx d_X10_wordHere_44 ?_
      refine z_bipush (v := 97) cx d_X10_wordHere_45 kb_97 ?_
      refine z_isub cx d_X10_wordHere_47 ?_
      refine z_iconst (v := 1) cx d_X10_wordHere_48 ki_1 ?_
      refine z_iadd cx d_X10_wordHere_49 ?_
      refine z_goto cx 54 d_X10_wordHere_50 (by decide) ?_
      exact z_lv [0, 2] _ rfl (hb54 self8 hs8 b8_L2 (((((27 : Int32) * b8_L1) + v6) - (97 : Int32)) + (1 : Int32)) M5 hF)
  unfold F_X10_wordHere at hF
  refine z_aload_n cx d_X10_wordHere_0 0 rfl ?_
  obtain ⟨M7, hc, hF⟩ := zbv_inv hF
  refine z_callV cx (As := []) (rest := []) (c_X10_blanks l cx.2.2.2.1.1 M hT hc) hT zo_11 cv_SunnyPansModel_104 ⟨rfl, rfl, Nat.le_of_ble_eq_true rfl, Nat.le_of_ble_eq_true rfl⟩ rfl rfl ⟨Nat.zero_le _, Nat.zero_le _⟩ (Nat.le_of_ble_eq_true rfl) d_X10_wordHere_1 ?_
  refine z_iconst (v := 0) cx d_X10_wordHere_4 ki_0 ?_
  refine z_istore_n cx 1 [(1, .int (0 : Int32)), (0, .ref (ad 0))] d_X10_wordHere_5 rfl (by decide) rfl ?_
  refine z_iconst (v := 0) cx d_X10_wordHere_6 ki_0 ?_
  refine z_istore_n cx 2 [(2, .int (0 : Int32)), (1, .int (0 : Int32)), (0, .ref (ad 0))] d_X10_wordHere_7 rfl (by decide) rfl ?_
  exact z_lv [2, 1, 0] _ rfl (hL8 zFuel (0 : Int32) (0 : Int32) M7 hF)
/-! SunnyPansModel.six -/
theorem d_X10_six_0 : decode cX10_six 0 = .ok (.bipush 27, 2) := by decide +kernel
theorem d_X10_six_2 : decode cX10_six 2 = .ok (.bipush 27, 2) := by decide +kernel
theorem d_X10_six_4 : decode cX10_six 4 = .ok (.iload_n 0, 1) := by decide +kernel
theorem d_X10_six_5 : decode cX10_six 5 = .ok (.imul, 1) := by decide +kernel
theorem d_X10_six_6 : decode cX10_six 6 = .ok (.iload_n 1, 1) := by decide +kernel
theorem d_X10_six_7 : decode cX10_six 7 = .ok (.iadd, 1) := by decide +kernel
theorem d_X10_six_8 : decode cX10_six 8 = .ok (.imul, 1) := by decide +kernel
theorem d_X10_six_9 : decode cX10_six 9 = .ok (.iload_n 2, 1) := by decide +kernel
theorem d_X10_six_10 : decode cX10_six 10 = .ok (.iadd, 1) := by decide +kernel
theorem d_X10_six_11 : decode cX10_six 11 = .ok (.istore 6, 2) := by decide +kernel
theorem d_X10_six_13 : decode cX10_six 13 = .ok (.iload_n 3, 1) := by decide +kernel
theorem d_X10_six_14 : decode cX10_six 14 = .ok (.ifCond .ne 8, 3) := by decide +kernel
theorem d_X10_six_17 : decode cX10_six 17 = .ok (.iload 6, 2) := by decide +kernel
theorem d_X10_six_19 : decode cX10_six 19 = .ok (.goto 10, 3) := by decide +kernel
theorem d_X10_six_22 : decode cX10_six 22 = .ok (.bipush 27, 2) := by decide +kernel
theorem d_X10_six_24 : decode cX10_six 24 = .ok (.iload 6, 2) := by decide +kernel
theorem d_X10_six_26 : decode cX10_six 26 = .ok (.imul, 1) := by decide +kernel
theorem d_X10_six_27 : decode cX10_six 27 = .ok (.iload_n 3, 1) := by decide +kernel
theorem d_X10_six_28 : decode cX10_six 28 = .ok (.iadd, 1) := by decide +kernel
theorem d_X10_six_29 : decode cX10_six 29 = .ok (.istore 6, 2) := by decide +kernel
theorem d_X10_six_31 : decode cX10_six 31 = .ok (.iload 4, 2) := by decide +kernel
theorem d_X10_six_33 : decode cX10_six 33 = .ok (.ifCond .ne 8, 3) := by decide +kernel
theorem d_X10_six_36 : decode cX10_six 36 = .ok (.iload 6, 2) := by decide +kernel
theorem d_X10_six_38 : decode cX10_six 38 = .ok (.goto 11, 3) := by decide +kernel
theorem d_X10_six_41 : decode cX10_six 41 = .ok (.bipush 27, 2) := by decide +kernel
theorem d_X10_six_43 : decode cX10_six 43 = .ok (.iload 6, 2) := by decide +kernel
theorem d_X10_six_45 : decode cX10_six 45 = .ok (.imul, 1) := by decide +kernel
theorem d_X10_six_46 : decode cX10_six 46 = .ok (.iload 4, 2) := by decide +kernel
theorem d_X10_six_48 : decode cX10_six 48 = .ok (.iadd, 1) := by decide +kernel
theorem d_X10_six_49 : decode cX10_six 49 = .ok (.istore 6, 2) := by decide +kernel
theorem d_X10_six_51 : decode cX10_six 51 = .ok (.iload 5, 2) := by decide +kernel
theorem d_X10_six_53 : decode cX10_six 53 = .ok (.ifCond .ne 8, 3) := by decide +kernel
theorem d_X10_six_56 : decode cX10_six 56 = .ok (.iload 6, 2) := by decide +kernel
theorem d_X10_six_58 : decode cX10_six 58 = .ok (.goto 11, 3) := by decide +kernel
theorem d_X10_six_61 : decode cX10_six 61 = .ok (.bipush 27, 2) := by decide +kernel
theorem d_X10_six_63 : decode cX10_six 63 = .ok (.iload 6, 2) := by decide +kernel
theorem d_X10_six_65 : decode cX10_six 65 = .ok (.imul, 1) := by decide +kernel
theorem d_X10_six_66 : decode cX10_six 66 = .ok (.iload 5, 2) := by decide +kernel
theorem d_X10_six_68 : decode cX10_six 68 = .ok (.iadd, 1) := by decide +kernel
theorem d_X10_six_69 : decode cX10_six 69 = .ok (.ireturn, 1) := by decide +kernel
def F_X10_six_49 (p0 : Int32) (p1 : Int32) (p2 : Int32) (p3 : Int32) (p4 : Int32) (p5 : Int32) (b49_L5 : Int32) (b49_S0 : Int32) (M : zMem) : Option (Int32 × zMem) :=
  if b49_L5 = 0 then
    some (b49_S0, M)
  else
    some ((((27 : Int32) * b49_S0) + b49_L5), M)
def F_X10_six_29 (p0 : Int32) (p1 : Int32) (p2 : Int32) (p3 : Int32) (p4 : Int32) (p5 : Int32) (b29_L4 : Int32) (b29_L5 : Int32) (b29_S0 : Int32) (M : zMem) : Option (Int32 × zMem) :=
  if b29_L4 = 0 then
    F_X10_six_49 p0 p1 p2 p3 p4 p5 b29_L5 b29_S0 M
  else
    F_X10_six_49 p0 p1 p2 p3 p4 p5 b29_L5 (((27 : Int32) * b29_S0) + b29_L4) M
def F_X10_six (M : zMem) (p0 : Int32) (p1 : Int32) (p2 : Int32) (p3 : Int32) (p4 : Int32) (p5 : Int32) : Option (Int32 × zMem) :=
  zl (((27 : Int32) * (((27 : Int32) * p0) + p1)) + p2) fun v1 =>
  if p3 = 0 then
    F_X10_six_29 p0 p1 p2 p3 p4 p5 p4 p5 v1 M
  else
    F_X10_six_29 p0 p1 p2 p3 p4 p5 p4 p5 (((27 : Int32) * v1) + p3) M
def rm_X10_six : Room := { frames := 2, cells := 0, slots := 0, locals := 80 }
set_option maxHeartbeats 4000000 in
set_option maxRecDepth 100000 in
theorem c_X10_six (l : Launch) {G : zG} {ad : Nat → Nat} {n : Nat} (hA : zInj ad n) (M : zMem) (p0 : Int32) (p1 : Int32) (p2 : Int32) (p3 : Int32) (p4 : Int32) (p5 : Int32) {r9 : Int32} {M9 : zMem} (hF : F_X10_six M p0 p1 p2 p3 p4 p5 = some (r9, M9)) : zM l yX10_six cX10_six 7 (some .int) rm_X10_six G shM ad n M [.int p0, .int p1, .int p2, .int p3, .int p4, .int p5] (some (.int r9)) M9 := by
  refine zM_of hA (by decide +kernel) (lv := [(0, .int p0), (1, .int p1), (2, .int p2), (3, .int p3), (4, .int p4), (5, .int p5)]) (Nat.le_of_ble_eq_true rfl) rfl (fun p e s m args below meth c A cx hr => ?_)
  have hb49 : ∀ (b49_L5 : Int32) (b49_S0 : Int32) (M : zMem), F_X10_six_49 p0 p1 p2 p3 p4 p5 b49_L5 b49_S0 M = some (r9, M9) → zJ p l e rm_X10_six s m args below meth c G shM ad n A 7 (MQ below (zQ G shM ad n M9 (some (.int r9)) A) args s 0 0 A) 0 0 M 49 [(5, .int b49_L5)] [.int b49_S0] := by
    intro b49_L5 b49_S0 M hF
    unfold F_X10_six_49 at hF
    refine z_istore cx 6 [(6, .int b49_S0), (5, .int b49_L5)] d_X10_six_49 (by decide) rfl ?_
    refine z_iload cx d_X10_six_51 1 rfl ?_
    refine z_if_ne cx 61 d_X10_six_53 (by decide) hF (fun hF => ?_) (fun hF => ?_)
    · refine z_bipush (v := 27) cx d_X10_six_61 kb_27 ?_
      refine z_iload cx d_X10_six_63 0 rfl ?_
      refine z_imul cx d_X10_six_65 ?_
      refine z_iload cx d_X10_six_66 1 rfl ?_
      refine z_iadd cx d_X10_six_68 ?_
      exact z_iret cx hr rfl hF d_X10_six_69
    refine z_iload cx d_X10_six_56 0 rfl ?_
    refine z_goto cx 69 d_X10_six_58 (by decide) ?_
    exact z_iret cx hr rfl hF d_X10_six_69
  have hb29 : ∀ (b29_L4 : Int32) (b29_L5 : Int32) (b29_S0 : Int32) (M : zMem), F_X10_six_29 p0 p1 p2 p3 p4 p5 b29_L4 b29_L5 b29_S0 M = some (r9, M9) → zJ p l e rm_X10_six s m args below meth c G shM ad n A 7 (MQ below (zQ G shM ad n M9 (some (.int r9)) A) args s 0 0 A) 0 0 M 29 [(4, .int b29_L4), (5, .int b29_L5)] [.int b29_S0] := by
    intro b29_L4 b29_L5 b29_S0 M hF
    unfold F_X10_six_29 at hF
    refine z_istore cx 6 [(6, .int b29_S0), (4, .int b29_L4), (5, .int b29_L5)] d_X10_six_29 (by decide) rfl ?_
    refine z_iload cx d_X10_six_31 1 rfl ?_
    refine z_if_ne cx 41 d_X10_six_33 (by decide) hF (fun hF => ?_) (fun hF => ?_)
    · refine z_bipush (v := 27) cx d_X10_six_41 kb_27 ?_
      refine z_iload cx d_X10_six_43 0 rfl ?_
      refine z_imul cx d_X10_six_45 ?_
      refine z_iload cx d_X10_six_46 1 rfl ?_
      refine z_iadd cx d_X10_six_48 ?_
      exact z_lv [2] _ rfl (hb49 b29_L5 (((27 : Int32) * b29_S0) + b29_L4) M hF)
    refine z_iload cx d_X10_six_36 0 rfl ?_
    refine z_goto cx 49 d_X10_six_38 (by decide) ?_
    exact z_lv [2] _ rfl (hb49 b29_L5 b29_S0 M hF)
  unfold F_X10_six at hF
  refine z_bipush (v := 27) cx d_X10_six_0 kb_27 ?_
  refine z_bipush (v := 27) cx d_X10_six_2 kb_27 ?_
  refine z_iload_n cx d_X10_six_4 0 rfl ?_
  refine z_imul cx d_X10_six_5 ?_
  refine z_iload_n cx d_X10_six_6 1 rfl ?_
  refine z_iadd cx d_X10_six_7 ?_
  refine z_imul cx d_X10_six_8 ?_
  refine z_iload_n cx d_X10_six_9 2 rfl ?_
  refine z_iadd cx d_X10_six_10 ?_
  refine z_nm hF (fun v1 hF => ?_)
  refine z_istore cx 6 [(6, .int v1), (0, .int p0), (1, .int p1), (2, .int p2), (3, .int p3), (4, .int p4), (5, .int p5)] d_X10_six_11 (by decide) rfl ?_
  refine z_iload_n cx d_X10_six_13 4 rfl ?_
  refine z_if_ne cx 22 d_X10_six_14 (by decide) hF (fun hF => ?_) (fun hF => ?_)
  · refine z_bipush (v := 27) cx d_X10_six_22 kb_27 ?_
    refine z_iload cx d_X10_six_24 0 rfl ?_
    refine z_imul cx d_X10_six_26 ?_
    refine z_iload_n cx d_X10_six_27 4 rfl ?_
    refine z_iadd cx d_X10_six_28 ?_
    exact z_lv [5, 6] _ rfl (hb29 p4 p5 (((27 : Int32) * v1) + p3) M hF)
  refine z_iload cx d_X10_six_17 0 rfl ?_
  refine z_goto cx 29 d_X10_six_19 (by decide) ?_
  exact z_lv [5, 6] _ rfl (hb29 p4 p5 v1 M hF)
/-! SunnyPansModel.isWord -/
set_option maxRecDepth 100000 in
theorem wd_1561 : Cond.code yX10_wordHere cX10_wordHere 3 (some .int) ∈ tbG := tw7 21 rfl rfl
set_option maxRecDepth 100000 in
theorem wd_1558 : Cond.methodLink "SunnyPansModel" 123 yX10_wordHere ∈ tbG := tw7 18 rfl rfl
set_option maxRecDepth 100000 in
theorem wd_1560 : Cond.instanceMethod yX10_wordHere ∈ tbG := tw7 20 rfl rfl
theorem wd_50 : Cond.selects "SunnyPansModel" yX10_wordHere yX10_wordHere ∈ tbG := tw 50 (by decide +kernel) rfl
theorem cv_SunnyPansModel_123 : zCV "SunnyPansModel" 123 "SunnyPansModel" yX10_wordHere cX10_wordHere 3 (some .int) 0 := zCV_of wd_1558 wd_1560 wd_50 wd_111 wd_1561 (by decide +kernel)
set_option maxRecDepth 100000 in
theorem wd_1567 : Cond.code yX10_six cX10_six 7 (some .int) ∈ tbG := tw7 27 rfl rfl
set_option maxRecDepth 100000 in
theorem wd_1565 : Cond.methodLink "SunnyPansModel" 127 yX10_six ∈ tbG := tw7 25 rfl rfl
set_option maxRecDepth 100000 in
theorem wd_1566 : Cond.static yX10_six ∈ tbG := tw7 26 rfl rfl
theorem cs_SunnyPansModel_127 : zCS "SunnyPansModel" 127 yX10_six cX10_six 7 (some .int) 6 := zCS_of wd_1565 wd_1566 wd_111 wd_1567 (by decide +kernel)
theorem d_X10_isWord_0 : decode cX10_isWord 0 = .ok (.aload_n 0, 1) := by decide +kernel
theorem d_X10_isWord_1 : decode cX10_isWord 1 = .ok (.getfield 98, 3) := by decide +kernel
theorem d_X10_isWord_4 : decode cX10_isWord 4 = .ok (.ifCond .ne 26, 3) := by decide +kernel
theorem d_X10_isWord_7 : decode cX10_isWord 7 = .ok (.aload_n 0, 1) := by decide +kernel
theorem d_X10_isWord_8 : decode cX10_isWord 8 = .ok (.invokevirtual 123, 3) := by decide +kernel
theorem d_X10_isWord_11 : decode cX10_isWord 11 = .ok (.iload_n 1, 1) := by decide +kernel
theorem d_X10_isWord_12 : decode cX10_isWord 12 = .ok (.iload_n 2, 1) := by decide +kernel
theorem d_X10_isWord_13 : decode cX10_isWord 13 = .ok (.iload_n 3, 1) := by decide +kernel
theorem d_X10_isWord_14 : decode cX10_isWord 14 = .ok (.iload 4, 2) := by decide +kernel
theorem d_X10_isWord_16 : decode cX10_isWord 16 = .ok (.iload 5, 2) := by decide +kernel
theorem d_X10_isWord_18 : decode cX10_isWord 18 = .ok (.iload 6, 2) := by decide +kernel
theorem d_X10_isWord_20 : decode cX10_isWord 20 = .ok (.invokestatic 127, 3) := by decide +kernel
theorem d_X10_isWord_23 : decode cX10_isWord 23 = .ok (.if_icmp .ne 7, 3) := by decide +kernel
theorem d_X10_isWord_26 : decode cX10_isWord 26 = .ok (.iconst 1, 1) := by decide +kernel
theorem d_X10_isWord_27 : decode cX10_isWord 27 = .ok (.goto 4, 3) := by decide +kernel
theorem d_X10_isWord_30 : decode cX10_isWord 30 = .ok (.iconst 0, 1) := by decide +kernel
theorem d_X10_isWord_31 : decode cX10_isWord 31 = .ok (.ireturn, 1) := by decide +kernel
def F_X10_isWord (M : zMem) (p0 : Int32) (p1 : Int32) (p2 : Int32) (p3 : Int32) (p4 : Int32) (p5 : Int32) : Option (Int32 × zMem) :=
  if (M.1 0 5) = 0 then
    zb (F_X10_wordHere M) fun v2 M1 =>
    zb (F_X10_six M1 p0 p1 p2 p3 p4 p5) fun v4 M3 =>
    if v2 = v4 then
      some ((1 : Int32), M3)
    else
      some ((0 : Int32), M3)
  else
    some ((0 : Int32), M)
def rm_X10_isWord : Room := { frames := 5, cells := 0, slots := 0, locals := 143 }
set_option maxHeartbeats 4000000 in
set_option maxRecDepth 100000 in
theorem c_X10_isWord (l : Launch) {G : zG} {ad : Nat → Nat} {n : Nat} (hA : zInj ad n) (M : zMem) (p0 : Int32) (p1 : Int32) (p2 : Int32) (p3 : Int32) (p4 : Int32) (p5 : Int32) (hT : zT shM n 0 11) {r9 : Int32} {M9 : zMem} (hF : F_X10_isWord M p0 p1 p2 p3 p4 p5 = some (r9, M9)) : zM l yX10_isWord cX10_isWord 7 (some .boolean) rm_X10_isWord G shM ad n M [.ref (ad 0), .int p0, .int p1, .int p2, .int p3, .int p4, .int p5] (some (.int r9)) M9 := by
  refine zM_of hA (by decide +kernel) (lv := [(0, .ref (ad 0)), (1, .int p0), (2, .int p1), (3, .int p2), (4, .int p3), (5, .int p4), (6, .int p5)]) (Nat.le_of_ble_eq_true rfl) rfl (fun p e s m args below meth c A cx hr => ?_)
  unfold F_X10_isWord at hF
  refine z_aload_n cx d_X10_isWord_0 0 rfl ?_
  refine z_getI cx hT fg_SunnyPansModel_98 d_X10_isWord_1 ?_
  refine z_if_ne cx 30 d_X10_isWord_4 (by decide) hF (fun hF => ?_) (fun hF => ?_)
  · refine z_iconst (v := 0) cx d_X10_isWord_30 ki_0 ?_
    exact z_iret cx hr nb0 hF d_X10_isWord_31
  refine z_aload_n cx d_X10_isWord_7 0 rfl ?_
  obtain ⟨v2, M1, hc, hF⟩ := zb_inv hF
  refine z_callV cx (As := []) (rest := []) (c_X10_wordHere l cx.2.2.2.1.1 M hT hc) hT zo_11 cv_SunnyPansModel_123 ⟨rfl, rfl, Nat.le_of_ble_eq_true rfl, Nat.le_of_ble_eq_true rfl⟩ rfl rfl ⟨Nat.zero_le _, Nat.zero_le _⟩ (Nat.le_of_ble_eq_true rfl) d_X10_isWord_8 ?_
  refine z_iload_n cx d_X10_isWord_11 1 rfl ?_
  refine z_iload_n cx d_X10_isWord_12 2 rfl ?_
  refine z_iload_n cx d_X10_isWord_13 3 rfl ?_
  refine z_iload cx d_X10_isWord_14 4 rfl ?_
  refine z_iload cx d_X10_isWord_16 5 rfl ?_
  refine z_iload cx d_X10_isWord_18 6 rfl ?_
  obtain ⟨v4, M3, hc, hF⟩ := zb_inv hF
  refine z_callS cx (As := [.int p0, .int p1, .int p2, .int p3, .int p4, .int p5]) (rest := [.int v2]) (c_X10_six l cx.2.2.2.1.1 M1 p0 p1 p2 p3 p4 p5  hc) cs_SunnyPansModel_127 ⟨rfl, rfl, Nat.le_of_ble_eq_true rfl, Nat.le_of_ble_eq_true rfl⟩ rfl rfl ⟨Nat.zero_le _, Nat.zero_le _⟩ (Nat.le_of_ble_eq_true rfl) d_X10_isWord_20 ?_
  refine z_icmp_ne cx 30 d_X10_isWord_23 (by decide) hF (fun hF => ?_) (fun hF => ?_)
  · refine z_iconst (v := 0) cx d_X10_isWord_30 ki_0 ?_
    exact z_iret cx hr nb0 hF d_X10_isWord_31
  refine z_iconst (v := 1) cx d_X10_isWord_26 ki_1 ?_
  refine z_goto cx 31 d_X10_isWord_27 (by decide) ?_
  exact z_iret cx hr nb1 hF d_X10_isWord_31
/-! SunnyPansModel.skipWord -/
theorem d_X10_skipWord_0 : decode cX10_skipWord 0 = .ok (.aload_n 0, 1) := by decide +kernel
theorem d_X10_skipWord_1 : decode cX10_skipWord 1 = .ok (.aload_n 0, 1) := by decide +kernel
theorem d_X10_skipWord_2 : decode cX10_skipWord 2 = .ok (.getfield 91, 3) := by decide +kernel
theorem d_X10_skipWord_5 : decode cX10_skipWord 5 = .ok (.invokevirtual 94, 3) := by decide +kernel
theorem d_X10_skipWord_8 : decode cX10_skipWord 8 = .ok (.invokestatic 120, 3) := by decide +kernel
theorem d_X10_skipWord_11 : decode cX10_skipWord 11 = .ok (.ifCond .eq 16, 3) := by decide +kernel
theorem d_X10_skipWord_14 : decode cX10_skipWord 14 = .ok (.aload_n 0, 1) := by decide +kernel
theorem d_X10_skipWord_15 : decode cX10_skipWord 15 = .ok (.dup, 1) := by decide +kernel
theorem d_X10_skipWord_16 : decode cX10_skipWord 16 = .ok (.getfield 91, 3) := by decide +kernel
theorem d_X10_skipWord_19 : decode cX10_skipWord 19 = .ok (.iconst 1, 1) := by decide +kernel
theorem d_X10_skipWord_20 : decode cX10_skipWord 20 = .ok (.iadd, 1) := by decide +kernel
theorem d_X10_skipWord_21 : decode cX10_skipWord 21 = .ok (.putfield 91, 3) := by decide +kernel
theorem d_X10_skipWord_24 : decode cX10_skipWord 24 = .ok (.goto (-24), 3) := by decide +kernel
theorem d_X10_skipWord_27 : decode cX10_skipWord 27 = .ok (.return_, 1) := by decide +kernel
def F_X10_skipWord_0 (self0 : zMem → Option (zMem)) (M : zMem) : Option (zMem) :=
  zb (F_X10_byteAt M (M.1 0 4)) fun v2 M1 =>
  zb (F_X10_isSmall M1 v2) fun v4 M3 =>
  if v4 = 0 then
    some M3
  else
    zl (zI M3 0 4 ((M3.1 0 4) + (1 : Int32))) fun M5 =>
    self0  M5
def F_X10_skipWord (M : zMem)  : Option (zMem) :=
  itF (fun _ => none) (F_X10_skipWord_0) zFuel  M
def rm_X10_skipWord : Room := { frames := 3, cells := 0, slots := 0, locals := 101 }
set_option maxHeartbeats 4000000 in
set_option maxRecDepth 100000 in
theorem c_X10_skipWord (l : Launch) {G : zG} {ad : Nat → Nat} {n : Nat} (hA : zInj ad n) (M : zMem)  (hT : zT shM n 0 11) {M9 : zMem} (hF : F_X10_skipWord M  = some M9) : zM l yX10_skipWord cX10_skipWord 1 none rm_X10_skipWord G shM ad n M [.ref (ad 0)] none M9 := by
  refine zM_of hA (by decide +kernel) (lv := [(0, .ref (ad 0))]) (Nat.le_of_ble_eq_true rfl) rfl (fun p e s m args below meth c A cx hr => ?_)
  have hL0 : ∀ (fuel : Nat), ∀ (M : zMem), itF (fun _ => none) (F_X10_skipWord_0) fuel M = some M9 → zJ p l e rm_X10_skipWord s m args below meth c G shM ad n A 1 (MQ below (zQ G shM ad n M9 none A) args s 0 0 A) 0 0 M 0 [(0, .ref (ad 0))] [] := by
    intro fuel
    induction fuel with
    | zero => intro M hF; cases hF
    | succ fuel hs0 =>
      intro M hF
      have hF : F_X10_skipWord_0 (itF (fun _ => none) (F_X10_skipWord_0) fuel) M = some M9 := hF
      generalize itF (fun _ => none) (F_X10_skipWord_0) fuel = self0 at hs0 hF
      unfold F_X10_skipWord_0 at hF
      refine z_aload_n cx d_X10_skipWord_0 0 rfl ?_
      refine z_aload_n cx d_X10_skipWord_1 0 rfl ?_
      refine z_getI cx hT fg_SunnyPansModel_91 d_X10_skipWord_2 ?_
      obtain ⟨v2, M1, hc, hF⟩ := zb_inv hF
      refine z_callV cx (As := [.int (M.1 0 4)]) (rest := []) (c_X10_byteAt l cx.2.2.2.1.1 M (M.1 0 4) hT hc) hT zo_11 cv_SunnyPansModel_94 ⟨rfl, rfl, Nat.le_of_ble_eq_true rfl, Nat.le_of_ble_eq_true rfl⟩ rfl rfl ⟨Nat.zero_le _, Nat.zero_le _⟩ (Nat.le_of_ble_eq_true rfl) d_X10_skipWord_5 ?_
      obtain ⟨v4, M3, hc, hF⟩ := zb_inv hF
      refine z_callS cx (As := [.int v2]) (rest := []) (c_X10_isSmall l cx.2.2.2.1.1 M1 v2  hc) cs_SunnyPansModel_120 ⟨rfl, rfl, Nat.le_of_ble_eq_true rfl, Nat.le_of_ble_eq_true rfl⟩ rfl rfl ⟨Nat.zero_le _, Nat.zero_le _⟩ (Nat.le_of_ble_eq_true rfl) d_X10_skipWord_8 ?_
      refine z_if_eq cx 27 d_X10_skipWord_11 (by decide) hF (fun hF => ?_) (fun hF => ?_)
      · exact z_vret cx hr hF d_X10_skipWord_27
      refine z_aload_n cx d_X10_skipWord_14 0 rfl ?_
      refine z_dup cx d_X10_skipWord_15 rfl ?_
      refine z_getI cx hT fg_SunnyPansModel_91 d_X10_skipWord_16 ?_
      refine z_iconst (v := 1) cx d_X10_skipWord_19 ki_1 ?_
      refine z_iadd cx d_X10_skipWord_20 ?_
      refine z_putI cx hT fp_SunnyPansModel_91 d_X10_skipWord_21 ?_
      refine z_nmM hF (fun M5 hF => ?_)
      refine z_goto cx 0 d_X10_skipWord_24 (by decide) ?_
      exact hs0 M5 hF
  unfold F_X10_skipWord at hF
  exact hL0 zFuel M hF
/-! SunnyPansModel.takes -/
set_option maxRecDepth 100000 in
theorem wd_1557 : Cond.code yX10_isWord cX10_isWord 7 (some .boolean) ∈ tbG := tw7 17 rfl rfl
set_option maxRecDepth 100000 in
theorem wd_1554 : Cond.methodLink "SunnyPansModel" 131 yX10_isWord ∈ tbG := tw7 14 rfl rfl
set_option maxRecDepth 100000 in
theorem wd_1556 : Cond.instanceMethod yX10_isWord ∈ tbG := tw7 16 rfl rfl
theorem wd_49 : Cond.selects "SunnyPansModel" yX10_isWord yX10_isWord ∈ tbG := tw 49 (by decide +kernel) rfl
theorem cv_SunnyPansModel_131 : zCV "SunnyPansModel" 131 "SunnyPansModel" yX10_isWord cX10_isWord 7 (some .boolean) 6 := zCV_of wd_1554 wd_1556 wd_49 wd_111 wd_1557 (by decide +kernel)
set_option maxRecDepth 100000 in
theorem wd_1575 : Cond.code yX10_skipWord cX10_skipWord 1 none ∈ tbG := tw7 35 rfl rfl
set_option maxRecDepth 100000 in
theorem wd_1572 : Cond.methodLink "SunnyPansModel" 135 yX10_skipWord ∈ tbG := tw7 32 rfl rfl
set_option maxRecDepth 100000 in
theorem wd_1574 : Cond.instanceMethod yX10_skipWord ∈ tbG := tw7 34 rfl rfl
theorem wd_52 : Cond.selects "SunnyPansModel" yX10_skipWord yX10_skipWord ∈ tbG := tw 52 (by decide +kernel) rfl
theorem cv_SunnyPansModel_135 : zCV "SunnyPansModel" 135 "SunnyPansModel" yX10_skipWord cX10_skipWord 1 none 0 := zCV_of wd_1572 wd_1574 wd_52 wd_111 wd_1575 (by decide +kernel)
theorem d_X10_takes_0 : decode cX10_takes 0 = .ok (.aload_n 0, 1) := by decide +kernel
theorem d_X10_takes_1 : decode cX10_takes 1 = .ok (.iload_n 1, 1) := by decide +kernel
theorem d_X10_takes_2 : decode cX10_takes 2 = .ok (.iload_n 2, 1) := by decide +kernel
theorem d_X10_takes_3 : decode cX10_takes 3 = .ok (.iload_n 3, 1) := by decide +kernel
theorem d_X10_takes_4 : decode cX10_takes 4 = .ok (.iload 4, 2) := by decide +kernel
theorem d_X10_takes_6 : decode cX10_takes 6 = .ok (.iload 5, 2) := by decide +kernel
theorem d_X10_takes_8 : decode cX10_takes 8 = .ok (.iload 6, 2) := by decide +kernel
theorem d_X10_takes_10 : decode cX10_takes 10 = .ok (.invokevirtual 131, 3) := by decide +kernel
theorem d_X10_takes_13 : decode cX10_takes 13 = .ok (.istore 7, 2) := by decide +kernel
theorem d_X10_takes_15 : decode cX10_takes 15 = .ok (.iload 7, 2) := by decide +kernel
theorem d_X10_takes_17 : decode cX10_takes 17 = .ok (.ifCond .eq 7, 3) := by decide +kernel
theorem d_X10_takes_20 : decode cX10_takes 20 = .ok (.aload_n 0, 1) := by decide +kernel
theorem d_X10_takes_21 : decode cX10_takes 21 = .ok (.invokevirtual 135, 3) := by decide +kernel
theorem d_X10_takes_24 : decode cX10_takes 24 = .ok (.iload 7, 2) := by decide +kernel
theorem d_X10_takes_26 : decode cX10_takes 26 = .ok (.ireturn, 1) := by decide +kernel
def F_X10_takes (M : zMem) (p0 : Int32) (p1 : Int32) (p2 : Int32) (p3 : Int32) (p4 : Int32) (p5 : Int32) : Option (Int32 × zMem) :=
  zb (F_X10_isWord M p0 p1 p2 p3 p4 p5) fun v2 M1 =>
  if v2 = 0 then
    gd (v2 == 0 || v2 == 1) <|
    some (v2, M1)
  else
    zbv (F_X10_skipWord M1) fun M4 =>
    gd (v2 == 0 || v2 == 1) <|
    some (v2, M4)
def rm_X10_takes : Room := { frames := 6, cells := 0, slots := 0, locals := 169 }
set_option maxHeartbeats 4000000 in
set_option maxRecDepth 100000 in
theorem c_X10_takes (l : Launch) {G : zG} {ad : Nat → Nat} {n : Nat} (hA : zInj ad n) (M : zMem) (p0 : Int32) (p1 : Int32) (p2 : Int32) (p3 : Int32) (p4 : Int32) (p5 : Int32) (hT : zT shM n 0 11) {r9 : Int32} {M9 : zMem} (hF : F_X10_takes M p0 p1 p2 p3 p4 p5 = some (r9, M9)) : zM l yX10_takes cX10_takes 8 (some .boolean) rm_X10_takes G shM ad n M [.ref (ad 0), .int p0, .int p1, .int p2, .int p3, .int p4, .int p5] (some (.int r9)) M9 := by
  refine zM_of hA (by decide +kernel) (lv := [(0, .ref (ad 0)), (1, .int p0), (2, .int p1), (3, .int p2), (4, .int p3), (5, .int p4), (6, .int p5)]) (Nat.le_of_ble_eq_true rfl) rfl (fun p e s m args below meth c A cx hr => ?_)
  unfold F_X10_takes at hF
  refine z_aload_n cx d_X10_takes_0 0 rfl ?_
  refine z_iload_n cx d_X10_takes_1 1 rfl ?_
  refine z_iload_n cx d_X10_takes_2 2 rfl ?_
  refine z_iload_n cx d_X10_takes_3 3 rfl ?_
  refine z_iload cx d_X10_takes_4 4 rfl ?_
  refine z_iload cx d_X10_takes_6 5 rfl ?_
  refine z_iload cx d_X10_takes_8 6 rfl ?_
  obtain ⟨v2, M1, hc, hF⟩ := zb_inv hF
  refine z_callV cx (As := [.int p0, .int p1, .int p2, .int p3, .int p4, .int p5]) (rest := []) (c_X10_isWord l cx.2.2.2.1.1 M p0 p1 p2 p3 p4 p5 hT hc) hT zo_11 cv_SunnyPansModel_131 ⟨rfl, rfl, Nat.le_of_ble_eq_true rfl, Nat.le_of_ble_eq_true rfl⟩ rfl rfl ⟨Nat.zero_le _, Nat.zero_le _⟩ (Nat.le_of_ble_eq_true rfl) d_X10_takes_10 ?_
  refine z_istore cx 7 [(7, .int v2), (0, .ref (ad 0)), (1, .int p0), (2, .int p1), (3, .int p2), (4, .int p3), (5, .int p4), (6, .int p5)] d_X10_takes_13 (by decide) rfl ?_
  refine z_iload cx d_X10_takes_15 0 rfl ?_
  refine z_if_eq cx 24 d_X10_takes_17 (by decide) hF (fun hF => ?_) (fun hF => ?_)
  · refine z_iload cx d_X10_takes_24 0 rfl ?_
    obtain ⟨hn3, hF⟩ := gd_inv hF
    exact z_iret cx hr (nbx hn3) hF d_X10_takes_26
  refine z_aload_n cx d_X10_takes_20 1 rfl ?_
  obtain ⟨M4, hc, hF⟩ := zbv_inv hF
  refine z_callV cx (As := []) (rest := []) (c_X10_skipWord l cx.2.2.2.1.1 M1 hT hc) hT zo_11 cv_SunnyPansModel_135 ⟨rfl, rfl, Nat.le_of_ble_eq_true rfl, Nat.le_of_ble_eq_true rfl⟩ rfl rfl ⟨Nat.zero_le _, Nat.zero_le _⟩ (Nat.le_of_ble_eq_true rfl) d_X10_takes_21 ?_
  refine z_iload cx d_X10_takes_24 0 rfl ?_
  obtain ⟨hn5, hF⟩ := gd_inv hF
  exact z_iret cx hr (nbx hn5) hF d_X10_takes_26
/-! SunnyPansModel.sign -/
theorem d_X10_sign_0 : decode cX10_sign 0 = .ok (.aload_n 0, 1) := by decide +kernel
theorem d_X10_sign_1 : decode cX10_sign 1 = .ok (.getfield 98, 3) := by decide +kernel
theorem d_X10_sign_4 : decode cX10_sign 4 = .ok (.ifCond .eq 4, 3) := by decide +kernel
theorem d_X10_sign_7 : decode cX10_sign 7 = .ok (.return_, 1) := by decide +kernel
theorem d_X10_sign_8 : decode cX10_sign 8 = .ok (.aload_n 0, 1) := by decide +kernel
theorem d_X10_sign_9 : decode cX10_sign 9 = .ok (.invokevirtual 104, 3) := by decide +kernel
theorem d_X10_sign_12 : decode cX10_sign 12 = .ok (.aload_n 0, 1) := by decide +kernel
theorem d_X10_sign_13 : decode cX10_sign 13 = .ok (.aload_n 0, 1) := by decide +kernel
theorem d_X10_sign_14 : decode cX10_sign 14 = .ok (.getfield 91, 3) := by decide +kernel
theorem d_X10_sign_17 : decode cX10_sign 17 = .ok (.invokevirtual 94, 3) := by decide +kernel
theorem d_X10_sign_20 : decode cX10_sign 20 = .ok (.iload_n 1, 1) := by decide +kernel
theorem d_X10_sign_21 : decode cX10_sign 21 = .ok (.if_icmp .ne 16, 3) := by decide +kernel
theorem d_X10_sign_24 : decode cX10_sign 24 = .ok (.aload_n 0, 1) := by decide +kernel
theorem d_X10_sign_25 : decode cX10_sign 25 = .ok (.dup, 1) := by decide +kernel
theorem d_X10_sign_26 : decode cX10_sign 26 = .ok (.getfield 91, 3) := by decide +kernel
theorem d_X10_sign_29 : decode cX10_sign 29 = .ok (.iconst 1, 1) := by decide +kernel
theorem d_X10_sign_30 : decode cX10_sign 30 = .ok (.iadd, 1) := by decide +kernel
theorem d_X10_sign_31 : decode cX10_sign 31 = .ok (.putfield 91, 3) := by decide +kernel
theorem d_X10_sign_34 : decode cX10_sign 34 = .ok (.goto 12, 3) := by decide +kernel
theorem d_X10_sign_37 : decode cX10_sign 37 = .ok (.aload_n 0, 1) := by decide +kernel
theorem d_X10_sign_38 : decode cX10_sign 38 = .ok (.iconst 1, 1) := by decide +kernel
theorem d_X10_sign_39 : decode cX10_sign 39 = .ok (.aload_n 0, 1) := by decide +kernel
theorem d_X10_sign_40 : decode cX10_sign 40 = .ok (.getfield 91, 3) := by decide +kernel
theorem d_X10_sign_43 : decode cX10_sign 43 = .ok (.invokevirtual 111, 3) := by decide +kernel
theorem d_X10_sign_46 : decode cX10_sign 46 = .ok (.return_, 1) := by decide +kernel
def F_X10_sign (M : zMem) (p0 : Int32) : Option (zMem) :=
  if (M.1 0 5) = 0 then
    zbv (F_X10_blanks M) fun M1 =>
    zb (F_X10_byteAt M1 (M1.1 0 4)) fun v3 M2 =>
    if v3 = p0 then
      zl (zI M2 0 4 ((M2.1 0 4) + (1 : Int32))) fun M5 =>
      some M5
    else
      zbv (F_X10_wrong M2 (1 : Int32) (M2.1 0 4)) fun M4 =>
      some M4
  else
    some M
def rm_X10_sign : Room := { frames := 4, cells := 0, slots := 0, locals := 121 }
set_option maxHeartbeats 4000000 in
set_option maxRecDepth 100000 in
theorem c_X10_sign (l : Launch) {G : zG} {ad : Nat → Nat} {n : Nat} (hA : zInj ad n) (M : zMem) (p0 : Int32) (hT : zT shM n 0 11) {M9 : zMem} (hF : F_X10_sign M p0 = some M9) : zM l yX10_sign cX10_sign 2 none rm_X10_sign G shM ad n M [.ref (ad 0), .int p0] none M9 := by
  refine zM_of hA (by decide +kernel) (lv := [(0, .ref (ad 0)), (1, .int p0)]) (Nat.le_of_ble_eq_true rfl) rfl (fun p e s m args below meth c A cx hr => ?_)
  unfold F_X10_sign at hF
  refine z_aload_n cx d_X10_sign_0 0 rfl ?_
  refine z_getI cx hT fg_SunnyPansModel_98 d_X10_sign_1 ?_
  refine z_if_eq cx 8 d_X10_sign_4 (by decide) hF (fun hF => ?_) (fun hF => ?_)
  · refine z_aload_n cx d_X10_sign_8 0 rfl ?_
    obtain ⟨M1, hc, hF⟩ := zbv_inv hF
    refine z_callV cx (As := []) (rest := []) (c_X10_blanks l cx.2.2.2.1.1 M hT hc) hT zo_11 cv_SunnyPansModel_104 ⟨rfl, rfl, Nat.le_of_ble_eq_true rfl, Nat.le_of_ble_eq_true rfl⟩ rfl rfl ⟨Nat.zero_le _, Nat.zero_le _⟩ (Nat.le_of_ble_eq_true rfl) d_X10_sign_9 ?_
    refine z_aload_n cx d_X10_sign_12 0 rfl ?_
    refine z_aload_n cx d_X10_sign_13 0 rfl ?_
    refine z_getI cx hT fg_SunnyPansModel_91 d_X10_sign_14 ?_
    obtain ⟨v3, M2, hc, hF⟩ := zb_inv hF
    refine z_callV cx (As := [.int (M1.1 0 4)]) (rest := []) (c_X10_byteAt l cx.2.2.2.1.1 M1 (M1.1 0 4) hT hc) hT zo_11 cv_SunnyPansModel_94 ⟨rfl, rfl, Nat.le_of_ble_eq_true rfl, Nat.le_of_ble_eq_true rfl⟩ rfl rfl ⟨Nat.zero_le _, Nat.zero_le _⟩ (Nat.le_of_ble_eq_true rfl) d_X10_sign_17 ?_
    refine z_iload_n cx d_X10_sign_20 1 rfl ?_
    refine z_icmp_ne cx 37 d_X10_sign_21 (by decide) hF (fun hF => ?_) (fun hF => ?_)
    · refine z_aload_n cx d_X10_sign_37 0 rfl ?_
      refine z_iconst (v := 1) cx d_X10_sign_38 ki_1 ?_
      refine z_aload_n cx d_X10_sign_39 0 rfl ?_
      refine z_getI cx hT fg_SunnyPansModel_91 d_X10_sign_40 ?_
      obtain ⟨M4, hc, hF⟩ := zbv_inv hF
      refine z_callV cx (As := [.int (1 : Int32), .int (M2.1 0 4)]) (rest := []) (c_X10_wrong l cx.2.2.2.1.1 M2 (1 : Int32) (M2.1 0 4) hT hc) hT zo_11 cv_SunnyPansModel_111 ⟨rfl, rfl, Nat.le_of_ble_eq_true rfl, Nat.le_of_ble_eq_true rfl⟩ rfl rfl ⟨Nat.zero_le _, Nat.zero_le _⟩ (Nat.le_of_ble_eq_true rfl) d_X10_sign_43 ?_
      exact z_vret cx hr hF d_X10_sign_46
    refine z_aload_n cx d_X10_sign_24 0 rfl ?_
    refine z_dup cx d_X10_sign_25 rfl ?_
    refine z_getI cx hT fg_SunnyPansModel_91 d_X10_sign_26 ?_
    refine z_iconst (v := 1) cx d_X10_sign_29 ki_1 ?_
    refine z_iadd cx d_X10_sign_30 ?_
    refine z_putI cx hT fp_SunnyPansModel_91 d_X10_sign_31 ?_
    refine z_nmM hF (fun M5 hF => ?_)
    refine z_goto cx 46 d_X10_sign_34 (by decide) ?_
    exact z_vret cx hr hF d_X10_sign_46
  exact z_vret cx hr hF d_X10_sign_7
/-! SunnyPansModel.takesSign -/
theorem d_X10_takesSign_0 : decode cX10_takesSign 0 = .ok (.aload_n 0, 1) := by decide +kernel
theorem d_X10_takesSign_1 : decode cX10_takesSign 1 = .ok (.getfield 98, 3) := by decide +kernel
theorem d_X10_takesSign_4 : decode cX10_takesSign 4 = .ok (.ifCond .eq 5, 3) := by decide +kernel
theorem d_X10_takesSign_7 : decode cX10_takesSign 7 = .ok (.iconst 0, 1) := by decide +kernel
theorem d_X10_takesSign_8 : decode cX10_takesSign 8 = .ok (.ireturn, 1) := by decide +kernel
theorem d_X10_takesSign_9 : decode cX10_takesSign 9 = .ok (.aload_n 0, 1) := by decide +kernel
theorem d_X10_takesSign_10 : decode cX10_takesSign 10 = .ok (.invokevirtual 104, 3) := by decide +kernel
theorem d_X10_takesSign_13 : decode cX10_takesSign 13 = .ok (.aload_n 0, 1) := by decide +kernel
theorem d_X10_takesSign_14 : decode cX10_takesSign 14 = .ok (.aload_n 0, 1) := by decide +kernel
theorem d_X10_takesSign_15 : decode cX10_takesSign 15 = .ok (.getfield 91, 3) := by decide +kernel
theorem d_X10_takesSign_18 : decode cX10_takesSign 18 = .ok (.invokevirtual 94, 3) := by decide +kernel
theorem d_X10_takesSign_21 : decode cX10_takesSign 21 = .ok (.iload_n 1, 1) := by decide +kernel
theorem d_X10_takesSign_22 : decode cX10_takesSign 22 = .ok (.if_icmp .ne 7, 3) := by decide +kernel
theorem d_X10_takesSign_25 : decode cX10_takesSign 25 = .ok (.iconst 1, 1) := by decide +kernel
theorem d_X10_takesSign_26 : decode cX10_takesSign 26 = .ok (.goto 4, 3) := by decide +kernel
theorem d_X10_takesSign_29 : decode cX10_takesSign 29 = .ok (.iconst 0, 1) := by decide +kernel
theorem d_X10_takesSign_30 : decode cX10_takesSign 30 = .ok (.istore_n 2, 1) := by decide +kernel
theorem d_X10_takesSign_31 : decode cX10_takesSign 31 = .ok (.iload_n 2, 1) := by decide +kernel
theorem d_X10_takesSign_32 : decode cX10_takesSign 32 = .ok (.ifCond .eq 13, 3) := by decide +kernel
theorem d_X10_takesSign_35 : decode cX10_takesSign 35 = .ok (.aload_n 0, 1) := by decide +kernel
theorem d_X10_takesSign_36 : decode cX10_takesSign 36 = .ok (.dup, 1) := by decide +kernel
theorem d_X10_takesSign_37 : decode cX10_takesSign 37 = .ok (.getfield 91, 3) := by decide +kernel
theorem d_X10_takesSign_40 : decode cX10_takesSign 40 = .ok (.iconst 1, 1) := by decide +kernel
theorem d_X10_takesSign_41 : decode cX10_takesSign 41 = .ok (.iadd, 1) := by decide +kernel
theorem d_X10_takesSign_42 : decode cX10_takesSign 42 = .ok (.putfield 91, 3) := by decide +kernel
theorem d_X10_takesSign_45 : decode cX10_takesSign 45 = .ok (.iload_n 2, 1) := by decide +kernel
theorem d_X10_takesSign_46 : decode cX10_takesSign 46 = .ok (.ireturn, 1) := by decide +kernel
def F_X10_takesSign_30 (p0 : Int32) (b30_S0 : Int32) (M : zMem) : Option (Int32 × zMem) :=
  if b30_S0 = 0 then
    gd (b30_S0 == 0 || b30_S0 == 1) <|
    some (b30_S0, M)
  else
    zl (zI M 0 4 ((M.1 0 4) + (1 : Int32))) fun M2 =>
    gd (b30_S0 == 0 || b30_S0 == 1) <|
    some (b30_S0, M2)
def F_X10_takesSign (M : zMem) (p0 : Int32) : Option (Int32 × zMem) :=
  if (M.1 0 5) = 0 then
    zbv (F_X10_blanks M) fun M4 =>
    zb (F_X10_byteAt M4 (M4.1 0 4)) fun v6 M5 =>
    if v6 = p0 then
      F_X10_takesSign_30 p0 (1 : Int32) M5
    else
      F_X10_takesSign_30 p0 (0 : Int32) M5
  else
    some ((0 : Int32), M)
def rm_X10_takesSign : Room := { frames := 4, cells := 0, slots := 0, locals := 121 }
set_option maxHeartbeats 4000000 in
set_option maxRecDepth 100000 in
theorem c_X10_takesSign (l : Launch) {G : zG} {ad : Nat → Nat} {n : Nat} (hA : zInj ad n) (M : zMem) (p0 : Int32) (hT : zT shM n 0 11) {r9 : Int32} {M9 : zMem} (hF : F_X10_takesSign M p0 = some (r9, M9)) : zM l yX10_takesSign cX10_takesSign 3 (some .boolean) rm_X10_takesSign G shM ad n M [.ref (ad 0), .int p0] (some (.int r9)) M9 := by
  refine zM_of hA (by decide +kernel) (lv := [(0, .ref (ad 0)), (1, .int p0)]) (Nat.le_of_ble_eq_true rfl) rfl (fun p e s m args below meth c A cx hr => ?_)
  have hb30 : ∀ (b30_S0 : Int32) (M : zMem), F_X10_takesSign_30 p0 b30_S0 M = some (r9, M9) → zJ p l e rm_X10_takesSign s m args below meth c G shM ad n A 3 (MQ below (zQ G shM ad n M9 (some (.int r9)) A) args s 0 0 A) 0 0 M 30 [(0, .ref (ad 0))] [.int b30_S0] := by
    intro b30_S0 M hF
    unfold F_X10_takesSign_30 at hF
    refine z_istore_n cx 2 [(2, .int b30_S0), (0, .ref (ad 0))] d_X10_takesSign_30 rfl (by decide) rfl ?_
    refine z_iload_n cx d_X10_takesSign_31 0 rfl ?_
    refine z_if_eq cx 45 d_X10_takesSign_32 (by decide) hF (fun hF => ?_) (fun hF => ?_)
    · refine z_iload_n cx d_X10_takesSign_45 0 rfl ?_
      obtain ⟨hn1, hF⟩ := gd_inv hF
      exact z_iret cx hr (nbx hn1) hF d_X10_takesSign_46
    refine z_aload_n cx d_X10_takesSign_35 1 rfl ?_
    refine z_dup cx d_X10_takesSign_36 rfl ?_
    refine z_getI cx hT fg_SunnyPansModel_91 d_X10_takesSign_37 ?_
    refine z_iconst (v := 1) cx d_X10_takesSign_40 ki_1 ?_
    refine z_iadd cx d_X10_takesSign_41 ?_
    refine z_putI cx hT fp_SunnyPansModel_91 d_X10_takesSign_42 ?_
    refine z_nmM hF (fun M2 hF => ?_)
    refine z_iload_n cx d_X10_takesSign_45 0 rfl ?_
    obtain ⟨hn3, hF⟩ := gd_inv hF
    exact z_iret cx hr (nbx hn3) hF d_X10_takesSign_46
  unfold F_X10_takesSign at hF
  refine z_aload_n cx d_X10_takesSign_0 0 rfl ?_
  refine z_getI cx hT fg_SunnyPansModel_98 d_X10_takesSign_1 ?_
  refine z_if_eq cx 9 d_X10_takesSign_4 (by decide) hF (fun hF => ?_) (fun hF => ?_)
  · refine z_aload_n cx d_X10_takesSign_9 0 rfl ?_
    obtain ⟨M4, hc, hF⟩ := zbv_inv hF
    refine z_callV cx (As := []) (rest := []) (c_X10_blanks l cx.2.2.2.1.1 M hT hc) hT zo_11 cv_SunnyPansModel_104 ⟨rfl, rfl, Nat.le_of_ble_eq_true rfl, Nat.le_of_ble_eq_true rfl⟩ rfl rfl ⟨Nat.zero_le _, Nat.zero_le _⟩ (Nat.le_of_ble_eq_true rfl) d_X10_takesSign_10 ?_
    refine z_aload_n cx d_X10_takesSign_13 0 rfl ?_
    refine z_aload_n cx d_X10_takesSign_14 0 rfl ?_
    refine z_getI cx hT fg_SunnyPansModel_91 d_X10_takesSign_15 ?_
    obtain ⟨v6, M5, hc, hF⟩ := zb_inv hF
    refine z_callV cx (As := [.int (M4.1 0 4)]) (rest := []) (c_X10_byteAt l cx.2.2.2.1.1 M4 (M4.1 0 4) hT hc) hT zo_11 cv_SunnyPansModel_94 ⟨rfl, rfl, Nat.le_of_ble_eq_true rfl, Nat.le_of_ble_eq_true rfl⟩ rfl rfl ⟨Nat.zero_le _, Nat.zero_le _⟩ (Nat.le_of_ble_eq_true rfl) d_X10_takesSign_18 ?_
    refine z_iload_n cx d_X10_takesSign_21 1 rfl ?_
    refine z_icmp_ne cx 29 d_X10_takesSign_22 (by decide) hF (fun hF => ?_) (fun hF => ?_)
    · refine z_iconst (v := 0) cx d_X10_takesSign_29 ki_0 ?_
      exact z_lv [0] _ rfl (hb30 (0 : Int32) M5 hF)
    refine z_iconst (v := 1) cx d_X10_takesSign_25 ki_1 ?_
    refine z_goto cx 30 d_X10_takesSign_26 (by decide) ?_
    exact z_lv [0] _ rfl (hb30 (1 : Int32) M5 hF)
  refine z_iconst (v := 0) cx d_X10_takesSign_7 ki_0 ?_
  exact z_iret cx hr nb0 hF d_X10_takesSign_8
/-! SunnyPansModel.starts -/
theorem fp_SunnyPansModel_88 : zPutI "SunnyPansModel" 88 10 11 2 := ⟨zc_10, fg_SunnyPansModel_88, ⟨RX10, TX10, 40, rfl, rfl, by decide +kernel⟩, fun _ _ _ _ _ _ _ => ⟨_, rfl, Nat.le_of_ble_eq_true rfl, rfl⟩⟩
set_option maxRecDepth 100000 in
theorem wd_1401 : Cond.fieldLink "SunnyPansModel" 138 "SunnyPansModel" "clauses" "I" ∈ tbG := tw6 101 rfl rfl
theorem fg_SunnyPansModel_138 : zGetI "SunnyPansModel" 138 10 11 7 := ⟨RX10, TX10, 40, rfl, by decide, uw_10, wd_1401, fun _ _ _ _ _ _ => ⟨_, rfl, rfl⟩⟩
theorem fp_SunnyPansModel_138 : zPutI "SunnyPansModel" 138 10 11 7 := ⟨zc_10, fg_SunnyPansModel_138, ⟨RX10, TX10, 40, rfl, rfl, by decide +kernel⟩, fun _ _ _ _ _ _ _ => ⟨_, rfl, Nat.le_of_ble_eq_true rfl, rfl⟩⟩
set_option maxRecDepth 100000 in
theorem wd_1402 : Cond.fieldLink "SunnyPansModel" 141 "SunnyPansModel" "open" "I" ∈ tbG := tw6 102 rfl rfl
theorem fg_SunnyPansModel_141 : zGetI "SunnyPansModel" 141 10 11 8 := ⟨RX10, TX10, 40, rfl, by decide, uw_10, wd_1402, fun _ _ _ _ _ _ => ⟨_, rfl, rfl⟩⟩
theorem fp_SunnyPansModel_141 : zPutI "SunnyPansModel" 141 10 11 8 := ⟨zc_10, fg_SunnyPansModel_141, ⟨RX10, TX10, 40, rfl, rfl, by decide +kernel⟩, fun _ _ _ _ _ _ _ => ⟨_, rfl, Nat.le_of_ble_eq_true rfl, rfl⟩⟩
theorem d_X10_starts_0 : decode cX10_starts 0 = .ok (.aload_n 0, 1) := by decide +kernel
theorem d_X10_starts_1 : decode cX10_starts 1 = .ok (.iconst 0, 1) := by decide +kernel
theorem d_X10_starts_2 : decode cX10_starts 2 = .ok (.putfield 85, 3) := by decide +kernel
theorem d_X10_starts_5 : decode cX10_starts 5 = .ok (.aload_n 0, 1) := by decide +kernel
theorem d_X10_starts_6 : decode cX10_starts 6 = .ok (.iload_n 1, 1) := by decide +kernel
theorem d_X10_starts_7 : decode cX10_starts 7 = .ok (.putfield 88, 3) := by decide +kernel
theorem d_X10_starts_10 : decode cX10_starts 10 = .ok (.aload_n 0, 1) := by decide +kernel
theorem d_X10_starts_11 : decode cX10_starts 11 = .ok (.iconst 0, 1) := by decide +kernel
theorem d_X10_starts_12 : decode cX10_starts 12 = .ok (.putfield 91, 3) := by decide +kernel
theorem d_X10_starts_15 : decode cX10_starts 15 = .ok (.aload_n 0, 1) := by decide +kernel
theorem d_X10_starts_16 : decode cX10_starts 16 = .ok (.iconst 0, 1) := by decide +kernel
theorem d_X10_starts_17 : decode cX10_starts 17 = .ok (.putfield 98, 3) := by decide +kernel
theorem d_X10_starts_20 : decode cX10_starts 20 = .ok (.aload_n 0, 1) := by decide +kernel
theorem d_X10_starts_21 : decode cX10_starts 21 = .ok (.iconst (-1), 1) := by decide +kernel
theorem d_X10_starts_22 : decode cX10_starts 22 = .ok (.putfield 101, 3) := by decide +kernel
theorem d_X10_starts_25 : decode cX10_starts 25 = .ok (.aload_n 0, 1) := by decide +kernel
theorem d_X10_starts_26 : decode cX10_starts 26 = .ok (.iconst 0, 1) := by decide +kernel
theorem d_X10_starts_27 : decode cX10_starts 27 = .ok (.putfield 138, 3) := by decide +kernel
theorem d_X10_starts_30 : decode cX10_starts 30 = .ok (.aload_n 0, 1) := by decide +kernel
theorem d_X10_starts_31 : decode cX10_starts 31 = .ok (.iconst 0, 1) := by decide +kernel
theorem d_X10_starts_32 : decode cX10_starts 32 = .ok (.putfield 141, 3) := by decide +kernel
theorem d_X10_starts_35 : decode cX10_starts 35 = .ok (.aload_n 0, 1) := by decide +kernel
theorem d_X10_starts_36 : decode cX10_starts 36 = .ok (.invokevirtual 104, 3) := by decide +kernel
theorem d_X10_starts_39 : decode cX10_starts 39 = .ok (.return_, 1) := by decide +kernel
def F_X10_starts (M : zMem) (p0 : Int32) : Option (zMem) :=
  zl (zI M 0 1 (0 : Int32)) fun M1 =>
  zl (zI M1 0 2 p0) fun M2 =>
  zl (zI M2 0 4 (0 : Int32)) fun M3 =>
  zl (zI M3 0 5 (0 : Int32)) fun M4 =>
  zl (zI M4 0 6 (-1 : Int32)) fun M5 =>
  zl (zI M5 0 7 (0 : Int32)) fun M6 =>
  zl (zI M6 0 8 (0 : Int32)) fun M7 =>
  zbv (F_X10_blanks M7) fun M8 =>
  some M8
def rm_X10_starts : Room := { frames := 4, cells := 0, slots := 0, locals := 121 }
set_option maxHeartbeats 4000000 in
set_option maxRecDepth 100000 in
theorem c_X10_starts (l : Launch) {G : zG} {ad : Nat → Nat} {n : Nat} (hA : zInj ad n) (M : zMem) (p0 : Int32) (hT : zT shM n 0 11) {M9 : zMem} (hF : F_X10_starts M p0 = some M9) : zM l yX10_starts cX10_starts 2 none rm_X10_starts G shM ad n M [.ref (ad 0), .int p0] none M9 := by
  refine zM_of hA (by decide +kernel) (lv := [(0, .ref (ad 0)), (1, .int p0)]) (Nat.le_of_ble_eq_true rfl) rfl (fun p e s m args below meth c A cx hr => ?_)
  unfold F_X10_starts at hF
  refine z_aload_n cx d_X10_starts_0 0 rfl ?_
  refine z_iconst (v := 0) cx d_X10_starts_1 ki_0 ?_
  refine z_putI cx hT fp_SunnyPansModel_85 d_X10_starts_2 ?_
  refine z_nmM hF (fun M1 hF => ?_)
  refine z_aload_n cx d_X10_starts_5 0 rfl ?_
  refine z_iload_n cx d_X10_starts_6 1 rfl ?_
  refine z_putI cx hT fp_SunnyPansModel_88 d_X10_starts_7 ?_
  refine z_nmM hF (fun M2 hF => ?_)
  refine z_aload_n cx d_X10_starts_10 0 rfl ?_
  refine z_iconst (v := 0) cx d_X10_starts_11 ki_0 ?_
  refine z_putI cx hT fp_SunnyPansModel_91 d_X10_starts_12 ?_
  refine z_nmM hF (fun M3 hF => ?_)
  refine z_aload_n cx d_X10_starts_15 0 rfl ?_
  refine z_iconst (v := 0) cx d_X10_starts_16 ki_0 ?_
  refine z_putI cx hT fp_SunnyPansModel_98 d_X10_starts_17 ?_
  refine z_nmM hF (fun M4 hF => ?_)
  refine z_aload_n cx d_X10_starts_20 0 rfl ?_
  refine z_iconst (v := -1) cx d_X10_starts_21 ki_m1 ?_
  refine z_putI cx hT fp_SunnyPansModel_101 d_X10_starts_22 ?_
  refine z_nmM hF (fun M5 hF => ?_)
  refine z_aload_n cx d_X10_starts_25 0 rfl ?_
  refine z_iconst (v := 0) cx d_X10_starts_26 ki_0 ?_
  refine z_putI cx hT fp_SunnyPansModel_138 d_X10_starts_27 ?_
  refine z_nmM hF (fun M6 hF => ?_)
  refine z_aload_n cx d_X10_starts_30 0 rfl ?_
  refine z_iconst (v := 0) cx d_X10_starts_31 ki_0 ?_
  refine z_putI cx hT fp_SunnyPansModel_141 d_X10_starts_32 ?_
  refine z_nmM hF (fun M7 hF => ?_)
  refine z_aload_n cx d_X10_starts_35 0 rfl ?_
  obtain ⟨M8, hc, hF⟩ := zbv_inv hF
  refine z_callV cx (As := []) (rest := []) (c_X10_blanks l cx.2.2.2.1.1 M7 hT hc) hT zo_11 cv_SunnyPansModel_104 ⟨rfl, rfl, Nat.le_of_ble_eq_true rfl, Nat.le_of_ble_eq_true rfl⟩ rfl rfl ⟨Nat.zero_le _, Nat.zero_le _⟩ (Nat.le_of_ble_eq_true rfl) d_X10_starts_36 ?_
  exact z_vret cx hr hF d_X10_starts_39
/-! SunnyPansModel.ends -/
set_option maxRecDepth 100000 in
theorem wd_1397 : Cond.fieldLink "SunnyPansModel" 9 "SunnyPansModel" "place" "I" ∈ tbG := tw6 97 rfl rfl
theorem fg_SunnyPansModel_9 : zGetI "SunnyPansModel" 9 10 11 3 := ⟨RX10, TX10, 40, rfl, by decide, uw_10, wd_1397, fun _ _ _ _ _ _ => ⟨_, rfl, rfl⟩⟩
theorem fp_SunnyPansModel_9 : zPutI "SunnyPansModel" 9 10 11 3 := ⟨zc_10, fg_SunnyPansModel_9, ⟨RX10, TX10, 40, rfl, rfl, by decide +kernel⟩, fun _ _ _ _ _ _ _ => ⟨_, rfl, Nat.le_of_ble_eq_true rfl, rfl⟩⟩
theorem d_X10_ends_0 : decode cX10_ends 0 = .ok (.aload_n 0, 1) := by decide +kernel
theorem d_X10_ends_1 : decode cX10_ends 1 = .ok (.aload_n 0, 1) := by decide +kernel
theorem d_X10_ends_2 : decode cX10_ends 2 = .ok (.getfield 101, 3) := by decide +kernel
theorem d_X10_ends_5 : decode cX10_ends 5 = .ok (.putfield 9, 3) := by decide +kernel
theorem d_X10_ends_8 : decode cX10_ends 8 = .ok (.aload_n 0, 1) := by decide +kernel
theorem d_X10_ends_9 : decode cX10_ends 9 = .ok (.getfield 98, 3) := by decide +kernel
theorem d_X10_ends_12 : decode cX10_ends 12 = .ok (.bipush 10, 2) := by decide +kernel
theorem d_X10_ends_14 : decode cX10_ends 14 = .ok (.isub, 1) := by decide +kernel
theorem d_X10_ends_15 : decode cX10_ends 15 = .ok (.ireturn, 1) := by decide +kernel
def F_X10_ends (M : zMem)  : Option (Int32 × zMem) :=
  zl (zI M 0 3 (M.1 0 6)) fun M1 =>
  some (((M1.1 0 5) - (10 : Int32)), M1)
def rm_X10_ends : Room := { frames := 2, cells := 0, slots := 0, locals := 80 }
set_option maxHeartbeats 4000000 in
set_option maxRecDepth 100000 in
theorem c_X10_ends (l : Launch) {G : zG} {ad : Nat → Nat} {n : Nat} (hA : zInj ad n) (M : zMem)  (hT : zT shM n 0 11) {r9 : Int32} {M9 : zMem} (hF : F_X10_ends M  = some (r9, M9)) : zM l yX10_ends cX10_ends 1 (some .int) rm_X10_ends G shM ad n M [.ref (ad 0)] (some (.int r9)) M9 := by
  refine zM_of hA (by decide +kernel) (lv := [(0, .ref (ad 0))]) (Nat.le_of_ble_eq_true rfl) rfl (fun p e s m args below meth c A cx hr => ?_)
  unfold F_X10_ends at hF
  refine z_aload_n cx d_X10_ends_0 0 rfl ?_
  refine z_aload_n cx d_X10_ends_1 0 rfl ?_
  refine z_getI cx hT fg_SunnyPansModel_101 d_X10_ends_2 ?_
  refine z_putI cx hT fp_SunnyPansModel_9 d_X10_ends_5 ?_
  refine z_nmM hF (fun M1 hF => ?_)
  refine z_aload_n cx d_X10_ends_8 0 rfl ?_
  refine z_getI cx hT fg_SunnyPansModel_98 d_X10_ends_9 ?_
  refine z_bipush (v := 10) cx d_X10_ends_12 kb_10 ?_
  refine z_isub cx d_X10_ends_14 ?_
  exact z_iret cx hr rfl hF d_X10_ends_15
/-! SunnyPansModel.kindHere -/
theorem kb_19 : (Int8.ofInt (19)).toInt32 = (19 : Int32) := by decide +kernel
theorem kb_26 : (Int8.ofInt (26)).toInt32 = (26 : Int32) := by decide +kernel
theorem kb_15 : (Int8.ofInt (15)).toInt32 = (15 : Int32) := by decide +kernel
theorem kb_21 : (Int8.ofInt (21)).toInt32 = (21 : Int32) := by decide +kernel
theorem kb_18 : (Int8.ofInt (18)).toInt32 = (18 : Int32) := by decide +kernel
theorem kb_14 : (Int8.ofInt (14)).toInt32 = (14 : Int32) := by decide +kernel
theorem d_X10_kindHere_0 : decode cX10_kindHere 0 = .ok (.aload_n 0, 1) := by decide +kernel
theorem d_X10_kindHere_1 : decode cX10_kindHere 1 = .ok (.bipush 19, 2) := by decide +kernel
theorem d_X10_kindHere_3 : decode cX10_kindHere 3 = .ok (.bipush 9, 2) := by decide +kernel
theorem d_X10_kindHere_5 : decode cX10_kindHere 5 = .ok (.bipush 26, 2) := by decide +kernel
theorem d_X10_kindHere_7 : decode cX10_kindHere 7 = .ok (.iconst 5, 1) := by decide +kernel
theorem d_X10_kindHere_8 : decode cX10_kindHere 8 = .ok (.iconst 0, 1) := by decide +kernel
theorem d_X10_kindHere_9 : decode cX10_kindHere 9 = .ok (.iconst 0, 1) := by decide +kernel
theorem d_X10_kindHere_10 : decode cX10_kindHere 10 = .ok (.invokevirtual 131, 3) := by decide +kernel
theorem d_X10_kindHere_13 : decode cX10_kindHere 13 = .ok (.ifCond .eq 5, 3) := by decide +kernel
theorem d_X10_kindHere_16 : decode cX10_kindHere 16 = .ok (.iconst 0, 1) := by decide +kernel
theorem d_X10_kindHere_17 : decode cX10_kindHere 17 = .ok (.ireturn, 1) := by decide +kernel
theorem d_X10_kindHere_18 : decode cX10_kindHere 18 = .ok (.aload_n 0, 1) := by decide +kernel
theorem d_X10_kindHere_19 : decode cX10_kindHere 19 = .ok (.bipush 8, 2) := by decide +kernel
theorem d_X10_kindHere_21 : decode cX10_kindHere 21 = .ok (.bipush 15, 2) := by decide +kernel
theorem d_X10_kindHere_23 : decode cX10_kindHere 23 = .ok (.bipush 21, 2) := by decide +kernel
theorem d_X10_kindHere_25 : decode cX10_kindHere 25 = .ok (.bipush 18, 2) := by decide +kernel
theorem d_X10_kindHere_27 : decode cX10_kindHere 27 = .ok (.iconst 0, 1) := by decide +kernel
theorem d_X10_kindHere_28 : decode cX10_kindHere 28 = .ok (.iconst 0, 1) := by decide +kernel
theorem d_X10_kindHere_29 : decode cX10_kindHere 29 = .ok (.invokevirtual 131, 3) := by decide +kernel
theorem d_X10_kindHere_32 : decode cX10_kindHere 32 = .ok (.ifCond .eq 5, 3) := by decide +kernel
theorem d_X10_kindHere_35 : decode cX10_kindHere 35 = .ok (.iconst 1, 1) := by decide +kernel
theorem d_X10_kindHere_36 : decode cX10_kindHere 36 = .ok (.ireturn, 1) := by decide +kernel
theorem d_X10_kindHere_37 : decode cX10_kindHere 37 = .ok (.aload_n 0, 1) := by decide +kernel
theorem d_X10_kindHere_38 : decode cX10_kindHere 38 = .ok (.bipush 16, 2) := by decide +kernel
theorem d_X10_kindHere_40 : decode cX10_kindHere 40 = .ok (.iconst 1, 1) := by decide +kernel
theorem d_X10_kindHere_41 : decode cX10_kindHere 41 = .ok (.bipush 14, 2) := by decide +kernel
theorem d_X10_kindHere_43 : decode cX10_kindHere 43 = .ok (.iconst 0, 1) := by decide +kernel
theorem d_X10_kindHere_44 : decode cX10_kindHere 44 = .ok (.iconst 0, 1) := by decide +kernel
theorem d_X10_kindHere_45 : decode cX10_kindHere 45 = .ok (.iconst 0, 1) := by decide +kernel
theorem d_X10_kindHere_46 : decode cX10_kindHere 46 = .ok (.invokevirtual 131, 3) := by decide +kernel
theorem d_X10_kindHere_49 : decode cX10_kindHere 49 = .ok (.ifCond .eq 5, 3) := by decide +kernel
theorem d_X10_kindHere_52 : decode cX10_kindHere 52 = .ok (.iconst 2, 1) := by decide +kernel
theorem d_X10_kindHere_53 : decode cX10_kindHere 53 = .ok (.ireturn, 1) := by decide +kernel
theorem d_X10_kindHere_54 : decode cX10_kindHere 54 = .ok (.aload_n 0, 1) := by decide +kernel
theorem d_X10_kindHere_55 : decode cX10_kindHere 55 = .ok (.bipush 8, 2) := by decide +kernel
theorem d_X10_kindHere_57 : decode cX10_kindHere 57 = .ok (.iconst 5, 1) := by decide +kernel
theorem d_X10_kindHere_58 : decode cX10_kindHere 58 = .ok (.iconst 1, 1) := by decide +kernel
theorem d_X10_kindHere_59 : decode cX10_kindHere 59 = .ok (.bipush 16, 2) := by decide +kernel
theorem d_X10_kindHere_61 : decode cX10_kindHere 61 = .ok (.iconst 0, 1) := by decide +kernel
theorem d_X10_kindHere_62 : decode cX10_kindHere 62 = .ok (.iconst 0, 1) := by decide +kernel
theorem d_X10_kindHere_63 : decode cX10_kindHere 63 = .ok (.invokevirtual 131, 3) := by decide +kernel
theorem d_X10_kindHere_66 : decode cX10_kindHere 66 = .ok (.ifCond .eq 7, 3) := by decide +kernel
theorem d_X10_kindHere_69 : decode cX10_kindHere 69 = .ok (.iconst 3, 1) := by decide +kernel
theorem d_X10_kindHere_70 : decode cX10_kindHere 70 = .ok (.goto 4, 3) := by decide +kernel
theorem d_X10_kindHere_73 : decode cX10_kindHere 73 = .ok (.iconst (-1), 1) := by decide +kernel
theorem d_X10_kindHere_74 : decode cX10_kindHere 74 = .ok (.ireturn, 1) := by decide +kernel
def F_X10_kindHere (M : zMem)  : Option (Int32 × zMem) :=
  zb (F_X10_isWord M (19 : Int32) (9 : Int32) (26 : Int32) (5 : Int32) (0 : Int32) (0 : Int32)) fun v2 M1 =>
  if v2 = 0 then
    zb (F_X10_isWord M1 (8 : Int32) (15 : Int32) (21 : Int32) (18 : Int32) (0 : Int32) (0 : Int32)) fun v4 M3 =>
    if v4 = 0 then
      zb (F_X10_isWord M3 (16 : Int32) (1 : Int32) (14 : Int32) (0 : Int32) (0 : Int32) (0 : Int32)) fun v6 M5 =>
      if v6 = 0 then
        zb (F_X10_isWord M5 (8 : Int32) (5 : Int32) (1 : Int32) (16 : Int32) (0 : Int32) (0 : Int32)) fun v8 M7 =>
        if v8 = 0 then
          some ((-1 : Int32), M7)
        else
          some ((3 : Int32), M7)
      else
        some ((2 : Int32), M5)
    else
      some ((1 : Int32), M3)
  else
    some ((0 : Int32), M1)
def rm_X10_kindHere : Room := { frames := 6, cells := 0, slots := 0, locals := 169 }
set_option maxHeartbeats 4000000 in
set_option maxRecDepth 100000 in
theorem c_X10_kindHere (l : Launch) {G : zG} {ad : Nat → Nat} {n : Nat} (hA : zInj ad n) (M : zMem)  (hT : zT shM n 0 11) {r9 : Int32} {M9 : zMem} (hF : F_X10_kindHere M  = some (r9, M9)) : zM l yX10_kindHere cX10_kindHere 1 (some .int) rm_X10_kindHere G shM ad n M [.ref (ad 0)] (some (.int r9)) M9 := by
  refine zM_of hA (by decide +kernel) (lv := [(0, .ref (ad 0))]) (Nat.le_of_ble_eq_true rfl) rfl (fun p e s m args below meth c A cx hr => ?_)
  unfold F_X10_kindHere at hF
  refine z_aload_n cx d_X10_kindHere_0 0 rfl ?_
  refine z_bipush (v := 19) cx d_X10_kindHere_1 kb_19 ?_
  refine z_bipush (v := 9) cx d_X10_kindHere_3 kb_9 ?_
  refine z_bipush (v := 26) cx d_X10_kindHere_5 kb_26 ?_
  refine z_iconst (v := 5) cx d_X10_kindHere_7 ki_5 ?_
  refine z_iconst (v := 0) cx d_X10_kindHere_8 ki_0 ?_
  refine z_iconst (v := 0) cx d_X10_kindHere_9 ki_0 ?_
  obtain ⟨v2, M1, hc, hF⟩ := zb_inv hF
  refine z_callV cx (As := [.int (19 : Int32), .int (9 : Int32), .int (26 : Int32), .int (5 : Int32), .int (0 : Int32), .int (0 : Int32)]) (rest := []) (c_X10_isWord l cx.2.2.2.1.1 M (19 : Int32) (9 : Int32) (26 : Int32) (5 : Int32) (0 : Int32) (0 : Int32) hT hc) hT zo_11 cv_SunnyPansModel_131 ⟨rfl, rfl, Nat.le_of_ble_eq_true rfl, Nat.le_of_ble_eq_true rfl⟩ rfl rfl ⟨Nat.zero_le _, Nat.zero_le _⟩ (Nat.le_of_ble_eq_true rfl) d_X10_kindHere_10 ?_
  refine z_if_eq cx 18 d_X10_kindHere_13 (by decide) hF (fun hF => ?_) (fun hF => ?_)
  · refine z_aload_n cx d_X10_kindHere_18 0 rfl ?_
    refine z_bipush (v := 8) cx d_X10_kindHere_19 kb_8 ?_
    refine z_bipush (v := 15) cx d_X10_kindHere_21 kb_15 ?_
    refine z_bipush (v := 21) cx d_X10_kindHere_23 kb_21 ?_
    refine z_bipush (v := 18) cx d_X10_kindHere_25 kb_18 ?_
    refine z_iconst (v := 0) cx d_X10_kindHere_27 ki_0 ?_
    refine z_iconst (v := 0) cx d_X10_kindHere_28 ki_0 ?_
    obtain ⟨v4, M3, hc, hF⟩ := zb_inv hF
    refine z_callV cx (As := [.int (8 : Int32), .int (15 : Int32), .int (21 : Int32), .int (18 : Int32), .int (0 : Int32), .int (0 : Int32)]) (rest := []) (c_X10_isWord l cx.2.2.2.1.1 M1 (8 : Int32) (15 : Int32) (21 : Int32) (18 : Int32) (0 : Int32) (0 : Int32) hT hc) hT zo_11 cv_SunnyPansModel_131 ⟨rfl, rfl, Nat.le_of_ble_eq_true rfl, Nat.le_of_ble_eq_true rfl⟩ rfl rfl ⟨Nat.zero_le _, Nat.zero_le _⟩ (Nat.le_of_ble_eq_true rfl) d_X10_kindHere_29 ?_
    refine z_if_eq cx 37 d_X10_kindHere_32 (by decide) hF (fun hF => ?_) (fun hF => ?_)
    · refine z_aload_n cx d_X10_kindHere_37 0 rfl ?_
      refine z_bipush (v := 16) cx d_X10_kindHere_38 kb_16 ?_
      refine z_iconst (v := 1) cx d_X10_kindHere_40 ki_1 ?_
      refine z_bipush (v := 14) cx d_X10_kindHere_41 kb_14 ?_
      refine z_iconst (v := 0) cx d_X10_kindHere_43 ki_0 ?_
      refine z_iconst (v := 0) cx d_X10_kindHere_44 ki_0 ?_
      refine z_iconst (v := 0) cx d_X10_kindHere_45 ki_0 ?_
      obtain ⟨v6, M5, hc, hF⟩ := zb_inv hF
      refine z_callV cx (As := [.int (16 : Int32), .int (1 : Int32), .int (14 : Int32), .int (0 : Int32), .int (0 : Int32), .int (0 : Int32)]) (rest := []) (c_X10_isWord l cx.2.2.2.1.1 M3 (16 : Int32) (1 : Int32) (14 : Int32) (0 : Int32) (0 : Int32) (0 : Int32) hT hc) hT zo_11 cv_SunnyPansModel_131 ⟨rfl, rfl, Nat.le_of_ble_eq_true rfl, Nat.le_of_ble_eq_true rfl⟩ rfl rfl ⟨Nat.zero_le _, Nat.zero_le _⟩ (Nat.le_of_ble_eq_true rfl) d_X10_kindHere_46 ?_
      refine z_if_eq cx 54 d_X10_kindHere_49 (by decide) hF (fun hF => ?_) (fun hF => ?_)
      · refine z_aload_n cx d_X10_kindHere_54 0 rfl ?_
        refine z_bipush (v := 8) cx d_X10_kindHere_55 kb_8 ?_
        refine z_iconst (v := 5) cx d_X10_kindHere_57 ki_5 ?_
        refine z_iconst (v := 1) cx d_X10_kindHere_58 ki_1 ?_
        refine z_bipush (v := 16) cx d_X10_kindHere_59 kb_16 ?_
        refine z_iconst (v := 0) cx d_X10_kindHere_61 ki_0 ?_
        refine z_iconst (v := 0) cx d_X10_kindHere_62 ki_0 ?_
        obtain ⟨v8, M7, hc, hF⟩ := zb_inv hF
        refine z_callV cx (As := [.int (8 : Int32), .int (5 : Int32), .int (1 : Int32), .int (16 : Int32), .int (0 : Int32), .int (0 : Int32)]) (rest := []) (c_X10_isWord l cx.2.2.2.1.1 M5 (8 : Int32) (5 : Int32) (1 : Int32) (16 : Int32) (0 : Int32) (0 : Int32) hT hc) hT zo_11 cv_SunnyPansModel_131 ⟨rfl, rfl, Nat.le_of_ble_eq_true rfl, Nat.le_of_ble_eq_true rfl⟩ rfl rfl ⟨Nat.zero_le _, Nat.zero_le _⟩ (Nat.le_of_ble_eq_true rfl) d_X10_kindHere_63 ?_
        refine z_if_eq cx 73 d_X10_kindHere_66 (by decide) hF (fun hF => ?_) (fun hF => ?_)
        · refine z_iconst (v := -1) cx d_X10_kindHere_73 ki_m1 ?_
          exact z_iret cx hr rfl hF d_X10_kindHere_74
        refine z_iconst (v := 3) cx d_X10_kindHere_69 ki_3 ?_
        refine z_goto cx 74 d_X10_kindHere_70 (by decide) ?_
        exact z_iret cx hr rfl hF d_X10_kindHere_74
      refine z_iconst (v := 2) cx d_X10_kindHere_52 ki_2 ?_
      exact z_iret cx hr rfl hF d_X10_kindHere_53
    refine z_iconst (v := 1) cx d_X10_kindHere_35 ki_1 ?_
    exact z_iret cx hr rfl hF d_X10_kindHere_36
  refine z_iconst (v := 0) cx d_X10_kindHere_16 ki_0 ?_
  exact z_iret cx hr rfl hF d_X10_kindHere_17
/-! SunnyPansModel.clause -/
set_option maxRecDepth 100000 in
theorem wd_1587 : Cond.code yX10_sign cX10_sign 2 none ∈ tbG := tw7 47 rfl rfl
set_option maxRecDepth 100000 in
theorem wd_1584 : Cond.methodLink "SunnyPansModel" 151 yX10_sign ∈ tbG := tw7 44 rfl rfl
set_option maxRecDepth 100000 in
theorem wd_1586 : Cond.instanceMethod yX10_sign ∈ tbG := tw7 46 rfl rfl
theorem wd_54 : Cond.selects "SunnyPansModel" yX10_sign yX10_sign ∈ tbG := tw 54 (by decide +kernel) rfl
theorem cv_SunnyPansModel_151 : zCV "SunnyPansModel" 151 "SunnyPansModel" yX10_sign cX10_sign 2 none 1 := zCV_of wd_1584 wd_1586 wd_54 wd_111 wd_1587 (by decide +kernel)
theorem ks_999 : (Int16.ofInt (999)).toInt32 = (999 : Int32) := by decide +kernel
set_option maxRecDepth 100000 in
theorem wd_1579 : Cond.code yX10_number cX10_number 5 (some .int) ∈ tbG := tw7 39 rfl rfl
set_option maxRecDepth 100000 in
theorem wd_1576 : Cond.methodLink "SunnyPansModel" 147 yX10_number ∈ tbG := tw7 36 rfl rfl
set_option maxRecDepth 100000 in
theorem wd_1578 : Cond.instanceMethod yX10_number ∈ tbG := tw7 38 rfl rfl
theorem wd_53 : Cond.selects "SunnyPansModel" yX10_number yX10_number ∈ tbG := tw 53 (by decide +kernel) rfl
theorem cv_SunnyPansModel_147 : zCV "SunnyPansModel" 147 "SunnyPansModel" yX10_number cX10_number 5 (some .int) 2 := zCV_of wd_1576 wd_1578 wd_53 wd_111 wd_1579 (by decide +kernel)
theorem za_30 : zArrR 30 10 4 1 1 := ⟨by decide, fun _ _ _ _ _ _ => rfl⟩
theorem teM_30 {n k : Nat} {i : Int32} (h : zT shM n k 30) (hi : vp_in i 10) : zT shM n (k + (1 + 1 * i.toNatClampNeg)) 27 := by
  have hlt : i.toNatClampNeg < 10 := Nat.not_le.mp fun q => hi (Or.inr q)
  have h2 : k + 11 ≤ n := h.2.2
  exact ⟨shM_e (by decide) (by decide +kernel) k h.1 _ hlt, by omega, by show _ + 1 ≤ n; omega⟩
set_option maxRecDepth 100000 in
theorem wd_1553 : Cond.code yX10_kindHere cX10_kindHere 1 (some .int) ∈ tbG := tw7 13 rfl rfl
set_option maxRecDepth 100000 in
theorem wd_1550 : Cond.methodLink "SunnyPansModel" 144 yX10_kindHere ∈ tbG := tw7 10 rfl rfl
set_option maxRecDepth 100000 in
theorem wd_1552 : Cond.instanceMethod yX10_kindHere ∈ tbG := tw7 12 rfl rfl
theorem wd_48 : Cond.selects "SunnyPansModel" yX10_kindHere yX10_kindHere ∈ tbG := tw 48 (by decide +kernel) rfl
theorem cv_SunnyPansModel_144 : zCV "SunnyPansModel" 144 "SunnyPansModel" yX10_kindHere cX10_kindHere 1 (some .int) 0 := zCV_of wd_1550 wd_1552 wd_48 wd_111 wd_1553 (by decide +kernel)
theorem d_X10_clause_0 : decode cX10_clause 0 = .ok (.aload_n 0, 1) := by decide +kernel
theorem d_X10_clause_1 : decode cX10_clause 1 = .ok (.invokevirtual 144, 3) := by decide +kernel
theorem d_X10_clause_4 : decode cX10_clause 4 = .ok (.istore_n 1, 1) := by decide +kernel
theorem d_X10_clause_5 : decode cX10_clause 5 = .ok (.iload_n 1, 1) := by decide +kernel
theorem d_X10_clause_6 : decode cX10_clause 6 = .ok (.iconst (-1), 1) := by decide +kernel
theorem d_X10_clause_7 : decode cX10_clause 7 = .ok (.if_icmp .ne 15, 3) := by decide +kernel
theorem d_X10_clause_10 : decode cX10_clause 10 = .ok (.aload_n 0, 1) := by decide +kernel
theorem d_X10_clause_11 : decode cX10_clause 11 = .ok (.iconst 1, 1) := by decide +kernel
theorem d_X10_clause_12 : decode cX10_clause 12 = .ok (.aload_n 0, 1) := by decide +kernel
theorem d_X10_clause_13 : decode cX10_clause 13 = .ok (.getfield 91, 3) := by decide +kernel
theorem d_X10_clause_16 : decode cX10_clause 16 = .ok (.invokevirtual 111, 3) := by decide +kernel
theorem d_X10_clause_19 : decode cX10_clause 19 = .ok (.goto 37, 3) := by decide +kernel
theorem d_X10_clause_22 : decode cX10_clause 22 = .ok (.aload_n 0, 1) := by decide +kernel
theorem d_X10_clause_23 : decode cX10_clause 23 = .ok (.getfield 138, 3) := by decide +kernel
theorem d_X10_clause_26 : decode cX10_clause 26 = .ok (.bipush 60, 2) := by decide +kernel
theorem d_X10_clause_28 : decode cX10_clause 28 = .ok (.if_icmp .eq 19, 3) := by decide +kernel
theorem d_X10_clause_31 : decode cX10_clause 31 = .ok (.iload_n 1, 1) := by decide +kernel
theorem d_X10_clause_32 : decode cX10_clause 32 = .ok (.iconst 1, 1) := by decide +kernel
theorem d_X10_clause_33 : decode cX10_clause 33 = .ok (.if_icmp .ne 23, 3) := by decide +kernel
theorem d_X10_clause_36 : decode cX10_clause 36 = .ok (.aload_n 0, 1) := by decide +kernel
theorem d_X10_clause_37 : decode cX10_clause 37 = .ok (.getfield 20, 3) := by decide +kernel
theorem d_X10_clause_40 : decode cX10_clause 40 = .ok (.iconst 2, 1) := by decide +kernel
theorem d_X10_clause_41 : decode cX10_clause 41 = .ok (.iaload, 1) := by decide +kernel
theorem d_X10_clause_42 : decode cX10_clause 42 = .ok (.bipush 10, 2) := by decide +kernel
theorem d_X10_clause_44 : decode cX10_clause 44 = .ok (.if_icmp .ne 12, 3) := by decide +kernel
theorem d_X10_clause_47 : decode cX10_clause 47 = .ok (.aload_n 0, 1) := by decide +kernel
theorem d_X10_clause_48 : decode cX10_clause 48 = .ok (.iconst 3, 1) := by decide +kernel
theorem d_X10_clause_49 : decode cX10_clause 49 = .ok (.aload_n 0, 1) := by decide +kernel
theorem d_X10_clause_50 : decode cX10_clause 50 = .ok (.getfield 91, 3) := by decide +kernel
theorem d_X10_clause_53 : decode cX10_clause 53 = .ok (.invokevirtual 111, 3) := by decide +kernel
theorem d_X10_clause_56 : decode cX10_clause 56 = .ok (.aload_n 0, 1) := by decide +kernel
theorem d_X10_clause_57 : decode cX10_clause 57 = .ok (.getfield 98, 3) := by decide +kernel
theorem d_X10_clause_60 : decode cX10_clause 60 = .ok (.ifCond .eq 4, 3) := by decide +kernel
theorem d_X10_clause_63 : decode cX10_clause 63 = .ok (.return_, 1) := by decide +kernel
theorem d_X10_clause_64 : decode cX10_clause 64 = .ok (.aload_n 0, 1) := by decide +kernel
theorem d_X10_clause_65 : decode cX10_clause 65 = .ok (.invokevirtual 135, 3) := by decide +kernel
theorem d_X10_clause_68 : decode cX10_clause 68 = .ok (.aload_n 0, 1) := by decide +kernel
theorem d_X10_clause_69 : decode cX10_clause 69 = .ok (.dup, 1) := by decide +kernel
theorem d_X10_clause_70 : decode cX10_clause 70 = .ok (.getfield 138, 3) := by decide +kernel
theorem d_X10_clause_73 : decode cX10_clause 73 = .ok (.iconst 1, 1) := by decide +kernel
theorem d_X10_clause_74 : decode cX10_clause 74 = .ok (.iadd, 1) := by decide +kernel
theorem d_X10_clause_75 : decode cX10_clause 75 = .ok (.putfield 138, 3) := by decide +kernel
theorem d_X10_clause_78 : decode cX10_clause 78 = .ok (.iload_n 1, 1) := by decide +kernel
theorem d_X10_clause_79 : decode cX10_clause 79 = .ok (.ifCond .ne 29, 3) := by decide +kernel
theorem d_X10_clause_82 : decode cX10_clause 82 = .ok (.aload_n 0, 1) := by decide +kernel
theorem d_X10_clause_83 : decode cX10_clause 83 = .ok (.getfield 20, 3) := by decide +kernel
theorem d_X10_clause_86 : decode cX10_clause 86 = .ok (.iconst 0, 1) := by decide +kernel
theorem d_X10_clause_87 : decode cX10_clause 87 = .ok (.aload_n 0, 1) := by decide +kernel
theorem d_X10_clause_88 : decode cX10_clause 88 = .ok (.iconst 1, 1) := by decide +kernel
theorem d_X10_clause_89 : decode cX10_clause 89 = .ok (.bipush 8, 2) := by decide +kernel
theorem d_X10_clause_91 : decode cX10_clause 91 = .ok (.invokevirtual 147, 3) := by decide +kernel
theorem d_X10_clause_94 : decode cX10_clause 94 = .ok (.iastore, 1) := by decide +kernel
theorem d_X10_clause_95 : decode cX10_clause 95 = .ok (.aload_n 0, 1) := by decide +kernel
theorem d_X10_clause_96 : decode cX10_clause 96 = .ok (.getfield 20, 3) := by decide +kernel
theorem d_X10_clause_99 : decode cX10_clause 99 = .ok (.iconst 1, 1) := by decide +kernel
theorem d_X10_clause_100 : decode cX10_clause 100 = .ok (.aload_n 0, 1) := by decide +kernel
theorem d_X10_clause_101 : decode cX10_clause 101 = .ok (.iconst 1, 1) := by decide +kernel
theorem d_X10_clause_102 : decode cX10_clause 102 = .ok (.bipush 8, 2) := by decide +kernel
theorem d_X10_clause_104 : decode cX10_clause 104 = .ok (.invokevirtual 147, 3) := by decide +kernel
theorem d_X10_clause_107 : decode cX10_clause 107 = .ok (.iastore, 1) := by decide +kernel
theorem d_X10_clause_108 : decode cX10_clause 108 = .ok (.iload_n 1, 1) := by decide +kernel
theorem d_X10_clause_109 : decode cX10_clause 109 = .ok (.iconst 1, 1) := by decide +kernel
theorem d_X10_clause_110 : decode cX10_clause 110 = .ok (.if_icmp .ne 43, 3) := by decide +kernel
theorem d_X10_clause_113 : decode cX10_clause 113 = .ok (.aload_n 0, 1) := by decide +kernel
theorem d_X10_clause_114 : decode cX10_clause 114 = .ok (.getfield 31, 3) := by decide +kernel
theorem d_X10_clause_117 : decode cX10_clause 117 = .ok (.aload_n 0, 1) := by decide +kernel
theorem d_X10_clause_118 : decode cX10_clause 118 = .ok (.getfield 20, 3) := by decide +kernel
theorem d_X10_clause_121 : decode cX10_clause 121 = .ok (.iconst 2, 1) := by decide +kernel
theorem d_X10_clause_122 : decode cX10_clause 122 = .ok (.iaload, 1) := by decide +kernel
theorem d_X10_clause_123 : decode cX10_clause 123 = .ok (.aaload, 1) := by decide +kernel
theorem d_X10_clause_124 : decode cX10_clause 124 = .ok (.iconst 0, 1) := by decide +kernel
theorem d_X10_clause_125 : decode cX10_clause 125 = .ok (.aload_n 0, 1) := by decide +kernel
theorem d_X10_clause_126 : decode cX10_clause 126 = .ok (.iconst 0, 1) := by decide +kernel
theorem d_X10_clause_127 : decode cX10_clause 127 = .ok (.bipush 7, 2) := by decide +kernel
theorem d_X10_clause_129 : decode cX10_clause 129 = .ok (.invokevirtual 147, 3) := by decide +kernel
theorem d_X10_clause_132 : decode cX10_clause 132 = .ok (.iastore, 1) := by decide +kernel
theorem d_X10_clause_133 : decode cX10_clause 133 = .ok (.aload_n 0, 1) := by decide +kernel
theorem d_X10_clause_134 : decode cX10_clause 134 = .ok (.getfield 31, 3) := by decide +kernel
theorem d_X10_clause_137 : decode cX10_clause 137 = .ok (.aload_n 0, 1) := by decide +kernel
theorem d_X10_clause_138 : decode cX10_clause 138 = .ok (.getfield 20, 3) := by decide +kernel
theorem d_X10_clause_141 : decode cX10_clause 141 = .ok (.iconst 2, 1) := by decide +kernel
theorem d_X10_clause_142 : decode cX10_clause 142 = .ok (.iaload, 1) := by decide +kernel
theorem d_X10_clause_143 : decode cX10_clause 143 = .ok (.aaload, 1) := by decide +kernel
theorem d_X10_clause_144 : decode cX10_clause 144 = .ok (.iconst 1, 1) := by decide +kernel
theorem d_X10_clause_145 : decode cX10_clause 145 = .ok (.aload_n 0, 1) := by decide +kernel
theorem d_X10_clause_146 : decode cX10_clause 146 = .ok (.iconst 0, 1) := by decide +kernel
theorem d_X10_clause_147 : decode cX10_clause 147 = .ok (.bipush 40, 2) := by decide +kernel
theorem d_X10_clause_149 : decode cX10_clause 149 = .ok (.invokevirtual 147, 3) := by decide +kernel
theorem d_X10_clause_152 : decode cX10_clause 152 = .ok (.iastore, 1) := by decide +kernel
theorem d_X10_clause_153 : decode cX10_clause 153 = .ok (.iload_n 1, 1) := by decide +kernel
theorem d_X10_clause_154 : decode cX10_clause 154 = .ok (.iconst 1, 1) := by decide +kernel
theorem d_X10_clause_155 : decode cX10_clause 155 = .ok (.if_icmp .le 112, 3) := by decide +kernel
theorem d_X10_clause_158 : decode cX10_clause 158 = .ok (.aload_n 0, 1) := by decide +kernel
theorem d_X10_clause_159 : decode cX10_clause 159 = .ok (.iconst 0, 1) := by decide +kernel
theorem d_X10_clause_160 : decode cX10_clause 160 = .ok (.bipush 7, 2) := by decide +kernel
theorem d_X10_clause_162 : decode cX10_clause 162 = .ok (.invokevirtual 147, 3) := by decide +kernel
theorem d_X10_clause_165 : decode cX10_clause 165 = .ok (.istore_n 2, 1) := by decide +kernel
theorem d_X10_clause_166 : decode cX10_clause 166 = .ok (.aload_n 0, 1) := by decide +kernel
theorem d_X10_clause_167 : decode cX10_clause 167 = .ok (.iconst 0, 1) := by decide +kernel
theorem d_X10_clause_168 : decode cX10_clause 168 = .ok (.bipush 7, 2) := by decide +kernel
theorem d_X10_clause_170 : decode cX10_clause 170 = .ok (.invokevirtual 147, 3) := by decide +kernel
theorem d_X10_clause_173 : decode cX10_clause 173 = .ok (.istore_n 3, 1) := by decide +kernel
theorem d_X10_clause_174 : decode cX10_clause 174 = .ok (.aload_n 0, 1) := by decide +kernel
theorem d_X10_clause_175 : decode cX10_clause 175 = .ok (.iload_n 1, 1) := by decide +kernel
theorem d_X10_clause_176 : decode cX10_clause 176 = .ok (.iconst 2, 1) := by decide +kernel
theorem d_X10_clause_177 : decode cX10_clause 177 = .ok (.isub, 1) := by decide +kernel
theorem d_X10_clause_178 : decode cX10_clause 178 = .ok (.ifCond .ne 7, 3) := by decide +kernel
theorem d_X10_clause_181 : decode cX10_clause 181 = .ok (.iconst 0, 1) := by decide +kernel
theorem d_X10_clause_182 : decode cX10_clause 182 = .ok (.goto 4, 3) := by decide +kernel
theorem d_X10_clause_185 : decode cX10_clause 185 = .ok (.iconst 1, 1) := by decide +kernel
theorem d_X10_clause_186 : decode cX10_clause 186 = .ok (.sipush 999, 3) := by decide +kernel
theorem d_X10_clause_189 : decode cX10_clause 189 = .ok (.invokevirtual 147, 3) := by decide +kernel
theorem d_X10_clause_192 : decode cX10_clause 192 = .ok (.istore 4, 2) := by decide +kernel
theorem d_X10_clause_194 : decode cX10_clause 194 = .ok (.iload_n 1, 1) := by decide +kernel
theorem d_X10_clause_195 : decode cX10_clause 195 = .ok (.iconst 2, 1) := by decide +kernel
theorem d_X10_clause_196 : decode cX10_clause 196 = .ok (.if_icmp .ne 14, 3) := by decide +kernel
theorem d_X10_clause_199 : decode cX10_clause 199 = .ok (.aload_n 0, 1) := by decide +kernel
theorem d_X10_clause_200 : decode cX10_clause 200 = .ok (.iconst 0, 1) := by decide +kernel
theorem d_X10_clause_201 : decode cX10_clause 201 = .ok (.sipush 999, 3) := by decide +kernel
theorem d_X10_clause_204 : decode cX10_clause 204 = .ok (.invokevirtual 147, 3) := by decide +kernel
theorem d_X10_clause_207 : decode cX10_clause 207 = .ok (.goto 4, 3) := by decide +kernel
theorem d_X10_clause_210 : decode cX10_clause 210 = .ok (.iconst 0, 1) := by decide +kernel
theorem d_X10_clause_211 : decode cX10_clause 211 = .ok (.istore 5, 2) := by decide +kernel
theorem d_X10_clause_213 : decode cX10_clause 213 = .ok (.aload_n 0, 1) := by decide +kernel
theorem d_X10_clause_214 : decode cX10_clause 214 = .ok (.getfield 98, 3) := by decide +kernel
theorem d_X10_clause_217 : decode cX10_clause 217 = .ok (.ifCond .ne 50, 3) := by decide +kernel
theorem d_X10_clause_220 : decode cX10_clause 220 = .ok (.bipush 8, 2) := by decide +kernel
theorem d_X10_clause_222 : decode cX10_clause 222 = .ok (.iload_n 3, 1) := by decide +kernel
theorem d_X10_clause_223 : decode cX10_clause 223 = .ok (.imul, 1) := by decide +kernel
theorem d_X10_clause_224 : decode cX10_clause 224 = .ok (.iload_n 2, 1) := by decide +kernel
theorem d_X10_clause_225 : decode cX10_clause 225 = .ok (.iadd, 1) := by decide +kernel
theorem d_X10_clause_226 : decode cX10_clause 226 = .ok (.istore 6, 2) := by decide +kernel
theorem d_X10_clause_228 : decode cX10_clause 228 = .ok (.aload_n 0, 1) := by decide +kernel
theorem d_X10_clause_229 : decode cX10_clause 229 = .ok (.getfield 26, 3) := by decide +kernel
theorem d_X10_clause_232 : decode cX10_clause 232 = .ok (.iload_n 1, 1) := by decide +kernel
theorem d_X10_clause_233 : decode cX10_clause 233 = .ok (.iconst 2, 1) := by decide +kernel
theorem d_X10_clause_234 : decode cX10_clause 234 = .ok (.if_icmp .ne 7, 3) := by decide +kernel
theorem d_X10_clause_237 : decode cX10_clause 237 = .ok (.iconst 0, 1) := by decide +kernel
theorem d_X10_clause_238 : decode cX10_clause 238 = .ok (.goto 6, 3) := by decide +kernel
theorem d_X10_clause_241 : decode cX10_clause 241 = .ok (.sipush 128, 3) := by decide +kernel
theorem d_X10_clause_244 : decode cX10_clause 244 = .ok (.iload 6, 2) := by decide +kernel
theorem d_X10_clause_246 : decode cX10_clause 246 = .ok (.iadd, 1) := by decide +kernel
theorem d_X10_clause_247 : decode cX10_clause 247 = .ok (.iload 4, 2) := by decide +kernel
theorem d_X10_clause_249 : decode cX10_clause 249 = .ok (.iastore, 1) := by decide +kernel
theorem d_X10_clause_250 : decode cX10_clause 250 = .ok (.iload_n 1, 1) := by decide +kernel
theorem d_X10_clause_251 : decode cX10_clause 251 = .ok (.iconst 2, 1) := by decide +kernel
theorem d_X10_clause_252 : decode cX10_clause 252 = .ok (.if_icmp .ne 15, 3) := by decide +kernel
theorem d_X10_clause_255 : decode cX10_clause 255 = .ok (.aload_n 0, 1) := by decide +kernel
theorem d_X10_clause_256 : decode cX10_clause 256 = .ok (.getfield 26, 3) := by decide +kernel
theorem d_X10_clause_259 : decode cX10_clause 259 = .ok (.bipush 64, 2) := by decide +kernel
theorem d_X10_clause_261 : decode cX10_clause 261 = .ok (.iload 6, 2) := by decide +kernel
theorem d_X10_clause_263 : decode cX10_clause 263 = .ok (.iadd, 1) := by decide +kernel
theorem d_X10_clause_264 : decode cX10_clause 264 = .ok (.iload 5, 2) := by decide +kernel
theorem d_X10_clause_266 : decode cX10_clause 266 = .ok (.iastore, 1) := by decide +kernel
theorem d_X10_clause_267 : decode cX10_clause 267 = .ok (.aload_n 0, 1) := by decide +kernel
theorem d_X10_clause_268 : decode cX10_clause 268 = .ok (.bipush 59, 2) := by decide +kernel
theorem d_X10_clause_270 : decode cX10_clause 270 = .ok (.invokevirtual 151, 3) := by decide +kernel
theorem d_X10_clause_273 : decode cX10_clause 273 = .ok (.aload_n 0, 1) := by decide +kernel
theorem d_X10_clause_274 : decode cX10_clause 274 = .ok (.getfield 20, 3) := by decide +kernel
theorem d_X10_clause_277 : decode cX10_clause 277 = .ok (.iconst 2, 1) := by decide +kernel
theorem d_X10_clause_278 : decode cX10_clause 278 = .ok (.dup2, 1) := by decide +kernel
theorem d_X10_clause_279 : decode cX10_clause 279 = .ok (.iaload, 1) := by decide +kernel
theorem d_X10_clause_280 : decode cX10_clause 280 = .ok (.aload_n 0, 1) := by decide +kernel
theorem d_X10_clause_281 : decode cX10_clause 281 = .ok (.getfield 98, 3) := by decide +kernel
theorem d_X10_clause_284 : decode cX10_clause 284 = .ok (.ifCond .ne 12, 3) := by decide +kernel
theorem d_X10_clause_287 : decode cX10_clause 287 = .ok (.iload_n 1, 1) := by decide +kernel
theorem d_X10_clause_288 : decode cX10_clause 288 = .ok (.iconst 1, 1) := by decide +kernel
theorem d_X10_clause_289 : decode cX10_clause 289 = .ok (.if_icmp .ne 7, 3) := by decide +kernel
theorem d_X10_clause_292 : decode cX10_clause 292 = .ok (.iconst 1, 1) := by decide +kernel
theorem d_X10_clause_293 : decode cX10_clause 293 = .ok (.goto 4, 3) := by decide +kernel
theorem d_X10_clause_296 : decode cX10_clause 296 = .ok (.iconst 0, 1) := by decide +kernel
theorem d_X10_clause_297 : decode cX10_clause 297 = .ok (.iadd, 1) := by decide +kernel
theorem d_X10_clause_298 : decode cX10_clause 298 = .ok (.iastore, 1) := by decide +kernel
theorem d_X10_clause_299 : decode cX10_clause 299 = .ok (.return_, 1) := by decide +kernel
def F_X10_clause_296 (b296_S1 : Int32) (b296_S2 : Int32) (M : zMem) : Option (zMem) :=
  gin b296_S1 3 <|
  zl (zI M 3 b296_S1.toNatClampNeg (b296_S2 + (0 : Int32))) fun M2 =>
  some M2
def F_X10_clause_267 (b267_L1 : Int32) (M : zMem) : Option (zMem) :=
  zbv (F_X10_sign M (59 : Int32)) fun M3 =>
  if (M3.1 0 5) = 0 then
    if b267_L1 = (1 : Int32) then
      zl (zI M3 3 2 ((M3.1 3 2) + (1 : Int32))) fun M4 =>
      some M4
    else
      F_X10_clause_296 (2 : Int32) (M3.1 3 2) M3
  else
    F_X10_clause_296 (2 : Int32) (M3.1 3 2) M3
def F_X10_clause_244 (b244_L1 : Int32) (b244_L4 : Int32) (b244_L5 : Int32) (b244_L6 : Int32) (b244_S1 : Int32) (M : zMem) : Option (zMem) :=
  gin (b244_S1 + b244_L6) 192 <|
  zl (zI M 5 ((b244_S1 + b244_L6).toNatClampNeg) b244_L4) fun M6 =>
  if b244_L1 = (2 : Int32) then
    gin ((64 : Int32) + b244_L6) 192 <|
    zl (zI M6 5 (((64 : Int32) + b244_L6).toNatClampNeg) b244_L5) fun M8 =>
    F_X10_clause_267 b244_L1 M8
  else
    F_X10_clause_267 b244_L1 M6
def F_X10_clause_211 (b211_L1 : Int32) (b211_L2 : Int32) (b211_L3 : Int32) (b211_L4 : Int32) (b211_S0 : Int32) (M : zMem) : Option (zMem) :=
  if (M.1 0 5) = 0 then
    zl (((8 : Int32) * b211_L3) + b211_L2) fun v9 =>
    if b211_L1 = (2 : Int32) then
      F_X10_clause_244 b211_L1 b211_L4 b211_S0 v9 (0 : Int32) M
    else
      F_X10_clause_244 b211_L1 b211_L4 b211_S0 v9 (128 : Int32) M
  else
    F_X10_clause_267 b211_L1 M
def F_X10_clause_186 (b186_L1 : Int32) (b186_L2 : Int32) (b186_L3 : Int32) (b186_S1 : Int32) (M : zMem) : Option (zMem) :=
  zb (F_X10_number M b186_S1 (999 : Int32)) fun v11 M10 =>
  if b186_L1 = (2 : Int32) then
    zb (F_X10_number M10 (0 : Int32) (999 : Int32)) fun v13 M12 =>
    F_X10_clause_211 b186_L1 b186_L2 b186_L3 v11 v13 M12
  else
    F_X10_clause_211 b186_L1 b186_L2 b186_L3 v11 (0 : Int32) M10
def F_X10_clause_153 (b153_L1 : Int32) (M : zMem) : Option (zMem) :=
  if b153_L1 ≤ (1 : Int32) then
    F_X10_clause_267 b153_L1 M
  else
    zb (F_X10_number M (0 : Int32) (7 : Int32)) fun v15 M14 =>
    zb (F_X10_number M14 (0 : Int32) (7 : Int32)) fun v17 M16 =>
    if (b153_L1 - (2 : Int32)) = 0 then
      F_X10_clause_186 b153_L1 v15 v17 (0 : Int32) M16
    else
      F_X10_clause_186 b153_L1 v15 v17 (1 : Int32) M16
def F_X10_clause_108 (b108_L1 : Int32) (M : zMem) : Option (zMem) :=
  if b108_L1 = (1 : Int32) then
    gin (M.1 3 2) 10 <|
    zb (F_X10_number M (0 : Int32) (7 : Int32)) fun v20 M19 =>
    zl (zI M19 (6 + (1 + 1 * (M.1 3 2).toNatClampNeg)) 0 v20) fun M21 =>
    gin (M21.1 3 2) 10 <|
    zb (F_X10_number M21 (0 : Int32) (40 : Int32)) fun v24 M23 =>
    zl (zI M23 (6 + (1 + 1 * (M21.1 3 2).toNatClampNeg)) 1 v24) fun M25 =>
    F_X10_clause_153 b108_L1 M25
  else
    F_X10_clause_153 b108_L1 M
def F_X10_clause_56 (b56_L1 : Int32) (M : zMem) : Option (zMem) :=
  if (M.1 0 5) = 0 then
    zbv (F_X10_skipWord M) fun M26 =>
    zl (zI M26 0 7 ((M26.1 0 7) + (1 : Int32))) fun M27 =>
    if b56_L1 = 0 then
      zb (F_X10_number M27 (1 : Int32) (8 : Int32)) fun v29 M28 =>
      zl (zI M28 3 0 v29) fun M30 =>
      zb (F_X10_number M30 (1 : Int32) (8 : Int32)) fun v32 M31 =>
      zl (zI M31 3 1 v32) fun M33 =>
      F_X10_clause_108 b56_L1 M33
    else
      F_X10_clause_108 b56_L1 M27
  else
    some M
def F_X10_clause_47 (b47_L1 : Int32) (M : zMem) : Option (zMem) :=
  zbv (F_X10_wrong M (3 : Int32) (M.1 0 4)) fun M34 =>
  F_X10_clause_56 b47_L1 M34
def F_X10_clause (M : zMem)  : Option (zMem) :=
  zb (F_X10_kindHere M) fun v36 M35 =>
  if v36 = (-1 : Int32) then
    zbv (F_X10_wrong M35 (1 : Int32) (M35.1 0 4)) fun M37 =>
    F_X10_clause_56 v36 M37
  else
    if (M35.1 0 7) = (60 : Int32) then
      F_X10_clause_47 v36 M35
    else
      if v36 = (1 : Int32) then
        if (M35.1 3 2) = (10 : Int32) then
          F_X10_clause_47 v36 M35
        else
          F_X10_clause_56 v36 M35
      else
        F_X10_clause_56 v36 M35
def rm_X10_clause : Room := { frames := 7, cells := 0, slots := 0, locals := 189 }
set_option maxHeartbeats 4000000 in
set_option maxRecDepth 100000 in
theorem c_X10_clause (l : Launch) {G : zG} {ad : Nat → Nat} {n : Nat} (hA : zInj ad n) (M : zMem)  (hT : zT shM n 0 11) {M9 : zMem} (hF : F_X10_clause M  = some M9) : zM l yX10_clause cX10_clause 7 none rm_X10_clause G shM ad n M [.ref (ad 0)] none M9 := by
  refine zM_of hA (by decide +kernel) (lv := [(0, .ref (ad 0))]) (Nat.le_of_ble_eq_true rfl) rfl (fun p e s m args below meth c A cx hr => ?_)
  have hb296 : ∀ (b296_S1 : Int32) (b296_S2 : Int32) (M : zMem), F_X10_clause_296 b296_S1 b296_S2 M = some M9 → zJ p l e rm_X10_clause s m args below meth c G shM ad n A 7 (MQ below (zQ G shM ad n M9 none A) args s 0 0 A) 0 0 M 296 [] [.int b296_S2, .int b296_S1, .ref (ad 3)] := by
    intro b296_S1 b296_S2 M hF
    unfold F_X10_clause_296 at hF
    refine z_iconst (v := 0) cx d_X10_clause_296 ki_0 ?_
    refine z_iadd cx d_X10_clause_297 ?_
    obtain ⟨hi1, hF⟩ := gin_inv hF
    refine z_iast cx (tfM_11_3 hT) za_28 hi1 b296_S1.toNatClampNeg rfl d_X10_clause_298 ?_
    refine z_nmM hF (fun M2 hF => ?_)
    exact z_vret cx hr hF d_X10_clause_299
  have hb267 : ∀ (b267_L1 : Int32) (M : zMem), F_X10_clause_267 b267_L1 M = some M9 → zJ p l e rm_X10_clause s m args below meth c G shM ad n A 7 (MQ below (zQ G shM ad n M9 none A) args s 0 0 A) 0 0 M 267 [(0, .ref (ad 0)), (1, .int b267_L1)] [] := by
    intro b267_L1 M hF
    unfold F_X10_clause_267 at hF
    refine z_aload_n cx d_X10_clause_267 0 rfl ?_
    refine z_bipush (v := 59) cx d_X10_clause_268 kb_59 ?_
    obtain ⟨M3, hc, hF⟩ := zbv_inv hF
    refine z_callV cx (As := [.int (59 : Int32)]) (rest := []) (c_X10_sign l cx.2.2.2.1.1 M (59 : Int32) hT hc) hT zo_11 cv_SunnyPansModel_151 ⟨rfl, rfl, Nat.le_of_ble_eq_true rfl, Nat.le_of_ble_eq_true rfl⟩ rfl rfl ⟨Nat.zero_le _, Nat.zero_le _⟩ (Nat.le_of_ble_eq_true rfl) d_X10_clause_270 ?_
    refine z_aload_n cx d_X10_clause_273 0 rfl ?_
    refine z_getR cx hT fg_SunnyPansModel_20 3 rfl d_X10_clause_274 ?_
    refine z_iconst (v := 2) cx d_X10_clause_277 ki_2 ?_
    refine z_dup2 cx d_X10_clause_278 rfl rfl ?_
    refine z_iald cx (tfM_11_3 hT) za_28 (zvp (by decide +kernel)) 2 rfl d_X10_clause_279 ?_
    refine z_aload_n cx d_X10_clause_280 0 rfl ?_
    refine z_getI cx hT fg_SunnyPansModel_98 d_X10_clause_281 ?_
    refine z_if_ne cx 296 d_X10_clause_284 (by decide) hF (fun hF => ?_) (fun hF => ?_)
    · exact z_lv [] _ rfl (hb296 (2 : Int32) (M3.1 3 2) M3 hF)
    refine z_iload_n cx d_X10_clause_287 1 rfl ?_
    refine z_iconst (v := 1) cx d_X10_clause_288 ki_1 ?_
    refine z_icmp_ne cx 296 d_X10_clause_289 (by decide) hF (fun hF => ?_) (fun hF => ?_)
    · exact z_lv [] _ rfl (hb296 (2 : Int32) (M3.1 3 2) M3 hF)
    refine z_iconst (v := 1) cx d_X10_clause_292 ki_1 ?_
    refine z_goto cx 297 d_X10_clause_293 (by decide) ?_
    refine z_iadd cx d_X10_clause_297 ?_
    refine z_iast cx (tfM_11_3 hT) za_28 (zvp (by decide +kernel)) 2 rfl d_X10_clause_298 ?_
    refine z_nmM hF (fun M4 hF => ?_)
    exact z_vret cx hr hF d_X10_clause_299
  have hb244 : ∀ (b244_L1 : Int32) (b244_L4 : Int32) (b244_L5 : Int32) (b244_L6 : Int32) (b244_S1 : Int32) (M : zMem), F_X10_clause_244 b244_L1 b244_L4 b244_L5 b244_L6 b244_S1 M = some M9 → zJ p l e rm_X10_clause s m args below meth c G shM ad n A 7 (MQ below (zQ G shM ad n M9 none A) args s 0 0 A) 0 0 M 244 [(0, .ref (ad 0)), (1, .int b244_L1), (4, .int b244_L4), (5, .int b244_L5), (6, .int b244_L6)] [.int b244_S1, .ref (ad 5)] := by
    intro b244_L1 b244_L4 b244_L5 b244_L6 b244_S1 M hF
    unfold F_X10_clause_244 at hF
    refine z_iload cx d_X10_clause_244 4 rfl ?_
    refine z_iadd cx d_X10_clause_246 ?_
    refine z_iload cx d_X10_clause_247 2 rfl ?_
    obtain ⟨hi5, hF⟩ := gin_inv hF
    refine z_iast cx (tfM_11_5 hT) za_29 hi5 ((b244_S1 + b244_L6).toNatClampNeg) rfl d_X10_clause_249 ?_
    refine z_nmM hF (fun M6 hF => ?_)
    refine z_iload_n cx d_X10_clause_250 1 rfl ?_
    refine z_iconst (v := 2) cx d_X10_clause_251 ki_2 ?_
    refine z_icmp_ne cx 267 d_X10_clause_252 (by decide) hF (fun hF => ?_) (fun hF => ?_)
    · exact z_lv [0, 1] _ rfl (hb267 b244_L1 M6 hF)
    refine z_aload_n cx d_X10_clause_255 0 rfl ?_
    refine z_getR cx hT fg_SunnyPansModel_26 5 rfl d_X10_clause_256 ?_
    refine z_bipush (v := 64) cx d_X10_clause_259 kb_64 ?_
    refine z_iload cx d_X10_clause_261 4 rfl ?_
    refine z_iadd cx d_X10_clause_263 ?_
    refine z_iload cx d_X10_clause_264 3 rfl ?_
    obtain ⟨hi7, hF⟩ := gin_inv hF
    refine z_iast cx (tfM_11_5 hT) za_29 hi7 (((64 : Int32) + b244_L6).toNatClampNeg) rfl d_X10_clause_266 ?_
    refine z_nmM hF (fun M8 hF => ?_)
    exact z_lv [0, 1] _ rfl (hb267 b244_L1 M8 hF)
  have hb211 : ∀ (b211_L1 : Int32) (b211_L2 : Int32) (b211_L3 : Int32) (b211_L4 : Int32) (b211_S0 : Int32) (M : zMem), F_X10_clause_211 b211_L1 b211_L2 b211_L3 b211_L4 b211_S0 M = some M9 → zJ p l e rm_X10_clause s m args below meth c G shM ad n A 7 (MQ below (zQ G shM ad n M9 none A) args s 0 0 A) 0 0 M 211 [(0, .ref (ad 0)), (1, .int b211_L1), (2, .int b211_L2), (3, .int b211_L3), (4, .int b211_L4)] [.int b211_S0] := by
    intro b211_L1 b211_L2 b211_L3 b211_L4 b211_S0 M hF
    unfold F_X10_clause_211 at hF
    refine z_istore cx 5 [(5, .int b211_S0), (0, .ref (ad 0)), (1, .int b211_L1), (2, .int b211_L2), (3, .int b211_L3), (4, .int b211_L4)] d_X10_clause_211 (by decide) rfl ?_
    refine z_aload_n cx d_X10_clause_213 1 rfl ?_
    refine z_getI cx hT fg_SunnyPansModel_98 d_X10_clause_214 ?_
    refine z_if_ne cx 267 d_X10_clause_217 (by decide) hF (fun hF => ?_) (fun hF => ?_)
    · exact z_lv [1, 2] _ rfl (hb267 b211_L1 M hF)
    refine z_bipush (v := 8) cx d_X10_clause_220 kb_8 ?_
    refine z_iload_n cx d_X10_clause_222 4 rfl ?_
    refine z_imul cx d_X10_clause_223 ?_
    refine z_iload_n cx d_X10_clause_224 3 rfl ?_
    refine z_iadd cx d_X10_clause_225 ?_
    refine z_nm hF (fun v9 hF => ?_)
    refine z_istore cx 6 [(6, .int v9), (5, .int b211_S0), (0, .ref (ad 0)), (1, .int b211_L1), (2, .int b211_L2), (3, .int b211_L3), (4, .int b211_L4)] d_X10_clause_226 (by decide) rfl ?_
    refine z_aload_n cx d_X10_clause_228 2 rfl ?_
    refine z_getR cx hT fg_SunnyPansModel_26 5 rfl d_X10_clause_229 ?_
    refine z_iload_n cx d_X10_clause_232 3 rfl ?_
    refine z_iconst (v := 2) cx d_X10_clause_233 ki_2 ?_
    refine z_icmp_ne cx 241 d_X10_clause_234 (by decide) hF (fun hF => ?_) (fun hF => ?_)
    · refine z_sipush (v := 128) cx d_X10_clause_241 ks_128 ?_
      exact z_lv [2, 3, 6, 1, 0] _ rfl (hb244 b211_L1 b211_L4 b211_S0 v9 (128 : Int32) M hF)
    refine z_iconst (v := 0) cx d_X10_clause_237 ki_0 ?_
    refine z_goto cx 244 d_X10_clause_238 (by decide) ?_
    exact z_lv [2, 3, 6, 1, 0] _ rfl (hb244 b211_L1 b211_L4 b211_S0 v9 (0 : Int32) M hF)
  have hb186 : ∀ (b186_L1 : Int32) (b186_L2 : Int32) (b186_L3 : Int32) (b186_S1 : Int32) (M : zMem), F_X10_clause_186 b186_L1 b186_L2 b186_L3 b186_S1 M = some M9 → zJ p l e rm_X10_clause s m args below meth c G shM ad n A 7 (MQ below (zQ G shM ad n M9 none A) args s 0 0 A) 0 0 M 186 [(0, .ref (ad 0)), (1, .int b186_L1), (2, .int b186_L2), (3, .int b186_L3)] [.int b186_S1, .ref (ad 0)] := by
    intro b186_L1 b186_L2 b186_L3 b186_S1 M hF
    unfold F_X10_clause_186 at hF
    refine z_sipush (v := 999) cx d_X10_clause_186 ks_999 ?_
    obtain ⟨v11, M10, hc, hF⟩ := zb_inv hF
    refine z_callV cx (As := [.int b186_S1, .int (999 : Int32)]) (rest := []) (c_X10_number l cx.2.2.2.1.1 M b186_S1 (999 : Int32) hT hc) hT zo_11 cv_SunnyPansModel_147 ⟨rfl, rfl, Nat.le_of_ble_eq_true rfl, Nat.le_of_ble_eq_true rfl⟩ rfl rfl ⟨Nat.zero_le _, Nat.zero_le _⟩ (Nat.le_of_ble_eq_true rfl) d_X10_clause_189 ?_
    refine z_istore cx 4 [(4, .int v11), (0, .ref (ad 0)), (1, .int b186_L1), (2, .int b186_L2), (3, .int b186_L3)] d_X10_clause_192 (by decide) rfl ?_
    refine z_iload_n cx d_X10_clause_194 2 rfl ?_
    refine z_iconst (v := 2) cx d_X10_clause_195 ki_2 ?_
    refine z_icmp_ne cx 210 d_X10_clause_196 (by decide) hF (fun hF => ?_) (fun hF => ?_)
    · refine z_iconst (v := 0) cx d_X10_clause_210 ki_0 ?_
      exact z_lv [1, 2, 3, 4, 0] _ rfl (hb211 b186_L1 b186_L2 b186_L3 v11 (0 : Int32) M10 hF)
    refine z_aload_n cx d_X10_clause_199 1 rfl ?_
    refine z_iconst (v := 0) cx d_X10_clause_200 ki_0 ?_
    refine z_sipush (v := 999) cx d_X10_clause_201 ks_999 ?_
    obtain ⟨v13, M12, hc, hF⟩ := zb_inv hF
    refine z_callV cx (As := [.int (0 : Int32), .int (999 : Int32)]) (rest := []) (c_X10_number l cx.2.2.2.1.1 M10 (0 : Int32) (999 : Int32) hT hc) hT zo_11 cv_SunnyPansModel_147 ⟨rfl, rfl, Nat.le_of_ble_eq_true rfl, Nat.le_of_ble_eq_true rfl⟩ rfl rfl ⟨Nat.zero_le _, Nat.zero_le _⟩ (Nat.le_of_ble_eq_true rfl) d_X10_clause_204 ?_
    refine z_goto cx 211 d_X10_clause_207 (by decide) ?_
    exact z_lv [1, 2, 3, 4, 0] _ rfl (hb211 b186_L1 b186_L2 b186_L3 v11 v13 M12 hF)
  have hb153 : ∀ (b153_L1 : Int32) (M : zMem), F_X10_clause_153 b153_L1 M = some M9 → zJ p l e rm_X10_clause s m args below meth c G shM ad n A 7 (MQ below (zQ G shM ad n M9 none A) args s 0 0 A) 0 0 M 153 [(0, .ref (ad 0)), (1, .int b153_L1)] [] := by
    intro b153_L1 M hF
    unfold F_X10_clause_153 at hF
    refine z_iload_n cx d_X10_clause_153 1 rfl ?_
    refine z_iconst (v := 1) cx d_X10_clause_154 ki_1 ?_
    refine z_icmp_le cx 267 d_X10_clause_155 (by decide) hF (fun hF => ?_) (fun hF => ?_)
    · exact hb267 b153_L1 M hF
    refine z_aload_n cx d_X10_clause_158 0 rfl ?_
    refine z_iconst (v := 0) cx d_X10_clause_159 ki_0 ?_
    refine z_bipush (v := 7) cx d_X10_clause_160 kb_7 ?_
    obtain ⟨v15, M14, hc, hF⟩ := zb_inv hF
    refine z_callV cx (As := [.int (0 : Int32), .int (7 : Int32)]) (rest := []) (c_X10_number l cx.2.2.2.1.1 M (0 : Int32) (7 : Int32) hT hc) hT zo_11 cv_SunnyPansModel_147 ⟨rfl, rfl, Nat.le_of_ble_eq_true rfl, Nat.le_of_ble_eq_true rfl⟩ rfl rfl ⟨Nat.zero_le _, Nat.zero_le _⟩ (Nat.le_of_ble_eq_true rfl) d_X10_clause_162 ?_
    refine z_istore_n cx 2 [(2, .int v15), (0, .ref (ad 0)), (1, .int b153_L1)] d_X10_clause_165 rfl (by decide) rfl ?_
    refine z_aload_n cx d_X10_clause_166 1 rfl ?_
    refine z_iconst (v := 0) cx d_X10_clause_167 ki_0 ?_
    refine z_bipush (v := 7) cx d_X10_clause_168 kb_7 ?_
    obtain ⟨v17, M16, hc, hF⟩ := zb_inv hF
    refine z_callV cx (As := [.int (0 : Int32), .int (7 : Int32)]) (rest := []) (c_X10_number l cx.2.2.2.1.1 M14 (0 : Int32) (7 : Int32) hT hc) hT zo_11 cv_SunnyPansModel_147 ⟨rfl, rfl, Nat.le_of_ble_eq_true rfl, Nat.le_of_ble_eq_true rfl⟩ rfl rfl ⟨Nat.zero_le _, Nat.zero_le _⟩ (Nat.le_of_ble_eq_true rfl) d_X10_clause_170 ?_
    refine z_istore_n cx 3 [(3, .int v17), (2, .int v15), (0, .ref (ad 0)), (1, .int b153_L1)] d_X10_clause_173 rfl (by decide) rfl ?_
    refine z_aload_n cx d_X10_clause_174 2 rfl ?_
    refine z_iload_n cx d_X10_clause_175 3 rfl ?_
    refine z_iconst (v := 2) cx d_X10_clause_176 ki_2 ?_
    refine z_isub cx d_X10_clause_177 ?_
    refine z_if_ne cx 185 d_X10_clause_178 (by decide) hF (fun hF => ?_) (fun hF => ?_)
    · refine z_iconst (v := 1) cx d_X10_clause_185 ki_1 ?_
      exact z_lv [2, 3, 1, 0] _ rfl (hb186 b153_L1 v15 v17 (1 : Int32) M16 hF)
    refine z_iconst (v := 0) cx d_X10_clause_181 ki_0 ?_
    refine z_goto cx 186 d_X10_clause_182 (by decide) ?_
    exact z_lv [2, 3, 1, 0] _ rfl (hb186 b153_L1 v15 v17 (0 : Int32) M16 hF)
  have hb108 : ∀ (b108_L1 : Int32) (M : zMem), F_X10_clause_108 b108_L1 M = some M9 → zJ p l e rm_X10_clause s m args below meth c G shM ad n A 7 (MQ below (zQ G shM ad n M9 none A) args s 0 0 A) 0 0 M 108 [(0, .ref (ad 0)), (1, .int b108_L1)] [] := by
    intro b108_L1 M hF
    unfold F_X10_clause_108 at hF
    refine z_iload_n cx d_X10_clause_108 1 rfl ?_
    refine z_iconst (v := 1) cx d_X10_clause_109 ki_1 ?_
    refine z_icmp_ne cx 153 d_X10_clause_110 (by decide) hF (fun hF => ?_) (fun hF => ?_)
    · exact hb153 b108_L1 M hF
    refine z_aload_n cx d_X10_clause_113 0 rfl ?_
    refine z_getR cx hT fg_SunnyPansModel_31 6 rfl d_X10_clause_114 ?_
    refine z_aload_n cx d_X10_clause_117 0 rfl ?_
    refine z_getR cx hT fg_SunnyPansModel_20 3 rfl d_X10_clause_118 ?_
    refine z_iconst (v := 2) cx d_X10_clause_121 ki_2 ?_
    refine z_iald cx (tfM_11_3 hT) za_28 (zvp (by decide +kernel)) 2 rfl d_X10_clause_122 ?_
    obtain ⟨hi18, hF⟩ := gin_inv hF
    refine z_aald cx (tfM_11_6 hT) za_30 hi18 (6 + (1 + 1 * (M.1 3 2).toNatClampNeg)) rfl d_X10_clause_123 ?_
    refine z_iconst (v := 0) cx d_X10_clause_124 ki_0 ?_
    refine z_aload_n cx d_X10_clause_125 0 rfl ?_
    refine z_iconst (v := 0) cx d_X10_clause_126 ki_0 ?_
    refine z_bipush (v := 7) cx d_X10_clause_127 kb_7 ?_
    obtain ⟨v20, M19, hc, hF⟩ := zb_inv hF
    refine z_callV cx (As := [.int (0 : Int32), .int (7 : Int32)]) (rest := [.int (0 : Int32), .ref (ad (6 + (1 + 1 * (M.1 3 2).toNatClampNeg)))]) (c_X10_number l cx.2.2.2.1.1 M (0 : Int32) (7 : Int32) hT hc) hT zo_11 cv_SunnyPansModel_147 ⟨rfl, rfl, Nat.le_of_ble_eq_true rfl, Nat.le_of_ble_eq_true rfl⟩ rfl rfl ⟨Nat.zero_le _, Nat.zero_le _⟩ (Nat.le_of_ble_eq_true rfl) d_X10_clause_129 ?_
    refine z_iast cx (teM_30 (tfM_11_6 hT) hi18) za_27 (zvp (by decide +kernel)) 0 rfl d_X10_clause_132 ?_
    refine z_nmM hF (fun M21 hF => ?_)
    refine z_aload_n cx d_X10_clause_133 0 rfl ?_
    refine z_getR cx hT fg_SunnyPansModel_31 6 rfl d_X10_clause_134 ?_
    refine z_aload_n cx d_X10_clause_137 0 rfl ?_
    refine z_getR cx hT fg_SunnyPansModel_20 3 rfl d_X10_clause_138 ?_
    refine z_iconst (v := 2) cx d_X10_clause_141 ki_2 ?_
    refine z_iald cx (tfM_11_3 hT) za_28 (zvp (by decide +kernel)) 2 rfl d_X10_clause_142 ?_
    obtain ⟨hi22, hF⟩ := gin_inv hF
    refine z_aald cx (tfM_11_6 hT) za_30 hi22 (6 + (1 + 1 * (M21.1 3 2).toNatClampNeg)) rfl d_X10_clause_143 ?_
    refine z_iconst (v := 1) cx d_X10_clause_144 ki_1 ?_
    refine z_aload_n cx d_X10_clause_145 0 rfl ?_
    refine z_iconst (v := 0) cx d_X10_clause_146 ki_0 ?_
    refine z_bipush (v := 40) cx d_X10_clause_147 kb_40 ?_
    obtain ⟨v24, M23, hc, hF⟩ := zb_inv hF
    refine z_callV cx (As := [.int (0 : Int32), .int (40 : Int32)]) (rest := [.int (1 : Int32), .ref (ad (6 + (1 + 1 * (M21.1 3 2).toNatClampNeg)))]) (c_X10_number l cx.2.2.2.1.1 M21 (0 : Int32) (40 : Int32) hT hc) hT zo_11 cv_SunnyPansModel_147 ⟨rfl, rfl, Nat.le_of_ble_eq_true rfl, Nat.le_of_ble_eq_true rfl⟩ rfl rfl ⟨Nat.zero_le _, Nat.zero_le _⟩ (Nat.le_of_ble_eq_true rfl) d_X10_clause_149 ?_
    refine z_iast cx (teM_30 (tfM_11_6 hT) hi22) za_27 (zvp (by decide +kernel)) 1 rfl d_X10_clause_152 ?_
    refine z_nmM hF (fun M25 hF => ?_)
    exact hb153 b108_L1 M25 hF
  have hb56 : ∀ (b56_L1 : Int32) (M : zMem), F_X10_clause_56 b56_L1 M = some M9 → zJ p l e rm_X10_clause s m args below meth c G shM ad n A 7 (MQ below (zQ G shM ad n M9 none A) args s 0 0 A) 0 0 M 56 [(0, .ref (ad 0)), (1, .int b56_L1)] [] := by
    intro b56_L1 M hF
    unfold F_X10_clause_56 at hF
    refine z_aload_n cx d_X10_clause_56 0 rfl ?_
    refine z_getI cx hT fg_SunnyPansModel_98 d_X10_clause_57 ?_
    refine z_if_eq cx 64 d_X10_clause_60 (by decide) hF (fun hF => ?_) (fun hF => ?_)
    · refine z_aload_n cx d_X10_clause_64 0 rfl ?_
      obtain ⟨M26, hc, hF⟩ := zbv_inv hF
      refine z_callV cx (As := []) (rest := []) (c_X10_skipWord l cx.2.2.2.1.1 M hT hc) hT zo_11 cv_SunnyPansModel_135 ⟨rfl, rfl, Nat.le_of_ble_eq_true rfl, Nat.le_of_ble_eq_true rfl⟩ rfl rfl ⟨Nat.zero_le _, Nat.zero_le _⟩ (Nat.le_of_ble_eq_true rfl) d_X10_clause_65 ?_
      refine z_aload_n cx d_X10_clause_68 0 rfl ?_
      refine z_dup cx d_X10_clause_69 rfl ?_
      refine z_getI cx hT fg_SunnyPansModel_138 d_X10_clause_70 ?_
      refine z_iconst (v := 1) cx d_X10_clause_73 ki_1 ?_
      refine z_iadd cx d_X10_clause_74 ?_
      refine z_putI cx hT fp_SunnyPansModel_138 d_X10_clause_75 ?_
      refine z_nmM hF (fun M27 hF => ?_)
      refine z_iload_n cx d_X10_clause_78 1 rfl ?_
      refine z_if_ne cx 108 d_X10_clause_79 (by decide) hF (fun hF => ?_) (fun hF => ?_)
      · exact hb108 b56_L1 M27 hF
      refine z_aload_n cx d_X10_clause_82 0 rfl ?_
      refine z_getR cx hT fg_SunnyPansModel_20 3 rfl d_X10_clause_83 ?_
      refine z_iconst (v := 0) cx d_X10_clause_86 ki_0 ?_
      refine z_aload_n cx d_X10_clause_87 0 rfl ?_
      refine z_iconst (v := 1) cx d_X10_clause_88 ki_1 ?_
      refine z_bipush (v := 8) cx d_X10_clause_89 kb_8 ?_
      obtain ⟨v29, M28, hc, hF⟩ := zb_inv hF
      refine z_callV cx (As := [.int (1 : Int32), .int (8 : Int32)]) (rest := [.int (0 : Int32), .ref (ad 3)]) (c_X10_number l cx.2.2.2.1.1 M27 (1 : Int32) (8 : Int32) hT hc) hT zo_11 cv_SunnyPansModel_147 ⟨rfl, rfl, Nat.le_of_ble_eq_true rfl, Nat.le_of_ble_eq_true rfl⟩ rfl rfl ⟨Nat.zero_le _, Nat.zero_le _⟩ (Nat.le_of_ble_eq_true rfl) d_X10_clause_91 ?_
      refine z_iast cx (tfM_11_3 hT) za_28 (zvp (by decide +kernel)) 0 rfl d_X10_clause_94 ?_
      refine z_nmM hF (fun M30 hF => ?_)
      refine z_aload_n cx d_X10_clause_95 0 rfl ?_
      refine z_getR cx hT fg_SunnyPansModel_20 3 rfl d_X10_clause_96 ?_
      refine z_iconst (v := 1) cx d_X10_clause_99 ki_1 ?_
      refine z_aload_n cx d_X10_clause_100 0 rfl ?_
      refine z_iconst (v := 1) cx d_X10_clause_101 ki_1 ?_
      refine z_bipush (v := 8) cx d_X10_clause_102 kb_8 ?_
      obtain ⟨v32, M31, hc, hF⟩ := zb_inv hF
      refine z_callV cx (As := [.int (1 : Int32), .int (8 : Int32)]) (rest := [.int (1 : Int32), .ref (ad 3)]) (c_X10_number l cx.2.2.2.1.1 M30 (1 : Int32) (8 : Int32) hT hc) hT zo_11 cv_SunnyPansModel_147 ⟨rfl, rfl, Nat.le_of_ble_eq_true rfl, Nat.le_of_ble_eq_true rfl⟩ rfl rfl ⟨Nat.zero_le _, Nat.zero_le _⟩ (Nat.le_of_ble_eq_true rfl) d_X10_clause_104 ?_
      refine z_iast cx (tfM_11_3 hT) za_28 (zvp (by decide +kernel)) 1 rfl d_X10_clause_107 ?_
      refine z_nmM hF (fun M33 hF => ?_)
      exact hb108 b56_L1 M33 hF
    exact z_vret cx hr hF d_X10_clause_63
  have hb47 : ∀ (b47_L1 : Int32) (M : zMem), F_X10_clause_47 b47_L1 M = some M9 → zJ p l e rm_X10_clause s m args below meth c G shM ad n A 7 (MQ below (zQ G shM ad n M9 none A) args s 0 0 A) 0 0 M 47 [(0, .ref (ad 0)), (1, .int b47_L1)] [] := by
    intro b47_L1 M hF
    unfold F_X10_clause_47 at hF
    refine z_aload_n cx d_X10_clause_47 0 rfl ?_
    refine z_iconst (v := 3) cx d_X10_clause_48 ki_3 ?_
    refine z_aload_n cx d_X10_clause_49 0 rfl ?_
    refine z_getI cx hT fg_SunnyPansModel_91 d_X10_clause_50 ?_
    obtain ⟨M34, hc, hF⟩ := zbv_inv hF
    refine z_callV cx (As := [.int (3 : Int32), .int (M.1 0 4)]) (rest := []) (c_X10_wrong l cx.2.2.2.1.1 M (3 : Int32) (M.1 0 4) hT hc) hT zo_11 cv_SunnyPansModel_111 ⟨rfl, rfl, Nat.le_of_ble_eq_true rfl, Nat.le_of_ble_eq_true rfl⟩ rfl rfl ⟨Nat.zero_le _, Nat.zero_le _⟩ (Nat.le_of_ble_eq_true rfl) d_X10_clause_53 ?_
    exact hb56 b47_L1 M34 hF
  unfold F_X10_clause at hF
  refine z_aload_n cx d_X10_clause_0 0 rfl ?_
  obtain ⟨v36, M35, hc, hF⟩ := zb_inv hF
  refine z_callV cx (As := []) (rest := []) (c_X10_kindHere l cx.2.2.2.1.1 M hT hc) hT zo_11 cv_SunnyPansModel_144 ⟨rfl, rfl, Nat.le_of_ble_eq_true rfl, Nat.le_of_ble_eq_true rfl⟩ rfl rfl ⟨Nat.zero_le _, Nat.zero_le _⟩ (Nat.le_of_ble_eq_true rfl) d_X10_clause_1 ?_
  refine z_istore_n cx 1 [(1, .int v36), (0, .ref (ad 0))] d_X10_clause_4 rfl (by decide) rfl ?_
  refine z_iload_n cx d_X10_clause_5 0 rfl ?_
  refine z_iconst (v := -1) cx d_X10_clause_6 ki_m1 ?_
  refine z_icmp_ne cx 22 d_X10_clause_7 (by decide) hF (fun hF => ?_) (fun hF => ?_)
  · refine z_aload_n cx d_X10_clause_22 1 rfl ?_
    refine z_getI cx hT fg_SunnyPansModel_138 d_X10_clause_23 ?_
    refine z_bipush (v := 60) cx d_X10_clause_26 kb_60 ?_
    refine z_icmp_eq cx 47 d_X10_clause_28 (by decide) hF (fun hF => ?_) (fun hF => ?_)
    · exact z_lv [1, 0] _ rfl (hb47 v36 M35 hF)
    refine z_iload_n cx d_X10_clause_31 0 rfl ?_
    refine z_iconst (v := 1) cx d_X10_clause_32 ki_1 ?_
    refine z_icmp_ne cx 56 d_X10_clause_33 (by decide) hF (fun hF => ?_) (fun hF => ?_)
    · exact z_lv [1, 0] _ rfl (hb56 v36 M35 hF)
    refine z_aload_n cx d_X10_clause_36 1 rfl ?_
    refine z_getR cx hT fg_SunnyPansModel_20 3 rfl d_X10_clause_37 ?_
    refine z_iconst (v := 2) cx d_X10_clause_40 ki_2 ?_
    refine z_iald cx (tfM_11_3 hT) za_28 (zvp (by decide +kernel)) 2 rfl d_X10_clause_41 ?_
    refine z_bipush (v := 10) cx d_X10_clause_42 kb_10 ?_
    refine z_icmp_ne cx 56 d_X10_clause_44 (by decide) hF (fun hF => ?_) (fun hF => ?_)
    · exact z_lv [1, 0] _ rfl (hb56 v36 M35 hF)
    exact z_lv [1, 0] _ rfl (hb47 v36 M35 hF)
  refine z_aload_n cx d_X10_clause_10 1 rfl ?_
  refine z_iconst (v := 1) cx d_X10_clause_11 ki_1 ?_
  refine z_aload_n cx d_X10_clause_12 1 rfl ?_
  refine z_getI cx hT fg_SunnyPansModel_91 d_X10_clause_13 ?_
  obtain ⟨M37, hc, hF⟩ := zbv_inv hF
  refine z_callV cx (As := [.int (1 : Int32), .int (M35.1 0 4)]) (rest := []) (c_X10_wrong l cx.2.2.2.1.1 M35 (1 : Int32) (M35.1 0 4) hT hc) hT zo_11 cv_SunnyPansModel_111 ⟨rfl, rfl, Nat.le_of_ble_eq_true rfl, Nat.le_of_ble_eq_true rfl⟩ rfl rfl ⟨Nat.zero_le _, Nat.zero_le _⟩ (Nat.le_of_ble_eq_true rfl) d_X10_clause_16 ?_
  refine z_goto cx 56 d_X10_clause_19 (by decide) ?_
  exact z_lv [1, 0] _ rfl (hb56 v36 M37 hF)
/-! SunnyPansModel.copies -/
theorem d_X10_copies_0 : decode cX10_copies 0 = .ok (.iconst 0, 1) := by decide +kernel
theorem d_X10_copies_1 : decode cX10_copies 1 = .ok (.istore_n 2, 1) := by decide +kernel
theorem d_X10_copies_2 : decode cX10_copies 2 = .ok (.iload_n 2, 1) := by decide +kernel
theorem d_X10_copies_3 : decode cX10_copies 3 = .ok (.sipush 195, 3) := by decide +kernel
theorem d_X10_copies_6 : decode cX10_copies 6 = .ok (.if_icmp .ge 15, 3) := by decide +kernel
theorem d_X10_copies_9 : decode cX10_copies 9 = .ok (.aload_n 1, 1) := by decide +kernel
theorem d_X10_copies_10 : decode cX10_copies 10 = .ok (.iload_n 2, 1) := by decide +kernel
theorem d_X10_copies_11 : decode cX10_copies 11 = .ok (.aload_n 0, 1) := by decide +kernel
theorem d_X10_copies_12 : decode cX10_copies 12 = .ok (.iload_n 2, 1) := by decide +kernel
theorem d_X10_copies_13 : decode cX10_copies 13 = .ok (.iaload, 1) := by decide +kernel
theorem d_X10_copies_14 : decode cX10_copies 14 = .ok (.iastore, 1) := by decide +kernel
theorem d_X10_copies_15 : decode cX10_copies 15 = .ok (.iinc 2 1, 3) := by decide +kernel
theorem d_X10_copies_18 : decode cX10_copies 18 = .ok (.goto (-16), 3) := by decide +kernel
theorem d_X10_copies_21 : decode cX10_copies 21 = .ok (.return_, 1) := by decide +kernel
def F_X10_copies_2 (p0 : Nat) (p1 : Nat) (self2 : Int32 → zMem → Option (zMem)) (b2_L2 : Int32) (M : zMem) : Option (zMem) :=
  if (195 : Int32) ≤ b2_L2 then
    some M
  else
    gin b2_L2 195 <|
    zl (zI M p1 b2_L2.toNatClampNeg (M.1 p0 b2_L2.toNatClampNeg)) fun M2 =>
    self2 (b2_L2 + 1) M2
def F_X10_copies (M : zMem) (p0 : Nat) (p1 : Nat) : Option (zMem) :=
  itF (fun _ _ => none) (F_X10_copies_2 p0 p1) zFuel (0 : Int32) M
def rm_X10_copies : Room := { frames := 2, cells := 0, slots := 0, locals := 80 }
set_option maxHeartbeats 4000000 in
set_option maxRecDepth 100000 in
theorem c_X10_copies (l : Launch) {G : zG} {ad : Nat → Nat} {n : Nat} (hA : zInj ad n) (M : zMem) (p0 : Nat) (p1 : Nat) (hT_p0 : zT shM n p0 36) (hT_p1 : zT shM n p1 36) {M9 : zMem} (hF : F_X10_copies M p0 p1 = some M9) : zM l yX10_copies cX10_copies 3 none rm_X10_copies G shM ad n M [.ref (ad p0), .ref (ad p1)] none M9 := by
  refine zM_of hA (by decide +kernel) (lv := [(0, .ref (ad p0)), (1, .ref (ad p1))]) (Nat.le_of_ble_eq_true rfl) rfl (fun p e s m args below meth c A cx hr => ?_)
  have hL2 : ∀ (fuel : Nat), ∀ (b2_L2 : Int32) (M : zMem), itF (fun _ _ => none) (F_X10_copies_2 p0 p1) fuel b2_L2 M = some M9 → zJ p l e rm_X10_copies s m args below meth c G shM ad n A 3 (MQ below (zQ G shM ad n M9 none A) args s 0 0 A) 0 0 M 2 [(0, .ref (ad p0)), (1, .ref (ad p1)), (2, .int b2_L2)] [] := by
    intro fuel
    induction fuel with
    | zero => intro b2_L2 M hF; cases hF
    | succ fuel hs2 =>
      intro b2_L2 M hF
      have hF : F_X10_copies_2 p0 p1 (itF (fun _ _ => none) (F_X10_copies_2 p0 p1) fuel) b2_L2 M = some M9 := hF
      generalize itF (fun _ _ => none) (F_X10_copies_2 p0 p1) fuel = self2 at hs2 hF
      unfold F_X10_copies_2 at hF
      refine z_iload_n cx d_X10_copies_2 2 rfl ?_
      refine z_sipush (v := 195) cx d_X10_copies_3 ks_195 ?_
      refine z_icmp_ge cx 21 d_X10_copies_6 (by decide) hF (fun hF => ?_) (fun hF => ?_)
      · exact z_vret cx hr hF d_X10_copies_21
      refine z_aload_n cx d_X10_copies_9 1 rfl ?_
      refine z_iload_n cx d_X10_copies_10 2 rfl ?_
      refine z_aload_n cx d_X10_copies_11 0 rfl ?_
      refine z_iload_n cx d_X10_copies_12 2 rfl ?_
      obtain ⟨hi1, hF⟩ := gin_inv hF
      refine z_iald cx hT_p0 za_36 hi1 b2_L2.toNatClampNeg rfl d_X10_copies_13 ?_
      refine z_iast cx hT_p1 za_36 hi1 b2_L2.toNatClampNeg rfl d_X10_copies_14 ?_
      refine z_nmM hF (fun M2 hF => ?_)
      refine z_iinc cx 2 1 [(2, .int (b2_L2 + 1)), (0, .ref (ad p0)), (1, .ref (ad p1))] d_X10_copies_15 2 rfl ki_1 (by decide) rfl ?_
      refine z_goto cx 2 d_X10_copies_18 (by decide) ?_
      exact z_lv [1, 2, 0] _ rfl (hs2 (b2_L2 + 1) M2 hF)
  unfold F_X10_copies at hF
  refine z_iconst (v := 0) cx d_X10_copies_0 ki_0 ?_
  refine z_istore_n cx 2 [(2, .int (0 : Int32)), (0, .ref (ad p0)), (1, .ref (ad p1))] d_X10_copies_1 rfl (by decide) rfl ?_
  exact z_lv [1, 2, 0] _ rfl (hL2 zFuel (0 : Int32) M hF)
/-! SunnyPansModel.notes -/
theorem tfM_11_189 {n k : Nat} (h : zT shM n k 11) : zT shM n (k + 189) 31 := zT_off h (shM_f (by decide) (by decide +kernel)) (by decide) (by decide)
set_option maxRecDepth 100000 in
theorem wd_1413 : Cond.fieldLink "SunnyPansModel" 40 "SunnyPansModel" "readLaw" "[[I" ∈ tbG := tw6 113 rfl rfl
theorem fg_SunnyPansModel_40 : zGetR "SunnyPansModel" 40 10 11 19 189 := ⟨RX10, TX10, 40, rfl, by decide, uw_10, wd_1413, fun _ _ _ _ _ _ => ⟨_, rfl, rfl⟩⟩
set_option maxRecDepth 100000 in
theorem wd_1411 : Cond.fieldLink "SunnyPansModel" 187 "SunnyPansModel" "readLawMany" "I" ∈ tbG := tw6 111 rfl rfl
theorem fg_SunnyPansModel_187 : zGetI "SunnyPansModel" 187 10 11 17 := ⟨RX10, TX10, 40, rfl, by decide, uw_10, wd_1411, fun _ _ _ _ _ _ => ⟨_, rfl, rfl⟩⟩
theorem za_31 : zArrR 31 160 4 1 1 := ⟨by decide, fun _ _ _ _ _ _ => rfl⟩
theorem teM_31 {n k : Nat} {i : Int32} (h : zT shM n k 31) (hi : vp_in i 160) : zT shM n (k + (1 + 1 * i.toNatClampNeg)) 27 := by
  have hlt : i.toNatClampNeg < 160 := Nat.not_le.mp fun q => hi (Or.inr q)
  have h2 : k + 161 ≤ n := h.2.2
  exact ⟨shM_e (by decide) (by decide +kernel) k h.1 _ hlt, by omega, by show _ + 1 ≤ n; omega⟩
theorem fp_SunnyPansModel_187 : zPutI "SunnyPansModel" 187 10 11 17 := ⟨zc_10, fg_SunnyPansModel_187, ⟨RX10, TX10, 40, rfl, rfl, by decide +kernel⟩, fun _ _ _ _ _ _ _ => ⟨_, rfl, Nat.le_of_ble_eq_true rfl, rfl⟩⟩
theorem d_X10_notes_0 : decode cX10_notes 0 = .ok (.aload_n 0, 1) := by decide +kernel
theorem d_X10_notes_1 : decode cX10_notes 1 = .ok (.getfield 98, 3) := by decide +kernel
theorem d_X10_notes_4 : decode cX10_notes 4 = .ok (.ifCond .eq 4, 3) := by decide +kernel
theorem d_X10_notes_7 : decode cX10_notes 7 = .ok (.return_, 1) := by decide +kernel
theorem d_X10_notes_8 : decode cX10_notes 8 = .ok (.aload_n 0, 1) := by decide +kernel
theorem d_X10_notes_9 : decode cX10_notes 9 = .ok (.getfield 40, 3) := by decide +kernel
theorem d_X10_notes_12 : decode cX10_notes 12 = .ok (.aload_n 0, 1) := by decide +kernel
theorem d_X10_notes_13 : decode cX10_notes 13 = .ok (.getfield 187, 3) := by decide +kernel
theorem d_X10_notes_16 : decode cX10_notes 16 = .ok (.aaload, 1) := by decide +kernel
theorem d_X10_notes_17 : decode cX10_notes 17 = .ok (.iconst 0, 1) := by decide +kernel
theorem d_X10_notes_18 : decode cX10_notes 18 = .ok (.iload_n 1, 1) := by decide +kernel
theorem d_X10_notes_19 : decode cX10_notes 19 = .ok (.iastore, 1) := by decide +kernel
theorem d_X10_notes_20 : decode cX10_notes 20 = .ok (.aload_n 0, 1) := by decide +kernel
theorem d_X10_notes_21 : decode cX10_notes 21 = .ok (.getfield 40, 3) := by decide +kernel
theorem d_X10_notes_24 : decode cX10_notes 24 = .ok (.aload_n 0, 1) := by decide +kernel
theorem d_X10_notes_25 : decode cX10_notes 25 = .ok (.getfield 187, 3) := by decide +kernel
theorem d_X10_notes_28 : decode cX10_notes 28 = .ok (.aaload, 1) := by decide +kernel
theorem d_X10_notes_29 : decode cX10_notes 29 = .ok (.iconst 1, 1) := by decide +kernel
theorem d_X10_notes_30 : decode cX10_notes 30 = .ok (.iload_n 2, 1) := by decide +kernel
theorem d_X10_notes_31 : decode cX10_notes 31 = .ok (.iastore, 1) := by decide +kernel
theorem d_X10_notes_32 : decode cX10_notes 32 = .ok (.aload_n 0, 1) := by decide +kernel
theorem d_X10_notes_33 : decode cX10_notes 33 = .ok (.dup, 1) := by decide +kernel
theorem d_X10_notes_34 : decode cX10_notes 34 = .ok (.getfield 187, 3) := by decide +kernel
theorem d_X10_notes_37 : decode cX10_notes 37 = .ok (.iconst 1, 1) := by decide +kernel
theorem d_X10_notes_38 : decode cX10_notes 38 = .ok (.iadd, 1) := by decide +kernel
theorem d_X10_notes_39 : decode cX10_notes 39 = .ok (.putfield 187, 3) := by decide +kernel
theorem d_X10_notes_42 : decode cX10_notes 42 = .ok (.return_, 1) := by decide +kernel
def F_X10_notes (M : zMem) (p0 : Int32) (p1 : Int32) : Option (zMem) :=
  if (M.1 0 5) = 0 then
    gin (M.1 0 17) 160 <|
    zl (zI M (189 + (1 + 1 * (M.1 0 17).toNatClampNeg)) 0 p0) fun M2 =>
    gin (M2.1 0 17) 160 <|
    zl (zI M2 (189 + (1 + 1 * (M2.1 0 17).toNatClampNeg)) 1 p1) fun M4 =>
    zl (zI M4 0 17 ((M4.1 0 17) + (1 : Int32))) fun M5 =>
    some M5
  else
    some M
def rm_X10_notes : Room := { frames := 2, cells := 0, slots := 0, locals := 80 }
set_option maxHeartbeats 4000000 in
set_option maxRecDepth 100000 in
theorem c_X10_notes (l : Launch) {G : zG} {ad : Nat → Nat} {n : Nat} (hA : zInj ad n) (M : zMem) (p0 : Int32) (p1 : Int32) (hT : zT shM n 0 11) {M9 : zMem} (hF : F_X10_notes M p0 p1 = some M9) : zM l yX10_notes cX10_notes 3 none rm_X10_notes G shM ad n M [.ref (ad 0), .int p0, .int p1] none M9 := by
  refine zM_of hA (by decide +kernel) (lv := [(0, .ref (ad 0)), (1, .int p0), (2, .int p1)]) (Nat.le_of_ble_eq_true rfl) rfl (fun p e s m args below meth c A cx hr => ?_)
  unfold F_X10_notes at hF
  refine z_aload_n cx d_X10_notes_0 0 rfl ?_
  refine z_getI cx hT fg_SunnyPansModel_98 d_X10_notes_1 ?_
  refine z_if_eq cx 8 d_X10_notes_4 (by decide) hF (fun hF => ?_) (fun hF => ?_)
  · refine z_aload_n cx d_X10_notes_8 0 rfl ?_
    refine z_getR cx hT fg_SunnyPansModel_40 189 rfl d_X10_notes_9 ?_
    refine z_aload_n cx d_X10_notes_12 0 rfl ?_
    refine z_getI cx hT fg_SunnyPansModel_187 d_X10_notes_13 ?_
    obtain ⟨hi1, hF⟩ := gin_inv hF
    refine z_aald cx (tfM_11_189 hT) za_31 hi1 (189 + (1 + 1 * (M.1 0 17).toNatClampNeg)) rfl d_X10_notes_16 ?_
    refine z_iconst (v := 0) cx d_X10_notes_17 ki_0 ?_
    refine z_iload_n cx d_X10_notes_18 1 rfl ?_
    refine z_iast cx (teM_31 (tfM_11_189 hT) hi1) za_27 (zvp (by decide +kernel)) 0 rfl d_X10_notes_19 ?_
    refine z_nmM hF (fun M2 hF => ?_)
    refine z_aload_n cx d_X10_notes_20 0 rfl ?_
    refine z_getR cx hT fg_SunnyPansModel_40 189 rfl d_X10_notes_21 ?_
    refine z_aload_n cx d_X10_notes_24 0 rfl ?_
    refine z_getI cx hT fg_SunnyPansModel_187 d_X10_notes_25 ?_
    obtain ⟨hi3, hF⟩ := gin_inv hF
    refine z_aald cx (tfM_11_189 hT) za_31 hi3 (189 + (1 + 1 * (M2.1 0 17).toNatClampNeg)) rfl d_X10_notes_28 ?_
    refine z_iconst (v := 1) cx d_X10_notes_29 ki_1 ?_
    refine z_iload_n cx d_X10_notes_30 2 rfl ?_
    refine z_iast cx (teM_31 (tfM_11_189 hT) hi3) za_27 (zvp (by decide +kernel)) 1 rfl d_X10_notes_31 ?_
    refine z_nmM hF (fun M4 hF => ?_)
    refine z_aload_n cx d_X10_notes_32 0 rfl ?_
    refine z_dup cx d_X10_notes_33 rfl ?_
    refine z_getI cx hT fg_SunnyPansModel_187 d_X10_notes_34 ?_
    refine z_iconst (v := 1) cx d_X10_notes_37 ki_1 ?_
    refine z_iadd cx d_X10_notes_38 ?_
    refine z_putI cx hT fp_SunnyPansModel_187 d_X10_notes_39 ?_
    refine z_nmM hF (fun M5 hF => ?_)
    exact z_vret cx hr hF d_X10_notes_42
  exact z_vret cx hr hF d_X10_notes_7
/-! SunnyPansModel.opensOne -/
theorem d_X10_opensOne_0 : decode cX10_opensOne 0 = .ok (.aload_n 0, 1) := by decide +kernel
theorem d_X10_opensOne_1 : decode cX10_opensOne 1 = .ok (.getfield 98, 3) := by decide +kernel
theorem d_X10_opensOne_4 : decode cX10_opensOne 4 = .ok (.ifCond .ne 24, 3) := by decide +kernel
theorem d_X10_opensOne_7 : decode cX10_opensOne 7 = .ok (.aload_n 0, 1) := by decide +kernel
theorem d_X10_opensOne_8 : decode cX10_opensOne 8 = .ok (.getfield 141, 3) := by decide +kernel
theorem d_X10_opensOne_11 : decode cX10_opensOne 11 = .ok (.bipush 6, 2) := by decide +kernel
theorem d_X10_opensOne_13 : decode cX10_opensOne 13 = .ok (.if_icmp .ne 15, 3) := by decide +kernel
theorem d_X10_opensOne_16 : decode cX10_opensOne 16 = .ok (.aload_n 0, 1) := by decide +kernel
theorem d_X10_opensOne_17 : decode cX10_opensOne 17 = .ok (.iconst 3, 1) := by decide +kernel
theorem d_X10_opensOne_18 : decode cX10_opensOne 18 = .ok (.aload_n 0, 1) := by decide +kernel
theorem d_X10_opensOne_19 : decode cX10_opensOne 19 = .ok (.getfield 91, 3) := by decide +kernel
theorem d_X10_opensOne_22 : decode cX10_opensOne 22 = .ok (.invokevirtual 111, 3) := by decide +kernel
theorem d_X10_opensOne_25 : decode cX10_opensOne 25 = .ok (.goto 20, 3) := by decide +kernel
theorem d_X10_opensOne_28 : decode cX10_opensOne 28 = .ok (.aload_n 0, 1) := by decide +kernel
theorem d_X10_opensOne_29 : decode cX10_opensOne 29 = .ok (.getfield 98, 3) := by decide +kernel
theorem d_X10_opensOne_32 : decode cX10_opensOne 32 = .ok (.ifCond .ne 13, 3) := by decide +kernel
theorem d_X10_opensOne_35 : decode cX10_opensOne 35 = .ok (.aload_n 0, 1) := by decide +kernel
theorem d_X10_opensOne_36 : decode cX10_opensOne 36 = .ok (.dup, 1) := by decide +kernel
theorem d_X10_opensOne_37 : decode cX10_opensOne 37 = .ok (.getfield 141, 3) := by decide +kernel
theorem d_X10_opensOne_40 : decode cX10_opensOne 40 = .ok (.iconst 1, 1) := by decide +kernel
theorem d_X10_opensOne_41 : decode cX10_opensOne 41 = .ok (.iadd, 1) := by decide +kernel
theorem d_X10_opensOne_42 : decode cX10_opensOne 42 = .ok (.putfield 141, 3) := by decide +kernel
theorem d_X10_opensOne_45 : decode cX10_opensOne 45 = .ok (.aload_n 0, 1) := by decide +kernel
theorem d_X10_opensOne_46 : decode cX10_opensOne 46 = .ok (.getfield 98, 3) := by decide +kernel
theorem d_X10_opensOne_49 : decode cX10_opensOne 49 = .ok (.ifCond .ne 7, 3) := by decide +kernel
theorem d_X10_opensOne_52 : decode cX10_opensOne 52 = .ok (.iconst 1, 1) := by decide +kernel
theorem d_X10_opensOne_53 : decode cX10_opensOne 53 = .ok (.goto 4, 3) := by decide +kernel
theorem d_X10_opensOne_56 : decode cX10_opensOne 56 = .ok (.iconst 0, 1) := by decide +kernel
theorem d_X10_opensOne_57 : decode cX10_opensOne 57 = .ok (.ireturn, 1) := by decide +kernel
def F_X10_opensOne_45 (M : zMem) : Option (Int32 × zMem) :=
  if (M.1 0 5) = 0 then
    some ((1 : Int32), M)
  else
    some ((0 : Int32), M)
def F_X10_opensOne_28 (M : zMem) : Option (Int32 × zMem) :=
  if (M.1 0 5) = 0 then
    zl (zI M 0 8 ((M.1 0 8) + (1 : Int32))) fun M1 =>
    F_X10_opensOne_45 M1
  else
    F_X10_opensOne_45 M
def F_X10_opensOne (M : zMem)  : Option (Int32 × zMem) :=
  if (M.1 0 5) = 0 then
    if (M.1 0 8) = (6 : Int32) then
      zbv (F_X10_wrong M (3 : Int32) (M.1 0 4)) fun M2 =>
      F_X10_opensOne_45 M2
    else
      F_X10_opensOne_28 M
  else
    F_X10_opensOne_28 M
def rm_X10_opensOne : Room := { frames := 3, cells := 0, slots := 0, locals := 102 }
set_option maxHeartbeats 4000000 in
set_option maxRecDepth 100000 in
theorem c_X10_opensOne (l : Launch) {G : zG} {ad : Nat → Nat} {n : Nat} (hA : zInj ad n) (M : zMem)  (hT : zT shM n 0 11) {r9 : Int32} {M9 : zMem} (hF : F_X10_opensOne M  = some (r9, M9)) : zM l yX10_opensOne cX10_opensOne 1 (some .boolean) rm_X10_opensOne G shM ad n M [.ref (ad 0)] (some (.int r9)) M9 := by
  refine zM_of hA (by decide +kernel) (lv := [(0, .ref (ad 0))]) (Nat.le_of_ble_eq_true rfl) rfl (fun p e s m args below meth c A cx hr => ?_)
  have hb45 : ∀ (M : zMem), F_X10_opensOne_45 M = some (r9, M9) → zJ p l e rm_X10_opensOne s m args below meth c G shM ad n A 1 (MQ below (zQ G shM ad n M9 (some (.int r9)) A) args s 0 0 A) 0 0 M 45 [(0, .ref (ad 0))] [] := by
    intro M hF
    unfold F_X10_opensOne_45 at hF
    refine z_aload_n cx d_X10_opensOne_45 0 rfl ?_
    refine z_getI cx hT fg_SunnyPansModel_98 d_X10_opensOne_46 ?_
    refine z_if_ne cx 56 d_X10_opensOne_49 (by decide) hF (fun hF => ?_) (fun hF => ?_)
    · refine z_iconst (v := 0) cx d_X10_opensOne_56 ki_0 ?_
      exact z_iret cx hr nb0 hF d_X10_opensOne_57
    refine z_iconst (v := 1) cx d_X10_opensOne_52 ki_1 ?_
    refine z_goto cx 57 d_X10_opensOne_53 (by decide) ?_
    exact z_iret cx hr nb1 hF d_X10_opensOne_57
  have hb28 : ∀ (M : zMem), F_X10_opensOne_28 M = some (r9, M9) → zJ p l e rm_X10_opensOne s m args below meth c G shM ad n A 1 (MQ below (zQ G shM ad n M9 (some (.int r9)) A) args s 0 0 A) 0 0 M 28 [(0, .ref (ad 0))] [] := by
    intro M hF
    unfold F_X10_opensOne_28 at hF
    refine z_aload_n cx d_X10_opensOne_28 0 rfl ?_
    refine z_getI cx hT fg_SunnyPansModel_98 d_X10_opensOne_29 ?_
    refine z_if_ne cx 45 d_X10_opensOne_32 (by decide) hF (fun hF => ?_) (fun hF => ?_)
    · exact hb45 M hF
    refine z_aload_n cx d_X10_opensOne_35 0 rfl ?_
    refine z_dup cx d_X10_opensOne_36 rfl ?_
    refine z_getI cx hT fg_SunnyPansModel_141 d_X10_opensOne_37 ?_
    refine z_iconst (v := 1) cx d_X10_opensOne_40 ki_1 ?_
    refine z_iadd cx d_X10_opensOne_41 ?_
    refine z_putI cx hT fp_SunnyPansModel_141 d_X10_opensOne_42 ?_
    refine z_nmM hF (fun M1 hF => ?_)
    exact hb45 M1 hF
  unfold F_X10_opensOne at hF
  refine z_aload_n cx d_X10_opensOne_0 0 rfl ?_
  refine z_getI cx hT fg_SunnyPansModel_98 d_X10_opensOne_1 ?_
  refine z_if_ne cx 28 d_X10_opensOne_4 (by decide) hF (fun hF => ?_) (fun hF => ?_)
  · exact hb28 M hF
  refine z_aload_n cx d_X10_opensOne_7 0 rfl ?_
  refine z_getI cx hT fg_SunnyPansModel_141 d_X10_opensOne_8 ?_
  refine z_bipush (v := 6) cx d_X10_opensOne_11 kb_6 ?_
  refine z_icmp_ne cx 28 d_X10_opensOne_13 (by decide) hF (fun hF => ?_) (fun hF => ?_)
  · exact hb28 M hF
  refine z_aload_n cx d_X10_opensOne_16 0 rfl ?_
  refine z_iconst (v := 3) cx d_X10_opensOne_17 ki_3 ?_
  refine z_aload_n cx d_X10_opensOne_18 0 rfl ?_
  refine z_getI cx hT fg_SunnyPansModel_91 d_X10_opensOne_19 ?_
  obtain ⟨M2, hc, hF⟩ := zbv_inv hF
  refine z_callV cx (As := [.int (3 : Int32), .int (M.1 0 4)]) (rest := []) (c_X10_wrong l cx.2.2.2.1.1 M (3 : Int32) (M.1 0 4) hT hc) hT zo_11 cv_SunnyPansModel_111 ⟨rfl, rfl, Nat.le_of_ble_eq_true rfl, Nat.le_of_ble_eq_true rfl⟩ rfl rfl ⟨Nat.zero_le _, Nat.zero_le _⟩ (Nat.le_of_ble_eq_true rfl) d_X10_opensOne_22 ?_
  refine z_goto cx 45 d_X10_opensOne_25 (by decide) ?_
  exact hb45 M2 hF
/-! SunnyPansModel.knownHere -/
set_option maxRecDepth 100000 in
theorem wd_1623 : Cond.code yX10_takes cX10_takes 8 (some .boolean) ∈ tbG := tw7 83 rfl rfl
set_option maxRecDepth 100000 in
theorem wd_1620 : Cond.methodLink "SunnyPansModel" 202 yX10_takes ∈ tbG := tw7 80 rfl rfl
set_option maxRecDepth 100000 in
theorem wd_1622 : Cond.instanceMethod yX10_takes ∈ tbG := tw7 82 rfl rfl
theorem wd_62 : Cond.selects "SunnyPansModel" yX10_takes yX10_takes ∈ tbG := tw 62 (by decide +kernel) rfl
theorem cv_SunnyPansModel_202 : zCV "SunnyPansModel" 202 "SunnyPansModel" yX10_takes cX10_takes 8 (some .boolean) 6 := zCV_of wd_1620 wd_1622 wd_62 wd_111 wd_1623 (by decide +kernel)
theorem kb_25 : (Int8.ofInt (25)).toInt32 = (25 : Int32) := by decide +kernel
theorem kb_23 : (Int8.ofInt (23)).toInt32 = (23 : Int32) := by decide +kernel
theorem d_X10_knownHere_0 : decode cX10_knownHere 0 = .ok (.aload_n 0, 1) := by decide +kernel
theorem d_X10_knownHere_1 : decode cX10_knownHere 1 = .ok (.iconst 2, 1) := by decide +kernel
theorem d_X10_knownHere_2 : decode cX10_knownHere 2 = .ok (.bipush 18, 2) := by decide +kernel
theorem d_X10_knownHere_4 : decode cX10_knownHere 4 = .ok (.bipush 9, 2) := by decide +kernel
theorem d_X10_knownHere_6 : decode cX10_knownHere 6 = .ok (.bipush 14, 2) := by decide +kernel
theorem d_X10_knownHere_8 : decode cX10_knownHere 8 = .ok (.iconst 5, 1) := by decide +kernel
theorem d_X10_knownHere_9 : decode cX10_knownHere 9 = .ok (.iconst 0, 1) := by decide +kernel
theorem d_X10_knownHere_10 : decode cX10_knownHere 10 = .ok (.invokevirtual 202, 3) := by decide +kernel
theorem d_X10_knownHere_13 : decode cX10_knownHere 13 = .ok (.ifCond .eq 5, 3) := by decide +kernel
theorem d_X10_knownHere_16 : decode cX10_knownHere 16 = .ok (.iconst 0, 1) := by decide +kernel
theorem d_X10_knownHere_17 : decode cX10_knownHere 17 = .ok (.ireturn, 1) := by decide +kernel
theorem d_X10_knownHere_18 : decode cX10_knownHere 18 = .ok (.aload_n 0, 1) := by decide +kernel
theorem d_X10_knownHere_19 : decode cX10_knownHere 19 = .ok (.bipush 19, 2) := by decide +kernel
theorem d_X10_knownHere_21 : decode cX10_knownHere 21 = .ok (.iconst 1, 1) := by decide +kernel
theorem d_X10_knownHere_22 : decode cX10_knownHere 22 = .ok (.bipush 12, 2) := by decide +kernel
theorem d_X10_knownHere_24 : decode cX10_knownHere 24 = .ok (.bipush 20, 2) := by decide +kernel
theorem d_X10_knownHere_26 : decode cX10_knownHere 26 = .ok (.iconst 0, 1) := by decide +kernel
theorem d_X10_knownHere_27 : decode cX10_knownHere 27 = .ok (.iconst 0, 1) := by decide +kernel
theorem d_X10_knownHere_28 : decode cX10_knownHere 28 = .ok (.invokevirtual 202, 3) := by decide +kernel
theorem d_X10_knownHere_31 : decode cX10_knownHere 31 = .ok (.ifCond .eq 5, 3) := by decide +kernel
theorem d_X10_knownHere_34 : decode cX10_knownHere 34 = .ok (.iconst 1, 1) := by decide +kernel
theorem d_X10_knownHere_35 : decode cX10_knownHere 35 = .ok (.ireturn, 1) := by decide +kernel
theorem d_X10_knownHere_36 : decode cX10_knownHere 36 = .ok (.aload_n 0, 1) := by decide +kernel
theorem d_X10_knownHere_37 : decode cX10_knownHere 37 = .ok (.bipush 18, 2) := by decide +kernel
theorem d_X10_knownHere_39 : decode cX10_knownHere 39 = .ok (.iconst 5, 1) := by decide +kernel
theorem d_X10_knownHere_40 : decode cX10_knownHere 40 = .ok (.iconst 1, 1) := by decide +kernel
theorem d_X10_knownHere_41 : decode cX10_knownHere 41 = .ok (.iconst 3, 1) := by decide +kernel
theorem d_X10_knownHere_42 : decode cX10_knownHere 42 = .ok (.bipush 8, 2) := by decide +kernel
theorem d_X10_knownHere_44 : decode cX10_knownHere 44 = .ok (.iconst 0, 1) := by decide +kernel
theorem d_X10_knownHere_45 : decode cX10_knownHere 45 = .ok (.invokevirtual 202, 3) := by decide +kernel
theorem d_X10_knownHere_48 : decode cX10_knownHere 48 = .ok (.ifCond .eq 5, 3) := by decide +kernel
theorem d_X10_knownHere_51 : decode cX10_knownHere 51 = .ok (.iconst 2, 1) := by decide +kernel
theorem d_X10_knownHere_52 : decode cX10_knownHere 52 = .ok (.ireturn, 1) := by decide +kernel
theorem d_X10_knownHere_53 : decode cX10_knownHere 53 = .ok (.aload_n 0, 1) := by decide +kernel
theorem d_X10_knownHere_54 : decode cX10_knownHere 54 = .ok (.bipush 19, 2) := by decide +kernel
theorem d_X10_knownHere_56 : decode cX10_knownHere 56 = .ok (.bipush 9, 2) := by decide +kernel
theorem d_X10_knownHere_58 : decode cX10_knownHere 58 = .ok (.iconst 4, 1) := by decide +kernel
theorem d_X10_knownHere_59 : decode cX10_knownHere 59 = .ok (.iconst 5, 1) := by decide +kernel
theorem d_X10_knownHere_60 : decode cX10_knownHere 60 = .ok (.iconst 0, 1) := by decide +kernel
theorem d_X10_knownHere_61 : decode cX10_knownHere 61 = .ok (.iconst 0, 1) := by decide +kernel
theorem d_X10_knownHere_62 : decode cX10_knownHere 62 = .ok (.invokevirtual 202, 3) := by decide +kernel
theorem d_X10_knownHere_65 : decode cX10_knownHere 65 = .ok (.ifCond .eq 5, 3) := by decide +kernel
theorem d_X10_knownHere_68 : decode cX10_knownHere 68 = .ok (.iconst 3, 1) := by decide +kernel
theorem d_X10_knownHere_69 : decode cX10_knownHere 69 = .ok (.ireturn, 1) := by decide +kernel
theorem d_X10_knownHere_70 : decode cX10_knownHere 70 = .ok (.aload_n 0, 1) := by decide +kernel
theorem d_X10_knownHere_71 : decode cX10_knownHere 71 = .ok (.bipush 8, 2) := by decide +kernel
theorem d_X10_knownHere_73 : decode cX10_knownHere 73 = .ok (.bipush 15, 2) := by decide +kernel
theorem d_X10_knownHere_75 : decode cX10_knownHere 75 = .ok (.bipush 21, 2) := by decide +kernel
theorem d_X10_knownHere_77 : decode cX10_knownHere 77 = .ok (.bipush 18, 2) := by decide +kernel
theorem d_X10_knownHere_79 : decode cX10_knownHere 79 = .ok (.iconst 0, 1) := by decide +kernel
theorem d_X10_knownHere_80 : decode cX10_knownHere 80 = .ok (.iconst 0, 1) := by decide +kernel
theorem d_X10_knownHere_81 : decode cX10_knownHere 81 = .ok (.invokevirtual 202, 3) := by decide +kernel
theorem d_X10_knownHere_84 : decode cX10_knownHere 84 = .ok (.ifCond .eq 5, 3) := by decide +kernel
theorem d_X10_knownHere_87 : decode cX10_knownHere 87 = .ok (.iconst 4, 1) := by decide +kernel
theorem d_X10_knownHere_88 : decode cX10_knownHere 88 = .ok (.ireturn, 1) := by decide +kernel
theorem d_X10_knownHere_89 : decode cX10_knownHere 89 = .ok (.aload_n 0, 1) := by decide +kernel
theorem d_X10_knownHere_90 : decode cX10_knownHere 90 = .ok (.iconst 4, 1) := by decide +kernel
theorem d_X10_knownHere_91 : decode cX10_knownHere 91 = .ok (.iconst 1, 1) := by decide +kernel
theorem d_X10_knownHere_92 : decode cX10_knownHere 92 = .ok (.bipush 25, 2) := by decide +kernel
theorem d_X10_knownHere_94 : decode cX10_knownHere 94 = .ok (.iconst 0, 1) := by decide +kernel
theorem d_X10_knownHere_95 : decode cX10_knownHere 95 = .ok (.iconst 0, 1) := by decide +kernel
theorem d_X10_knownHere_96 : decode cX10_knownHere 96 = .ok (.iconst 0, 1) := by decide +kernel
theorem d_X10_knownHere_97 : decode cX10_knownHere 97 = .ok (.invokevirtual 202, 3) := by decide +kernel
theorem d_X10_knownHere_100 : decode cX10_knownHere 100 = .ok (.ifCond .eq 5, 3) := by decide +kernel
theorem d_X10_knownHere_103 : decode cX10_knownHere 103 = .ok (.iconst 5, 1) := by decide +kernel
theorem d_X10_knownHere_104 : decode cX10_knownHere 104 = .ok (.ireturn, 1) := by decide +kernel
theorem d_X10_knownHere_105 : decode cX10_knownHere 105 = .ok (.aload_n 0, 1) := by decide +kernel
theorem d_X10_knownHere_106 : decode cX10_knownHere 106 = .ok (.iconst 3, 1) := by decide +kernel
theorem d_X10_knownHere_107 : decode cX10_knownHere 107 = .ok (.bipush 15, 2) := by decide +kernel
theorem d_X10_knownHere_109 : decode cX10_knownHere 109 = .ok (.bipush 12, 2) := by decide +kernel
theorem d_X10_knownHere_111 : decode cX10_knownHere 111 = .ok (.iconst 0, 1) := by decide +kernel
theorem d_X10_knownHere_112 : decode cX10_knownHere 112 = .ok (.iconst 0, 1) := by decide +kernel
theorem d_X10_knownHere_113 : decode cX10_knownHere 113 = .ok (.iconst 0, 1) := by decide +kernel
theorem d_X10_knownHere_114 : decode cX10_knownHere 114 = .ok (.invokevirtual 202, 3) := by decide +kernel
theorem d_X10_knownHere_117 : decode cX10_knownHere 117 = .ok (.ifCond .eq 6, 3) := by decide +kernel
theorem d_X10_knownHere_120 : decode cX10_knownHere 120 = .ok (.bipush 6, 2) := by decide +kernel
theorem d_X10_knownHere_122 : decode cX10_knownHere 122 = .ok (.ireturn, 1) := by decide +kernel
theorem d_X10_knownHere_123 : decode cX10_knownHere 123 = .ok (.aload_n 0, 1) := by decide +kernel
theorem d_X10_knownHere_124 : decode cX10_knownHere 124 = .ok (.bipush 18, 2) := by decide +kernel
theorem d_X10_knownHere_126 : decode cX10_knownHere 126 = .ok (.bipush 15, 2) := by decide +kernel
theorem d_X10_knownHere_128 : decode cX10_knownHere 128 = .ok (.bipush 23, 2) := by decide +kernel
theorem d_X10_knownHere_130 : decode cX10_knownHere 130 = .ok (.iconst 0, 1) := by decide +kernel
theorem d_X10_knownHere_131 : decode cX10_knownHere 131 = .ok (.iconst 0, 1) := by decide +kernel
theorem d_X10_knownHere_132 : decode cX10_knownHere 132 = .ok (.iconst 0, 1) := by decide +kernel
theorem d_X10_knownHere_133 : decode cX10_knownHere 133 = .ok (.invokevirtual 202, 3) := by decide +kernel
theorem d_X10_knownHere_136 : decode cX10_knownHere 136 = .ok (.ifCond .eq 8, 3) := by decide +kernel
theorem d_X10_knownHere_139 : decode cX10_knownHere 139 = .ok (.bipush 7, 2) := by decide +kernel
theorem d_X10_knownHere_141 : decode cX10_knownHere 141 = .ok (.goto 4, 3) := by decide +kernel
theorem d_X10_knownHere_144 : decode cX10_knownHere 144 = .ok (.iconst (-1), 1) := by decide +kernel
theorem d_X10_knownHere_145 : decode cX10_knownHere 145 = .ok (.ireturn, 1) := by decide +kernel
def F_X10_knownHere (M : zMem)  : Option (Int32 × zMem) :=
  zb (F_X10_takes M (2 : Int32) (18 : Int32) (9 : Int32) (14 : Int32) (5 : Int32) (0 : Int32)) fun v2 M1 =>
  if v2 = 0 then
    zb (F_X10_takes M1 (19 : Int32) (1 : Int32) (12 : Int32) (20 : Int32) (0 : Int32) (0 : Int32)) fun v4 M3 =>
    if v4 = 0 then
      zb (F_X10_takes M3 (18 : Int32) (5 : Int32) (1 : Int32) (3 : Int32) (8 : Int32) (0 : Int32)) fun v6 M5 =>
      if v6 = 0 then
        zb (F_X10_takes M5 (19 : Int32) (9 : Int32) (4 : Int32) (5 : Int32) (0 : Int32) (0 : Int32)) fun v8 M7 =>
        if v8 = 0 then
          zb (F_X10_takes M7 (8 : Int32) (15 : Int32) (21 : Int32) (18 : Int32) (0 : Int32) (0 : Int32)) fun v10 M9 =>
          if v10 = 0 then
            zb (F_X10_takes M9 (4 : Int32) (1 : Int32) (25 : Int32) (0 : Int32) (0 : Int32) (0 : Int32)) fun v12 M11 =>
            if v12 = 0 then
              zb (F_X10_takes M11 (3 : Int32) (15 : Int32) (12 : Int32) (0 : Int32) (0 : Int32) (0 : Int32)) fun v14 M13 =>
              if v14 = 0 then
                zb (F_X10_takes M13 (18 : Int32) (15 : Int32) (23 : Int32) (0 : Int32) (0 : Int32) (0 : Int32)) fun v16 M15 =>
                if v16 = 0 then
                  some ((-1 : Int32), M15)
                else
                  some ((7 : Int32), M15)
              else
                some ((6 : Int32), M13)
            else
              some ((5 : Int32), M11)
          else
            some ((4 : Int32), M9)
        else
          some ((3 : Int32), M7)
      else
        some ((2 : Int32), M5)
    else
      some ((1 : Int32), M3)
  else
    some ((0 : Int32), M1)
def rm_X10_knownHere : Room := { frames := 7, cells := 0, slots := 0, locals := 196 }
set_option maxHeartbeats 4000000 in
set_option maxRecDepth 100000 in
theorem c_X10_knownHere (l : Launch) {G : zG} {ad : Nat → Nat} {n : Nat} (hA : zInj ad n) (M : zMem)  (hT : zT shM n 0 11) {r9 : Int32} {M9 : zMem} (hF : F_X10_knownHere M  = some (r9, M9)) : zM l yX10_knownHere cX10_knownHere 1 (some .int) rm_X10_knownHere G shM ad n M [.ref (ad 0)] (some (.int r9)) M9 := by
  refine zM_of hA (by decide +kernel) (lv := [(0, .ref (ad 0))]) (Nat.le_of_ble_eq_true rfl) rfl (fun p e s m args below meth c A cx hr => ?_)
  unfold F_X10_knownHere at hF
  refine z_aload_n cx d_X10_knownHere_0 0 rfl ?_
  refine z_iconst (v := 2) cx d_X10_knownHere_1 ki_2 ?_
  refine z_bipush (v := 18) cx d_X10_knownHere_2 kb_18 ?_
  refine z_bipush (v := 9) cx d_X10_knownHere_4 kb_9 ?_
  refine z_bipush (v := 14) cx d_X10_knownHere_6 kb_14 ?_
  refine z_iconst (v := 5) cx d_X10_knownHere_8 ki_5 ?_
  refine z_iconst (v := 0) cx d_X10_knownHere_9 ki_0 ?_
  obtain ⟨v2, M1, hc, hF⟩ := zb_inv hF
  refine z_callV cx (As := [.int (2 : Int32), .int (18 : Int32), .int (9 : Int32), .int (14 : Int32), .int (5 : Int32), .int (0 : Int32)]) (rest := []) (c_X10_takes l cx.2.2.2.1.1 M (2 : Int32) (18 : Int32) (9 : Int32) (14 : Int32) (5 : Int32) (0 : Int32) hT hc) hT zo_11 cv_SunnyPansModel_202 ⟨rfl, rfl, Nat.le_of_ble_eq_true rfl, Nat.le_of_ble_eq_true rfl⟩ rfl rfl ⟨Nat.zero_le _, Nat.zero_le _⟩ (Nat.le_of_ble_eq_true rfl) d_X10_knownHere_10 ?_
  refine z_if_eq cx 18 d_X10_knownHere_13 (by decide) hF (fun hF => ?_) (fun hF => ?_)
  · refine z_aload_n cx d_X10_knownHere_18 0 rfl ?_
    refine z_bipush (v := 19) cx d_X10_knownHere_19 kb_19 ?_
    refine z_iconst (v := 1) cx d_X10_knownHere_21 ki_1 ?_
    refine z_bipush (v := 12) cx d_X10_knownHere_22 kb_12 ?_
    refine z_bipush (v := 20) cx d_X10_knownHere_24 kb_20 ?_
    refine z_iconst (v := 0) cx d_X10_knownHere_26 ki_0 ?_
    refine z_iconst (v := 0) cx d_X10_knownHere_27 ki_0 ?_
    obtain ⟨v4, M3, hc, hF⟩ := zb_inv hF
    refine z_callV cx (As := [.int (19 : Int32), .int (1 : Int32), .int (12 : Int32), .int (20 : Int32), .int (0 : Int32), .int (0 : Int32)]) (rest := []) (c_X10_takes l cx.2.2.2.1.1 M1 (19 : Int32) (1 : Int32) (12 : Int32) (20 : Int32) (0 : Int32) (0 : Int32) hT hc) hT zo_11 cv_SunnyPansModel_202 ⟨rfl, rfl, Nat.le_of_ble_eq_true rfl, Nat.le_of_ble_eq_true rfl⟩ rfl rfl ⟨Nat.zero_le _, Nat.zero_le _⟩ (Nat.le_of_ble_eq_true rfl) d_X10_knownHere_28 ?_
    refine z_if_eq cx 36 d_X10_knownHere_31 (by decide) hF (fun hF => ?_) (fun hF => ?_)
    · refine z_aload_n cx d_X10_knownHere_36 0 rfl ?_
      refine z_bipush (v := 18) cx d_X10_knownHere_37 kb_18 ?_
      refine z_iconst (v := 5) cx d_X10_knownHere_39 ki_5 ?_
      refine z_iconst (v := 1) cx d_X10_knownHere_40 ki_1 ?_
      refine z_iconst (v := 3) cx d_X10_knownHere_41 ki_3 ?_
      refine z_bipush (v := 8) cx d_X10_knownHere_42 kb_8 ?_
      refine z_iconst (v := 0) cx d_X10_knownHere_44 ki_0 ?_
      obtain ⟨v6, M5, hc, hF⟩ := zb_inv hF
      refine z_callV cx (As := [.int (18 : Int32), .int (5 : Int32), .int (1 : Int32), .int (3 : Int32), .int (8 : Int32), .int (0 : Int32)]) (rest := []) (c_X10_takes l cx.2.2.2.1.1 M3 (18 : Int32) (5 : Int32) (1 : Int32) (3 : Int32) (8 : Int32) (0 : Int32) hT hc) hT zo_11 cv_SunnyPansModel_202 ⟨rfl, rfl, Nat.le_of_ble_eq_true rfl, Nat.le_of_ble_eq_true rfl⟩ rfl rfl ⟨Nat.zero_le _, Nat.zero_le _⟩ (Nat.le_of_ble_eq_true rfl) d_X10_knownHere_45 ?_
      refine z_if_eq cx 53 d_X10_knownHere_48 (by decide) hF (fun hF => ?_) (fun hF => ?_)
      · refine z_aload_n cx d_X10_knownHere_53 0 rfl ?_
        refine z_bipush (v := 19) cx d_X10_knownHere_54 kb_19 ?_
        refine z_bipush (v := 9) cx d_X10_knownHere_56 kb_9 ?_
        refine z_iconst (v := 4) cx d_X10_knownHere_58 ki_4 ?_
        refine z_iconst (v := 5) cx d_X10_knownHere_59 ki_5 ?_
        refine z_iconst (v := 0) cx d_X10_knownHere_60 ki_0 ?_
        refine z_iconst (v := 0) cx d_X10_knownHere_61 ki_0 ?_
        obtain ⟨v8, M7, hc, hF⟩ := zb_inv hF
        refine z_callV cx (As := [.int (19 : Int32), .int (9 : Int32), .int (4 : Int32), .int (5 : Int32), .int (0 : Int32), .int (0 : Int32)]) (rest := []) (c_X10_takes l cx.2.2.2.1.1 M5 (19 : Int32) (9 : Int32) (4 : Int32) (5 : Int32) (0 : Int32) (0 : Int32) hT hc) hT zo_11 cv_SunnyPansModel_202 ⟨rfl, rfl, Nat.le_of_ble_eq_true rfl, Nat.le_of_ble_eq_true rfl⟩ rfl rfl ⟨Nat.zero_le _, Nat.zero_le _⟩ (Nat.le_of_ble_eq_true rfl) d_X10_knownHere_62 ?_
        refine z_if_eq cx 70 d_X10_knownHere_65 (by decide) hF (fun hF => ?_) (fun hF => ?_)
        · refine z_aload_n cx d_X10_knownHere_70 0 rfl ?_
          refine z_bipush (v := 8) cx d_X10_knownHere_71 kb_8 ?_
          refine z_bipush (v := 15) cx d_X10_knownHere_73 kb_15 ?_
          refine z_bipush (v := 21) cx d_X10_knownHere_75 kb_21 ?_
          refine z_bipush (v := 18) cx d_X10_knownHere_77 kb_18 ?_
          refine z_iconst (v := 0) cx d_X10_knownHere_79 ki_0 ?_
          refine z_iconst (v := 0) cx d_X10_knownHere_80 ki_0 ?_
          obtain ⟨v10, M9, hc, hF⟩ := zb_inv hF
          refine z_callV cx (As := [.int (8 : Int32), .int (15 : Int32), .int (21 : Int32), .int (18 : Int32), .int (0 : Int32), .int (0 : Int32)]) (rest := []) (c_X10_takes l cx.2.2.2.1.1 M7 (8 : Int32) (15 : Int32) (21 : Int32) (18 : Int32) (0 : Int32) (0 : Int32) hT hc) hT zo_11 cv_SunnyPansModel_202 ⟨rfl, rfl, Nat.le_of_ble_eq_true rfl, Nat.le_of_ble_eq_true rfl⟩ rfl rfl ⟨Nat.zero_le _, Nat.zero_le _⟩ (Nat.le_of_ble_eq_true rfl) d_X10_knownHere_81 ?_
          refine z_if_eq cx 89 d_X10_knownHere_84 (by decide) hF (fun hF => ?_) (fun hF => ?_)
          · refine z_aload_n cx d_X10_knownHere_89 0 rfl ?_
            refine z_iconst (v := 4) cx d_X10_knownHere_90 ki_4 ?_
            refine z_iconst (v := 1) cx d_X10_knownHere_91 ki_1 ?_
            refine z_bipush (v := 25) cx d_X10_knownHere_92 kb_25 ?_
            refine z_iconst (v := 0) cx d_X10_knownHere_94 ki_0 ?_
            refine z_iconst (v := 0) cx d_X10_knownHere_95 ki_0 ?_
            refine z_iconst (v := 0) cx d_X10_knownHere_96 ki_0 ?_
            obtain ⟨v12, M11, hc, hF⟩ := zb_inv hF
            refine z_callV cx (As := [.int (4 : Int32), .int (1 : Int32), .int (25 : Int32), .int (0 : Int32), .int (0 : Int32), .int (0 : Int32)]) (rest := []) (c_X10_takes l cx.2.2.2.1.1 M9 (4 : Int32) (1 : Int32) (25 : Int32) (0 : Int32) (0 : Int32) (0 : Int32) hT hc) hT zo_11 cv_SunnyPansModel_202 ⟨rfl, rfl, Nat.le_of_ble_eq_true rfl, Nat.le_of_ble_eq_true rfl⟩ rfl rfl ⟨Nat.zero_le _, Nat.zero_le _⟩ (Nat.le_of_ble_eq_true rfl) d_X10_knownHere_97 ?_
            refine z_if_eq cx 105 d_X10_knownHere_100 (by decide) hF (fun hF => ?_) (fun hF => ?_)
            · refine z_aload_n cx d_X10_knownHere_105 0 rfl ?_
              refine z_iconst (v := 3) cx d_X10_knownHere_106 ki_3 ?_
              refine z_bipush (v := 15) cx d_X10_knownHere_107 kb_15 ?_
              refine z_bipush (v := 12) cx d_X10_knownHere_109 kb_12 ?_
              refine z_iconst (v := 0) cx d_X10_knownHere_111 ki_0 ?_
              refine z_iconst (v := 0) cx d_X10_knownHere_112 ki_0 ?_
              refine z_iconst (v := 0) cx d_X10_knownHere_113 ki_0 ?_
              obtain ⟨v14, M13, hc, hF⟩ := zb_inv hF
              refine z_callV cx (As := [.int (3 : Int32), .int (15 : Int32), .int (12 : Int32), .int (0 : Int32), .int (0 : Int32), .int (0 : Int32)]) (rest := []) (c_X10_takes l cx.2.2.2.1.1 M11 (3 : Int32) (15 : Int32) (12 : Int32) (0 : Int32) (0 : Int32) (0 : Int32) hT hc) hT zo_11 cv_SunnyPansModel_202 ⟨rfl, rfl, Nat.le_of_ble_eq_true rfl, Nat.le_of_ble_eq_true rfl⟩ rfl rfl ⟨Nat.zero_le _, Nat.zero_le _⟩ (Nat.le_of_ble_eq_true rfl) d_X10_knownHere_114 ?_
              refine z_if_eq cx 123 d_X10_knownHere_117 (by decide) hF (fun hF => ?_) (fun hF => ?_)
              · refine z_aload_n cx d_X10_knownHere_123 0 rfl ?_
                refine z_bipush (v := 18) cx d_X10_knownHere_124 kb_18 ?_
                refine z_bipush (v := 15) cx d_X10_knownHere_126 kb_15 ?_
                refine z_bipush (v := 23) cx d_X10_knownHere_128 kb_23 ?_
                refine z_iconst (v := 0) cx d_X10_knownHere_130 ki_0 ?_
                refine z_iconst (v := 0) cx d_X10_knownHere_131 ki_0 ?_
                refine z_iconst (v := 0) cx d_X10_knownHere_132 ki_0 ?_
                obtain ⟨v16, M15, hc, hF⟩ := zb_inv hF
                refine z_callV cx (As := [.int (18 : Int32), .int (15 : Int32), .int (23 : Int32), .int (0 : Int32), .int (0 : Int32), .int (0 : Int32)]) (rest := []) (c_X10_takes l cx.2.2.2.1.1 M13 (18 : Int32) (15 : Int32) (23 : Int32) (0 : Int32) (0 : Int32) (0 : Int32) hT hc) hT zo_11 cv_SunnyPansModel_202 ⟨rfl, rfl, Nat.le_of_ble_eq_true rfl, Nat.le_of_ble_eq_true rfl⟩ rfl rfl ⟨Nat.zero_le _, Nat.zero_le _⟩ (Nat.le_of_ble_eq_true rfl) d_X10_knownHere_133 ?_
                refine z_if_eq cx 144 d_X10_knownHere_136 (by decide) hF (fun hF => ?_) (fun hF => ?_)
                · refine z_iconst (v := -1) cx d_X10_knownHere_144 ki_m1 ?_
                  exact z_iret cx hr rfl hF d_X10_knownHere_145
                refine z_bipush (v := 7) cx d_X10_knownHere_139 kb_7 ?_
                refine z_goto cx 145 d_X10_knownHere_141 (by decide) ?_
                exact z_iret cx hr rfl hF d_X10_knownHere_145
              refine z_bipush (v := 6) cx d_X10_knownHere_120 kb_6 ?_
              exact z_iret cx hr rfl hF d_X10_knownHere_122
            refine z_iconst (v := 5) cx d_X10_knownHere_103 ki_5 ?_
            exact z_iret cx hr rfl hF d_X10_knownHere_104
          refine z_iconst (v := 4) cx d_X10_knownHere_87 ki_4 ?_
          exact z_iret cx hr rfl hF d_X10_knownHere_88
        refine z_iconst (v := 3) cx d_X10_knownHere_68 ki_3 ?_
        exact z_iret cx hr rfl hF d_X10_knownHere_69
      refine z_iconst (v := 2) cx d_X10_knownHere_51 ki_2 ?_
      exact z_iret cx hr rfl hF d_X10_knownHere_52
    refine z_iconst (v := 1) cx d_X10_knownHere_34 ki_1 ?_
    exact z_iret cx hr rfl hF d_X10_knownHere_35
  refine z_iconst (v := 0) cx d_X10_knownHere_16 ki_0 ?_
  exact z_iret cx hr rfl hF d_X10_knownHere_17
/-! SunnyPansModel.by -/
set_option maxRecDepth 100000 in
theorem wd_1619 : Cond.code yX10_knownHere cX10_knownHere 1 (some .int) ∈ tbG := tw7 79 rfl rfl
set_option maxRecDepth 100000 in
theorem wd_1616 : Cond.methodLink "SunnyPansModel" 212 yX10_knownHere ∈ tbG := tw7 76 rfl rfl
set_option maxRecDepth 100000 in
theorem wd_1618 : Cond.instanceMethod yX10_knownHere ∈ tbG := tw7 78 rfl rfl
theorem wd_61 : Cond.selects "SunnyPansModel" yX10_knownHere yX10_knownHere ∈ tbG := tw 61 (by decide +kernel) rfl
theorem cv_SunnyPansModel_212 : zCV "SunnyPansModel" 212 "SunnyPansModel" yX10_knownHere cX10_knownHere 1 (some .int) 0 := zCV_of wd_1616 wd_1618 wd_61 wd_111 wd_1619 (by decide +kernel)
set_option maxRecDepth 100000 in
theorem wd_1615 : Cond.code yX10_notes cX10_notes 3 none ∈ tbG := tw7 75 rfl rfl
set_option maxRecDepth 100000 in
theorem wd_1612 : Cond.methodLink "SunnyPansModel" 196 yX10_notes ∈ tbG := tw7 72 rfl rfl
set_option maxRecDepth 100000 in
theorem wd_1614 : Cond.instanceMethod yX10_notes ∈ tbG := tw7 74 rfl rfl
theorem wd_60 : Cond.selects "SunnyPansModel" yX10_notes yX10_notes ∈ tbG := tw 60 (by decide +kernel) rfl
theorem cv_SunnyPansModel_196 : zCV "SunnyPansModel" 196 "SunnyPansModel" yX10_notes cX10_notes 3 none 2 := zCV_of wd_1612 wd_1614 wd_60 wd_111 wd_1615 (by decide +kernel)
set_option maxRecDepth 100000 in
theorem wd_1611 : Cond.code yX10_opensOne cX10_opensOne 1 (some .boolean) ∈ tbG := tw7 71 rfl rfl
set_option maxRecDepth 100000 in
theorem wd_1608 : Cond.methodLink "SunnyPansModel" 205 yX10_opensOne ∈ tbG := tw7 68 rfl rfl
set_option maxRecDepth 100000 in
theorem wd_1610 : Cond.instanceMethod yX10_opensOne ∈ tbG := tw7 70 rfl rfl
theorem wd_59 : Cond.selects "SunnyPansModel" yX10_opensOne yX10_opensOne ∈ tbG := tw 59 (by decide +kernel) rfl
theorem cv_SunnyPansModel_205 : zCV "SunnyPansModel" 205 "SunnyPansModel" yX10_opensOne cX10_opensOne 1 (some .boolean) 0 := zCV_of wd_1608 wd_1610 wd_59 wd_111 wd_1611 (by decide +kernel)
theorem tfM_11_28 {n k : Nat} (h : zT shM n k 11) : zT shM n (k + 28) 31 := zT_off h (shM_f (by decide) (by decide +kernel)) (by decide) (by decide)
set_option maxRecDepth 100000 in
theorem wd_1412 : Cond.fieldLink "SunnyPansModel" 37 "SunnyPansModel" "law" "[[I" ∈ tbG := tw6 112 rfl rfl
theorem fg_SunnyPansModel_37 : zGetR "SunnyPansModel" 37 10 11 18 28 := ⟨RX10, TX10, 40, rfl, by decide, uw_10, wd_1412, fun _ _ _ _ _ _ => ⟨_, rfl, rfl⟩⟩
set_option maxRecDepth 100000 in
theorem wd_1690 : Cond.code yX10_more cX10_more 2 (some .int) ∈ tbG := tw7 150 rfl rfl
set_option maxRecDepth 100000 in
theorem wd_1688 : Cond.methodLink "SunnyPansModel" 218 yX10_more ∈ tbG := tw7 148 rfl rfl
set_option maxRecDepth 100000 in
theorem wd_1689 : Cond.static yX10_more ∈ tbG := tw7 149 rfl rfl
theorem cs_SunnyPansModel_218 : zCS "SunnyPansModel" 218 yX10_more cX10_more 2 (some .int) 2 := zCS_of wd_1688 wd_1689 wd_111 wd_1690 (by decide +kernel)
set_option maxRecDepth 100000 in
theorem wd_1693 : Cond.code yX10_less cX10_less 2 (some .int) ∈ tbG := tw7 153 rfl rfl
set_option maxRecDepth 100000 in
theorem wd_1691 : Cond.methodLink "SunnyPansModel" 215 yX10_less ∈ tbG := tw7 151 rfl rfl
set_option maxRecDepth 100000 in
theorem wd_1692 : Cond.static yX10_less ∈ tbG := tw7 152 rfl rfl
theorem cs_SunnyPansModel_215 : zCS "SunnyPansModel" 215 yX10_less cX10_less 2 (some .int) 2 := zCS_of wd_1691 wd_1692 wd_111 wd_1693 (by decide +kernel)
theorem d_X10_by_0 : decode cX10_by 0 = .ok (.iload_n 0, 1) := by decide +kernel
theorem d_X10_by_1 : decode cX10_by 1 = .ok (.tableswitch 96 2 7 #[39, 43, 47, 51, 73, 90], 39) := by decide +kernel
theorem d_X10_by_40 : decode cX10_by 40 = .ok (.iload_n 1, 1) := by decide +kernel
theorem d_X10_by_41 : decode cX10_by 41 = .ok (.iload_n 2, 1) := by decide +kernel
theorem d_X10_by_42 : decode cX10_by 42 = .ok (.iadd, 1) := by decide +kernel
theorem d_X10_by_43 : decode cX10_by 43 = .ok (.ireturn, 1) := by decide +kernel
theorem d_X10_by_44 : decode cX10_by 44 = .ok (.iload_n 1, 1) := by decide +kernel
theorem d_X10_by_45 : decode cX10_by 45 = .ok (.iload_n 2, 1) := by decide +kernel
theorem d_X10_by_46 : decode cX10_by 46 = .ok (.isub, 1) := by decide +kernel
theorem d_X10_by_47 : decode cX10_by 47 = .ok (.ireturn, 1) := by decide +kernel
theorem d_X10_by_48 : decode cX10_by 48 = .ok (.iload_n 1, 1) := by decide +kernel
theorem d_X10_by_49 : decode cX10_by 49 = .ok (.iload_n 2, 1) := by decide +kernel
theorem d_X10_by_50 : decode cX10_by 50 = .ok (.imul, 1) := by decide +kernel
theorem d_X10_by_51 : decode cX10_by 51 = .ok (.ireturn, 1) := by decide +kernel
theorem d_X10_by_52 : decode cX10_by 52 = .ok (.iload_n 2, 1) := by decide +kernel
theorem d_X10_by_53 : decode cX10_by 53 = .ok (.ifCond .ne 7, 3) := by decide +kernel
theorem d_X10_by_56 : decode cX10_by 56 = .ok (.iconst 0, 1) := by decide +kernel
theorem d_X10_by_57 : decode cX10_by 57 = .ok (.goto 16, 3) := by decide +kernel
theorem d_X10_by_60 : decode cX10_by 60 = .ok (.iload_n 2, 1) := by decide +kernel
theorem d_X10_by_61 : decode cX10_by 61 = .ok (.iconst (-1), 1) := by decide +kernel
theorem d_X10_by_62 : decode cX10_by 62 = .ok (.if_icmp .ne 8, 3) := by decide +kernel
theorem d_X10_by_65 : decode cX10_by 65 = .ok (.iload_n 1, 1) := by decide +kernel
theorem d_X10_by_66 : decode cX10_by 66 = .ok (.ineg, 1) := by decide +kernel
theorem d_X10_by_67 : decode cX10_by 67 = .ok (.goto 6, 3) := by decide +kernel
theorem d_X10_by_70 : decode cX10_by 70 = .ok (.iload_n 1, 1) := by decide +kernel
theorem d_X10_by_71 : decode cX10_by 71 = .ok (.iload_n 2, 1) := by decide +kernel
theorem d_X10_by_72 : decode cX10_by 72 = .ok (.idiv, 1) := by decide +kernel
theorem d_X10_by_73 : decode cX10_by 73 = .ok (.ireturn, 1) := by decide +kernel
theorem d_X10_by_74 : decode cX10_by 74 = .ok (.iload_n 2, 1) := by decide +kernel
theorem d_X10_by_75 : decode cX10_by 75 = .ok (.ifCond .eq 8, 3) := by decide +kernel
theorem d_X10_by_78 : decode cX10_by 78 = .ok (.iload_n 2, 1) := by decide +kernel
theorem d_X10_by_79 : decode cX10_by 79 = .ok (.iconst (-1), 1) := by decide +kernel
theorem d_X10_by_80 : decode cX10_by 80 = .ok (.if_icmp .ne 7, 3) := by decide +kernel
theorem d_X10_by_83 : decode cX10_by 83 = .ok (.iconst 0, 1) := by decide +kernel
theorem d_X10_by_84 : decode cX10_by 84 = .ok (.goto 6, 3) := by decide +kernel
theorem d_X10_by_87 : decode cX10_by 87 = .ok (.iload_n 1, 1) := by decide +kernel
theorem d_X10_by_88 : decode cX10_by 88 = .ok (.iload_n 2, 1) := by decide +kernel
theorem d_X10_by_89 : decode cX10_by 89 = .ok (.irem, 1) := by decide +kernel
theorem d_X10_by_90 : decode cX10_by 90 = .ok (.ireturn, 1) := by decide +kernel
theorem d_X10_by_91 : decode cX10_by 91 = .ok (.iload_n 1, 1) := by decide +kernel
theorem d_X10_by_92 : decode cX10_by 92 = .ok (.iload_n 2, 1) := by decide +kernel
theorem d_X10_by_93 : decode cX10_by 93 = .ok (.invokestatic 215, 3) := by decide +kernel
theorem d_X10_by_96 : decode cX10_by 96 = .ok (.ireturn, 1) := by decide +kernel
theorem d_X10_by_97 : decode cX10_by 97 = .ok (.iload_n 1, 1) := by decide +kernel
theorem d_X10_by_98 : decode cX10_by 98 = .ok (.iload_n 2, 1) := by decide +kernel
theorem d_X10_by_99 : decode cX10_by 99 = .ok (.invokestatic 218, 3) := by decide +kernel
theorem d_X10_by_102 : decode cX10_by 102 = .ok (.ireturn, 1) := by decide +kernel
def F_X10_by_97 (p0 : Int32) (p1 : Int32) (p2 : Int32) (b97_L1 : Int32) (b97_L2 : Int32) (M : zMem) : Option (Int32 × zMem) :=
  zb (F_X10_more M b97_L1 b97_L2) fun v2 M1 =>
  some (v2, M1)
def F_X10_by_91 (p0 : Int32) (p1 : Int32) (p2 : Int32) (b91_L1 : Int32) (b91_L2 : Int32) (M : zMem) : Option (Int32 × zMem) :=
  zb (F_X10_less M b91_L1 b91_L2) fun v4 M3 =>
  some (v4, M3)
def F_X10_by_74 (p0 : Int32) (p1 : Int32) (p2 : Int32) (b74_L1 : Int32) (b74_L2 : Int32) (M : zMem) : Option (Int32 × zMem) :=
  if b74_L2 = 0 then
    some ((0 : Int32), M)
  else
    if b74_L2 = (-1 : Int32) then
      some ((0 : Int32), M)
    else
      gd (!(b74_L2 == 0)) <|
      some ((b74_L1 - b74_L1 / b74_L2 * b74_L2), M)
def F_X10_by_52 (p0 : Int32) (p1 : Int32) (p2 : Int32) (b52_L1 : Int32) (b52_L2 : Int32) (M : zMem) : Option (Int32 × zMem) :=
  if b52_L2 = 0 then
    some ((0 : Int32), M)
  else
    if b52_L2 = (-1 : Int32) then
      some ((-b52_L1), M)
    else
      gd (!(b52_L2 == 0)) <|
      some ((b52_L1 / b52_L2), M)
def F_X10_by_48 (p0 : Int32) (p1 : Int32) (p2 : Int32) (b48_L1 : Int32) (b48_L2 : Int32) (M : zMem) : Option (Int32 × zMem) :=
  some ((b48_L1 * b48_L2), M)
def F_X10_by_44 (p0 : Int32) (p1 : Int32) (p2 : Int32) (b44_L1 : Int32) (b44_L2 : Int32) (M : zMem) : Option (Int32 × zMem) :=
  some ((b44_L1 - b44_L2), M)
def F_X10_by_40 (p0 : Int32) (p1 : Int32) (p2 : Int32) (b40_L1 : Int32) (b40_L2 : Int32) (M : zMem) : Option (Int32 × zMem) :=
  some ((b40_L1 + b40_L2), M)
def F_X10_by (M : zMem) (p0 : Int32) (p1 : Int32) (p2 : Int32) : Option (Int32 × zMem) :=
  if p0 = 2 then
    F_X10_by_40 p0 p1 p2 p1 p2 M
  else
  if p0 = 3 then
    F_X10_by_44 p0 p1 p2 p1 p2 M
  else
  if p0 = 4 then
    F_X10_by_48 p0 p1 p2 p1 p2 M
  else
  if p0 = 5 then
    F_X10_by_52 p0 p1 p2 p1 p2 M
  else
  if p0 = 6 then
    F_X10_by_74 p0 p1 p2 p1 p2 M
  else
  if p0 = 7 then
    F_X10_by_91 p0 p1 p2 p1 p2 M
  else
  F_X10_by_97 p0 p1 p2 p1 p2 M
def rm_X10_by : Room := { frames := 3, cells := 0, slots := 0, locals := 101 }
set_option maxHeartbeats 4000000 in
set_option maxRecDepth 100000 in
theorem c_X10_by (l : Launch) {G : zG} {ad : Nat → Nat} {n : Nat} (hA : zInj ad n) (M : zMem) (p0 : Int32) (p1 : Int32) (p2 : Int32) {r9 : Int32} {M9 : zMem} (hF : F_X10_by M p0 p1 p2 = some (r9, M9)) : zM l yX10_by cX10_by 3 (some .int) rm_X10_by G shM ad n M [.int p0, .int p1, .int p2] (some (.int r9)) M9 := by
  refine zM_of hA (by decide +kernel) (lv := [(0, .int p0), (1, .int p1), (2, .int p2)]) (Nat.le_of_ble_eq_true rfl) rfl (fun p e s m args below meth c A cx hr => ?_)
  have hb97 : ∀ (b97_L1 : Int32) (b97_L2 : Int32) (M : zMem), F_X10_by_97 p0 p1 p2 b97_L1 b97_L2 M = some (r9, M9) → zJ p l e rm_X10_by s m args below meth c G shM ad n A 3 (MQ below (zQ G shM ad n M9 (some (.int r9)) A) args s 0 0 A) 0 0 M 97 [(1, .int b97_L1), (2, .int b97_L2)] [] := by
    intro b97_L1 b97_L2 M hF
    unfold F_X10_by_97 at hF
    refine z_iload_n cx d_X10_by_97 0 rfl ?_
    refine z_iload_n cx d_X10_by_98 1 rfl ?_
    obtain ⟨v2, M1, hc, hF⟩ := zb_inv hF
    refine z_callS cx (As := [.int b97_L1, .int b97_L2]) (rest := []) (c_X10_more l cx.2.2.2.1.1 M b97_L1 b97_L2  hc) cs_SunnyPansModel_218 ⟨rfl, rfl, Nat.le_of_ble_eq_true rfl, Nat.le_of_ble_eq_true rfl⟩ rfl rfl ⟨Nat.zero_le _, Nat.zero_le _⟩ (Nat.le_of_ble_eq_true rfl) d_X10_by_99 ?_
    exact z_iret cx hr rfl hF d_X10_by_102
  have hb91 : ∀ (b91_L1 : Int32) (b91_L2 : Int32) (M : zMem), F_X10_by_91 p0 p1 p2 b91_L1 b91_L2 M = some (r9, M9) → zJ p l e rm_X10_by s m args below meth c G shM ad n A 3 (MQ below (zQ G shM ad n M9 (some (.int r9)) A) args s 0 0 A) 0 0 M 91 [(1, .int b91_L1), (2, .int b91_L2)] [] := by
    intro b91_L1 b91_L2 M hF
    unfold F_X10_by_91 at hF
    refine z_iload_n cx d_X10_by_91 0 rfl ?_
    refine z_iload_n cx d_X10_by_92 1 rfl ?_
    obtain ⟨v4, M3, hc, hF⟩ := zb_inv hF
    refine z_callS cx (As := [.int b91_L1, .int b91_L2]) (rest := []) (c_X10_less l cx.2.2.2.1.1 M b91_L1 b91_L2  hc) cs_SunnyPansModel_215 ⟨rfl, rfl, Nat.le_of_ble_eq_true rfl, Nat.le_of_ble_eq_true rfl⟩ rfl rfl ⟨Nat.zero_le _, Nat.zero_le _⟩ (Nat.le_of_ble_eq_true rfl) d_X10_by_93 ?_
    exact z_iret cx hr rfl hF d_X10_by_96
  have hb74 : ∀ (b74_L1 : Int32) (b74_L2 : Int32) (M : zMem), F_X10_by_74 p0 p1 p2 b74_L1 b74_L2 M = some (r9, M9) → zJ p l e rm_X10_by s m args below meth c G shM ad n A 3 (MQ below (zQ G shM ad n M9 (some (.int r9)) A) args s 0 0 A) 0 0 M 74 [(1, .int b74_L1), (2, .int b74_L2)] [] := by
    intro b74_L1 b74_L2 M hF
    unfold F_X10_by_74 at hF
    refine z_iload_n cx d_X10_by_74 1 rfl ?_
    refine z_if_eq cx 83 d_X10_by_75 (by decide) hF (fun hF => ?_) (fun hF => ?_)
    · refine z_iconst (v := 0) cx d_X10_by_83 ki_0 ?_
      refine z_goto cx 90 d_X10_by_84 (by decide) ?_
      exact z_iret cx hr rfl hF d_X10_by_90
    refine z_iload_n cx d_X10_by_78 1 rfl ?_
    refine z_iconst (v := -1) cx d_X10_by_79 ki_m1 ?_
    refine z_icmp_ne cx 87 d_X10_by_80 (by decide) hF (fun hF => ?_) (fun hF => ?_)
    · refine z_iload_n cx d_X10_by_87 0 rfl ?_
      refine z_iload_n cx d_X10_by_88 1 rfl ?_
      obtain ⟨hz5, hF⟩ := gd_inv hF
      refine z_irem cx d_X10_by_89 (zne hz5) ?_
      exact z_iret cx hr rfl hF d_X10_by_90
    refine z_iconst (v := 0) cx d_X10_by_83 ki_0 ?_
    refine z_goto cx 90 d_X10_by_84 (by decide) ?_
    exact z_iret cx hr rfl hF d_X10_by_90
  have hb52 : ∀ (b52_L1 : Int32) (b52_L2 : Int32) (M : zMem), F_X10_by_52 p0 p1 p2 b52_L1 b52_L2 M = some (r9, M9) → zJ p l e rm_X10_by s m args below meth c G shM ad n A 3 (MQ below (zQ G shM ad n M9 (some (.int r9)) A) args s 0 0 A) 0 0 M 52 [(1, .int b52_L1), (2, .int b52_L2)] [] := by
    intro b52_L1 b52_L2 M hF
    unfold F_X10_by_52 at hF
    refine z_iload_n cx d_X10_by_52 1 rfl ?_
    refine z_if_ne cx 60 d_X10_by_53 (by decide) hF (fun hF => ?_) (fun hF => ?_)
    · refine z_iload_n cx d_X10_by_60 1 rfl ?_
      refine z_iconst (v := -1) cx d_X10_by_61 ki_m1 ?_
      refine z_icmp_ne cx 70 d_X10_by_62 (by decide) hF (fun hF => ?_) (fun hF => ?_)
      · refine z_iload_n cx d_X10_by_70 0 rfl ?_
        refine z_iload_n cx d_X10_by_71 1 rfl ?_
        obtain ⟨hz6, hF⟩ := gd_inv hF
        refine z_idiv cx d_X10_by_72 (zne hz6) ?_
        exact z_iret cx hr rfl hF d_X10_by_73
      refine z_iload_n cx d_X10_by_65 0 rfl ?_
      refine z_ineg cx d_X10_by_66 ?_
      refine z_goto cx 73 d_X10_by_67 (by decide) ?_
      exact z_iret cx hr rfl hF d_X10_by_73
    refine z_iconst (v := 0) cx d_X10_by_56 ki_0 ?_
    refine z_goto cx 73 d_X10_by_57 (by decide) ?_
    exact z_iret cx hr rfl hF d_X10_by_73
  have hb48 : ∀ (b48_L1 : Int32) (b48_L2 : Int32) (M : zMem), F_X10_by_48 p0 p1 p2 b48_L1 b48_L2 M = some (r9, M9) → zJ p l e rm_X10_by s m args below meth c G shM ad n A 3 (MQ below (zQ G shM ad n M9 (some (.int r9)) A) args s 0 0 A) 0 0 M 48 [(1, .int b48_L1), (2, .int b48_L2)] [] := by
    intro b48_L1 b48_L2 M hF
    unfold F_X10_by_48 at hF
    refine z_iload_n cx d_X10_by_48 0 rfl ?_
    refine z_iload_n cx d_X10_by_49 1 rfl ?_
    refine z_imul cx d_X10_by_50 ?_
    exact z_iret cx hr rfl hF d_X10_by_51
  have hb44 : ∀ (b44_L1 : Int32) (b44_L2 : Int32) (M : zMem), F_X10_by_44 p0 p1 p2 b44_L1 b44_L2 M = some (r9, M9) → zJ p l e rm_X10_by s m args below meth c G shM ad n A 3 (MQ below (zQ G shM ad n M9 (some (.int r9)) A) args s 0 0 A) 0 0 M 44 [(1, .int b44_L1), (2, .int b44_L2)] [] := by
    intro b44_L1 b44_L2 M hF
    unfold F_X10_by_44 at hF
    refine z_iload_n cx d_X10_by_44 0 rfl ?_
    refine z_iload_n cx d_X10_by_45 1 rfl ?_
    refine z_isub cx d_X10_by_46 ?_
    exact z_iret cx hr rfl hF d_X10_by_47
  have hb40 : ∀ (b40_L1 : Int32) (b40_L2 : Int32) (M : zMem), F_X10_by_40 p0 p1 p2 b40_L1 b40_L2 M = some (r9, M9) → zJ p l e rm_X10_by s m args below meth c G shM ad n A 3 (MQ below (zQ G shM ad n M9 (some (.int r9)) A) args s 0 0 A) 0 0 M 40 [(1, .int b40_L1), (2, .int b40_L2)] [] := by
    intro b40_L1 b40_L2 M hF
    unfold F_X10_by_40 at hF
    refine z_iload_n cx d_X10_by_40 0 rfl ?_
    refine z_iload_n cx d_X10_by_41 1 rfl ?_
    refine z_iadd cx d_X10_by_42 ?_
    exact z_iret cx hr rfl hF d_X10_by_43
  unfold F_X10_by at hF
  refine z_iload_n cx d_X10_by_0 0 rfl ?_
  by_cases q0 : p0 = 2
  · rw [if_pos q0] at hF
    refine z_tabIn cx 40 d_X10_by_1 (by rw [q0]; decide +kernel) (by rw [q0]; decide +kernel) (by rw [q0]; rfl) (by decide) ?_
    exact z_lv [1, 2] _ rfl (hb40 p1 p2 M hF)
  rw [if_neg q0] at hF
  by_cases q1 : p0 = 3
  · rw [if_pos q1] at hF
    refine z_tabIn cx 44 d_X10_by_1 (by rw [q1]; decide +kernel) (by rw [q1]; decide +kernel) (by rw [q1]; rfl) (by decide) ?_
    exact z_lv [1, 2] _ rfl (hb44 p1 p2 M hF)
  rw [if_neg q1] at hF
  by_cases q2 : p0 = 4
  · rw [if_pos q2] at hF
    refine z_tabIn cx 48 d_X10_by_1 (by rw [q2]; decide +kernel) (by rw [q2]; decide +kernel) (by rw [q2]; rfl) (by decide) ?_
    exact z_lv [1, 2] _ rfl (hb48 p1 p2 M hF)
  rw [if_neg q2] at hF
  by_cases q3 : p0 = 5
  · rw [if_pos q3] at hF
    refine z_tabIn cx 52 d_X10_by_1 (by rw [q3]; decide +kernel) (by rw [q3]; decide +kernel) (by rw [q3]; rfl) (by decide) ?_
    exact z_lv [1, 2] _ rfl (hb52 p1 p2 M hF)
  rw [if_neg q3] at hF
  by_cases q4 : p0 = 6
  · rw [if_pos q4] at hF
    refine z_tabIn cx 74 d_X10_by_1 (by rw [q4]; decide +kernel) (by rw [q4]; decide +kernel) (by rw [q4]; rfl) (by decide) ?_
    exact z_lv [1, 2] _ rfl (hb74 p1 p2 M hF)
  rw [if_neg q4] at hF
  by_cases q5 : p0 = 7
  · rw [if_pos q5] at hF
    refine z_tabIn cx 91 d_X10_by_1 (by rw [q5]; decide +kernel) (by rw [q5]; decide +kernel) (by rw [q5]; rfl) (by decide) ?_
    exact z_lv [1, 2] _ rfl (hb91 p1 p2 M hF)
  rw [if_neg q5] at hF
  refine z_tabOut cx 97 d_X10_by_1 (by have w0 := lv_neT q0 (a := 2) (by decide +kernel); have w1 := lv_neT q1 (a := 3) (by decide +kernel); have w2 := lv_neT q2 (a := 4) (by decide +kernel); have w3 := lv_neT q3 (a := 5) (by decide +kernel); have w4 := lv_neT q4 (a := 6) (by decide +kernel); have w5 := lv_neT q5 (a := 7) (by decide +kernel); omega) (by decide) ?_
  exact z_lv [1, 2] _ rfl (hb97 p1 p2 M hF)
/-! SunnyPansModel.byLaw -/
theorem tfM_11_368 {n k : Nat} (h : zT shM n k 11) : zT shM n (k + 368) 33 := zT_off h (shM_f (by decide) (by decide +kernel)) (by decide) (by decide)
theorem tfM_11_369 {n k : Nat} (h : zT shM n k 11) : zT shM n (k + 369) 26 := zT_off h (shM_f (by decide) (by decide +kernel)) (by decide) (by decide)
set_option maxRecDepth 100000 in
theorem wd_1416 : Cond.fieldLink "SunnyPansModel" 49 "SunnyPansModel" "stack" "[I" ∈ tbG := tw6 116 rfl rfl
theorem fg_SunnyPansModel_49 : zGetR "SunnyPansModel" 49 10 11 22 368 := ⟨RX10, TX10, 40, rfl, by decide, uw_10, wd_1416, fun _ _ _ _ _ _ => ⟨_, rfl, rfl⟩⟩
theorem za_33 : zArrI 33 160 := fun _ _ _ _ _ _ => rfl
set_option maxRecDepth 100000 in
theorem wd_1737 : Cond.code yX10_by cX10_by 3 (some .int) ∈ tbG := tw7 197 rfl rfl
set_option maxRecDepth 100000 in
theorem wd_1735 : Cond.methodLink "SunnyPansModel" 221 yX10_by ∈ tbG := tw7 195 rfl rfl
set_option maxRecDepth 100000 in
theorem wd_1736 : Cond.static yX10_by ∈ tbG := tw7 196 rfl rfl
theorem cs_SunnyPansModel_221 : zCS "SunnyPansModel" 221 yX10_by cX10_by 3 (some .int) 3 := zCS_of wd_1735 wd_1736 wd_111 wd_1737 (by decide +kernel)
set_option maxRecDepth 100000 in
theorem wd_1417 : Cond.fieldLink "SunnyPansModel" 52 "SunnyPansModel" "known" "[I" ∈ tbG := tw6 117 rfl rfl
theorem fg_SunnyPansModel_52 : zGetR "SunnyPansModel" 52 10 11 23 369 := ⟨RX10, TX10, 40, rfl, by decide, uw_10, wd_1417, fun _ _ _ _ _ _ => ⟨_, rfl, rfl⟩⟩
theorem d_X10_byLaw_0 : decode cX10_byLaw 0 = .ok (.iconst 0, 1) := by decide +kernel
theorem d_X10_byLaw_1 : decode cX10_byLaw 1 = .ok (.istore_n 1, 1) := by decide +kernel
theorem d_X10_byLaw_2 : decode cX10_byLaw 2 = .ok (.aload_n 0, 1) := by decide +kernel
theorem d_X10_byLaw_3 : decode cX10_byLaw 3 = .ok (.getfield 49, 3) := by decide +kernel
theorem d_X10_byLaw_6 : decode cX10_byLaw 6 = .ok (.iconst 0, 1) := by decide +kernel
theorem d_X10_byLaw_7 : decode cX10_byLaw 7 = .ok (.bipush 10, 2) := by decide +kernel
theorem d_X10_byLaw_9 : decode cX10_byLaw 9 = .ok (.aload_n 0, 1) := by decide +kernel
theorem d_X10_byLaw_10 : decode cX10_byLaw 10 = .ok (.getfield 52, 3) := by decide +kernel
theorem d_X10_byLaw_13 : decode cX10_byLaw 13 = .ok (.iconst 2, 1) := by decide +kernel
theorem d_X10_byLaw_14 : decode cX10_byLaw 14 = .ok (.iaload, 1) := by decide +kernel
theorem d_X10_byLaw_15 : decode cX10_byLaw 15 = .ok (.iconst 4, 1) := by decide +kernel
theorem d_X10_byLaw_16 : decode cX10_byLaw 16 = .ok (.idiv, 1) := by decide +kernel
theorem d_X10_byLaw_17 : decode cX10_byLaw 17 = .ok (.iadd, 1) := by decide +kernel
theorem d_X10_byLaw_18 : decode cX10_byLaw 18 = .ok (.iastore, 1) := by decide +kernel
theorem d_X10_byLaw_19 : decode cX10_byLaw 19 = .ok (.iconst 0, 1) := by decide +kernel
theorem d_X10_byLaw_20 : decode cX10_byLaw 20 = .ok (.istore_n 2, 1) := by decide +kernel
theorem d_X10_byLaw_21 : decode cX10_byLaw 21 = .ok (.iload_n 2, 1) := by decide +kernel
theorem d_X10_byLaw_22 : decode cX10_byLaw 22 = .ok (.aload_n 0, 1) := by decide +kernel
theorem d_X10_byLaw_23 : decode cX10_byLaw 23 = .ok (.getfield 172, 3) := by decide +kernel
theorem d_X10_byLaw_26 : decode cX10_byLaw 26 = .ok (.if_icmp .ge 104, 3) := by decide +kernel
theorem d_X10_byLaw_29 : decode cX10_byLaw 29 = .ok (.aload_n 0, 1) := by decide +kernel
theorem d_X10_byLaw_30 : decode cX10_byLaw 30 = .ok (.getfield 37, 3) := by decide +kernel
theorem d_X10_byLaw_33 : decode cX10_byLaw 33 = .ok (.iload_n 2, 1) := by decide +kernel
theorem d_X10_byLaw_34 : decode cX10_byLaw 34 = .ok (.aaload, 1) := by decide +kernel
theorem d_X10_byLaw_35 : decode cX10_byLaw 35 = .ok (.iconst 0, 1) := by decide +kernel
theorem d_X10_byLaw_36 : decode cX10_byLaw 36 = .ok (.iaload, 1) := by decide +kernel
theorem d_X10_byLaw_37 : decode cX10_byLaw 37 = .ok (.iconst 2, 1) := by decide +kernel
theorem d_X10_byLaw_38 : decode cX10_byLaw 38 = .ok (.if_icmp .ge 50, 3) := by decide +kernel
theorem d_X10_byLaw_41 : decode cX10_byLaw 41 = .ok (.aload_n 0, 1) := by decide +kernel
theorem d_X10_byLaw_42 : decode cX10_byLaw 42 = .ok (.getfield 49, 3) := by decide +kernel
theorem d_X10_byLaw_45 : decode cX10_byLaw 45 = .ok (.iload_n 1, 1) := by decide +kernel
theorem d_X10_byLaw_46 : decode cX10_byLaw 46 = .ok (.aload_n 0, 1) := by decide +kernel
theorem d_X10_byLaw_47 : decode cX10_byLaw 47 = .ok (.getfield 37, 3) := by decide +kernel
theorem d_X10_byLaw_50 : decode cX10_byLaw 50 = .ok (.iload_n 2, 1) := by decide +kernel
theorem d_X10_byLaw_51 : decode cX10_byLaw 51 = .ok (.aaload, 1) := by decide +kernel
theorem d_X10_byLaw_52 : decode cX10_byLaw 52 = .ok (.iconst 0, 1) := by decide +kernel
theorem d_X10_byLaw_53 : decode cX10_byLaw 53 = .ok (.iaload, 1) := by decide +kernel
theorem d_X10_byLaw_54 : decode cX10_byLaw 54 = .ok (.ifCond .ne 14, 3) := by decide +kernel
theorem d_X10_byLaw_57 : decode cX10_byLaw 57 = .ok (.aload_n 0, 1) := by decide +kernel
theorem d_X10_byLaw_58 : decode cX10_byLaw 58 = .ok (.getfield 37, 3) := by decide +kernel
theorem d_X10_byLaw_61 : decode cX10_byLaw 61 = .ok (.iload_n 2, 1) := by decide +kernel
theorem d_X10_byLaw_62 : decode cX10_byLaw 62 = .ok (.aaload, 1) := by decide +kernel
theorem d_X10_byLaw_63 : decode cX10_byLaw 63 = .ok (.iconst 1, 1) := by decide +kernel
theorem d_X10_byLaw_64 : decode cX10_byLaw 64 = .ok (.iaload, 1) := by decide +kernel
theorem d_X10_byLaw_65 : decode cX10_byLaw 65 = .ok (.goto 16, 3) := by decide +kernel
theorem d_X10_byLaw_68 : decode cX10_byLaw 68 = .ok (.aload_n 0, 1) := by decide +kernel
theorem d_X10_byLaw_69 : decode cX10_byLaw 69 = .ok (.getfield 52, 3) := by decide +kernel
theorem d_X10_byLaw_72 : decode cX10_byLaw 72 = .ok (.aload_n 0, 1) := by decide +kernel
theorem d_X10_byLaw_73 : decode cX10_byLaw 73 = .ok (.getfield 37, 3) := by decide +kernel
theorem d_X10_byLaw_76 : decode cX10_byLaw 76 = .ok (.iload_n 2, 1) := by decide +kernel
theorem d_X10_byLaw_77 : decode cX10_byLaw 77 = .ok (.aaload, 1) := by decide +kernel
theorem d_X10_byLaw_78 : decode cX10_byLaw 78 = .ok (.iconst 1, 1) := by decide +kernel
theorem d_X10_byLaw_79 : decode cX10_byLaw 79 = .ok (.iaload, 1) := by decide +kernel
theorem d_X10_byLaw_80 : decode cX10_byLaw 80 = .ok (.iaload, 1) := by decide +kernel
theorem d_X10_byLaw_81 : decode cX10_byLaw 81 = .ok (.iastore, 1) := by decide +kernel
theorem d_X10_byLaw_82 : decode cX10_byLaw 82 = .ok (.iinc 1 1, 3) := by decide +kernel
theorem d_X10_byLaw_85 : decode cX10_byLaw 85 = .ok (.goto 39, 3) := by decide +kernel
theorem d_X10_byLaw_88 : decode cX10_byLaw 88 = .ok (.iinc 1 (-1), 3) := by decide +kernel
theorem d_X10_byLaw_91 : decode cX10_byLaw 91 = .ok (.aload_n 0, 1) := by decide +kernel
theorem d_X10_byLaw_92 : decode cX10_byLaw 92 = .ok (.getfield 49, 3) := by decide +kernel
theorem d_X10_byLaw_95 : decode cX10_byLaw 95 = .ok (.iload_n 1, 1) := by decide +kernel
theorem d_X10_byLaw_96 : decode cX10_byLaw 96 = .ok (.iconst 1, 1) := by decide +kernel
theorem d_X10_byLaw_97 : decode cX10_byLaw 97 = .ok (.isub, 1) := by decide +kernel
theorem d_X10_byLaw_98 : decode cX10_byLaw 98 = .ok (.aload_n 0, 1) := by decide +kernel
theorem d_X10_byLaw_99 : decode cX10_byLaw 99 = .ok (.getfield 37, 3) := by decide +kernel
theorem d_X10_byLaw_102 : decode cX10_byLaw 102 = .ok (.iload_n 2, 1) := by decide +kernel
theorem d_X10_byLaw_103 : decode cX10_byLaw 103 = .ok (.aaload, 1) := by decide +kernel
theorem d_X10_byLaw_104 : decode cX10_byLaw 104 = .ok (.iconst 0, 1) := by decide +kernel
theorem d_X10_byLaw_105 : decode cX10_byLaw 105 = .ok (.iaload, 1) := by decide +kernel
theorem d_X10_byLaw_106 : decode cX10_byLaw 106 = .ok (.aload_n 0, 1) := by decide +kernel
theorem d_X10_byLaw_107 : decode cX10_byLaw 107 = .ok (.getfield 49, 3) := by decide +kernel
theorem d_X10_byLaw_110 : decode cX10_byLaw 110 = .ok (.iload_n 1, 1) := by decide +kernel
theorem d_X10_byLaw_111 : decode cX10_byLaw 111 = .ok (.iconst 1, 1) := by decide +kernel
theorem d_X10_byLaw_112 : decode cX10_byLaw 112 = .ok (.isub, 1) := by decide +kernel
theorem d_X10_byLaw_113 : decode cX10_byLaw 113 = .ok (.iaload, 1) := by decide +kernel
theorem d_X10_byLaw_114 : decode cX10_byLaw 114 = .ok (.aload_n 0, 1) := by decide +kernel
theorem d_X10_byLaw_115 : decode cX10_byLaw 115 = .ok (.getfield 49, 3) := by decide +kernel
theorem d_X10_byLaw_118 : decode cX10_byLaw 118 = .ok (.iload_n 1, 1) := by decide +kernel
theorem d_X10_byLaw_119 : decode cX10_byLaw 119 = .ok (.iaload, 1) := by decide +kernel
theorem d_X10_byLaw_120 : decode cX10_byLaw 120 = .ok (.invokestatic 221, 3) := by decide +kernel
theorem d_X10_byLaw_123 : decode cX10_byLaw 123 = .ok (.iastore, 1) := by decide +kernel
theorem d_X10_byLaw_124 : decode cX10_byLaw 124 = .ok (.iinc 2 1, 3) := by decide +kernel
theorem d_X10_byLaw_127 : decode cX10_byLaw 127 = .ok (.goto (-106), 3) := by decide +kernel
theorem d_X10_byLaw_130 : decode cX10_byLaw 130 = .ok (.bipush 99, 2) := by decide +kernel
theorem d_X10_byLaw_132 : decode cX10_byLaw 132 = .ok (.iconst 0, 1) := by decide +kernel
theorem d_X10_byLaw_133 : decode cX10_byLaw 133 = .ok (.aload_n 0, 1) := by decide +kernel
theorem d_X10_byLaw_134 : decode cX10_byLaw 134 = .ok (.getfield 49, 3) := by decide +kernel
theorem d_X10_byLaw_137 : decode cX10_byLaw 137 = .ok (.iconst 0, 1) := by decide +kernel
theorem d_X10_byLaw_138 : decode cX10_byLaw 138 = .ok (.iaload, 1) := by decide +kernel
theorem d_X10_byLaw_139 : decode cX10_byLaw 139 = .ok (.invokestatic 218, 3) := by decide +kernel
theorem d_X10_byLaw_142 : decode cX10_byLaw 142 = .ok (.invokestatic 215, 3) := by decide +kernel
theorem d_X10_byLaw_145 : decode cX10_byLaw 145 = .ok (.ireturn, 1) := by decide +kernel
def F_X10_byLaw_124 (self21 : Int32 → Int32 → zMem → Option (Int32 × zMem)) (b124_L1 : Int32) (b124_L2 : Int32) (M : zMem) : Option (Int32 × zMem) :=
  self21 b124_L1 (b124_L2 + 1) M
def F_X10_byLaw_21 (self21 : Int32 → Int32 → zMem → Option (Int32 × zMem)) (b21_L1 : Int32) (b21_L2 : Int32) (M : zMem) : Option (Int32 × zMem) :=
  if (M.1 0 16) ≤ b21_L2 then
    zb (F_X10_more M (0 : Int32) (M.1 368 0)) fun v2 M1 =>
    zb (F_X10_less M1 (99 : Int32) v2) fun v4 M3 =>
    some (v4, M3)
  else
    gin b21_L2 160 <|
    if (2 : Int32) ≤ (M.1 (28 + (1 + 1 * b21_L2.toNatClampNeg)) 0) then
      gin ((b21_L1 + (-1)) - (1 : Int32)) 160 <|
      gin (b21_L1 + (-1)) 160 <|
      zb (F_X10_by M (M.1 (28 + (1 + 1 * b21_L2.toNatClampNeg)) 0) (M.1 368 ((b21_L1 + (-1)) - (1 : Int32)).toNatClampNeg) (M.1 368 (b21_L1 + (-1)).toNatClampNeg)) fun v9 M8 =>
      zl (zI M8 368 (((b21_L1 + (-1)) - (1 : Int32)).toNatClampNeg) v9) fun M10 =>
      F_X10_byLaw_124 self21 (b21_L1 + (-1)) b21_L2 M10
    else
      if (M.1 (28 + (1 + 1 * b21_L2.toNatClampNeg)) 0) = 0 then
        gin b21_L1 160 <|
        zl (zI M 368 b21_L1.toNatClampNeg (M.1 (28 + (1 + 1 * b21_L2.toNatClampNeg)) 1)) fun M15 =>
        F_X10_byLaw_124 self21 (b21_L1 + 1) b21_L2 M15
      else
        gin (M.1 (28 + (1 + 1 * b21_L2.toNatClampNeg)) 1) 8 <|
        gin b21_L1 160 <|
        zl (zI M 368 b21_L1.toNatClampNeg (M.1 369 (M.1 (28 + (1 + 1 * b21_L2.toNatClampNeg)) 1).toNatClampNeg)) fun M13 =>
        F_X10_byLaw_124 self21 (b21_L1 + 1) b21_L2 M13
def F_X10_byLaw (M : zMem)  : Option (Int32 × zMem) :=
  zl (zI M 368 0 ((10 : Int32) + ((M.1 369 2) / (4 : Int32)))) fun M16 =>
  itF (fun _ _ _ => none) (F_X10_byLaw_21) zFuel (0 : Int32) (0 : Int32) M16
def rm_X10_byLaw : Room := { frames := 4, cells := 0, slots := 0, locals := 123 }
set_option maxHeartbeats 4000000 in
set_option maxRecDepth 100000 in
theorem c_X10_byLaw (l : Launch) {G : zG} {ad : Nat → Nat} {n : Nat} (hA : zInj ad n) (M : zMem)  (hT : zT shM n 0 11) {r9 : Int32} {M9 : zMem} (hF : F_X10_byLaw M  = some (r9, M9)) : zM l yX10_byLaw cX10_byLaw 3 (some .int) rm_X10_byLaw G shM ad n M [.ref (ad 0)] (some (.int r9)) M9 := by
  refine zM_of hA (by decide +kernel) (lv := [(0, .ref (ad 0))]) (Nat.le_of_ble_eq_true rfl) rfl (fun p e s m args below meth c A cx hr => ?_)
  have hb124 : ∀ (self21 : Int32 → Int32 → zMem → Option (Int32 × zMem)) (hs21 : ∀ (b21_L1 : Int32) (b21_L2 : Int32) (M : zMem), self21 b21_L1 b21_L2 M = some (r9, M9) → zJ p l e rm_X10_byLaw s m args below meth c G shM ad n A 3 (MQ below (zQ G shM ad n M9 (some (.int r9)) A) args s 0 0 A) 0 0 M 21 [(0, .ref (ad 0)), (1, .int b21_L1), (2, .int b21_L2)] []), ∀ (b124_L1 : Int32) (b124_L2 : Int32) (M : zMem), F_X10_byLaw_124 self21 b124_L1 b124_L2 M = some (r9, M9) → zJ p l e rm_X10_byLaw s m args below meth c G shM ad n A 3 (MQ below (zQ G shM ad n M9 (some (.int r9)) A) args s 0 0 A) 0 0 M 124 [(0, .ref (ad 0)), (1, .int b124_L1), (2, .int b124_L2)] [] := by
    intro self21 hs21 b124_L1 b124_L2 M hF
    unfold F_X10_byLaw_124 at hF
    refine z_iinc cx 2 1 [(2, .int (b124_L2 + 1)), (0, .ref (ad 0)), (1, .int b124_L1)] d_X10_byLaw_124 2 rfl ki_1 (by decide) rfl ?_
    refine z_goto cx 21 d_X10_byLaw_127 (by decide) ?_
    exact z_lv [1, 2, 0] _ rfl (hs21 b124_L1 (b124_L2 + 1) M hF)
  have hL21 : ∀ (fuel : Nat), ∀ (b21_L1 : Int32) (b21_L2 : Int32) (M : zMem), itF (fun _ _ _ => none) (F_X10_byLaw_21) fuel b21_L1 b21_L2 M = some (r9, M9) → zJ p l e rm_X10_byLaw s m args below meth c G shM ad n A 3 (MQ below (zQ G shM ad n M9 (some (.int r9)) A) args s 0 0 A) 0 0 M 21 [(0, .ref (ad 0)), (1, .int b21_L1), (2, .int b21_L2)] [] := by
    intro fuel
    induction fuel with
    | zero => intro b21_L1 b21_L2 M hF; cases hF
    | succ fuel hs21 =>
      intro b21_L1 b21_L2 M hF
      have hF : F_X10_byLaw_21 (itF (fun _ _ _ => none) (F_X10_byLaw_21) fuel) b21_L1 b21_L2 M = some (r9, M9) := hF
      generalize itF (fun _ _ _ => none) (F_X10_byLaw_21) fuel = self21 at hs21 hF
      unfold F_X10_byLaw_21 at hF
      refine z_iload_n cx d_X10_byLaw_21 2 rfl ?_
      refine z_aload_n cx d_X10_byLaw_22 0 rfl ?_
      refine z_getI cx hT fg_SunnyPansModel_172 d_X10_byLaw_23 ?_
      refine z_icmp_ge cx 130 d_X10_byLaw_26 (by decide) hF (fun hF => ?_) (fun hF => ?_)
      · refine z_bipush (v := 99) cx d_X10_byLaw_130 kb_99 ?_
        refine z_iconst (v := 0) cx d_X10_byLaw_132 ki_0 ?_
        refine z_aload_n cx d_X10_byLaw_133 0 rfl ?_
        refine z_getR cx hT fg_SunnyPansModel_49 368 rfl d_X10_byLaw_134 ?_
        refine z_iconst (v := 0) cx d_X10_byLaw_137 ki_0 ?_
        refine z_iald cx (tfM_11_368 hT) za_33 (zvp (by decide +kernel)) 0 rfl d_X10_byLaw_138 ?_
        obtain ⟨v2, M1, hc, hF⟩ := zb_inv hF
        refine z_callS cx (As := [.int (0 : Int32), .int (M.1 368 0)]) (rest := [.int (99 : Int32)]) (c_X10_more l cx.2.2.2.1.1 M (0 : Int32) (M.1 368 0)  hc) cs_SunnyPansModel_218 ⟨rfl, rfl, Nat.le_of_ble_eq_true rfl, Nat.le_of_ble_eq_true rfl⟩ rfl rfl ⟨Nat.zero_le _, Nat.zero_le _⟩ (Nat.le_of_ble_eq_true rfl) d_X10_byLaw_139 ?_
        obtain ⟨v4, M3, hc, hF⟩ := zb_inv hF
        refine z_callS cx (As := [.int (99 : Int32), .int v2]) (rest := []) (c_X10_less l cx.2.2.2.1.1 M1 (99 : Int32) v2  hc) cs_SunnyPansModel_215 ⟨rfl, rfl, Nat.le_of_ble_eq_true rfl, Nat.le_of_ble_eq_true rfl⟩ rfl rfl ⟨Nat.zero_le _, Nat.zero_le _⟩ (Nat.le_of_ble_eq_true rfl) d_X10_byLaw_142 ?_
        exact z_iret cx hr rfl hF d_X10_byLaw_145
      refine z_aload_n cx d_X10_byLaw_29 0 rfl ?_
      refine z_getR cx hT fg_SunnyPansModel_37 28 rfl d_X10_byLaw_30 ?_
      refine z_iload_n cx d_X10_byLaw_33 2 rfl ?_
      obtain ⟨hi5, hF⟩ := gin_inv hF
      refine z_aald cx (tfM_11_28 hT) za_31 hi5 (28 + (1 + 1 * b21_L2.toNatClampNeg)) rfl d_X10_byLaw_34 ?_
      refine z_iconst (v := 0) cx d_X10_byLaw_35 ki_0 ?_
      refine z_iald cx (teM_31 (tfM_11_28 hT) hi5) za_27 (zvp (by decide +kernel)) 0 rfl d_X10_byLaw_36 ?_
      refine z_iconst (v := 2) cx d_X10_byLaw_37 ki_2 ?_
      refine z_icmp_ge cx 88 d_X10_byLaw_38 (by decide) hF (fun hF => ?_) (fun hF => ?_)
      · refine z_iinc cx 1 (-1) [(1, .int (b21_L1 + (-1))), (0, .ref (ad 0)), (2, .int b21_L2)] d_X10_byLaw_88 1 rfl ki_m1 (by decide) rfl ?_
        refine z_aload_n cx d_X10_byLaw_91 1 rfl ?_
        refine z_getR cx hT fg_SunnyPansModel_49 368 rfl d_X10_byLaw_92 ?_
        refine z_iload_n cx d_X10_byLaw_95 0 rfl ?_
        refine z_iconst (v := 1) cx d_X10_byLaw_96 ki_1 ?_
        refine z_isub cx d_X10_byLaw_97 ?_
        refine z_aload_n cx d_X10_byLaw_98 1 rfl ?_
        refine z_getR cx hT fg_SunnyPansModel_37 28 rfl d_X10_byLaw_99 ?_
        refine z_iload_n cx d_X10_byLaw_102 2 rfl ?_
        refine z_aald cx (tfM_11_28 hT) za_31 hi5 (28 + (1 + 1 * b21_L2.toNatClampNeg)) rfl d_X10_byLaw_103 ?_
        refine z_iconst (v := 0) cx d_X10_byLaw_104 ki_0 ?_
        refine z_iald cx (teM_31 (tfM_11_28 hT) hi5) za_27 (zvp (by decide +kernel)) 0 rfl d_X10_byLaw_105 ?_
        refine z_aload_n cx d_X10_byLaw_106 1 rfl ?_
        refine z_getR cx hT fg_SunnyPansModel_49 368 rfl d_X10_byLaw_107 ?_
        refine z_iload_n cx d_X10_byLaw_110 0 rfl ?_
        refine z_iconst (v := 1) cx d_X10_byLaw_111 ki_1 ?_
        refine z_isub cx d_X10_byLaw_112 ?_
        obtain ⟨hi6, hF⟩ := gin_inv hF
        refine z_iald cx (tfM_11_368 hT) za_33 hi6 (((b21_L1 + (-1)) - (1 : Int32)).toNatClampNeg) rfl d_X10_byLaw_113 ?_
        refine z_aload_n cx d_X10_byLaw_114 1 rfl ?_
        refine z_getR cx hT fg_SunnyPansModel_49 368 rfl d_X10_byLaw_115 ?_
        refine z_iload_n cx d_X10_byLaw_118 0 rfl ?_
        obtain ⟨hi7, hF⟩ := gin_inv hF
        refine z_iald cx (tfM_11_368 hT) za_33 hi7 ((b21_L1 + (-1)).toNatClampNeg) rfl d_X10_byLaw_119 ?_
        obtain ⟨v9, M8, hc, hF⟩ := zb_inv hF
        refine z_callS cx (As := [.int (M.1 (28 + (1 + 1 * b21_L2.toNatClampNeg)) 0), .int (M.1 368 ((b21_L1 + (-1)) - (1 : Int32)).toNatClampNeg), .int (M.1 368 (b21_L1 + (-1)).toNatClampNeg)]) (rest := [.int ((b21_L1 + (-1)) - (1 : Int32)), .ref (ad 368)]) (c_X10_by l cx.2.2.2.1.1 M (M.1 (28 + (1 + 1 * b21_L2.toNatClampNeg)) 0) (M.1 368 ((b21_L1 + (-1)) - (1 : Int32)).toNatClampNeg) (M.1 368 (b21_L1 + (-1)).toNatClampNeg)  hc) cs_SunnyPansModel_221 ⟨rfl, rfl, Nat.le_of_ble_eq_true rfl, Nat.le_of_ble_eq_true rfl⟩ rfl rfl ⟨Nat.zero_le _, Nat.zero_le _⟩ (Nat.le_of_ble_eq_true rfl) d_X10_byLaw_120 ?_
        refine z_iast cx (tfM_11_368 hT) za_33 hi6 (((b21_L1 + (-1)) - (1 : Int32)).toNatClampNeg) rfl d_X10_byLaw_123 ?_
        refine z_nmM hF (fun M10 hF => ?_)
        exact z_lv [1, 0, 2] _ rfl (hb124 self21 hs21 (b21_L1 + (-1)) b21_L2 M10 hF)
      refine z_aload_n cx d_X10_byLaw_41 0 rfl ?_
      refine z_getR cx hT fg_SunnyPansModel_49 368 rfl d_X10_byLaw_42 ?_
      refine z_iload_n cx d_X10_byLaw_45 1 rfl ?_
      refine z_aload_n cx d_X10_byLaw_46 0 rfl ?_
      refine z_getR cx hT fg_SunnyPansModel_37 28 rfl d_X10_byLaw_47 ?_
      refine z_iload_n cx d_X10_byLaw_50 2 rfl ?_
      refine z_aald cx (tfM_11_28 hT) za_31 hi5 (28 + (1 + 1 * b21_L2.toNatClampNeg)) rfl d_X10_byLaw_51 ?_
      refine z_iconst (v := 0) cx d_X10_byLaw_52 ki_0 ?_
      refine z_iald cx (teM_31 (tfM_11_28 hT) hi5) za_27 (zvp (by decide +kernel)) 0 rfl d_X10_byLaw_53 ?_
      refine z_if_ne cx 68 d_X10_byLaw_54 (by decide) hF (fun hF => ?_) (fun hF => ?_)
      · refine z_aload_n cx d_X10_byLaw_68 0 rfl ?_
        refine z_getR cx hT fg_SunnyPansModel_52 369 rfl d_X10_byLaw_69 ?_
        refine z_aload_n cx d_X10_byLaw_72 0 rfl ?_
        refine z_getR cx hT fg_SunnyPansModel_37 28 rfl d_X10_byLaw_73 ?_
        refine z_iload_n cx d_X10_byLaw_76 2 rfl ?_
        refine z_aald cx (tfM_11_28 hT) za_31 hi5 (28 + (1 + 1 * b21_L2.toNatClampNeg)) rfl d_X10_byLaw_77 ?_
        refine z_iconst (v := 1) cx d_X10_byLaw_78 ki_1 ?_
        refine z_iald cx (teM_31 (tfM_11_28 hT) hi5) za_27 (zvp (by decide +kernel)) 1 rfl d_X10_byLaw_79 ?_
        obtain ⟨hi11, hF⟩ := gin_inv hF
        refine z_iald cx (tfM_11_369 hT) za_26 hi11 ((M.1 (28 + (1 + 1 * b21_L2.toNatClampNeg)) 1).toNatClampNeg) rfl d_X10_byLaw_80 ?_
        obtain ⟨hi12, hF⟩ := gin_inv hF
        refine z_iast cx (tfM_11_368 hT) za_33 hi12 b21_L1.toNatClampNeg rfl d_X10_byLaw_81 ?_
        refine z_nmM hF (fun M13 hF => ?_)
        refine z_iinc cx 1 1 [(1, .int (b21_L1 + 1)), (0, .ref (ad 0)), (2, .int b21_L2)] d_X10_byLaw_82 1 rfl ki_1 (by decide) rfl ?_
        refine z_goto cx 124 d_X10_byLaw_85 (by decide) ?_
        exact z_lv [1, 0, 2] _ rfl (hb124 self21 hs21 (b21_L1 + 1) b21_L2 M13 hF)
      refine z_aload_n cx d_X10_byLaw_57 0 rfl ?_
      refine z_getR cx hT fg_SunnyPansModel_37 28 rfl d_X10_byLaw_58 ?_
      refine z_iload_n cx d_X10_byLaw_61 2 rfl ?_
      refine z_aald cx (tfM_11_28 hT) za_31 hi5 (28 + (1 + 1 * b21_L2.toNatClampNeg)) rfl d_X10_byLaw_62 ?_
      refine z_iconst (v := 1) cx d_X10_byLaw_63 ki_1 ?_
      refine z_iald cx (teM_31 (tfM_11_28 hT) hi5) za_27 (zvp (by decide +kernel)) 1 rfl d_X10_byLaw_64 ?_
      refine z_goto cx 81 d_X10_byLaw_65 (by decide) ?_
      obtain ⟨hi14, hF⟩ := gin_inv hF
      refine z_iast cx (tfM_11_368 hT) za_33 hi14 b21_L1.toNatClampNeg rfl d_X10_byLaw_81 ?_
      refine z_nmM hF (fun M15 hF => ?_)
      refine z_iinc cx 1 1 [(1, .int (b21_L1 + 1)), (0, .ref (ad 0)), (2, .int b21_L2)] d_X10_byLaw_82 1 rfl ki_1 (by decide) rfl ?_
      refine z_goto cx 124 d_X10_byLaw_85 (by decide) ?_
      exact z_lv [1, 0, 2] _ rfl (hb124 self21 hs21 (b21_L1 + 1) b21_L2 M15 hF)
  unfold F_X10_byLaw at hF
  refine z_iconst (v := 0) cx d_X10_byLaw_0 ki_0 ?_
  refine z_istore_n cx 1 [(1, .int (0 : Int32)), (0, .ref (ad 0))] d_X10_byLaw_1 rfl (by decide) rfl ?_
  refine z_aload_n cx d_X10_byLaw_2 1 rfl ?_
  refine z_getR cx hT fg_SunnyPansModel_49 368 rfl d_X10_byLaw_3 ?_
  refine z_iconst (v := 0) cx d_X10_byLaw_6 ki_0 ?_
  refine z_bipush (v := 10) cx d_X10_byLaw_7 kb_10 ?_
  refine z_aload_n cx d_X10_byLaw_9 1 rfl ?_
  refine z_getR cx hT fg_SunnyPansModel_52 369 rfl d_X10_byLaw_10 ?_
  refine z_iconst (v := 2) cx d_X10_byLaw_13 ki_2 ?_
  refine z_iald cx (tfM_11_369 hT) za_26 (zvp (by decide +kernel)) 2 rfl d_X10_byLaw_14 ?_
  refine z_iconst (v := 4) cx d_X10_byLaw_15 ki_4 ?_
  refine z_idiv cx d_X10_byLaw_16 (by decide) ?_
  refine z_iadd cx d_X10_byLaw_17 ?_
  refine z_iast cx (tfM_11_368 hT) za_33 (zvp (by decide +kernel)) 0 rfl d_X10_byLaw_18 ?_
  refine z_nmM hF (fun M16 hF => ?_)
  refine z_iconst (v := 0) cx d_X10_byLaw_19 ki_0 ?_
  refine z_istore_n cx 2 [(2, .int (0 : Int32)), (1, .int (0 : Int32)), (0, .ref (ad 0))] d_X10_byLaw_20 rfl (by decide) rfl ?_
  exact z_lv [2, 1, 0] _ rfl (hL21 zFuel (0 : Int32) (0 : Int32) M16 hF)
/-! SunnyPansModel.stepHere -/
theorem kb_11 : (Int8.ofInt (11)).toInt32 = (11 : Int32) := by decide +kernel
theorem d_X10_stepHere_0 : decode cX10_stepHere 0 = .ok (.aload_n 0, 1) := by decide +kernel
theorem d_X10_stepHere_1 : decode cX10_stepHere 1 = .ok (.bipush 12, 2) := by decide +kernel
theorem d_X10_stepHere_3 : decode cX10_stepHere 3 = .ok (.iconst 5, 1) := by decide +kernel
theorem d_X10_stepHere_4 : decode cX10_stepHere 4 = .ok (.bipush 20, 2) := by decide +kernel
theorem d_X10_stepHere_6 : decode cX10_stepHere 6 = .ok (.iconst 0, 1) := by decide +kernel
theorem d_X10_stepHere_7 : decode cX10_stepHere 7 = .ok (.iconst 0, 1) := by decide +kernel
theorem d_X10_stepHere_8 : decode cX10_stepHere 8 = .ok (.iconst 0, 1) := by decide +kernel
theorem d_X10_stepHere_9 : decode cX10_stepHere 9 = .ok (.invokevirtual 131, 3) := by decide +kernel
theorem d_X10_stepHere_12 : decode cX10_stepHere 12 = .ok (.ifCond .eq 5, 3) := by decide +kernel
theorem d_X10_stepHere_15 : decode cX10_stepHere 15 = .ok (.iconst 0, 1) := by decide +kernel
theorem d_X10_stepHere_16 : decode cX10_stepHere 16 = .ok (.ireturn, 1) := by decide +kernel
theorem d_X10_stepHere_17 : decode cX10_stepHere 17 = .ok (.aload_n 0, 1) := by decide +kernel
theorem d_X10_stepHere_18 : decode cX10_stepHere 18 = .ok (.bipush 18, 2) := by decide +kernel
theorem d_X10_stepHere_20 : decode cX10_stepHere 20 = .ok (.iconst 1, 1) := by decide +kernel
theorem d_X10_stepHere_21 : decode cX10_stepHere 21 = .ok (.bipush 11, 2) := by decide +kernel
theorem d_X10_stepHere_23 : decode cX10_stepHere 23 = .ok (.iconst 5, 1) := by decide +kernel
theorem d_X10_stepHere_24 : decode cX10_stepHere 24 = .ok (.iconst 0, 1) := by decide +kernel
theorem d_X10_stepHere_25 : decode cX10_stepHere 25 = .ok (.iconst 0, 1) := by decide +kernel
theorem d_X10_stepHere_26 : decode cX10_stepHere 26 = .ok (.invokevirtual 131, 3) := by decide +kernel
theorem d_X10_stepHere_29 : decode cX10_stepHere 29 = .ok (.ifCond .eq 5, 3) := by decide +kernel
theorem d_X10_stepHere_32 : decode cX10_stepHere 32 = .ok (.iconst 1, 1) := by decide +kernel
theorem d_X10_stepHere_33 : decode cX10_stepHere 33 = .ok (.ireturn, 1) := by decide +kernel
theorem d_X10_stepHere_34 : decode cX10_stepHere 34 = .ok (.aload_n 0, 1) := by decide +kernel
theorem d_X10_stepHere_35 : decode cX10_stepHere 35 = .ok (.iconst 3, 1) := by decide +kernel
theorem d_X10_stepHere_36 : decode cX10_stepHere 36 = .ok (.iconst 1, 1) := by decide +kernel
theorem d_X10_stepHere_37 : decode cX10_stepHere 37 = .ok (.bipush 18, 2) := by decide +kernel
theorem d_X10_stepHere_39 : decode cX10_stepHere 39 = .ok (.bipush 20, 2) := by decide +kernel
theorem d_X10_stepHere_41 : decode cX10_stepHere 41 = .ok (.iconst 0, 1) := by decide +kernel
theorem d_X10_stepHere_42 : decode cX10_stepHere 42 = .ok (.iconst 0, 1) := by decide +kernel
theorem d_X10_stepHere_43 : decode cX10_stepHere 43 = .ok (.invokevirtual 131, 3) := by decide +kernel
theorem d_X10_stepHere_46 : decode cX10_stepHere 46 = .ok (.ifCond .eq 5, 3) := by decide +kernel
theorem d_X10_stepHere_49 : decode cX10_stepHere 49 = .ok (.iconst 2, 1) := by decide +kernel
theorem d_X10_stepHere_50 : decode cX10_stepHere 50 = .ok (.ireturn, 1) := by decide +kernel
theorem d_X10_stepHere_51 : decode cX10_stepHere 51 = .ok (.aload_n 0, 1) := by decide +kernel
theorem d_X10_stepHere_52 : decode cX10_stepHere 52 = .ok (.bipush 18, 2) := by decide +kernel
theorem d_X10_stepHere_54 : decode cX10_stepHere 54 = .ok (.iconst 1, 1) := by decide +kernel
theorem d_X10_stepHere_55 : decode cX10_stepHere 55 = .ok (.bipush 9, 2) := by decide +kernel
theorem d_X10_stepHere_57 : decode cX10_stepHere 57 = .ok (.bipush 14, 2) := by decide +kernel
theorem d_X10_stepHere_59 : decode cX10_stepHere 59 = .ok (.iconst 0, 1) := by decide +kernel
theorem d_X10_stepHere_60 : decode cX10_stepHere 60 = .ok (.iconst 0, 1) := by decide +kernel
theorem d_X10_stepHere_61 : decode cX10_stepHere 61 = .ok (.invokevirtual 131, 3) := by decide +kernel
theorem d_X10_stepHere_64 : decode cX10_stepHere 64 = .ok (.ifCond .eq 5, 3) := by decide +kernel
theorem d_X10_stepHere_67 : decode cX10_stepHere 67 = .ok (.iconst 3, 1) := by decide +kernel
theorem d_X10_stepHere_68 : decode cX10_stepHere 68 = .ok (.ireturn, 1) := by decide +kernel
theorem d_X10_stepHere_69 : decode cX10_stepHere 69 = .ok (.aload_n 0, 1) := by decide +kernel
theorem d_X10_stepHere_70 : decode cX10_stepHere 70 = .ok (.bipush 8, 2) := by decide +kernel
theorem d_X10_stepHere_72 : decode cX10_stepHere 72 = .ok (.bipush 15, 2) := by decide +kernel
theorem d_X10_stepHere_74 : decode cX10_stepHere 74 = .ok (.bipush 21, 2) := by decide +kernel
theorem d_X10_stepHere_76 : decode cX10_stepHere 76 = .ok (.bipush 18, 2) := by decide +kernel
theorem d_X10_stepHere_78 : decode cX10_stepHere 78 = .ok (.iconst 0, 1) := by decide +kernel
theorem d_X10_stepHere_79 : decode cX10_stepHere 79 = .ok (.iconst 0, 1) := by decide +kernel
theorem d_X10_stepHere_80 : decode cX10_stepHere 80 = .ok (.invokevirtual 131, 3) := by decide +kernel
theorem d_X10_stepHere_83 : decode cX10_stepHere 83 = .ok (.ifCond .eq 5, 3) := by decide +kernel
theorem d_X10_stepHere_86 : decode cX10_stepHere 86 = .ok (.iconst 4, 1) := by decide +kernel
theorem d_X10_stepHere_87 : decode cX10_stepHere 87 = .ok (.ireturn, 1) := by decide +kernel
theorem d_X10_stepHere_88 : decode cX10_stepHere 88 = .ok (.aload_n 0, 1) := by decide +kernel
theorem d_X10_stepHere_89 : decode cX10_stepHere 89 = .ok (.iconst 1, 1) := by decide +kernel
theorem d_X10_stepHere_90 : decode cX10_stepHere 90 = .ok (.bipush 7, 2) := by decide +kernel
theorem d_X10_stepHere_92 : decode cX10_stepHere 92 = .ok (.iconst 1, 1) := by decide +kernel
theorem d_X10_stepHere_93 : decode cX10_stepHere 93 = .ok (.bipush 9, 2) := by decide +kernel
theorem d_X10_stepHere_95 : decode cX10_stepHere 95 = .ok (.bipush 14, 2) := by decide +kernel
theorem d_X10_stepHere_97 : decode cX10_stepHere 97 = .ok (.iconst 0, 1) := by decide +kernel
theorem d_X10_stepHere_98 : decode cX10_stepHere 98 = .ok (.invokevirtual 131, 3) := by decide +kernel
theorem d_X10_stepHere_101 : decode cX10_stepHere 101 = .ok (.ifCond .eq 7, 3) := by decide +kernel
theorem d_X10_stepHere_104 : decode cX10_stepHere 104 = .ok (.iconst 5, 1) := by decide +kernel
theorem d_X10_stepHere_105 : decode cX10_stepHere 105 = .ok (.goto 4, 3) := by decide +kernel
theorem d_X10_stepHere_108 : decode cX10_stepHere 108 = .ok (.iconst (-1), 1) := by decide +kernel
theorem d_X10_stepHere_109 : decode cX10_stepHere 109 = .ok (.ireturn, 1) := by decide +kernel
def F_X10_stepHere (M : zMem)  : Option (Int32 × zMem) :=
  zb (F_X10_isWord M (12 : Int32) (5 : Int32) (20 : Int32) (0 : Int32) (0 : Int32) (0 : Int32)) fun v2 M1 =>
  if v2 = 0 then
    zb (F_X10_isWord M1 (18 : Int32) (1 : Int32) (11 : Int32) (5 : Int32) (0 : Int32) (0 : Int32)) fun v4 M3 =>
    if v4 = 0 then
      zb (F_X10_isWord M3 (3 : Int32) (1 : Int32) (18 : Int32) (20 : Int32) (0 : Int32) (0 : Int32)) fun v6 M5 =>
      if v6 = 0 then
        zb (F_X10_isWord M5 (18 : Int32) (1 : Int32) (9 : Int32) (14 : Int32) (0 : Int32) (0 : Int32)) fun v8 M7 =>
        if v8 = 0 then
          zb (F_X10_isWord M7 (8 : Int32) (15 : Int32) (21 : Int32) (18 : Int32) (0 : Int32) (0 : Int32)) fun v10 M9 =>
          if v10 = 0 then
            zb (F_X10_isWord M9 (1 : Int32) (7 : Int32) (1 : Int32) (9 : Int32) (14 : Int32) (0 : Int32)) fun v12 M11 =>
            if v12 = 0 then
              some ((-1 : Int32), M11)
            else
              some ((5 : Int32), M11)
          else
            some ((4 : Int32), M9)
        else
          some ((3 : Int32), M7)
      else
        some ((2 : Int32), M5)
    else
      some ((1 : Int32), M3)
  else
    some ((0 : Int32), M1)
def rm_X10_stepHere : Room := { frames := 6, cells := 0, slots := 0, locals := 169 }
set_option maxHeartbeats 4000000 in
set_option maxRecDepth 100000 in
theorem c_X10_stepHere (l : Launch) {G : zG} {ad : Nat → Nat} {n : Nat} (hA : zInj ad n) (M : zMem)  (hT : zT shM n 0 11) {r9 : Int32} {M9 : zMem} (hF : F_X10_stepHere M  = some (r9, M9)) : zM l yX10_stepHere cX10_stepHere 1 (some .int) rm_X10_stepHere G shM ad n M [.ref (ad 0)] (some (.int r9)) M9 := by
  refine zM_of hA (by decide +kernel) (lv := [(0, .ref (ad 0))]) (Nat.le_of_ble_eq_true rfl) rfl (fun p e s m args below meth c A cx hr => ?_)
  unfold F_X10_stepHere at hF
  refine z_aload_n cx d_X10_stepHere_0 0 rfl ?_
  refine z_bipush (v := 12) cx d_X10_stepHere_1 kb_12 ?_
  refine z_iconst (v := 5) cx d_X10_stepHere_3 ki_5 ?_
  refine z_bipush (v := 20) cx d_X10_stepHere_4 kb_20 ?_
  refine z_iconst (v := 0) cx d_X10_stepHere_6 ki_0 ?_
  refine z_iconst (v := 0) cx d_X10_stepHere_7 ki_0 ?_
  refine z_iconst (v := 0) cx d_X10_stepHere_8 ki_0 ?_
  obtain ⟨v2, M1, hc, hF⟩ := zb_inv hF
  refine z_callV cx (As := [.int (12 : Int32), .int (5 : Int32), .int (20 : Int32), .int (0 : Int32), .int (0 : Int32), .int (0 : Int32)]) (rest := []) (c_X10_isWord l cx.2.2.2.1.1 M (12 : Int32) (5 : Int32) (20 : Int32) (0 : Int32) (0 : Int32) (0 : Int32) hT hc) hT zo_11 cv_SunnyPansModel_131 ⟨rfl, rfl, Nat.le_of_ble_eq_true rfl, Nat.le_of_ble_eq_true rfl⟩ rfl rfl ⟨Nat.zero_le _, Nat.zero_le _⟩ (Nat.le_of_ble_eq_true rfl) d_X10_stepHere_9 ?_
  refine z_if_eq cx 17 d_X10_stepHere_12 (by decide) hF (fun hF => ?_) (fun hF => ?_)
  · refine z_aload_n cx d_X10_stepHere_17 0 rfl ?_
    refine z_bipush (v := 18) cx d_X10_stepHere_18 kb_18 ?_
    refine z_iconst (v := 1) cx d_X10_stepHere_20 ki_1 ?_
    refine z_bipush (v := 11) cx d_X10_stepHere_21 kb_11 ?_
    refine z_iconst (v := 5) cx d_X10_stepHere_23 ki_5 ?_
    refine z_iconst (v := 0) cx d_X10_stepHere_24 ki_0 ?_
    refine z_iconst (v := 0) cx d_X10_stepHere_25 ki_0 ?_
    obtain ⟨v4, M3, hc, hF⟩ := zb_inv hF
    refine z_callV cx (As := [.int (18 : Int32), .int (1 : Int32), .int (11 : Int32), .int (5 : Int32), .int (0 : Int32), .int (0 : Int32)]) (rest := []) (c_X10_isWord l cx.2.2.2.1.1 M1 (18 : Int32) (1 : Int32) (11 : Int32) (5 : Int32) (0 : Int32) (0 : Int32) hT hc) hT zo_11 cv_SunnyPansModel_131 ⟨rfl, rfl, Nat.le_of_ble_eq_true rfl, Nat.le_of_ble_eq_true rfl⟩ rfl rfl ⟨Nat.zero_le _, Nat.zero_le _⟩ (Nat.le_of_ble_eq_true rfl) d_X10_stepHere_26 ?_
    refine z_if_eq cx 34 d_X10_stepHere_29 (by decide) hF (fun hF => ?_) (fun hF => ?_)
    · refine z_aload_n cx d_X10_stepHere_34 0 rfl ?_
      refine z_iconst (v := 3) cx d_X10_stepHere_35 ki_3 ?_
      refine z_iconst (v := 1) cx d_X10_stepHere_36 ki_1 ?_
      refine z_bipush (v := 18) cx d_X10_stepHere_37 kb_18 ?_
      refine z_bipush (v := 20) cx d_X10_stepHere_39 kb_20 ?_
      refine z_iconst (v := 0) cx d_X10_stepHere_41 ki_0 ?_
      refine z_iconst (v := 0) cx d_X10_stepHere_42 ki_0 ?_
      obtain ⟨v6, M5, hc, hF⟩ := zb_inv hF
      refine z_callV cx (As := [.int (3 : Int32), .int (1 : Int32), .int (18 : Int32), .int (20 : Int32), .int (0 : Int32), .int (0 : Int32)]) (rest := []) (c_X10_isWord l cx.2.2.2.1.1 M3 (3 : Int32) (1 : Int32) (18 : Int32) (20 : Int32) (0 : Int32) (0 : Int32) hT hc) hT zo_11 cv_SunnyPansModel_131 ⟨rfl, rfl, Nat.le_of_ble_eq_true rfl, Nat.le_of_ble_eq_true rfl⟩ rfl rfl ⟨Nat.zero_le _, Nat.zero_le _⟩ (Nat.le_of_ble_eq_true rfl) d_X10_stepHere_43 ?_
      refine z_if_eq cx 51 d_X10_stepHere_46 (by decide) hF (fun hF => ?_) (fun hF => ?_)
      · refine z_aload_n cx d_X10_stepHere_51 0 rfl ?_
        refine z_bipush (v := 18) cx d_X10_stepHere_52 kb_18 ?_
        refine z_iconst (v := 1) cx d_X10_stepHere_54 ki_1 ?_
        refine z_bipush (v := 9) cx d_X10_stepHere_55 kb_9 ?_
        refine z_bipush (v := 14) cx d_X10_stepHere_57 kb_14 ?_
        refine z_iconst (v := 0) cx d_X10_stepHere_59 ki_0 ?_
        refine z_iconst (v := 0) cx d_X10_stepHere_60 ki_0 ?_
        obtain ⟨v8, M7, hc, hF⟩ := zb_inv hF
        refine z_callV cx (As := [.int (18 : Int32), .int (1 : Int32), .int (9 : Int32), .int (14 : Int32), .int (0 : Int32), .int (0 : Int32)]) (rest := []) (c_X10_isWord l cx.2.2.2.1.1 M5 (18 : Int32) (1 : Int32) (9 : Int32) (14 : Int32) (0 : Int32) (0 : Int32) hT hc) hT zo_11 cv_SunnyPansModel_131 ⟨rfl, rfl, Nat.le_of_ble_eq_true rfl, Nat.le_of_ble_eq_true rfl⟩ rfl rfl ⟨Nat.zero_le _, Nat.zero_le _⟩ (Nat.le_of_ble_eq_true rfl) d_X10_stepHere_61 ?_
        refine z_if_eq cx 69 d_X10_stepHere_64 (by decide) hF (fun hF => ?_) (fun hF => ?_)
        · refine z_aload_n cx d_X10_stepHere_69 0 rfl ?_
          refine z_bipush (v := 8) cx d_X10_stepHere_70 kb_8 ?_
          refine z_bipush (v := 15) cx d_X10_stepHere_72 kb_15 ?_
          refine z_bipush (v := 21) cx d_X10_stepHere_74 kb_21 ?_
          refine z_bipush (v := 18) cx d_X10_stepHere_76 kb_18 ?_
          refine z_iconst (v := 0) cx d_X10_stepHere_78 ki_0 ?_
          refine z_iconst (v := 0) cx d_X10_stepHere_79 ki_0 ?_
          obtain ⟨v10, M9, hc, hF⟩ := zb_inv hF
          refine z_callV cx (As := [.int (8 : Int32), .int (15 : Int32), .int (21 : Int32), .int (18 : Int32), .int (0 : Int32), .int (0 : Int32)]) (rest := []) (c_X10_isWord l cx.2.2.2.1.1 M7 (8 : Int32) (15 : Int32) (21 : Int32) (18 : Int32) (0 : Int32) (0 : Int32) hT hc) hT zo_11 cv_SunnyPansModel_131 ⟨rfl, rfl, Nat.le_of_ble_eq_true rfl, Nat.le_of_ble_eq_true rfl⟩ rfl rfl ⟨Nat.zero_le _, Nat.zero_le _⟩ (Nat.le_of_ble_eq_true rfl) d_X10_stepHere_80 ?_
          refine z_if_eq cx 88 d_X10_stepHere_83 (by decide) hF (fun hF => ?_) (fun hF => ?_)
          · refine z_aload_n cx d_X10_stepHere_88 0 rfl ?_
            refine z_iconst (v := 1) cx d_X10_stepHere_89 ki_1 ?_
            refine z_bipush (v := 7) cx d_X10_stepHere_90 kb_7 ?_
            refine z_iconst (v := 1) cx d_X10_stepHere_92 ki_1 ?_
            refine z_bipush (v := 9) cx d_X10_stepHere_93 kb_9 ?_
            refine z_bipush (v := 14) cx d_X10_stepHere_95 kb_14 ?_
            refine z_iconst (v := 0) cx d_X10_stepHere_97 ki_0 ?_
            obtain ⟨v12, M11, hc, hF⟩ := zb_inv hF
            refine z_callV cx (As := [.int (1 : Int32), .int (7 : Int32), .int (1 : Int32), .int (9 : Int32), .int (14 : Int32), .int (0 : Int32)]) (rest := []) (c_X10_isWord l cx.2.2.2.1.1 M9 (1 : Int32) (7 : Int32) (1 : Int32) (9 : Int32) (14 : Int32) (0 : Int32) hT hc) hT zo_11 cv_SunnyPansModel_131 ⟨rfl, rfl, Nat.le_of_ble_eq_true rfl, Nat.le_of_ble_eq_true rfl⟩ rfl rfl ⟨Nat.zero_le _, Nat.zero_le _⟩ (Nat.le_of_ble_eq_true rfl) d_X10_stepHere_98 ?_
            refine z_if_eq cx 108 d_X10_stepHere_101 (by decide) hF (fun hF => ?_) (fun hF => ?_)
            · refine z_iconst (v := -1) cx d_X10_stepHere_108 ki_m1 ?_
              exact z_iret cx hr rfl hF d_X10_stepHere_109
            refine z_iconst (v := 5) cx d_X10_stepHere_104 ki_5 ?_
            refine z_goto cx 109 d_X10_stepHere_105 (by decide) ?_
            exact z_iret cx hr rfl hF d_X10_stepHere_109
          refine z_iconst (v := 4) cx d_X10_stepHere_86 ki_4 ?_
          exact z_iret cx hr rfl hF d_X10_stepHere_87
        refine z_iconst (v := 3) cx d_X10_stepHere_67 ki_3 ?_
        exact z_iret cx hr rfl hF d_X10_stepHere_68
      refine z_iconst (v := 2) cx d_X10_stepHere_49 ki_2 ?_
      exact z_iret cx hr rfl hF d_X10_stepHere_50
    refine z_iconst (v := 1) cx d_X10_stepHere_32 ki_1 ?_
    exact z_iret cx hr rfl hF d_X10_stepHere_33
  refine z_iconst (v := 0) cx d_X10_stepHere_15 ki_0 ?_
  exact z_iret cx hr rfl hF d_X10_stepHere_16
/-! SunnyPansModel.placeHere -/
theorem d_X10_placeHere_0 : decode cX10_placeHere 0 = .ok (.aload_n 0, 1) := by decide +kernel
theorem d_X10_placeHere_1 : decode cX10_placeHere 1 = .ok (.iconst 0, 1) := by decide +kernel
theorem d_X10_placeHere_2 : decode cX10_placeHere 2 = .ok (.aload_n 0, 1) := by decide +kernel
theorem d_X10_placeHere_3 : decode cX10_placeHere 3 = .ok (.getfield 23, 3) := by decide +kernel
theorem d_X10_placeHere_6 : decode cX10_placeHere 6 = .ok (.iconst 0, 1) := by decide +kernel
theorem d_X10_placeHere_7 : decode cX10_placeHere 7 = .ok (.iaload, 1) := by decide +kernel
theorem d_X10_placeHere_8 : decode cX10_placeHere 8 = .ok (.iconst 1, 1) := by decide +kernel
theorem d_X10_placeHere_9 : decode cX10_placeHere 9 = .ok (.isub, 1) := by decide +kernel
theorem d_X10_placeHere_10 : decode cX10_placeHere 10 = .ok (.invokevirtual 147, 3) := by decide +kernel
theorem d_X10_placeHere_13 : decode cX10_placeHere 13 = .ok (.istore_n 1, 1) := by decide +kernel
theorem d_X10_placeHere_14 : decode cX10_placeHere 14 = .ok (.aload_n 0, 1) := by decide +kernel
theorem d_X10_placeHere_15 : decode cX10_placeHere 15 = .ok (.iconst 0, 1) := by decide +kernel
theorem d_X10_placeHere_16 : decode cX10_placeHere 16 = .ok (.aload_n 0, 1) := by decide +kernel
theorem d_X10_placeHere_17 : decode cX10_placeHere 17 = .ok (.getfield 23, 3) := by decide +kernel
theorem d_X10_placeHere_20 : decode cX10_placeHere 20 = .ok (.iconst 1, 1) := by decide +kernel
theorem d_X10_placeHere_21 : decode cX10_placeHere 21 = .ok (.iaload, 1) := by decide +kernel
theorem d_X10_placeHere_22 : decode cX10_placeHere 22 = .ok (.iconst 1, 1) := by decide +kernel
theorem d_X10_placeHere_23 : decode cX10_placeHere 23 = .ok (.isub, 1) := by decide +kernel
theorem d_X10_placeHere_24 : decode cX10_placeHere 24 = .ok (.invokevirtual 147, 3) := by decide +kernel
theorem d_X10_placeHere_27 : decode cX10_placeHere 27 = .ok (.istore_n 2, 1) := by decide +kernel
theorem d_X10_placeHere_28 : decode cX10_placeHere 28 = .ok (.bipush 8, 2) := by decide +kernel
theorem d_X10_placeHere_30 : decode cX10_placeHere 30 = .ok (.iload_n 2, 1) := by decide +kernel
theorem d_X10_placeHere_31 : decode cX10_placeHere 31 = .ok (.imul, 1) := by decide +kernel
theorem d_X10_placeHere_32 : decode cX10_placeHere 32 = .ok (.iload_n 1, 1) := by decide +kernel
theorem d_X10_placeHere_33 : decode cX10_placeHere 33 = .ok (.iadd, 1) := by decide +kernel
theorem d_X10_placeHere_34 : decode cX10_placeHere 34 = .ok (.ireturn, 1) := by decide +kernel
def F_X10_placeHere (M : zMem)  : Option (Int32 × zMem) :=
  zb (F_X10_number M (0 : Int32) ((M.1 4 0) - (1 : Int32))) fun v2 M1 =>
  zb (F_X10_number M1 (0 : Int32) ((M1.1 4 1) - (1 : Int32))) fun v4 M3 =>
  some ((((8 : Int32) * v4) + v2), M3)
def rm_X10_placeHere : Room := { frames := 5, cells := 0, slots := 0, locals := 145 }
set_option maxHeartbeats 4000000 in
set_option maxRecDepth 100000 in
theorem c_X10_placeHere (l : Launch) {G : zG} {ad : Nat → Nat} {n : Nat} (hA : zInj ad n) (M : zMem)  (hT : zT shM n 0 11) {r9 : Int32} {M9 : zMem} (hF : F_X10_placeHere M  = some (r9, M9)) : zM l yX10_placeHere cX10_placeHere 3 (some .int) rm_X10_placeHere G shM ad n M [.ref (ad 0)] (some (.int r9)) M9 := by
  refine zM_of hA (by decide +kernel) (lv := [(0, .ref (ad 0))]) (Nat.le_of_ble_eq_true rfl) rfl (fun p e s m args below meth c A cx hr => ?_)
  unfold F_X10_placeHere at hF
  refine z_aload_n cx d_X10_placeHere_0 0 rfl ?_
  refine z_iconst (v := 0) cx d_X10_placeHere_1 ki_0 ?_
  refine z_aload_n cx d_X10_placeHere_2 0 rfl ?_
  refine z_getR cx hT fg_SunnyPansModel_23 4 rfl d_X10_placeHere_3 ?_
  refine z_iconst (v := 0) cx d_X10_placeHere_6 ki_0 ?_
  refine z_iald cx (tfM_11_4 hT) za_28 (zvp (by decide +kernel)) 0 rfl d_X10_placeHere_7 ?_
  refine z_iconst (v := 1) cx d_X10_placeHere_8 ki_1 ?_
  refine z_isub cx d_X10_placeHere_9 ?_
  obtain ⟨v2, M1, hc, hF⟩ := zb_inv hF
  refine z_callV cx (As := [.int (0 : Int32), .int ((M.1 4 0) - (1 : Int32))]) (rest := []) (c_X10_number l cx.2.2.2.1.1 M (0 : Int32) ((M.1 4 0) - (1 : Int32)) hT hc) hT zo_11 cv_SunnyPansModel_147 ⟨rfl, rfl, Nat.le_of_ble_eq_true rfl, Nat.le_of_ble_eq_true rfl⟩ rfl rfl ⟨Nat.zero_le _, Nat.zero_le _⟩ (Nat.le_of_ble_eq_true rfl) d_X10_placeHere_10 ?_
  refine z_istore_n cx 1 [(1, .int v2), (0, .ref (ad 0))] d_X10_placeHere_13 rfl (by decide) rfl ?_
  refine z_aload_n cx d_X10_placeHere_14 1 rfl ?_
  refine z_iconst (v := 0) cx d_X10_placeHere_15 ki_0 ?_
  refine z_aload_n cx d_X10_placeHere_16 1 rfl ?_
  refine z_getR cx hT fg_SunnyPansModel_23 4 rfl d_X10_placeHere_17 ?_
  refine z_iconst (v := 1) cx d_X10_placeHere_20 ki_1 ?_
  refine z_iald cx (tfM_11_4 hT) za_28 (zvp (by decide +kernel)) 1 rfl d_X10_placeHere_21 ?_
  refine z_iconst (v := 1) cx d_X10_placeHere_22 ki_1 ?_
  refine z_isub cx d_X10_placeHere_23 ?_
  obtain ⟨v4, M3, hc, hF⟩ := zb_inv hF
  refine z_callV cx (As := [.int (0 : Int32), .int ((M1.1 4 1) - (1 : Int32))]) (rest := []) (c_X10_number l cx.2.2.2.1.1 M1 (0 : Int32) ((M1.1 4 1) - (1 : Int32)) hT hc) hT zo_11 cv_SunnyPansModel_147 ⟨rfl, rfl, Nat.le_of_ble_eq_true rfl, Nat.le_of_ble_eq_true rfl⟩ rfl rfl ⟨Nat.zero_le _, Nat.zero_le _⟩ (Nat.le_of_ble_eq_true rfl) d_X10_placeHere_24 ?_
  refine z_istore_n cx 2 [(2, .int v4), (1, .int v2), (0, .ref (ad 0))] d_X10_placeHere_27 rfl (by decide) rfl ?_
  refine z_bipush (v := 8) cx d_X10_placeHere_28 kb_8 ?_
  refine z_iload_n cx d_X10_placeHere_30 0 rfl ?_
  refine z_imul cx d_X10_placeHere_31 ?_
  refine z_iload_n cx d_X10_placeHere_32 1 rfl ?_
  refine z_iadd cx d_X10_placeHere_33 ?_
  exact z_iret cx hr rfl hF d_X10_placeHere_34
/-! SunnyPansModel.fault -/
theorem tfM_11_370 {n k : Nat} (h : zT shM n k 11) : zT shM n (k + 370) 34 := zT_off h (shM_f (by decide) (by decide +kernel)) (by decide) (by decide)
set_option maxRecDepth 100000 in
theorem wd_1419 : Cond.fieldLink "SunnyPansModel" 228 "SunnyPansModel" "steps" "I" ∈ tbG := tw6 119 rfl rfl
theorem fg_SunnyPansModel_228 : zGetI "SunnyPansModel" 228 10 11 25 := ⟨RX10, TX10, 40, rfl, by decide, uw_10, wd_1419, fun _ _ _ _ _ _ => ⟨_, rfl, rfl⟩⟩
theorem za_35 : zArrI 35 4 := fun _ _ _ _ _ _ => rfl
theorem tfM_11_359 {n k : Nat} (h : zT shM n k 11) : zT shM n (k + 359) 32 := zT_off h (shM_f (by decide) (by decide +kernel)) (by decide) (by decide)
theorem tfM_11_350 {n k : Nat} (h : zT shM n k 11) : zT shM n (k + 350) 32 := zT_off h (shM_f (by decide) (by decide +kernel)) (by decide) (by decide)
set_option maxRecDepth 100000 in
theorem wd_1415 : Cond.fieldLink "SunnyPansModel" 46 "SunnyPansModel" "readLine" "[[I" ∈ tbG := tw6 115 rfl rfl
theorem fg_SunnyPansModel_46 : zGetR "SunnyPansModel" 46 10 11 21 359 := ⟨RX10, TX10, 40, rfl, by decide, uw_10, wd_1415, fun _ _ _ _ _ _ => ⟨_, rfl, rfl⟩⟩
set_option maxRecDepth 100000 in
theorem wd_1414 : Cond.fieldLink "SunnyPansModel" 43 "SunnyPansModel" "line" "[[I" ∈ tbG := tw6 114 rfl rfl
theorem fg_SunnyPansModel_43 : zGetR "SunnyPansModel" 43 10 11 20 350 := ⟨RX10, TX10, 40, rfl, by decide, uw_10, wd_1414, fun _ _ _ _ _ _ => ⟨_, rfl, rfl⟩⟩
theorem d_X10_fault_0 : decode cX10_fault 0 = .ok (.aload_n 0, 1) := by decide +kernel
theorem d_X10_fault_1 : decode cX10_fault 1 = .ok (.iconst 0, 1) := by decide +kernel
theorem d_X10_fault_2 : decode cX10_fault 2 = .ok (.putfield 82, 3) := by decide +kernel
theorem d_X10_fault_5 : decode cX10_fault 5 = .ok (.aload_n 0, 1) := by decide +kernel
theorem d_X10_fault_6 : decode cX10_fault 6 = .ok (.getfield 9, 3) := by decide +kernel
theorem d_X10_fault_9 : decode cX10_fault 9 = .ok (.ireturn, 1) := by decide +kernel
def F_X10_fault (M : zMem)  : Option (Int32 × zMem) :=
  zl (zI M 0 0 (0 : Int32)) fun M1 =>
  some ((M1.1 0 3), M1)
def rm_X10_fault : Room := { frames := 2, cells := 0, slots := 0, locals := 80 }
set_option maxHeartbeats 4000000 in
set_option maxRecDepth 100000 in
theorem c_X10_fault (l : Launch) {G : zG} {ad : Nat → Nat} {n : Nat} (hA : zInj ad n) (M : zMem)  (hT : zT shM n 0 11) {r9 : Int32} {M9 : zMem} (hF : F_X10_fault M  = some (r9, M9)) : zM l yX10_fault cX10_fault 1 (some .int) rm_X10_fault G shM ad n M [.ref (ad 0)] (some (.int r9)) M9 := by
  refine zM_of hA (by decide +kernel) (lv := [(0, .ref (ad 0))]) (Nat.le_of_ble_eq_true rfl) rfl (fun p e s m args below meth c A cx hr => ?_)
  unfold F_X10_fault at hF
  refine z_aload_n cx d_X10_fault_0 0 rfl ?_
  refine z_iconst (v := 0) cx d_X10_fault_1 ki_0 ?_
  refine z_putI cx hT fp_SunnyPansModel_82 d_X10_fault_2 ?_
  refine z_nmM hF (fun M1 hF => ?_)
  refine z_aload_n cx d_X10_fault_5 0 rfl ?_
  refine z_getI cx hT fg_SunnyPansModel_9 d_X10_fault_6 ?_
  exact z_iret cx hr rfl hF d_X10_fault_9
/-! SunnyPansModel.isWithin -/
theorem d_X10_isWithin_0 : decode cX10_isWithin 0 = .ok (.iload_n 1, 1) := by decide +kernel
theorem d_X10_isWithin_1 : decode cX10_isWithin 1 = .ok (.iconst 0, 1) := by decide +kernel
theorem d_X10_isWithin_2 : decode cX10_isWithin 2 = .ok (.aload_n 0, 1) := by decide +kernel
theorem d_X10_isWithin_3 : decode cX10_isWithin 3 = .ok (.getfield 23, 3) := by decide +kernel
theorem d_X10_isWithin_6 : decode cX10_isWithin 6 = .ok (.iconst 0, 1) := by decide +kernel
theorem d_X10_isWithin_7 : decode cX10_isWithin 7 = .ok (.iaload, 1) := by decide +kernel
theorem d_X10_isWithin_8 : decode cX10_isWithin 8 = .ok (.iconst 1, 1) := by decide +kernel
theorem d_X10_isWithin_9 : decode cX10_isWithin 9 = .ok (.isub, 1) := by decide +kernel
theorem d_X10_isWithin_10 : decode cX10_isWithin 10 = .ok (.invokestatic 116, 3) := by decide +kernel
theorem d_X10_isWithin_13 : decode cX10_isWithin 13 = .ok (.ifCond .eq 23, 3) := by decide +kernel
theorem d_X10_isWithin_16 : decode cX10_isWithin 16 = .ok (.iload_n 2, 1) := by decide +kernel
theorem d_X10_isWithin_17 : decode cX10_isWithin 17 = .ok (.iconst 0, 1) := by decide +kernel
theorem d_X10_isWithin_18 : decode cX10_isWithin 18 = .ok (.aload_n 0, 1) := by decide +kernel
theorem d_X10_isWithin_19 : decode cX10_isWithin 19 = .ok (.getfield 23, 3) := by decide +kernel
theorem d_X10_isWithin_22 : decode cX10_isWithin 22 = .ok (.iconst 1, 1) := by decide +kernel
theorem d_X10_isWithin_23 : decode cX10_isWithin 23 = .ok (.iaload, 1) := by decide +kernel
theorem d_X10_isWithin_24 : decode cX10_isWithin 24 = .ok (.iconst 1, 1) := by decide +kernel
theorem d_X10_isWithin_25 : decode cX10_isWithin 25 = .ok (.isub, 1) := by decide +kernel
theorem d_X10_isWithin_26 : decode cX10_isWithin 26 = .ok (.invokestatic 116, 3) := by decide +kernel
theorem d_X10_isWithin_29 : decode cX10_isWithin 29 = .ok (.ifCond .eq 7, 3) := by decide +kernel
theorem d_X10_isWithin_32 : decode cX10_isWithin 32 = .ok (.iconst 1, 1) := by decide +kernel
theorem d_X10_isWithin_33 : decode cX10_isWithin 33 = .ok (.goto 4, 3) := by decide +kernel
theorem d_X10_isWithin_36 : decode cX10_isWithin 36 = .ok (.iconst 0, 1) := by decide +kernel
theorem d_X10_isWithin_37 : decode cX10_isWithin 37 = .ok (.ireturn, 1) := by decide +kernel
def F_X10_isWithin (M : zMem) (p0 : Int32) (p1 : Int32) : Option (Int32 × zMem) :=
  zb (F_X10_in M p0 (0 : Int32) ((M.1 4 0) - (1 : Int32))) fun v2 M1 =>
  if v2 = 0 then
    some ((0 : Int32), M1)
  else
    zb (F_X10_in M1 p1 (0 : Int32) ((M1.1 4 1) - (1 : Int32))) fun v4 M3 =>
    if v4 = 0 then
      some ((0 : Int32), M3)
    else
      some ((1 : Int32), M3)
def rm_X10_isWithin : Room := { frames := 3, cells := 0, slots := 0, locals := 102 }
set_option maxHeartbeats 4000000 in
set_option maxRecDepth 100000 in
theorem c_X10_isWithin (l : Launch) {G : zG} {ad : Nat → Nat} {n : Nat} (hA : zInj ad n) (M : zMem) (p0 : Int32) (p1 : Int32) (hT : zT shM n 0 11) {r9 : Int32} {M9 : zMem} (hF : F_X10_isWithin M p0 p1 = some (r9, M9)) : zM l yX10_isWithin cX10_isWithin 3 (some .boolean) rm_X10_isWithin G shM ad n M [.ref (ad 0), .int p0, .int p1] (some (.int r9)) M9 := by
  refine zM_of hA (by decide +kernel) (lv := [(0, .ref (ad 0)), (1, .int p0), (2, .int p1)]) (Nat.le_of_ble_eq_true rfl) rfl (fun p e s m args below meth c A cx hr => ?_)
  unfold F_X10_isWithin at hF
  refine z_iload_n cx d_X10_isWithin_0 1 rfl ?_
  refine z_iconst (v := 0) cx d_X10_isWithin_1 ki_0 ?_
  refine z_aload_n cx d_X10_isWithin_2 0 rfl ?_
  refine z_getR cx hT fg_SunnyPansModel_23 4 rfl d_X10_isWithin_3 ?_
  refine z_iconst (v := 0) cx d_X10_isWithin_6 ki_0 ?_
  refine z_iald cx (tfM_11_4 hT) za_28 (zvp (by decide +kernel)) 0 rfl d_X10_isWithin_7 ?_
  refine z_iconst (v := 1) cx d_X10_isWithin_8 ki_1 ?_
  refine z_isub cx d_X10_isWithin_9 ?_
  obtain ⟨v2, M1, hc, hF⟩ := zb_inv hF
  refine z_callS cx (As := [.int p0, .int (0 : Int32), .int ((M.1 4 0) - (1 : Int32))]) (rest := []) (c_X10_in l cx.2.2.2.1.1 M p0 (0 : Int32) ((M.1 4 0) - (1 : Int32))  hc) cs_SunnyPansModel_116 ⟨rfl, rfl, Nat.le_of_ble_eq_true rfl, Nat.le_of_ble_eq_true rfl⟩ rfl rfl ⟨Nat.zero_le _, Nat.zero_le _⟩ (Nat.le_of_ble_eq_true rfl) d_X10_isWithin_10 ?_
  refine z_if_eq cx 36 d_X10_isWithin_13 (by decide) hF (fun hF => ?_) (fun hF => ?_)
  · refine z_iconst (v := 0) cx d_X10_isWithin_36 ki_0 ?_
    exact z_iret cx hr nb0 hF d_X10_isWithin_37
  refine z_iload_n cx d_X10_isWithin_16 2 rfl ?_
  refine z_iconst (v := 0) cx d_X10_isWithin_17 ki_0 ?_
  refine z_aload_n cx d_X10_isWithin_18 0 rfl ?_
  refine z_getR cx hT fg_SunnyPansModel_23 4 rfl d_X10_isWithin_19 ?_
  refine z_iconst (v := 1) cx d_X10_isWithin_22 ki_1 ?_
  refine z_iald cx (tfM_11_4 hT) za_28 (zvp (by decide +kernel)) 1 rfl d_X10_isWithin_23 ?_
  refine z_iconst (v := 1) cx d_X10_isWithin_24 ki_1 ?_
  refine z_isub cx d_X10_isWithin_25 ?_
  obtain ⟨v4, M3, hc, hF⟩ := zb_inv hF
  refine z_callS cx (As := [.int p1, .int (0 : Int32), .int ((M1.1 4 1) - (1 : Int32))]) (rest := []) (c_X10_in l cx.2.2.2.1.1 M1 p1 (0 : Int32) ((M1.1 4 1) - (1 : Int32))  hc) cs_SunnyPansModel_116 ⟨rfl, rfl, Nat.le_of_ble_eq_true rfl, Nat.le_of_ble_eq_true rfl⟩ rfl rfl ⟨Nat.zero_le _, Nat.zero_le _⟩ (Nat.le_of_ble_eq_true rfl) d_X10_isWithin_26 ?_
  refine z_if_eq cx 36 d_X10_isWithin_29 (by decide) hF (fun hF => ?_) (fun hF => ?_)
  · refine z_iconst (v := 0) cx d_X10_isWithin_36 ki_0 ?_
    exact z_iret cx hr nb0 hF d_X10_isWithin_37
  refine z_iconst (v := 1) cx d_X10_isWithin_32 ki_1 ?_
  refine z_goto cx 37 d_X10_isWithin_33 (by decide) ?_
  exact z_iret cx hr nb1 hF d_X10_isWithin_37
/-! SunnyPansModel.isHere -/
set_option maxRecDepth 100000 in
theorem wd_1687 : Cond.code yX10_isWithin cX10_isWithin 3 (some .boolean) ∈ tbG := tw7 147 rfl rfl
set_option maxRecDepth 100000 in
theorem wd_1684 : Cond.methodLink "SunnyPansModel" 237 yX10_isWithin ∈ tbG := tw7 144 rfl rfl
set_option maxRecDepth 100000 in
theorem wd_1686 : Cond.instanceMethod yX10_isWithin ∈ tbG := tw7 146 rfl rfl
theorem wd_72 : Cond.selects "SunnyPansModel" yX10_isWithin yX10_isWithin ∈ tbG := tw 72 (by decide +kernel) rfl
theorem cv_SunnyPansModel_237 : zCV "SunnyPansModel" 237 "SunnyPansModel" yX10_isWithin cX10_isWithin 3 (some .boolean) 2 := zCV_of wd_1684 wd_1686 wd_72 wd_111 wd_1687 (by decide +kernel)
theorem d_X10_isHere_0 : decode cX10_isHere 0 = .ok (.aload_n 0, 1) := by decide +kernel
theorem d_X10_isHere_1 : decode cX10_isHere 1 = .ok (.iload_n 1, 1) := by decide +kernel
theorem d_X10_isHere_2 : decode cX10_isHere 2 = .ok (.bipush 8, 2) := by decide +kernel
theorem d_X10_isHere_4 : decode cX10_isHere 4 = .ok (.irem, 1) := by decide +kernel
theorem d_X10_isHere_5 : decode cX10_isHere 5 = .ok (.iload_n 1, 1) := by decide +kernel
theorem d_X10_isHere_6 : decode cX10_isHere 6 = .ok (.bipush 8, 2) := by decide +kernel
theorem d_X10_isHere_8 : decode cX10_isHere 8 = .ok (.idiv, 1) := by decide +kernel
theorem d_X10_isHere_9 : decode cX10_isHere 9 = .ok (.invokevirtual 237, 3) := by decide +kernel
theorem d_X10_isHere_12 : decode cX10_isHere 12 = .ok (.ireturn, 1) := by decide +kernel
def F_X10_isHere (M : zMem) (p0 : Int32) : Option (Int32 × zMem) :=
  zb (F_X10_isWithin M (p0 - p0 / (8 : Int32) * (8 : Int32)) (p0 / (8 : Int32))) fun v2 M1 =>
  gd (v2 == 0 || v2 == 1) <|
  some (v2, M1)
def rm_X10_isHere : Room := { frames := 4, cells := 0, slots := 0, locals := 124 }
set_option maxHeartbeats 4000000 in
set_option maxRecDepth 100000 in
theorem c_X10_isHere (l : Launch) {G : zG} {ad : Nat → Nat} {n : Nat} (hA : zInj ad n) (M : zMem) (p0 : Int32) (hT : zT shM n 0 11) {r9 : Int32} {M9 : zMem} (hF : F_X10_isHere M p0 = some (r9, M9)) : zM l yX10_isHere cX10_isHere 2 (some .boolean) rm_X10_isHere G shM ad n M [.ref (ad 0), .int p0] (some (.int r9)) M9 := by
  refine zM_of hA (by decide +kernel) (lv := [(0, .ref (ad 0)), (1, .int p0)]) (Nat.le_of_ble_eq_true rfl) rfl (fun p e s m args below meth c A cx hr => ?_)
  unfold F_X10_isHere at hF
  refine z_aload_n cx d_X10_isHere_0 0 rfl ?_
  refine z_iload_n cx d_X10_isHere_1 1 rfl ?_
  refine z_bipush (v := 8) cx d_X10_isHere_2 kb_8 ?_
  refine z_irem cx d_X10_isHere_4 (by decide) ?_
  refine z_iload_n cx d_X10_isHere_5 1 rfl ?_
  refine z_bipush (v := 8) cx d_X10_isHere_6 kb_8 ?_
  refine z_idiv cx d_X10_isHere_8 (by decide) ?_
  obtain ⟨v2, M1, hc, hF⟩ := zb_inv hF
  refine z_callV cx (As := [.int (p0 - p0 / (8 : Int32) * (8 : Int32)), .int (p0 / (8 : Int32))]) (rest := []) (c_X10_isWithin l cx.2.2.2.1.1 M (p0 - p0 / (8 : Int32) * (8 : Int32)) (p0 / (8 : Int32)) hT hc) hT zo_11 cv_SunnyPansModel_237 ⟨rfl, rfl, Nat.le_of_ble_eq_true rfl, Nat.le_of_ble_eq_true rfl⟩ rfl rfl ⟨Nat.zero_le _, Nat.zero_le _⟩ (Nat.le_of_ble_eq_true rfl) d_X10_isHere_9 ?_
  obtain ⟨hn3, hF⟩ := gd_inv hF
  exact z_iret cx hr (nbx hn3) hF d_X10_isHere_12
/-! SunnyPansModel.eastOf -/
theorem d_X10_eastOf_0 : decode cX10_eastOf 0 = .ok (.iload_n 0, 1) := by decide +kernel
theorem d_X10_eastOf_1 : decode cX10_eastOf 1 = .ok (.ifCond .eq 8, 3) := by decide +kernel
theorem d_X10_eastOf_4 : decode cX10_eastOf 4 = .ok (.iload_n 0, 1) := by decide +kernel
theorem d_X10_eastOf_5 : decode cX10_eastOf 5 = .ok (.iconst 4, 1) := by decide +kernel
theorem d_X10_eastOf_6 : decode cX10_eastOf 6 = .ok (.if_icmp .ne 7, 3) := by decide +kernel
theorem d_X10_eastOf_9 : decode cX10_eastOf 9 = .ok (.iconst 0, 1) := by decide +kernel
theorem d_X10_eastOf_10 : decode cX10_eastOf 10 = .ok (.goto 13, 3) := by decide +kernel
theorem d_X10_eastOf_13 : decode cX10_eastOf 13 = .ok (.iload_n 0, 1) := by decide +kernel
theorem d_X10_eastOf_14 : decode cX10_eastOf 14 = .ok (.iconst 4, 1) := by decide +kernel
theorem d_X10_eastOf_15 : decode cX10_eastOf 15 = .ok (.if_icmp .ge 7, 3) := by decide +kernel
theorem d_X10_eastOf_18 : decode cX10_eastOf 18 = .ok (.iconst (-1), 1) := by decide +kernel
theorem d_X10_eastOf_19 : decode cX10_eastOf 19 = .ok (.goto 4, 3) := by decide +kernel
theorem d_X10_eastOf_22 : decode cX10_eastOf 22 = .ok (.iconst 1, 1) := by decide +kernel
theorem d_X10_eastOf_23 : decode cX10_eastOf 23 = .ok (.ireturn, 1) := by decide +kernel
def F_X10_eastOf (M : zMem) (p0 : Int32) : Option (Int32 × zMem) :=
  if p0 = 0 then
    some ((0 : Int32), M)
  else
    if p0 = (4 : Int32) then
      some ((0 : Int32), M)
    else
      if (4 : Int32) ≤ p0 then
        some ((1 : Int32), M)
      else
        some ((-1 : Int32), M)
def rm_X10_eastOf : Room := { frames := 2, cells := 0, slots := 0, locals := 80 }
set_option maxHeartbeats 4000000 in
set_option maxRecDepth 100000 in
theorem c_X10_eastOf (l : Launch) {G : zG} {ad : Nat → Nat} {n : Nat} (hA : zInj ad n) (M : zMem) (p0 : Int32) {r9 : Int32} {M9 : zMem} (hF : F_X10_eastOf M p0 = some (r9, M9)) : zM l yX10_eastOf cX10_eastOf 1 (some .int) rm_X10_eastOf G shM ad n M [.int p0] (some (.int r9)) M9 := by
  refine zM_of hA (by decide +kernel) (lv := [(0, .int p0)]) (Nat.le_of_ble_eq_true rfl) rfl (fun p e s m args below meth c A cx hr => ?_)
  unfold F_X10_eastOf at hF
  refine z_iload_n cx d_X10_eastOf_0 0 rfl ?_
  refine z_if_eq cx 9 d_X10_eastOf_1 (by decide) hF (fun hF => ?_) (fun hF => ?_)
  · refine z_iconst (v := 0) cx d_X10_eastOf_9 ki_0 ?_
    refine z_goto cx 23 d_X10_eastOf_10 (by decide) ?_
    exact z_iret cx hr rfl hF d_X10_eastOf_23
  refine z_iload_n cx d_X10_eastOf_4 0 rfl ?_
  refine z_iconst (v := 4) cx d_X10_eastOf_5 ki_4 ?_
  refine z_icmp_ne cx 13 d_X10_eastOf_6 (by decide) hF (fun hF => ?_) (fun hF => ?_)
  · refine z_iload_n cx d_X10_eastOf_13 0 rfl ?_
    refine z_iconst (v := 4) cx d_X10_eastOf_14 ki_4 ?_
    refine z_icmp_ge cx 22 d_X10_eastOf_15 (by decide) hF (fun hF => ?_) (fun hF => ?_)
    · refine z_iconst (v := 1) cx d_X10_eastOf_22 ki_1 ?_
      exact z_iret cx hr rfl hF d_X10_eastOf_23
    refine z_iconst (v := -1) cx d_X10_eastOf_18 ki_m1 ?_
    refine z_goto cx 23 d_X10_eastOf_19 (by decide) ?_
    exact z_iret cx hr rfl hF d_X10_eastOf_23
  refine z_iconst (v := 0) cx d_X10_eastOf_9 ki_0 ?_
  refine z_goto cx 23 d_X10_eastOf_10 (by decide) ?_
  exact z_iret cx hr rfl hF d_X10_eastOf_23
/-! SunnyPansModel.southOf -/
theorem d_X10_southOf_0 : decode cX10_southOf 0 = .ok (.iload_n 0, 1) := by decide +kernel
theorem d_X10_southOf_1 : decode cX10_southOf 1 = .ok (.iconst 2, 1) := by decide +kernel
theorem d_X10_southOf_2 : decode cX10_southOf 2 = .ok (.if_icmp .eq 9, 3) := by decide +kernel
theorem d_X10_southOf_5 : decode cX10_southOf 5 = .ok (.iload_n 0, 1) := by decide +kernel
theorem d_X10_southOf_6 : decode cX10_southOf 6 = .ok (.bipush 6, 2) := by decide +kernel
theorem d_X10_southOf_8 : decode cX10_southOf 8 = .ok (.if_icmp .ne 7, 3) := by decide +kernel
theorem d_X10_southOf_11 : decode cX10_southOf 11 = .ok (.iconst 0, 1) := by decide +kernel
theorem d_X10_southOf_12 : decode cX10_southOf 12 = .ok (.goto 19, 3) := by decide +kernel
theorem d_X10_southOf_15 : decode cX10_southOf 15 = .ok (.iload_n 0, 1) := by decide +kernel
theorem d_X10_southOf_16 : decode cX10_southOf 16 = .ok (.iconst 2, 1) := by decide +kernel
theorem d_X10_southOf_17 : decode cX10_southOf 17 = .ok (.if_icmp .le 13, 3) := by decide +kernel
theorem d_X10_southOf_20 : decode cX10_southOf 20 = .ok (.iload_n 0, 1) := by decide +kernel
theorem d_X10_southOf_21 : decode cX10_southOf 21 = .ok (.bipush 6, 2) := by decide +kernel
theorem d_X10_southOf_23 : decode cX10_southOf 23 = .ok (.if_icmp .ge 7, 3) := by decide +kernel
theorem d_X10_southOf_26 : decode cX10_southOf 26 = .ok (.iconst (-1), 1) := by decide +kernel
theorem d_X10_southOf_27 : decode cX10_southOf 27 = .ok (.goto 4, 3) := by decide +kernel
theorem d_X10_southOf_30 : decode cX10_southOf 30 = .ok (.iconst 1, 1) := by decide +kernel
theorem d_X10_southOf_31 : decode cX10_southOf 31 = .ok (.ireturn, 1) := by decide +kernel
def F_X10_southOf (M : zMem) (p0 : Int32) : Option (Int32 × zMem) :=
  if p0 = (2 : Int32) then
    some ((0 : Int32), M)
  else
    if p0 = (6 : Int32) then
      some ((0 : Int32), M)
    else
      if p0 ≤ (2 : Int32) then
        some ((1 : Int32), M)
      else
        if (6 : Int32) ≤ p0 then
          some ((1 : Int32), M)
        else
          some ((-1 : Int32), M)
def rm_X10_southOf : Room := { frames := 2, cells := 0, slots := 0, locals := 80 }
set_option maxHeartbeats 4000000 in
set_option maxRecDepth 100000 in
theorem c_X10_southOf (l : Launch) {G : zG} {ad : Nat → Nat} {n : Nat} (hA : zInj ad n) (M : zMem) (p0 : Int32) {r9 : Int32} {M9 : zMem} (hF : F_X10_southOf M p0 = some (r9, M9)) : zM l yX10_southOf cX10_southOf 1 (some .int) rm_X10_southOf G shM ad n M [.int p0] (some (.int r9)) M9 := by
  refine zM_of hA (by decide +kernel) (lv := [(0, .int p0)]) (Nat.le_of_ble_eq_true rfl) rfl (fun p e s m args below meth c A cx hr => ?_)
  unfold F_X10_southOf at hF
  refine z_iload_n cx d_X10_southOf_0 0 rfl ?_
  refine z_iconst (v := 2) cx d_X10_southOf_1 ki_2 ?_
  refine z_icmp_eq cx 11 d_X10_southOf_2 (by decide) hF (fun hF => ?_) (fun hF => ?_)
  · refine z_iconst (v := 0) cx d_X10_southOf_11 ki_0 ?_
    refine z_goto cx 31 d_X10_southOf_12 (by decide) ?_
    exact z_iret cx hr rfl hF d_X10_southOf_31
  refine z_iload_n cx d_X10_southOf_5 0 rfl ?_
  refine z_bipush (v := 6) cx d_X10_southOf_6 kb_6 ?_
  refine z_icmp_ne cx 15 d_X10_southOf_8 (by decide) hF (fun hF => ?_) (fun hF => ?_)
  · refine z_iload_n cx d_X10_southOf_15 0 rfl ?_
    refine z_iconst (v := 2) cx d_X10_southOf_16 ki_2 ?_
    refine z_icmp_le cx 30 d_X10_southOf_17 (by decide) hF (fun hF => ?_) (fun hF => ?_)
    · refine z_iconst (v := 1) cx d_X10_southOf_30 ki_1 ?_
      exact z_iret cx hr rfl hF d_X10_southOf_31
    refine z_iload_n cx d_X10_southOf_20 0 rfl ?_
    refine z_bipush (v := 6) cx d_X10_southOf_21 kb_6 ?_
    refine z_icmp_ge cx 30 d_X10_southOf_23 (by decide) hF (fun hF => ?_) (fun hF => ?_)
    · refine z_iconst (v := 1) cx d_X10_southOf_30 ki_1 ?_
      exact z_iret cx hr rfl hF d_X10_southOf_31
    refine z_iconst (v := -1) cx d_X10_southOf_26 ki_m1 ?_
    refine z_goto cx 31 d_X10_southOf_27 (by decide) ?_
    exact z_iret cx hr rfl hF d_X10_southOf_31
  refine z_iconst (v := 0) cx d_X10_southOf_11 ki_0 ?_
  refine z_goto cx 31 d_X10_southOf_12 (by decide) ?_
  exact z_iret cx hr rfl hF d_X10_southOf_31
