/-! SunnyPansModel.high -/
theorem d_X10_high_0 : decode cX10_high 0 = .ok (.iload_n 0, 1) := by decide +kernel
theorem d_X10_high_1 : decode cX10_high 1 = .ok (.ifCond .ne 7, 3) := by decide +kernel
theorem d_X10_high_4 : decode cX10_high 4 = .ok (.iconst 0, 1) := by decide +kernel
theorem d_X10_high_5 : decode cX10_high 5 = .ok (.goto 9, 3) := by decide +kernel
theorem d_X10_high_8 : decode cX10_high 8 = .ok (.iload_n 0, 1) := by decide +kernel
theorem d_X10_high_9 : decode cX10_high 9 = .ok (.bipush 50, 2) := by decide +kernel
theorem d_X10_high_11 : decode cX10_high 11 = .ok (.idiv, 1) := by decide +kernel
theorem d_X10_high_12 : decode cX10_high 12 = .ok (.iconst 1, 1) := by decide +kernel
theorem d_X10_high_13 : decode cX10_high 13 = .ok (.iadd, 1) := by decide +kernel
theorem d_X10_high_14 : decode cX10_high 14 = .ok (.ireturn, 1) := by decide +kernel
def F_X10_high (M : zMem) (p0 : Int32) : Option (Int32 × zMem) :=
  if p0 = 0 then
    some ((0 : Int32), M)
  else
    some (((p0 / (50 : Int32)) + (1 : Int32)), M)
def rm_X10_high : Room := { frames := 2, cells := 0, slots := 0, locals := 80 }
set_option maxHeartbeats 4000000 in
set_option maxRecDepth 100000 in
theorem c_X10_high (l : Launch) {G : zG} {ad : Nat → Nat} {n : Nat} (hA : zInj ad n) (M : zMem) (p0 : Int32) {r9 : Int32} {M9 : zMem} (hF : F_X10_high M p0 = some (r9, M9)) : zM l yX10_high cX10_high 1 (some .int) rm_X10_high G shM ad n M [.int p0] (some (.int r9)) M9 := by
  refine zM_of hA (by decide +kernel) (lv := [(0, .int p0)]) (Nat.le_of_ble_eq_true rfl) rfl (fun p e s m args below meth c A cx hr => ?_)
  unfold F_X10_high at hF
  refine z_iload_n cx d_X10_high_0 0 rfl ?_
  refine z_if_ne cx 8 d_X10_high_1 (by decide) hF (fun hF => ?_) (fun hF => ?_)
  · refine z_iload_n cx d_X10_high_8 0 rfl ?_
    refine z_bipush (v := 50) cx d_X10_high_9 kb_50 ?_
    refine z_idiv cx d_X10_high_11 (by decide) ?_
    refine z_iconst (v := 1) cx d_X10_high_12 ki_1 ?_
    refine z_iadd cx d_X10_high_13 ?_
    exact z_iret cx hr rfl hF d_X10_high_14
  refine z_iconst (v := 0) cx d_X10_high_4 ki_0 ?_
  refine z_goto cx 14 d_X10_high_5 (by decide) ?_
  exact z_iret cx hr rfl hF d_X10_high_14
/-! SunnyPansModel.lengthOf -/
set_option maxRecDepth 100000 in
theorem wd_1716 : Cond.code yX10_high cX10_high 1 (some .int) ∈ tbG := tw7 176 rfl rfl
set_option maxRecDepth 100000 in
theorem wd_1714 : Cond.methodLink "SunnyPansModel" 241 yX10_high ∈ tbG := tw7 174 rfl rfl
set_option maxRecDepth 100000 in
theorem wd_1715 : Cond.static yX10_high ∈ tbG := tw7 175 rfl rfl
theorem cs_SunnyPansModel_241 : zCS "SunnyPansModel" 241 yX10_high cX10_high 1 (some .int) 1 := zCS_of wd_1714 wd_1715 wd_111 wd_1716 (by decide +kernel)
theorem d_X10_lengthOf_0 : decode cX10_lengthOf 0 = .ok (.iload_n 1, 1) := by decide +kernel
theorem d_X10_lengthOf_1 : decode cX10_lengthOf 1 = .ok (.invokestatic 241, 3) := by decide +kernel
theorem d_X10_lengthOf_4 : decode cX10_lengthOf 4 = .ok (.aload_n 0, 1) := by decide +kernel
theorem d_X10_lengthOf_5 : decode cX10_lengthOf 5 = .ok (.getfield 34, 3) := by decide +kernel
theorem d_X10_lengthOf_8 : decode cX10_lengthOf 8 = .ok (.iload_n 2, 1) := by decide +kernel
theorem d_X10_lengthOf_9 : decode cX10_lengthOf 9 = .ok (.aaload, 1) := by decide +kernel
theorem d_X10_lengthOf_10 : decode cX10_lengthOf 10 = .ok (.iconst 1, 1) := by decide +kernel
theorem d_X10_lengthOf_11 : decode cX10_lengthOf 11 = .ok (.iaload, 1) := by decide +kernel
theorem d_X10_lengthOf_12 : decode cX10_lengthOf 12 = .ok (.imul, 1) := by decide +kernel
theorem d_X10_lengthOf_13 : decode cX10_lengthOf 13 = .ok (.bipush 10, 2) := by decide +kernel
theorem d_X10_lengthOf_15 : decode cX10_lengthOf 15 = .ok (.idiv, 1) := by decide +kernel
theorem d_X10_lengthOf_16 : decode cX10_lengthOf 16 = .ok (.ireturn, 1) := by decide +kernel
def F_X10_lengthOf (M : zMem) (p0 : Int32) (p1 : Int32) : Option (Int32 × zMem) :=
  zb (F_X10_high M p0) fun v2 M1 =>
  gin p1 10 <|
  some (((v2 * (M1.1 (17 + (1 + 1 * p1.toNatClampNeg)) 1)) / (10 : Int32)), M1)
def rm_X10_lengthOf : Room := { frames := 3, cells := 0, slots := 0, locals := 100 }
set_option maxHeartbeats 4000000 in
set_option maxRecDepth 100000 in
theorem c_X10_lengthOf (l : Launch) {G : zG} {ad : Nat → Nat} {n : Nat} (hA : zInj ad n) (M : zMem) (p0 : Int32) (p1 : Int32) (hT : zT shM n 0 11) {r9 : Int32} {M9 : zMem} (hF : F_X10_lengthOf M p0 p1 = some (r9, M9)) : zM l yX10_lengthOf cX10_lengthOf 3 (some .int) rm_X10_lengthOf G shM ad n M [.ref (ad 0), .int p0, .int p1] (some (.int r9)) M9 := by
  refine zM_of hA (by decide +kernel) (lv := [(0, .ref (ad 0)), (1, .int p0), (2, .int p1)]) (Nat.le_of_ble_eq_true rfl) rfl (fun p e s m args below meth c A cx hr => ?_)
  unfold F_X10_lengthOf at hF
  refine z_iload_n cx d_X10_lengthOf_0 1 rfl ?_
  obtain ⟨v2, M1, hc, hF⟩ := zb_inv hF
  refine z_callS cx (As := [.int p0]) (rest := []) (c_X10_high l cx.2.2.2.1.1 M p0  hc) cs_SunnyPansModel_241 ⟨rfl, rfl, Nat.le_of_ble_eq_true rfl, Nat.le_of_ble_eq_true rfl⟩ rfl rfl ⟨Nat.zero_le _, Nat.zero_le _⟩ (Nat.le_of_ble_eq_true rfl) d_X10_lengthOf_1 ?_
  refine z_aload_n cx d_X10_lengthOf_4 0 rfl ?_
  refine z_getR cx hT fg_SunnyPansModel_34 17 rfl d_X10_lengthOf_5 ?_
  refine z_iload_n cx d_X10_lengthOf_8 2 rfl ?_
  obtain ⟨hi3, hF⟩ := gin_inv hF
  refine z_aald cx (tfM_11_17 hT) za_30 hi3 (17 + (1 + 1 * p1.toNatClampNeg)) rfl d_X10_lengthOf_9 ?_
  refine z_iconst (v := 1) cx d_X10_lengthOf_10 ki_1 ?_
  refine z_iald cx (teM_30 (tfM_11_17 hT) hi3) za_27 (zvp (by decide +kernel)) 1 rfl d_X10_lengthOf_11 ?_
  refine z_imul cx d_X10_lengthOf_12 ?_
  refine z_bipush (v := 10) cx d_X10_lengthOf_13 kb_10 ?_
  refine z_idiv cx d_X10_lengthOf_15 (by decide) ?_
  exact z_iret cx hr rfl hF d_X10_lengthOf_16
/-! SunnyPansModel.covers -/
set_option maxRecDepth 100000 in
theorem wd_1713 : Cond.code yX10_lengthOf cX10_lengthOf 3 (some .int) ∈ tbG := tw7 173 rfl rfl
set_option maxRecDepth 100000 in
theorem wd_1710 : Cond.methodLink "SunnyPansModel" 244 yX10_lengthOf ∈ tbG := tw7 170 rfl rfl
set_option maxRecDepth 100000 in
theorem wd_1712 : Cond.instanceMethod yX10_lengthOf ∈ tbG := tw7 172 rfl rfl
theorem wd_77 : Cond.selects "SunnyPansModel" yX10_lengthOf yX10_lengthOf ∈ tbG := tw 77 (by decide +kernel) rfl
theorem cv_SunnyPansModel_244 : zCV "SunnyPansModel" 244 "SunnyPansModel" yX10_lengthOf cX10_lengthOf 3 (some .int) 2 := zCV_of wd_1710 wd_1712 wd_77 wd_111 wd_1713 (by decide +kernel)
set_option maxRecDepth 100000 in
theorem wd_1719 : Cond.code yX10_eastOf cX10_eastOf 1 (some .int) ∈ tbG := tw7 179 rfl rfl
set_option maxRecDepth 100000 in
theorem wd_1717 : Cond.methodLink "SunnyPansModel" 247 yX10_eastOf ∈ tbG := tw7 177 rfl rfl
set_option maxRecDepth 100000 in
theorem wd_1718 : Cond.static yX10_eastOf ∈ tbG := tw7 178 rfl rfl
theorem cs_SunnyPansModel_247 : zCS "SunnyPansModel" 247 yX10_eastOf cX10_eastOf 1 (some .int) 1 := zCS_of wd_1717 wd_1718 wd_111 wd_1719 (by decide +kernel)
set_option maxRecDepth 100000 in
theorem wd_1722 : Cond.code yX10_southOf cX10_southOf 1 (some .int) ∈ tbG := tw7 182 rfl rfl
set_option maxRecDepth 100000 in
theorem wd_1720 : Cond.methodLink "SunnyPansModel" 250 yX10_southOf ∈ tbG := tw7 180 rfl rfl
set_option maxRecDepth 100000 in
theorem wd_1721 : Cond.static yX10_southOf ∈ tbG := tw7 181 rfl rfl
theorem cs_SunnyPansModel_250 : zCS "SunnyPansModel" 250 yX10_southOf cX10_southOf 1 (some .int) 1 := zCS_of wd_1720 wd_1721 wd_111 wd_1722 (by decide +kernel)
theorem d_X10_covers_0 : decode cX10_covers 0 = .ok (.iload_n 2, 1) := by decide +kernel
theorem d_X10_covers_1 : decode cX10_covers 1 = .ok (.ifCond .ne 5, 3) := by decide +kernel
theorem d_X10_covers_4 : decode cX10_covers 4 = .ok (.iconst 0, 1) := by decide +kernel
theorem d_X10_covers_5 : decode cX10_covers 5 = .ok (.ireturn, 1) := by decide +kernel
theorem d_X10_covers_6 : decode cX10_covers 6 = .ok (.iload_n 1, 1) := by decide +kernel
theorem d_X10_covers_7 : decode cX10_covers 7 = .ok (.iload_n 3, 1) := by decide +kernel
theorem d_X10_covers_8 : decode cX10_covers 8 = .ok (.if_icmp .ne 5, 3) := by decide +kernel
theorem d_X10_covers_11 : decode cX10_covers 11 = .ok (.iconst 1, 1) := by decide +kernel
theorem d_X10_covers_12 : decode cX10_covers 12 = .ok (.ireturn, 1) := by decide +kernel
theorem d_X10_covers_13 : decode cX10_covers 13 = .ok (.iload_n 3, 1) := by decide +kernel
theorem d_X10_covers_14 : decode cX10_covers 14 = .ok (.bipush 8, 2) := by decide +kernel
theorem d_X10_covers_16 : decode cX10_covers 16 = .ok (.irem, 1) := by decide +kernel
theorem d_X10_covers_17 : decode cX10_covers 17 = .ok (.iload_n 1, 1) := by decide +kernel
theorem d_X10_covers_18 : decode cX10_covers 18 = .ok (.bipush 8, 2) := by decide +kernel
theorem d_X10_covers_20 : decode cX10_covers 20 = .ok (.irem, 1) := by decide +kernel
theorem d_X10_covers_21 : decode cX10_covers 21 = .ok (.isub, 1) := by decide +kernel
theorem d_X10_covers_22 : decode cX10_covers 22 = .ok (.istore 5, 2) := by decide +kernel
theorem d_X10_covers_24 : decode cX10_covers 24 = .ok (.iload_n 3, 1) := by decide +kernel
theorem d_X10_covers_25 : decode cX10_covers 25 = .ok (.bipush 8, 2) := by decide +kernel
theorem d_X10_covers_27 : decode cX10_covers 27 = .ok (.idiv, 1) := by decide +kernel
theorem d_X10_covers_28 : decode cX10_covers 28 = .ok (.iload_n 1, 1) := by decide +kernel
theorem d_X10_covers_29 : decode cX10_covers 29 = .ok (.bipush 8, 2) := by decide +kernel
theorem d_X10_covers_31 : decode cX10_covers 31 = .ok (.idiv, 1) := by decide +kernel
theorem d_X10_covers_32 : decode cX10_covers 32 = .ok (.isub, 1) := by decide +kernel
theorem d_X10_covers_33 : decode cX10_covers 33 = .ok (.istore 6, 2) := by decide +kernel
theorem d_X10_covers_35 : decode cX10_covers 35 = .ok (.iload 5, 2) := by decide +kernel
theorem d_X10_covers_37 : decode cX10_covers 37 = .ok (.iload 5, 2) := by decide +kernel
theorem d_X10_covers_39 : decode cX10_covers 39 = .ok (.ineg, 1) := by decide +kernel
theorem d_X10_covers_40 : decode cX10_covers 40 = .ok (.invokestatic 218, 3) := by decide +kernel
theorem d_X10_covers_43 : decode cX10_covers 43 = .ok (.iload 6, 2) := by decide +kernel
theorem d_X10_covers_45 : decode cX10_covers 45 = .ok (.iload 6, 2) := by decide +kernel
theorem d_X10_covers_47 : decode cX10_covers 47 = .ok (.ineg, 1) := by decide +kernel
theorem d_X10_covers_48 : decode cX10_covers 48 = .ok (.invokestatic 218, 3) := by decide +kernel
theorem d_X10_covers_51 : decode cX10_covers 51 = .ok (.invokestatic 218, 3) := by decide +kernel
theorem d_X10_covers_54 : decode cX10_covers 54 = .ok (.istore 7, 2) := by decide +kernel
theorem d_X10_covers_56 : decode cX10_covers 56 = .ok (.iload 7, 2) := by decide +kernel
theorem d_X10_covers_58 : decode cX10_covers 58 = .ok (.aload_n 0, 1) := by decide +kernel
theorem d_X10_covers_59 : decode cX10_covers 59 = .ok (.iload_n 2, 1) := by decide +kernel
theorem d_X10_covers_60 : decode cX10_covers 60 = .ok (.iload 4, 2) := by decide +kernel
theorem d_X10_covers_62 : decode cX10_covers 62 = .ok (.invokevirtual 244, 3) := by decide +kernel
theorem d_X10_covers_65 : decode cX10_covers 65 = .ok (.if_icmp .gt 47, 3) := by decide +kernel
theorem d_X10_covers_68 : decode cX10_covers 68 = .ok (.iload 5, 2) := by decide +kernel
theorem d_X10_covers_70 : decode cX10_covers 70 = .ok (.iload 7, 2) := by decide +kernel
theorem d_X10_covers_72 : decode cX10_covers 72 = .ok (.aload_n 0, 1) := by decide +kernel
theorem d_X10_covers_73 : decode cX10_covers 73 = .ok (.getfield 34, 3) := by decide +kernel
theorem d_X10_covers_76 : decode cX10_covers 76 = .ok (.iload 4, 2) := by decide +kernel
theorem d_X10_covers_78 : decode cX10_covers 78 = .ok (.aaload, 1) := by decide +kernel
theorem d_X10_covers_79 : decode cX10_covers 79 = .ok (.iconst 0, 1) := by decide +kernel
theorem d_X10_covers_80 : decode cX10_covers 80 = .ok (.iaload, 1) := by decide +kernel
theorem d_X10_covers_81 : decode cX10_covers 81 = .ok (.invokestatic 247, 3) := by decide +kernel
theorem d_X10_covers_84 : decode cX10_covers 84 = .ok (.imul, 1) := by decide +kernel
theorem d_X10_covers_85 : decode cX10_covers 85 = .ok (.if_icmp .ne 27, 3) := by decide +kernel
theorem d_X10_covers_88 : decode cX10_covers 88 = .ok (.iload 6, 2) := by decide +kernel
theorem d_X10_covers_90 : decode cX10_covers 90 = .ok (.iload 7, 2) := by decide +kernel
theorem d_X10_covers_92 : decode cX10_covers 92 = .ok (.aload_n 0, 1) := by decide +kernel
theorem d_X10_covers_93 : decode cX10_covers 93 = .ok (.getfield 34, 3) := by decide +kernel
theorem d_X10_covers_96 : decode cX10_covers 96 = .ok (.iload 4, 2) := by decide +kernel
theorem d_X10_covers_98 : decode cX10_covers 98 = .ok (.aaload, 1) := by decide +kernel
theorem d_X10_covers_99 : decode cX10_covers 99 = .ok (.iconst 0, 1) := by decide +kernel
theorem d_X10_covers_100 : decode cX10_covers 100 = .ok (.iaload, 1) := by decide +kernel
theorem d_X10_covers_101 : decode cX10_covers 101 = .ok (.invokestatic 250, 3) := by decide +kernel
theorem d_X10_covers_104 : decode cX10_covers 104 = .ok (.imul, 1) := by decide +kernel
theorem d_X10_covers_105 : decode cX10_covers 105 = .ok (.if_icmp .ne 7, 3) := by decide +kernel
theorem d_X10_covers_108 : decode cX10_covers 108 = .ok (.iconst 1, 1) := by decide +kernel
theorem d_X10_covers_109 : decode cX10_covers 109 = .ok (.goto 4, 3) := by decide +kernel
theorem d_X10_covers_112 : decode cX10_covers 112 = .ok (.iconst 0, 1) := by decide +kernel
theorem d_X10_covers_113 : decode cX10_covers 113 = .ok (.ireturn, 1) := by decide +kernel
def F_X10_covers (M : zMem) (p0 : Int32) (p1 : Int32) (p2 : Int32) (p3 : Int32) : Option (Int32 × zMem) :=
  if p1 = 0 then
    some ((0 : Int32), M)
  else
    if p0 = p2 then
      some ((1 : Int32), M)
    else
      zl ((p2 - p2 / (8 : Int32) * (8 : Int32)) - (p0 - p0 / (8 : Int32) * (8 : Int32))) fun v1 =>
      zl ((p2 / (8 : Int32)) - (p0 / (8 : Int32))) fun v2 =>
      zb (F_X10_more M v1 (-v1)) fun v4 M3 =>
      zb (F_X10_more M3 v2 (-v2)) fun v6 M5 =>
      zb (F_X10_more M5 v4 v6) fun v8 M7 =>
      zb (F_X10_lengthOf M7 p1 p3) fun v10 M9 =>
      if v10 < v8 then
        some ((0 : Int32), M9)
      else
        gin p3 10 <|
        zb (F_X10_eastOf M9 (M9.1 (17 + (1 + 1 * p3.toNatClampNeg)) 0)) fun v13 M12 =>
        if v1 = (v8 * v13) then
          zb (F_X10_southOf M12 (M12.1 (17 + (1 + 1 * p3.toNatClampNeg)) 0)) fun v15 M14 =>
          if v2 = (v8 * v15) then
            some ((1 : Int32), M14)
          else
            some ((0 : Int32), M14)
        else
          some ((0 : Int32), M12)
def rm_X10_covers : Room := { frames := 4, cells := 0, slots := 0, locals := 122 }
set_option maxHeartbeats 4000000 in
set_option maxRecDepth 100000 in
theorem c_X10_covers (l : Launch) {G : zG} {ad : Nat → Nat} {n : Nat} (hA : zInj ad n) (M : zMem) (p0 : Int32) (p1 : Int32) (p2 : Int32) (p3 : Int32) (hT : zT shM n 0 11) {r9 : Int32} {M9 : zMem} (hF : F_X10_covers M p0 p1 p2 p3 = some (r9, M9)) : zM l yX10_covers cX10_covers 8 (some .boolean) rm_X10_covers G shM ad n M [.ref (ad 0), .int p0, .int p1, .int p2, .int p3] (some (.int r9)) M9 := by
  refine zM_of hA (by decide +kernel) (lv := [(0, .ref (ad 0)), (1, .int p0), (2, .int p1), (3, .int p2), (4, .int p3)]) (Nat.le_of_ble_eq_true rfl) rfl (fun p e s m args below meth c A cx hr => ?_)
  unfold F_X10_covers at hF
  refine z_iload_n cx d_X10_covers_0 2 rfl ?_
  refine z_if_ne cx 6 d_X10_covers_1 (by decide) hF (fun hF => ?_) (fun hF => ?_)
  · refine z_iload_n cx d_X10_covers_6 1 rfl ?_
    refine z_iload_n cx d_X10_covers_7 3 rfl ?_
    refine z_icmp_ne cx 13 d_X10_covers_8 (by decide) hF (fun hF => ?_) (fun hF => ?_)
    · refine z_iload_n cx d_X10_covers_13 3 rfl ?_
      refine z_bipush (v := 8) cx d_X10_covers_14 kb_8 ?_
      refine z_irem cx d_X10_covers_16 (by decide) ?_
      refine z_iload_n cx d_X10_covers_17 1 rfl ?_
      refine z_bipush (v := 8) cx d_X10_covers_18 kb_8 ?_
      refine z_irem cx d_X10_covers_20 (by decide) ?_
      refine z_isub cx d_X10_covers_21 ?_
      refine z_nm hF (fun v1 hF => ?_)
      refine z_istore cx 5 [(5, .int v1), (0, .ref (ad 0)), (1, .int p0), (2, .int p1), (3, .int p2), (4, .int p3)] d_X10_covers_22 (by decide) rfl ?_
      refine z_iload_n cx d_X10_covers_24 4 rfl ?_
      refine z_bipush (v := 8) cx d_X10_covers_25 kb_8 ?_
      refine z_idiv cx d_X10_covers_27 (by decide) ?_
      refine z_iload_n cx d_X10_covers_28 2 rfl ?_
      refine z_bipush (v := 8) cx d_X10_covers_29 kb_8 ?_
      refine z_idiv cx d_X10_covers_31 (by decide) ?_
      refine z_isub cx d_X10_covers_32 ?_
      refine z_nm hF (fun v2 hF => ?_)
      refine z_istore cx 6 [(6, .int v2), (5, .int v1), (0, .ref (ad 0)), (1, .int p0), (2, .int p1), (3, .int p2), (4, .int p3)] d_X10_covers_33 (by decide) rfl ?_
      refine z_iload cx d_X10_covers_35 1 rfl ?_
      refine z_iload cx d_X10_covers_37 1 rfl ?_
      refine z_ineg cx d_X10_covers_39 ?_
      obtain ⟨v4, M3, hc, hF⟩ := zb_inv hF
      refine z_callS cx (As := [.int v1, .int (-v1)]) (rest := []) (c_X10_more l cx.2.2.2.1.1 M v1 (-v1)  hc) cs_SunnyPansModel_218 ⟨rfl, rfl, Nat.le_of_ble_eq_true rfl, Nat.le_of_ble_eq_true rfl⟩ rfl rfl ⟨Nat.zero_le _, Nat.zero_le _⟩ (Nat.le_of_ble_eq_true rfl) d_X10_covers_40 ?_
      refine z_iload cx d_X10_covers_43 0 rfl ?_
      refine z_iload cx d_X10_covers_45 0 rfl ?_
      refine z_ineg cx d_X10_covers_47 ?_
      obtain ⟨v6, M5, hc, hF⟩ := zb_inv hF
      refine z_callS cx (As := [.int v2, .int (-v2)]) (rest := [.int v4]) (c_X10_more l cx.2.2.2.1.1 M3 v2 (-v2)  hc) cs_SunnyPansModel_218 ⟨rfl, rfl, Nat.le_of_ble_eq_true rfl, Nat.le_of_ble_eq_true rfl⟩ rfl rfl ⟨Nat.zero_le _, Nat.zero_le _⟩ (Nat.le_of_ble_eq_true rfl) d_X10_covers_48 ?_
      obtain ⟨v8, M7, hc, hF⟩ := zb_inv hF
      refine z_callS cx (As := [.int v4, .int v6]) (rest := []) (c_X10_more l cx.2.2.2.1.1 M5 v4 v6  hc) cs_SunnyPansModel_218 ⟨rfl, rfl, Nat.le_of_ble_eq_true rfl, Nat.le_of_ble_eq_true rfl⟩ rfl rfl ⟨Nat.zero_le _, Nat.zero_le _⟩ (Nat.le_of_ble_eq_true rfl) d_X10_covers_51 ?_
      refine z_istore cx 7 [(7, .int v8), (6, .int v2), (5, .int v1), (0, .ref (ad 0)), (1, .int p0), (2, .int p1), (3, .int p2), (4, .int p3)] d_X10_covers_54 (by decide) rfl ?_
      refine z_iload cx d_X10_covers_56 0 rfl ?_
      refine z_aload_n cx d_X10_covers_58 3 rfl ?_
      refine z_iload_n cx d_X10_covers_59 5 rfl ?_
      refine z_iload cx d_X10_covers_60 7 rfl ?_
      obtain ⟨v10, M9, hc, hF⟩ := zb_inv hF
      refine z_callV cx (As := [.int p1, .int p3]) (rest := [.int v8]) (c_X10_lengthOf l cx.2.2.2.1.1 M7 p1 p3 hT hc) hT zo_11 cv_SunnyPansModel_244 ⟨rfl, rfl, Nat.le_of_ble_eq_true rfl, Nat.le_of_ble_eq_true rfl⟩ rfl rfl ⟨Nat.zero_le _, Nat.zero_le _⟩ (Nat.le_of_ble_eq_true rfl) d_X10_covers_62 ?_
      refine z_icmp_gt cx 112 d_X10_covers_65 (by decide) hF (fun hF => ?_) (fun hF => ?_)
      · refine z_iconst (v := 0) cx d_X10_covers_112 ki_0 ?_
        exact z_iret cx hr nb0 hF d_X10_covers_113
      refine z_iload cx d_X10_covers_68 2 rfl ?_
      refine z_iload cx d_X10_covers_70 0 rfl ?_
      refine z_aload_n cx d_X10_covers_72 3 rfl ?_
      refine z_getR cx hT fg_SunnyPansModel_34 17 rfl d_X10_covers_73 ?_
      refine z_iload cx d_X10_covers_76 7 rfl ?_
      obtain ⟨hi11, hF⟩ := gin_inv hF
      refine z_aald cx (tfM_11_17 hT) za_30 hi11 (17 + (1 + 1 * p3.toNatClampNeg)) rfl d_X10_covers_78 ?_
      refine z_iconst (v := 0) cx d_X10_covers_79 ki_0 ?_
      refine z_iald cx (teM_30 (tfM_11_17 hT) hi11) za_27 (zvp (by decide +kernel)) 0 rfl d_X10_covers_80 ?_
      obtain ⟨v13, M12, hc, hF⟩ := zb_inv hF
      refine z_callS cx (As := [.int (M9.1 (17 + (1 + 1 * p3.toNatClampNeg)) 0)]) (rest := [.int v8, .int v1]) (c_X10_eastOf l cx.2.2.2.1.1 M9 (M9.1 (17 + (1 + 1 * p3.toNatClampNeg)) 0)  hc) cs_SunnyPansModel_247 ⟨rfl, rfl, Nat.le_of_ble_eq_true rfl, Nat.le_of_ble_eq_true rfl⟩ rfl rfl ⟨Nat.zero_le _, Nat.zero_le _⟩ (Nat.le_of_ble_eq_true rfl) d_X10_covers_81 ?_
      refine z_imul cx d_X10_covers_84 ?_
      refine z_icmp_ne cx 112 d_X10_covers_85 (by decide) hF (fun hF => ?_) (fun hF => ?_)
      · refine z_iconst (v := 0) cx d_X10_covers_112 ki_0 ?_
        exact z_iret cx hr nb0 hF d_X10_covers_113
      refine z_iload cx d_X10_covers_88 1 rfl ?_
      refine z_iload cx d_X10_covers_90 0 rfl ?_
      refine z_aload_n cx d_X10_covers_92 3 rfl ?_
      refine z_getR cx hT fg_SunnyPansModel_34 17 rfl d_X10_covers_93 ?_
      refine z_iload cx d_X10_covers_96 7 rfl ?_
      refine z_aald cx (tfM_11_17 hT) za_30 hi11 (17 + (1 + 1 * p3.toNatClampNeg)) rfl d_X10_covers_98 ?_
      refine z_iconst (v := 0) cx d_X10_covers_99 ki_0 ?_
      refine z_iald cx (teM_30 (tfM_11_17 hT) hi11) za_27 (zvp (by decide +kernel)) 0 rfl d_X10_covers_100 ?_
      obtain ⟨v15, M14, hc, hF⟩ := zb_inv hF
      refine z_callS cx (As := [.int (M12.1 (17 + (1 + 1 * p3.toNatClampNeg)) 0)]) (rest := [.int v8, .int v2]) (c_X10_southOf l cx.2.2.2.1.1 M12 (M12.1 (17 + (1 + 1 * p3.toNatClampNeg)) 0)  hc) cs_SunnyPansModel_250 ⟨rfl, rfl, Nat.le_of_ble_eq_true rfl, Nat.le_of_ble_eq_true rfl⟩ rfl rfl ⟨Nat.zero_le _, Nat.zero_le _⟩ (Nat.le_of_ble_eq_true rfl) d_X10_covers_101 ?_
      refine z_imul cx d_X10_covers_104 ?_
      refine z_icmp_ne cx 112 d_X10_covers_105 (by decide) hF (fun hF => ?_) (fun hF => ?_)
      · refine z_iconst (v := 0) cx d_X10_covers_112 ki_0 ?_
        exact z_iret cx hr nb0 hF d_X10_covers_113
      refine z_iconst (v := 1) cx d_X10_covers_108 ki_1 ?_
      refine z_goto cx 113 d_X10_covers_109 (by decide) ?_
      exact z_iret cx hr nb1 hF d_X10_covers_113
    refine z_iconst (v := 1) cx d_X10_covers_11 ki_1 ?_
    exact z_iret cx hr nb1 hF d_X10_covers_12
  refine z_iconst (v := 0) cx d_X10_covers_4 ki_0 ?_
  exact z_iret cx hr nb0 hF d_X10_covers_5
/-! SunnyPansModel.isShade -/
set_option maxRecDepth 100000 in
theorem wd_1709 : Cond.code yX10_covers cX10_covers 8 (some .boolean) ∈ tbG := tw7 169 rfl rfl
set_option maxRecDepth 100000 in
theorem wd_1706 : Cond.methodLink "SunnyPansModel" 253 yX10_covers ∈ tbG := tw7 166 rfl rfl
set_option maxRecDepth 100000 in
theorem wd_1708 : Cond.instanceMethod yX10_covers ∈ tbG := tw7 168 rfl rfl
theorem wd_76 : Cond.selects "SunnyPansModel" yX10_covers yX10_covers ∈ tbG := tw 76 (by decide +kernel) rfl
theorem cv_SunnyPansModel_253 : zCV "SunnyPansModel" 253 "SunnyPansModel" yX10_covers cX10_covers 8 (some .boolean) 4 := zCV_of wd_1706 wd_1708 wd_76 wd_111 wd_1709 (by decide +kernel)
theorem d_X10_isShade_0 : decode cX10_isShade 0 = .ok (.iconst 0, 1) := by decide +kernel
theorem d_X10_isShade_1 : decode cX10_isShade 1 = .ok (.istore 4, 2) := by decide +kernel
theorem d_X10_isShade_3 : decode cX10_isShade 3 = .ok (.iload 4, 2) := by decide +kernel
theorem d_X10_isShade_5 : decode cX10_isShade 5 = .ok (.bipush 64, 2) := by decide +kernel
theorem d_X10_isShade_7 : decode cX10_isShade 7 = .ok (.if_icmp .ge 30, 3) := by decide +kernel
theorem d_X10_isShade_10 : decode cX10_isShade 10 = .ok (.aload_n 0, 1) := by decide +kernel
theorem d_X10_isShade_11 : decode cX10_isShade 11 = .ok (.iload 4, 2) := by decide +kernel
theorem d_X10_isShade_13 : decode cX10_isShade 13 = .ok (.aload_n 1, 1) := by decide +kernel
theorem d_X10_isShade_14 : decode cX10_isShade 14 = .ok (.sipush 128, 3) := by decide +kernel
theorem d_X10_isShade_17 : decode cX10_isShade 17 = .ok (.iload 4, 2) := by decide +kernel
theorem d_X10_isShade_19 : decode cX10_isShade 19 = .ok (.iadd, 1) := by decide +kernel
theorem d_X10_isShade_20 : decode cX10_isShade 20 = .ok (.iaload, 1) := by decide +kernel
theorem d_X10_isShade_21 : decode cX10_isShade 21 = .ok (.iload_n 2, 1) := by decide +kernel
theorem d_X10_isShade_22 : decode cX10_isShade 22 = .ok (.iload_n 3, 1) := by decide +kernel
theorem d_X10_isShade_23 : decode cX10_isShade 23 = .ok (.invokevirtual 253, 3) := by decide +kernel
theorem d_X10_isShade_26 : decode cX10_isShade 26 = .ok (.ifCond .eq 5, 3) := by decide +kernel
theorem d_X10_isShade_29 : decode cX10_isShade 29 = .ok (.iconst 1, 1) := by decide +kernel
theorem d_X10_isShade_30 : decode cX10_isShade 30 = .ok (.ireturn, 1) := by decide +kernel
theorem d_X10_isShade_31 : decode cX10_isShade 31 = .ok (.iinc 4 1, 3) := by decide +kernel
theorem d_X10_isShade_34 : decode cX10_isShade 34 = .ok (.goto (-31), 3) := by decide +kernel
theorem d_X10_isShade_37 : decode cX10_isShade 37 = .ok (.iconst 0, 1) := by decide +kernel
theorem d_X10_isShade_38 : decode cX10_isShade 38 = .ok (.ireturn, 1) := by decide +kernel
def F_X10_isShade_3 (p0 : Nat) (p1 : Int32) (p2 : Int32) (self3 : Int32 → Int32 → Int32 → zMem → Option (Int32 × zMem)) (b3_L2 : Int32) (b3_L3 : Int32) (b3_L4 : Int32) (M : zMem) : Option (Int32 × zMem) :=
  if (64 : Int32) ≤ b3_L4 then
    some ((0 : Int32), M)
  else
    gin ((128 : Int32) + b3_L4) 195 <|
    zb (F_X10_covers M b3_L4 (M.1 p0 ((128 : Int32) + b3_L4).toNatClampNeg) b3_L2 b3_L3) fun v3 M2 =>
    if v3 = 0 then
      self3 b3_L2 b3_L3 (b3_L4 + 1) M2
    else
      some ((1 : Int32), M2)
def F_X10_isShade (M : zMem) (p0 : Nat) (p1 : Int32) (p2 : Int32) : Option (Int32 × zMem) :=
  itF (fun _ _ _ _ => none) (F_X10_isShade_3 p0 p1 p2) zFuel p1 p2 (0 : Int32) M
def rm_X10_isShade : Room := { frames := 5, cells := 0, slots := 0, locals := 149 }
set_option maxHeartbeats 4000000 in
set_option maxRecDepth 100000 in
theorem c_X10_isShade (l : Launch) {G : zG} {ad : Nat → Nat} {n : Nat} (hA : zInj ad n) (M : zMem) (p0 : Nat) (p1 : Int32) (p2 : Int32) (hT : zT shM n 0 11) (hT_p0 : zT shM n p0 36) {r9 : Int32} {M9 : zMem} (hF : F_X10_isShade M p0 p1 p2 = some (r9, M9)) : zM l yX10_isShade cX10_isShade 5 (some .boolean) rm_X10_isShade G shM ad n M [.ref (ad 0), .ref (ad p0), .int p1, .int p2] (some (.int r9)) M9 := by
  refine zM_of hA (by decide +kernel) (lv := [(0, .ref (ad 0)), (1, .ref (ad p0)), (2, .int p1), (3, .int p2)]) (Nat.le_of_ble_eq_true rfl) rfl (fun p e s m args below meth c A cx hr => ?_)
  have hL3 : ∀ (fuel : Nat), ∀ (b3_L2 : Int32) (b3_L3 : Int32) (b3_L4 : Int32) (M : zMem), itF (fun _ _ _ _ => none) (F_X10_isShade_3 p0 p1 p2) fuel b3_L2 b3_L3 b3_L4 M = some (r9, M9) → zJ p l e rm_X10_isShade s m args below meth c G shM ad n A 5 (MQ below (zQ G shM ad n M9 (some (.int r9)) A) args s 0 0 A) 0 0 M 3 [(0, .ref (ad 0)), (1, .ref (ad p0)), (2, .int b3_L2), (3, .int b3_L3), (4, .int b3_L4)] [] := by
    intro fuel
    induction fuel with
    | zero => intro b3_L2 b3_L3 b3_L4 M hF; cases hF
    | succ fuel hs3 =>
      intro b3_L2 b3_L3 b3_L4 M hF
      have hF : F_X10_isShade_3 p0 p1 p2 (itF (fun _ _ _ _ => none) (F_X10_isShade_3 p0 p1 p2) fuel) b3_L2 b3_L3 b3_L4 M = some (r9, M9) := hF
      generalize itF (fun _ _ _ _ => none) (F_X10_isShade_3 p0 p1 p2) fuel = self3 at hs3 hF
      unfold F_X10_isShade_3 at hF
      refine z_iload cx d_X10_isShade_3 4 rfl ?_
      refine z_bipush (v := 64) cx d_X10_isShade_5 kb_64 ?_
      refine z_icmp_ge cx 37 d_X10_isShade_7 (by decide) hF (fun hF => ?_) (fun hF => ?_)
      · refine z_iconst (v := 0) cx d_X10_isShade_37 ki_0 ?_
        exact z_iret cx hr nb0 hF d_X10_isShade_38
      refine z_aload_n cx d_X10_isShade_10 0 rfl ?_
      refine z_iload cx d_X10_isShade_11 4 rfl ?_
      refine z_aload_n cx d_X10_isShade_13 1 rfl ?_
      refine z_sipush (v := 128) cx d_X10_isShade_14 ks_128 ?_
      refine z_iload cx d_X10_isShade_17 4 rfl ?_
      refine z_iadd cx d_X10_isShade_19 ?_
      obtain ⟨hi1, hF⟩ := gin_inv hF
      refine z_iald cx hT_p0 za_36 hi1 (((128 : Int32) + b3_L4).toNatClampNeg) rfl d_X10_isShade_20 ?_
      refine z_iload_n cx d_X10_isShade_21 2 rfl ?_
      refine z_iload_n cx d_X10_isShade_22 3 rfl ?_
      obtain ⟨v3, M2, hc, hF⟩ := zb_inv hF
      refine z_callV cx (As := [.int b3_L4, .int (M.1 p0 ((128 : Int32) + b3_L4).toNatClampNeg), .int b3_L2, .int b3_L3]) (rest := []) (c_X10_covers l cx.2.2.2.1.1 M b3_L4 (M.1 p0 ((128 : Int32) + b3_L4).toNatClampNeg) b3_L2 b3_L3 hT hc) hT zo_11 cv_SunnyPansModel_253 ⟨rfl, rfl, Nat.le_of_ble_eq_true rfl, Nat.le_of_ble_eq_true rfl⟩ rfl rfl ⟨Nat.zero_le _, Nat.zero_le _⟩ (Nat.le_of_ble_eq_true rfl) d_X10_isShade_23 ?_
      refine z_if_eq cx 31 d_X10_isShade_26 (by decide) hF (fun hF => ?_) (fun hF => ?_)
      · refine z_iinc cx 4 1 [(4, .int (b3_L4 + 1)), (0, .ref (ad 0)), (1, .ref (ad p0)), (2, .int b3_L2), (3, .int b3_L3)] d_X10_isShade_31 4 rfl ki_1 (by decide) rfl ?_
        refine z_goto cx 3 d_X10_isShade_34 (by decide) ?_
        exact z_lv [1, 2, 3, 4, 0] _ rfl (hs3 b3_L2 b3_L3 (b3_L4 + 1) M2 hF)
      refine z_iconst (v := 1) cx d_X10_isShade_29 ki_1 ?_
      exact z_iret cx hr nb1 hF d_X10_isShade_30
  unfold F_X10_isShade at hF
  refine z_iconst (v := 0) cx d_X10_isShade_0 ki_0 ?_
  refine z_istore cx 4 [(4, .int (0 : Int32)), (0, .ref (ad 0)), (1, .ref (ad p0)), (2, .int p1), (3, .int p2)] d_X10_isShade_1 (by decide) rfl ?_
  exact z_lv [1, 2, 3, 4, 0] _ rfl (hL3 zFuel p1 p2 (0 : Int32) M hF)
/-! SunnyPansModel.driesBy -/
set_option maxRecDepth 100000 in
theorem wd_1734 : Cond.code yX10_byLaw cX10_byLaw 3 (some .int) ∈ tbG := tw7 194 rfl rfl
set_option maxRecDepth 100000 in
theorem wd_1731 : Cond.methodLink "SunnyPansModel" 257 yX10_byLaw ∈ tbG := tw7 191 rfl rfl
set_option maxRecDepth 100000 in
theorem wd_1733 : Cond.instanceMethod yX10_byLaw ∈ tbG := tw7 193 rfl rfl
theorem wd_80 : Cond.selects "SunnyPansModel" yX10_byLaw yX10_byLaw ∈ tbG := tw 80 (by decide +kernel) rfl
theorem cv_SunnyPansModel_257 : zCV "SunnyPansModel" 257 "SunnyPansModel" yX10_byLaw cX10_byLaw 3 (some .int) 0 := zCV_of wd_1731 wd_1733 wd_80 wd_111 wd_1734 (by decide +kernel)
theorem d_X10_driesBy_0 : decode cX10_driesBy 0 = .ok (.aload_n 0, 1) := by decide +kernel
theorem d_X10_driesBy_1 : decode cX10_driesBy 1 = .ok (.getfield 52, 3) := by decide +kernel
theorem d_X10_driesBy_4 : decode cX10_driesBy 4 = .ok (.iconst 0, 1) := by decide +kernel
theorem d_X10_driesBy_5 : decode cX10_driesBy 5 = .ok (.iload_n 1, 1) := by decide +kernel
theorem d_X10_driesBy_6 : decode cX10_driesBy 6 = .ok (.iastore, 1) := by decide +kernel
theorem d_X10_driesBy_7 : decode cX10_driesBy 7 = .ok (.aload_n 0, 1) := by decide +kernel
theorem d_X10_driesBy_8 : decode cX10_driesBy 8 = .ok (.getfield 52, 3) := by decide +kernel
theorem d_X10_driesBy_11 : decode cX10_driesBy 11 = .ok (.iconst 1, 1) := by decide +kernel
theorem d_X10_driesBy_12 : decode cX10_driesBy 12 = .ok (.iload_n 2, 1) := by decide +kernel
theorem d_X10_driesBy_13 : decode cX10_driesBy 13 = .ok (.iastore, 1) := by decide +kernel
theorem d_X10_driesBy_14 : decode cX10_driesBy 14 = .ok (.aload_n 0, 1) := by decide +kernel
theorem d_X10_driesBy_15 : decode cX10_driesBy 15 = .ok (.getfield 52, 3) := by decide +kernel
theorem d_X10_driesBy_18 : decode cX10_driesBy 18 = .ok (.iconst 2, 1) := by decide +kernel
theorem d_X10_driesBy_19 : decode cX10_driesBy 19 = .ok (.iload_n 3, 1) := by decide +kernel
theorem d_X10_driesBy_20 : decode cX10_driesBy 20 = .ok (.iastore, 1) := by decide +kernel
theorem d_X10_driesBy_21 : decode cX10_driesBy 21 = .ok (.aload_n 0, 1) := by decide +kernel
theorem d_X10_driesBy_22 : decode cX10_driesBy 22 = .ok (.getfield 52, 3) := by decide +kernel
theorem d_X10_driesBy_25 : decode cX10_driesBy 25 = .ok (.iconst 3, 1) := by decide +kernel
theorem d_X10_driesBy_26 : decode cX10_driesBy 26 = .ok (.iload 4, 2) := by decide +kernel
theorem d_X10_driesBy_28 : decode cX10_driesBy 28 = .ok (.iastore, 1) := by decide +kernel
theorem d_X10_driesBy_29 : decode cX10_driesBy 29 = .ok (.aload_n 0, 1) := by decide +kernel
theorem d_X10_driesBy_30 : decode cX10_driesBy 30 = .ok (.getfield 52, 3) := by decide +kernel
theorem d_X10_driesBy_33 : decode cX10_driesBy 33 = .ok (.iconst 4, 1) := by decide +kernel
theorem d_X10_driesBy_34 : decode cX10_driesBy 34 = .ok (.iload 5, 2) := by decide +kernel
theorem d_X10_driesBy_36 : decode cX10_driesBy 36 = .ok (.iastore, 1) := by decide +kernel
theorem d_X10_driesBy_37 : decode cX10_driesBy 37 = .ok (.aload_n 0, 1) := by decide +kernel
theorem d_X10_driesBy_38 : decode cX10_driesBy 38 = .ok (.getfield 52, 3) := by decide +kernel
theorem d_X10_driesBy_41 : decode cX10_driesBy 41 = .ok (.iconst 5, 1) := by decide +kernel
theorem d_X10_driesBy_42 : decode cX10_driesBy 42 = .ok (.iload 6, 2) := by decide +kernel
theorem d_X10_driesBy_44 : decode cX10_driesBy 44 = .ok (.iastore, 1) := by decide +kernel
theorem d_X10_driesBy_45 : decode cX10_driesBy 45 = .ok (.aload_n 0, 1) := by decide +kernel
theorem d_X10_driesBy_46 : decode cX10_driesBy 46 = .ok (.getfield 52, 3) := by decide +kernel
theorem d_X10_driesBy_49 : decode cX10_driesBy 49 = .ok (.bipush 6, 2) := by decide +kernel
theorem d_X10_driesBy_51 : decode cX10_driesBy 51 = .ok (.iload 7, 2) := by decide +kernel
theorem d_X10_driesBy_53 : decode cX10_driesBy 53 = .ok (.iastore, 1) := by decide +kernel
theorem d_X10_driesBy_54 : decode cX10_driesBy 54 = .ok (.aload_n 0, 1) := by decide +kernel
theorem d_X10_driesBy_55 : decode cX10_driesBy 55 = .ok (.getfield 52, 3) := by decide +kernel
theorem d_X10_driesBy_58 : decode cX10_driesBy 58 = .ok (.bipush 7, 2) := by decide +kernel
theorem d_X10_driesBy_60 : decode cX10_driesBy 60 = .ok (.iload 8, 2) := by decide +kernel
theorem d_X10_driesBy_62 : decode cX10_driesBy 62 = .ok (.iastore, 1) := by decide +kernel
theorem d_X10_driesBy_63 : decode cX10_driesBy 63 = .ok (.aload_n 0, 1) := by decide +kernel
theorem d_X10_driesBy_64 : decode cX10_driesBy 64 = .ok (.invokevirtual 257, 3) := by decide +kernel
theorem d_X10_driesBy_67 : decode cX10_driesBy 67 = .ok (.ireturn, 1) := by decide +kernel
def F_X10_driesBy (M : zMem) (p0 : Int32) (p1 : Int32) (p2 : Int32) (p3 : Int32) (p4 : Int32) (p5 : Int32) (p6 : Int32) (p7 : Int32) : Option (Int32 × zMem) :=
  zl (zI M 369 0 p0) fun M1 =>
  zl (zI M1 369 1 p1) fun M2 =>
  zl (zI M2 369 2 p2) fun M3 =>
  zl (zI M3 369 3 p3) fun M4 =>
  zl (zI M4 369 4 p4) fun M5 =>
  zl (zI M5 369 5 p5) fun M6 =>
  zl (zI M6 369 6 p6) fun M7 =>
  zl (zI M7 369 7 p7) fun M8 =>
  zb (F_X10_byLaw M8) fun v10 M9 =>
  some (v10, M9)
def rm_X10_driesBy : Room := { frames := 5, cells := 0, slots := 0, locals := 145 }
set_option maxHeartbeats 4000000 in
set_option maxRecDepth 100000 in
theorem c_X10_driesBy (l : Launch) {G : zG} {ad : Nat → Nat} {n : Nat} (hA : zInj ad n) (M : zMem) (p0 : Int32) (p1 : Int32) (p2 : Int32) (p3 : Int32) (p4 : Int32) (p5 : Int32) (p6 : Int32) (p7 : Int32) (hT : zT shM n 0 11) {r9 : Int32} {M9 : zMem} (hF : F_X10_driesBy M p0 p1 p2 p3 p4 p5 p6 p7 = some (r9, M9)) : zM l yX10_driesBy cX10_driesBy 9 (some .int) rm_X10_driesBy G shM ad n M [.ref (ad 0), .int p0, .int p1, .int p2, .int p3, .int p4, .int p5, .int p6, .int p7] (some (.int r9)) M9 := by
  refine zM_of hA (by decide +kernel) (lv := [(0, .ref (ad 0)), (1, .int p0), (2, .int p1), (3, .int p2), (4, .int p3), (5, .int p4), (6, .int p5), (7, .int p6), (8, .int p7)]) (Nat.le_of_ble_eq_true rfl) rfl (fun p e s m args below meth c A cx hr => ?_)
  unfold F_X10_driesBy at hF
  refine z_aload_n cx d_X10_driesBy_0 0 rfl ?_
  refine z_getR cx hT fg_SunnyPansModel_52 369 rfl d_X10_driesBy_1 ?_
  refine z_iconst (v := 0) cx d_X10_driesBy_4 ki_0 ?_
  refine z_iload_n cx d_X10_driesBy_5 1 rfl ?_
  refine z_iast cx (tfM_11_369 hT) za_26 (zvp (by decide +kernel)) 0 rfl d_X10_driesBy_6 ?_
  refine z_nmM hF (fun M1 hF => ?_)
  refine z_aload_n cx d_X10_driesBy_7 0 rfl ?_
  refine z_getR cx hT fg_SunnyPansModel_52 369 rfl d_X10_driesBy_8 ?_
  refine z_iconst (v := 1) cx d_X10_driesBy_11 ki_1 ?_
  refine z_iload_n cx d_X10_driesBy_12 2 rfl ?_
  refine z_iast cx (tfM_11_369 hT) za_26 (zvp (by decide +kernel)) 1 rfl d_X10_driesBy_13 ?_
  refine z_nmM hF (fun M2 hF => ?_)
  refine z_aload_n cx d_X10_driesBy_14 0 rfl ?_
  refine z_getR cx hT fg_SunnyPansModel_52 369 rfl d_X10_driesBy_15 ?_
  refine z_iconst (v := 2) cx d_X10_driesBy_18 ki_2 ?_
  refine z_iload_n cx d_X10_driesBy_19 3 rfl ?_
  refine z_iast cx (tfM_11_369 hT) za_26 (zvp (by decide +kernel)) 2 rfl d_X10_driesBy_20 ?_
  refine z_nmM hF (fun M3 hF => ?_)
  refine z_aload_n cx d_X10_driesBy_21 0 rfl ?_
  refine z_getR cx hT fg_SunnyPansModel_52 369 rfl d_X10_driesBy_22 ?_
  refine z_iconst (v := 3) cx d_X10_driesBy_25 ki_3 ?_
  refine z_iload cx d_X10_driesBy_26 4 rfl ?_
  refine z_iast cx (tfM_11_369 hT) za_26 (zvp (by decide +kernel)) 3 rfl d_X10_driesBy_28 ?_
  refine z_nmM hF (fun M4 hF => ?_)
  refine z_aload_n cx d_X10_driesBy_29 0 rfl ?_
  refine z_getR cx hT fg_SunnyPansModel_52 369 rfl d_X10_driesBy_30 ?_
  refine z_iconst (v := 4) cx d_X10_driesBy_33 ki_4 ?_
  refine z_iload cx d_X10_driesBy_34 5 rfl ?_
  refine z_iast cx (tfM_11_369 hT) za_26 (zvp (by decide +kernel)) 4 rfl d_X10_driesBy_36 ?_
  refine z_nmM hF (fun M5 hF => ?_)
  refine z_aload_n cx d_X10_driesBy_37 0 rfl ?_
  refine z_getR cx hT fg_SunnyPansModel_52 369 rfl d_X10_driesBy_38 ?_
  refine z_iconst (v := 5) cx d_X10_driesBy_41 ki_5 ?_
  refine z_iload cx d_X10_driesBy_42 6 rfl ?_
  refine z_iast cx (tfM_11_369 hT) za_26 (zvp (by decide +kernel)) 5 rfl d_X10_driesBy_44 ?_
  refine z_nmM hF (fun M6 hF => ?_)
  refine z_aload_n cx d_X10_driesBy_45 0 rfl ?_
  refine z_getR cx hT fg_SunnyPansModel_52 369 rfl d_X10_driesBy_46 ?_
  refine z_bipush (v := 6) cx d_X10_driesBy_49 kb_6 ?_
  refine z_iload cx d_X10_driesBy_51 7 rfl ?_
  refine z_iast cx (tfM_11_369 hT) za_26 (zvp (by decide +kernel)) 6 rfl d_X10_driesBy_53 ?_
  refine z_nmM hF (fun M7 hF => ?_)
  refine z_aload_n cx d_X10_driesBy_54 0 rfl ?_
  refine z_getR cx hT fg_SunnyPansModel_52 369 rfl d_X10_driesBy_55 ?_
  refine z_bipush (v := 7) cx d_X10_driesBy_58 kb_7 ?_
  refine z_iload cx d_X10_driesBy_60 8 rfl ?_
  refine z_iast cx (tfM_11_369 hT) za_26 (zvp (by decide +kernel)) 7 rfl d_X10_driesBy_62 ?_
  refine z_nmM hF (fun M8 hF => ?_)
  refine z_aload_n cx d_X10_driesBy_63 0 rfl ?_
  obtain ⟨v10, M9, hc, hF⟩ := zb_inv hF
  refine z_callV cx (As := []) (rest := []) (c_X10_byLaw l cx.2.2.2.1.1 M8 hT hc) hT zo_11 cv_SunnyPansModel_257 ⟨rfl, rfl, Nat.le_of_ble_eq_true rfl, Nat.le_of_ble_eq_true rfl⟩ rfl rfl ⟨Nat.zero_le _, Nat.zero_le _⟩ (Nat.le_of_ble_eq_true rfl) d_X10_driesBy_64 ?_
  exact z_iret cx hr rfl hF d_X10_driesBy_67
/-! SunnyPansModel.driesOf -/
set_option maxRecDepth 100000 in
theorem wd_1730 : Cond.code yX10_driesBy cX10_driesBy 9 (some .int) ∈ tbG := tw7 190 rfl rfl
set_option maxRecDepth 100000 in
theorem wd_1727 : Cond.methodLink "SunnyPansModel" 260 yX10_driesBy ∈ tbG := tw7 187 rfl rfl
set_option maxRecDepth 100000 in
theorem wd_1729 : Cond.instanceMethod yX10_driesBy ∈ tbG := tw7 189 rfl rfl
theorem wd_79 : Cond.selects "SunnyPansModel" yX10_driesBy yX10_driesBy ∈ tbG := tw 79 (by decide +kernel) rfl
theorem cv_SunnyPansModel_260 : zCV "SunnyPansModel" 260 "SunnyPansModel" yX10_driesBy cX10_driesBy 9 (some .int) 8 := zCV_of wd_1727 wd_1729 wd_79 wd_111 wd_1730 (by decide +kernel)
theorem d_X10_driesOf_0 : decode cX10_driesOf 0 = .ok (.aload_n 0, 1) := by decide +kernel
theorem d_X10_driesOf_1 : decode cX10_driesOf 1 = .ok (.aload_n 1, 1) := by decide +kernel
theorem d_X10_driesOf_2 : decode cX10_driesOf 2 = .ok (.iconst 0, 1) := by decide +kernel
theorem d_X10_driesOf_3 : decode cX10_driesOf 3 = .ok (.iload_n 2, 1) := by decide +kernel
theorem d_X10_driesOf_4 : decode cX10_driesOf 4 = .ok (.iadd, 1) := by decide +kernel
theorem d_X10_driesOf_5 : decode cX10_driesOf 5 = .ok (.iaload, 1) := by decide +kernel
theorem d_X10_driesOf_6 : decode cX10_driesOf 6 = .ok (.aload_n 1, 1) := by decide +kernel
theorem d_X10_driesOf_7 : decode cX10_driesOf 7 = .ok (.bipush 64, 2) := by decide +kernel
theorem d_X10_driesOf_9 : decode cX10_driesOf 9 = .ok (.iload_n 2, 1) := by decide +kernel
theorem d_X10_driesOf_10 : decode cX10_driesOf 10 = .ok (.iadd, 1) := by decide +kernel
theorem d_X10_driesOf_11 : decode cX10_driesOf 11 = .ok (.iaload, 1) := by decide +kernel
theorem d_X10_driesOf_12 : decode cX10_driesOf 12 = .ok (.aload_n 0, 1) := by decide +kernel
theorem d_X10_driesOf_13 : decode cX10_driesOf 13 = .ok (.getfield 34, 3) := by decide +kernel
theorem d_X10_driesOf_16 : decode cX10_driesOf 16 = .ok (.iload_n 3, 1) := by decide +kernel
theorem d_X10_driesOf_17 : decode cX10_driesOf 17 = .ok (.aaload, 1) := by decide +kernel
theorem d_X10_driesOf_18 : decode cX10_driesOf 18 = .ok (.iconst 1, 1) := by decide +kernel
theorem d_X10_driesOf_19 : decode cX10_driesOf 19 = .ok (.iaload, 1) := by decide +kernel
theorem d_X10_driesOf_20 : decode cX10_driesOf 20 = .ok (.aload_n 0, 1) := by decide +kernel
theorem d_X10_driesOf_21 : decode cX10_driesOf 21 = .ok (.getfield 34, 3) := by decide +kernel
theorem d_X10_driesOf_24 : decode cX10_driesOf 24 = .ok (.iload_n 3, 1) := by decide +kernel
theorem d_X10_driesOf_25 : decode cX10_driesOf 25 = .ok (.aaload, 1) := by decide +kernel
theorem d_X10_driesOf_26 : decode cX10_driesOf 26 = .ok (.iconst 0, 1) := by decide +kernel
theorem d_X10_driesOf_27 : decode cX10_driesOf 27 = .ok (.iaload, 1) := by decide +kernel
theorem d_X10_driesOf_28 : decode cX10_driesOf 28 = .ok (.iload_n 3, 1) := by decide +kernel
theorem d_X10_driesOf_29 : decode cX10_driesOf 29 = .ok (.aload_n 1, 1) := by decide +kernel
theorem d_X10_driesOf_30 : decode cX10_driesOf 30 = .ok (.sipush 192, 3) := by decide +kernel
theorem d_X10_driesOf_33 : decode cX10_driesOf 33 = .ok (.iaload, 1) := by decide +kernel
theorem d_X10_driesOf_34 : decode cX10_driesOf 34 = .ok (.iload_n 2, 1) := by decide +kernel
theorem d_X10_driesOf_35 : decode cX10_driesOf 35 = .ok (.bipush 8, 2) := by decide +kernel
theorem d_X10_driesOf_37 : decode cX10_driesOf 37 = .ok (.irem, 1) := by decide +kernel
theorem d_X10_driesOf_38 : decode cX10_driesOf 38 = .ok (.iload_n 2, 1) := by decide +kernel
theorem d_X10_driesOf_39 : decode cX10_driesOf 39 = .ok (.bipush 8, 2) := by decide +kernel
theorem d_X10_driesOf_41 : decode cX10_driesOf 41 = .ok (.idiv, 1) := by decide +kernel
theorem d_X10_driesOf_42 : decode cX10_driesOf 42 = .ok (.invokevirtual 260, 3) := by decide +kernel
theorem d_X10_driesOf_45 : decode cX10_driesOf 45 = .ok (.ireturn, 1) := by decide +kernel
def F_X10_driesOf (M : zMem) (p0 : Nat) (p1 : Int32) (p2 : Int32) : Option (Int32 × zMem) :=
  gin ((0 : Int32) + p1) 195 <|
  gin ((64 : Int32) + p1) 195 <|
  gin p2 10 <|
  zb (F_X10_driesBy M (M.1 p0 ((0 : Int32) + p1).toNatClampNeg) (M.1 p0 ((64 : Int32) + p1).toNatClampNeg) (M.1 (17 + (1 + 1 * p2.toNatClampNeg)) 1) (M.1 (17 + (1 + 1 * p2.toNatClampNeg)) 0) p2 (M.1 p0 192) (p1 - p1 / (8 : Int32) * (8 : Int32)) (p1 / (8 : Int32))) fun v5 M4 =>
  some (v5, M4)
def rm_X10_driesOf : Room := { frames := 6, cells := 0, slots := 0, locals := 173 }
set_option maxHeartbeats 4000000 in
set_option maxRecDepth 100000 in
theorem c_X10_driesOf (l : Launch) {G : zG} {ad : Nat → Nat} {n : Nat} (hA : zInj ad n) (M : zMem) (p0 : Nat) (p1 : Int32) (p2 : Int32) (hT : zT shM n 0 11) (hT_p0 : zT shM n p0 36) {r9 : Int32} {M9 : zMem} (hF : F_X10_driesOf M p0 p1 p2 = some (r9, M9)) : zM l yX10_driesOf cX10_driesOf 4 (some .int) rm_X10_driesOf G shM ad n M [.ref (ad 0), .ref (ad p0), .int p1, .int p2] (some (.int r9)) M9 := by
  refine zM_of hA (by decide +kernel) (lv := [(0, .ref (ad 0)), (1, .ref (ad p0)), (2, .int p1), (3, .int p2)]) (Nat.le_of_ble_eq_true rfl) rfl (fun p e s m args below meth c A cx hr => ?_)
  unfold F_X10_driesOf at hF
  refine z_aload_n cx d_X10_driesOf_0 0 rfl ?_
  refine z_aload_n cx d_X10_driesOf_1 1 rfl ?_
  refine z_iconst (v := 0) cx d_X10_driesOf_2 ki_0 ?_
  refine z_iload_n cx d_X10_driesOf_3 2 rfl ?_
  refine z_iadd cx d_X10_driesOf_4 ?_
  obtain ⟨hi1, hF⟩ := gin_inv hF
  refine z_iald cx hT_p0 za_36 hi1 (((0 : Int32) + p1).toNatClampNeg) rfl d_X10_driesOf_5 ?_
  refine z_aload_n cx d_X10_driesOf_6 1 rfl ?_
  refine z_bipush (v := 64) cx d_X10_driesOf_7 kb_64 ?_
  refine z_iload_n cx d_X10_driesOf_9 2 rfl ?_
  refine z_iadd cx d_X10_driesOf_10 ?_
  obtain ⟨hi2, hF⟩ := gin_inv hF
  refine z_iald cx hT_p0 za_36 hi2 (((64 : Int32) + p1).toNatClampNeg) rfl d_X10_driesOf_11 ?_
  refine z_aload_n cx d_X10_driesOf_12 0 rfl ?_
  refine z_getR cx hT fg_SunnyPansModel_34 17 rfl d_X10_driesOf_13 ?_
  refine z_iload_n cx d_X10_driesOf_16 3 rfl ?_
  obtain ⟨hi3, hF⟩ := gin_inv hF
  refine z_aald cx (tfM_11_17 hT) za_30 hi3 (17 + (1 + 1 * p2.toNatClampNeg)) rfl d_X10_driesOf_17 ?_
  refine z_iconst (v := 1) cx d_X10_driesOf_18 ki_1 ?_
  refine z_iald cx (teM_30 (tfM_11_17 hT) hi3) za_27 (zvp (by decide +kernel)) 1 rfl d_X10_driesOf_19 ?_
  refine z_aload_n cx d_X10_driesOf_20 0 rfl ?_
  refine z_getR cx hT fg_SunnyPansModel_34 17 rfl d_X10_driesOf_21 ?_
  refine z_iload_n cx d_X10_driesOf_24 3 rfl ?_
  refine z_aald cx (tfM_11_17 hT) za_30 hi3 (17 + (1 + 1 * p2.toNatClampNeg)) rfl d_X10_driesOf_25 ?_
  refine z_iconst (v := 0) cx d_X10_driesOf_26 ki_0 ?_
  refine z_iald cx (teM_30 (tfM_11_17 hT) hi3) za_27 (zvp (by decide +kernel)) 0 rfl d_X10_driesOf_27 ?_
  refine z_iload_n cx d_X10_driesOf_28 3 rfl ?_
  refine z_aload_n cx d_X10_driesOf_29 1 rfl ?_
  refine z_sipush (v := 192) cx d_X10_driesOf_30 ks_192 ?_
  refine z_iald cx hT_p0 za_36 (zvp (by decide +kernel)) 192 rfl d_X10_driesOf_33 ?_
  refine z_iload_n cx d_X10_driesOf_34 2 rfl ?_
  refine z_bipush (v := 8) cx d_X10_driesOf_35 kb_8 ?_
  refine z_irem cx d_X10_driesOf_37 (by decide) ?_
  refine z_iload_n cx d_X10_driesOf_38 2 rfl ?_
  refine z_bipush (v := 8) cx d_X10_driesOf_39 kb_8 ?_
  refine z_idiv cx d_X10_driesOf_41 (by decide) ?_
  obtain ⟨v5, M4, hc, hF⟩ := zb_inv hF
  refine z_callV cx (As := [.int (M.1 p0 ((0 : Int32) + p1).toNatClampNeg), .int (M.1 p0 ((64 : Int32) + p1).toNatClampNeg), .int (M.1 (17 + (1 + 1 * p2.toNatClampNeg)) 1), .int (M.1 (17 + (1 + 1 * p2.toNatClampNeg)) 0), .int p2, .int (M.1 p0 192), .int (p1 - p1 / (8 : Int32) * (8 : Int32)), .int (p1 / (8 : Int32))]) (rest := []) (c_X10_driesBy l cx.2.2.2.1.1 M (M.1 p0 ((0 : Int32) + p1).toNatClampNeg) (M.1 p0 ((64 : Int32) + p1).toNatClampNeg) (M.1 (17 + (1 + 1 * p2.toNatClampNeg)) 1) (M.1 (17 + (1 + 1 * p2.toNatClampNeg)) 0) p2 (M.1 p0 192) (p1 - p1 / (8 : Int32) * (8 : Int32)) (p1 / (8 : Int32)) hT hc) hT zo_11 cv_SunnyPansModel_260 ⟨rfl, rfl, Nat.le_of_ble_eq_true rfl, Nat.le_of_ble_eq_true rfl⟩ rfl rfl ⟨Nat.zero_le _, Nat.zero_le _⟩ (Nat.le_of_ble_eq_true rfl) d_X10_driesOf_42 ?_
  exact z_iret cx hr rfl hF d_X10_driesOf_45
/-! SunnyPansModel.nextHour -/
theorem ks_193 : (Int16.ofInt (193)).toInt32 = (193 : Int32) := by decide +kernel
theorem d_X10_nextHour_0 : decode cX10_nextHour 0 = .ok (.aload_n 1, 1) := by decide +kernel
theorem d_X10_nextHour_1 : decode cX10_nextHour 1 = .ok (.sipush 193, 3) := by decide +kernel
theorem d_X10_nextHour_4 : decode cX10_nextHour 4 = .ok (.dup2, 1) := by decide +kernel
theorem d_X10_nextHour_5 : decode cX10_nextHour 5 = .ok (.iaload, 1) := by decide +kernel
theorem d_X10_nextHour_6 : decode cX10_nextHour 6 = .ok (.iconst 1, 1) := by decide +kernel
theorem d_X10_nextHour_7 : decode cX10_nextHour 7 = .ok (.iadd, 1) := by decide +kernel
theorem d_X10_nextHour_8 : decode cX10_nextHour 8 = .ok (.iastore, 1) := by decide +kernel
theorem d_X10_nextHour_9 : decode cX10_nextHour 9 = .ok (.aload_n 1, 1) := by decide +kernel
theorem d_X10_nextHour_10 : decode cX10_nextHour 10 = .ok (.sipush 193, 3) := by decide +kernel
theorem d_X10_nextHour_13 : decode cX10_nextHour 13 = .ok (.iaload, 1) := by decide +kernel
theorem d_X10_nextHour_14 : decode cX10_nextHour 14 = .ok (.aload_n 0, 1) := by decide +kernel
theorem d_X10_nextHour_15 : decode cX10_nextHour 15 = .ok (.getfield 23, 3) := by decide +kernel
theorem d_X10_nextHour_18 : decode cX10_nextHour 18 = .ok (.iconst 2, 1) := by decide +kernel
theorem d_X10_nextHour_19 : decode cX10_nextHour 19 = .ok (.iaload, 1) := by decide +kernel
theorem d_X10_nextHour_20 : decode cX10_nextHour 20 = .ok (.if_icmp .ge 4, 3) := by decide +kernel
theorem d_X10_nextHour_23 : decode cX10_nextHour 23 = .ok (.return_, 1) := by decide +kernel
theorem d_X10_nextHour_24 : decode cX10_nextHour 24 = .ok (.aload_n 1, 1) := by decide +kernel
theorem d_X10_nextHour_25 : decode cX10_nextHour 25 = .ok (.sipush 193, 3) := by decide +kernel
theorem d_X10_nextHour_28 : decode cX10_nextHour 28 = .ok (.iconst 0, 1) := by decide +kernel
theorem d_X10_nextHour_29 : decode cX10_nextHour 29 = .ok (.iastore, 1) := by decide +kernel
theorem d_X10_nextHour_30 : decode cX10_nextHour 30 = .ok (.aload_n 1, 1) := by decide +kernel
theorem d_X10_nextHour_31 : decode cX10_nextHour 31 = .ok (.sipush 192, 3) := by decide +kernel
theorem d_X10_nextHour_34 : decode cX10_nextHour 34 = .ok (.dup2, 1) := by decide +kernel
theorem d_X10_nextHour_35 : decode cX10_nextHour 35 = .ok (.iaload, 1) := by decide +kernel
theorem d_X10_nextHour_36 : decode cX10_nextHour 36 = .ok (.iconst 1, 1) := by decide +kernel
theorem d_X10_nextHour_37 : decode cX10_nextHour 37 = .ok (.iadd, 1) := by decide +kernel
theorem d_X10_nextHour_38 : decode cX10_nextHour 38 = .ok (.iastore, 1) := by decide +kernel
theorem d_X10_nextHour_39 : decode cX10_nextHour 39 = .ok (.return_, 1) := by decide +kernel
def F_X10_nextHour (M : zMem) (p0 : Nat) : Option (zMem) :=
  zl (zI M p0 193 ((M.1 p0 193) + (1 : Int32))) fun M1 =>
  if (M1.1 4 2) ≤ (M1.1 p0 193) then
    zl (zI M1 p0 193 (0 : Int32)) fun M2 =>
    zl (zI M2 p0 192 ((M2.1 p0 192) + (1 : Int32))) fun M3 =>
    some M3
  else
    some M1
def rm_X10_nextHour : Room := { frames := 2, cells := 0, slots := 0, locals := 80 }
set_option maxHeartbeats 4000000 in
set_option maxRecDepth 100000 in
theorem c_X10_nextHour (l : Launch) {G : zG} {ad : Nat → Nat} {n : Nat} (hA : zInj ad n) (M : zMem) (p0 : Nat) (hT : zT shM n 0 11) (hT_p0 : zT shM n p0 36) {M9 : zMem} (hF : F_X10_nextHour M p0 = some M9) : zM l yX10_nextHour cX10_nextHour 2 none rm_X10_nextHour G shM ad n M [.ref (ad 0), .ref (ad p0)] none M9 := by
  refine zM_of hA (by decide +kernel) (lv := [(0, .ref (ad 0)), (1, .ref (ad p0))]) (Nat.le_of_ble_eq_true rfl) rfl (fun p e s m args below meth c A cx hr => ?_)
  unfold F_X10_nextHour at hF
  refine z_aload_n cx d_X10_nextHour_0 1 rfl ?_
  refine z_sipush (v := 193) cx d_X10_nextHour_1 ks_193 ?_
  refine z_dup2 cx d_X10_nextHour_4 rfl rfl ?_
  refine z_iald cx hT_p0 za_36 (zvp (by decide +kernel)) 193 rfl d_X10_nextHour_5 ?_
  refine z_iconst (v := 1) cx d_X10_nextHour_6 ki_1 ?_
  refine z_iadd cx d_X10_nextHour_7 ?_
  refine z_iast cx hT_p0 za_36 (zvp (by decide +kernel)) 193 rfl d_X10_nextHour_8 ?_
  refine z_nmM hF (fun M1 hF => ?_)
  refine z_aload_n cx d_X10_nextHour_9 1 rfl ?_
  refine z_sipush (v := 193) cx d_X10_nextHour_10 ks_193 ?_
  refine z_iald cx hT_p0 za_36 (zvp (by decide +kernel)) 193 rfl d_X10_nextHour_13 ?_
  refine z_aload_n cx d_X10_nextHour_14 0 rfl ?_
  refine z_getR cx hT fg_SunnyPansModel_23 4 rfl d_X10_nextHour_15 ?_
  refine z_iconst (v := 2) cx d_X10_nextHour_18 ki_2 ?_
  refine z_iald cx (tfM_11_4 hT) za_28 (zvp (by decide +kernel)) 2 rfl d_X10_nextHour_19 ?_
  refine z_icmp_ge cx 24 d_X10_nextHour_20 (by decide) hF (fun hF => ?_) (fun hF => ?_)
  · refine z_aload_n cx d_X10_nextHour_24 1 rfl ?_
    refine z_sipush (v := 193) cx d_X10_nextHour_25 ks_193 ?_
    refine z_iconst (v := 0) cx d_X10_nextHour_28 ki_0 ?_
    refine z_iast cx hT_p0 za_36 (zvp (by decide +kernel)) 193 rfl d_X10_nextHour_29 ?_
    refine z_nmM hF (fun M2 hF => ?_)
    refine z_aload_n cx d_X10_nextHour_30 1 rfl ?_
    refine z_sipush (v := 192) cx d_X10_nextHour_31 ks_192 ?_
    refine z_dup2 cx d_X10_nextHour_34 rfl rfl ?_
    refine z_iald cx hT_p0 za_36 (zvp (by decide +kernel)) 192 rfl d_X10_nextHour_35 ?_
    refine z_iconst (v := 1) cx d_X10_nextHour_36 ki_1 ?_
    refine z_iadd cx d_X10_nextHour_37 ?_
    refine z_iast cx hT_p0 za_36 (zvp (by decide +kernel)) 192 rfl d_X10_nextHour_38 ?_
    refine z_nmM hF (fun M3 hF => ?_)
    exact z_vret cx hr hF d_X10_nextHour_39
  exact z_vret cx hr hF d_X10_nextHour_23
/-! SunnyPansModel.driesOne -/
set_option maxRecDepth 100000 in
theorem wd_1705 : Cond.code yX10_isShade cX10_isShade 5 (some .boolean) ∈ tbG := tw7 165 rfl rfl
set_option maxRecDepth 100000 in
theorem wd_1702 : Cond.methodLink "SunnyPansModel" 264 yX10_isShade ∈ tbG := tw7 162 rfl rfl
set_option maxRecDepth 100000 in
theorem wd_1704 : Cond.instanceMethod yX10_isShade ∈ tbG := tw7 164 rfl rfl
theorem wd_75 : Cond.selects "SunnyPansModel" yX10_isShade yX10_isShade ∈ tbG := tw 75 (by decide +kernel) rfl
theorem cv_SunnyPansModel_264 : zCV "SunnyPansModel" 264 "SunnyPansModel" yX10_isShade cX10_isShade 5 (some .boolean) 3 := zCV_of wd_1702 wd_1704 wd_75 wd_111 wd_1705 (by decide +kernel)
set_option maxRecDepth 100000 in
theorem wd_1726 : Cond.code yX10_driesOf cX10_driesOf 4 (some .int) ∈ tbG := tw7 186 rfl rfl
set_option maxRecDepth 100000 in
theorem wd_1723 : Cond.methodLink "SunnyPansModel" 268 yX10_driesOf ∈ tbG := tw7 183 rfl rfl
set_option maxRecDepth 100000 in
theorem wd_1725 : Cond.instanceMethod yX10_driesOf ∈ tbG := tw7 185 rfl rfl
theorem wd_78 : Cond.selects "SunnyPansModel" yX10_driesOf yX10_driesOf ∈ tbG := tw 78 (by decide +kernel) rfl
theorem cv_SunnyPansModel_268 : zCV "SunnyPansModel" 268 "SunnyPansModel" yX10_driesOf cX10_driesOf 4 (some .int) 3 := zCV_of wd_1723 wd_1725 wd_78 wd_111 wd_1726 (by decide +kernel)
theorem d_X10_driesOne_0 : decode cX10_driesOne 0 = .ok (.aload_n 1, 1) := by decide +kernel
theorem d_X10_driesOne_1 : decode cX10_driesOne 1 = .ok (.iconst 0, 1) := by decide +kernel
theorem d_X10_driesOne_2 : decode cX10_driesOne 2 = .ok (.iload_n 2, 1) := by decide +kernel
theorem d_X10_driesOne_3 : decode cX10_driesOne 3 = .ok (.iadd, 1) := by decide +kernel
theorem d_X10_driesOne_4 : decode cX10_driesOne 4 = .ok (.iaload, 1) := by decide +kernel
theorem d_X10_driesOne_5 : decode cX10_driesOne 5 = .ok (.ifCond .le 43, 3) := by decide +kernel
theorem d_X10_driesOne_8 : decode cX10_driesOne 8 = .ok (.aload_n 0, 1) := by decide +kernel
theorem d_X10_driesOne_9 : decode cX10_driesOne 9 = .ok (.aload_n 1, 1) := by decide +kernel
theorem d_X10_driesOne_10 : decode cX10_driesOne 10 = .ok (.iload_n 2, 1) := by decide +kernel
theorem d_X10_driesOne_11 : decode cX10_driesOne 11 = .ok (.aload_n 1, 1) := by decide +kernel
theorem d_X10_driesOne_12 : decode cX10_driesOne 12 = .ok (.sipush 193, 3) := by decide +kernel
theorem d_X10_driesOne_15 : decode cX10_driesOne 15 = .ok (.iaload, 1) := by decide +kernel
theorem d_X10_driesOne_16 : decode cX10_driesOne 16 = .ok (.invokevirtual 264, 3) := by decide +kernel
theorem d_X10_driesOne_19 : decode cX10_driesOne 19 = .ok (.ifCond .ne 29, 3) := by decide +kernel
theorem d_X10_driesOne_22 : decode cX10_driesOne 22 = .ok (.aload_n 1, 1) := by decide +kernel
theorem d_X10_driesOne_23 : decode cX10_driesOne 23 = .ok (.iconst 0, 1) := by decide +kernel
theorem d_X10_driesOne_24 : decode cX10_driesOne 24 = .ok (.iload_n 2, 1) := by decide +kernel
theorem d_X10_driesOne_25 : decode cX10_driesOne 25 = .ok (.iadd, 1) := by decide +kernel
theorem d_X10_driesOne_26 : decode cX10_driesOne 26 = .ok (.iconst 0, 1) := by decide +kernel
theorem d_X10_driesOne_27 : decode cX10_driesOne 27 = .ok (.aload_n 1, 1) := by decide +kernel
theorem d_X10_driesOne_28 : decode cX10_driesOne 28 = .ok (.iconst 0, 1) := by decide +kernel
theorem d_X10_driesOne_29 : decode cX10_driesOne 29 = .ok (.iload_n 2, 1) := by decide +kernel
theorem d_X10_driesOne_30 : decode cX10_driesOne 30 = .ok (.iadd, 1) := by decide +kernel
theorem d_X10_driesOne_31 : decode cX10_driesOne 31 = .ok (.iaload, 1) := by decide +kernel
theorem d_X10_driesOne_32 : decode cX10_driesOne 32 = .ok (.aload_n 0, 1) := by decide +kernel
theorem d_X10_driesOne_33 : decode cX10_driesOne 33 = .ok (.aload_n 1, 1) := by decide +kernel
theorem d_X10_driesOne_34 : decode cX10_driesOne 34 = .ok (.iload_n 2, 1) := by decide +kernel
theorem d_X10_driesOne_35 : decode cX10_driesOne 35 = .ok (.aload_n 1, 1) := by decide +kernel
theorem d_X10_driesOne_36 : decode cX10_driesOne 36 = .ok (.sipush 193, 3) := by decide +kernel
theorem d_X10_driesOne_39 : decode cX10_driesOne 39 = .ok (.iaload, 1) := by decide +kernel
theorem d_X10_driesOne_40 : decode cX10_driesOne 40 = .ok (.invokevirtual 268, 3) := by decide +kernel
theorem d_X10_driesOne_43 : decode cX10_driesOne 43 = .ok (.isub, 1) := by decide +kernel
theorem d_X10_driesOne_44 : decode cX10_driesOne 44 = .ok (.invokestatic 218, 3) := by decide +kernel
theorem d_X10_driesOne_47 : decode cX10_driesOne 47 = .ok (.iastore, 1) := by decide +kernel
theorem d_X10_driesOne_48 : decode cX10_driesOne 48 = .ok (.return_, 1) := by decide +kernel
def F_X10_driesOne (M : zMem) (p0 : Nat) (p1 : Int32) : Option (zMem) :=
  gin ((0 : Int32) + p1) 195 <|
  if (M.1 p0 ((0 : Int32) + p1).toNatClampNeg) ≤ 0 then
    some M
  else
    zb (F_X10_isShade M p0 p1 (M.1 p0 193)) fun v3 M2 =>
    if v3 = 0 then
      zb (F_X10_driesOf M2 p0 p1 (M2.1 p0 193)) fun v5 M4 =>
      zb (F_X10_more M4 (0 : Int32) ((M2.1 p0 ((0 : Int32) + p1).toNatClampNeg) - v5)) fun v7 M6 =>
      zl (zI M6 p0 (((0 : Int32) + p1).toNatClampNeg) v7) fun M8 =>
      some M8
    else
      some M2
def rm_X10_driesOne : Room := { frames := 7, cells := 0, slots := 0, locals := 196 }
set_option maxHeartbeats 4000000 in
set_option maxRecDepth 100000 in
theorem c_X10_driesOne (l : Launch) {G : zG} {ad : Nat → Nat} {n : Nat} (hA : zInj ad n) (M : zMem) (p0 : Nat) (p1 : Int32) (hT : zT shM n 0 11) (hT_p0 : zT shM n p0 36) {M9 : zMem} (hF : F_X10_driesOne M p0 p1 = some M9) : zM l yX10_driesOne cX10_driesOne 3 none rm_X10_driesOne G shM ad n M [.ref (ad 0), .ref (ad p0), .int p1] none M9 := by
  refine zM_of hA (by decide +kernel) (lv := [(0, .ref (ad 0)), (1, .ref (ad p0)), (2, .int p1)]) (Nat.le_of_ble_eq_true rfl) rfl (fun p e s m args below meth c A cx hr => ?_)
  unfold F_X10_driesOne at hF
  refine z_aload_n cx d_X10_driesOne_0 1 rfl ?_
  refine z_iconst (v := 0) cx d_X10_driesOne_1 ki_0 ?_
  refine z_iload_n cx d_X10_driesOne_2 2 rfl ?_
  refine z_iadd cx d_X10_driesOne_3 ?_
  obtain ⟨hi1, hF⟩ := gin_inv hF
  refine z_iald cx hT_p0 za_36 hi1 (((0 : Int32) + p1).toNatClampNeg) rfl d_X10_driesOne_4 ?_
  refine z_if_le cx 48 d_X10_driesOne_5 (by decide) hF (fun hF => ?_) (fun hF => ?_)
  · exact z_vret cx hr hF d_X10_driesOne_48
  refine z_aload_n cx d_X10_driesOne_8 0 rfl ?_
  refine z_aload_n cx d_X10_driesOne_9 1 rfl ?_
  refine z_iload_n cx d_X10_driesOne_10 2 rfl ?_
  refine z_aload_n cx d_X10_driesOne_11 1 rfl ?_
  refine z_sipush (v := 193) cx d_X10_driesOne_12 ks_193 ?_
  refine z_iald cx hT_p0 za_36 (zvp (by decide +kernel)) 193 rfl d_X10_driesOne_15 ?_
  obtain ⟨v3, M2, hc, hF⟩ := zb_inv hF
  refine z_callV cx (As := [.ref (ad p0), .int p1, .int (M.1 p0 193)]) (rest := []) (c_X10_isShade l cx.2.2.2.1.1 M p0 p1 (M.1 p0 193) hT hT_p0 hc) hT zo_11 cv_SunnyPansModel_264 ⟨rfl, rfl, Nat.le_of_ble_eq_true rfl, Nat.le_of_ble_eq_true rfl⟩ rfl rfl ⟨Nat.zero_le _, Nat.zero_le _⟩ (Nat.le_of_ble_eq_true rfl) d_X10_driesOne_16 ?_
  refine z_if_ne cx 48 d_X10_driesOne_19 (by decide) hF (fun hF => ?_) (fun hF => ?_)
  · exact z_vret cx hr hF d_X10_driesOne_48
  refine z_aload_n cx d_X10_driesOne_22 1 rfl ?_
  refine z_iconst (v := 0) cx d_X10_driesOne_23 ki_0 ?_
  refine z_iload_n cx d_X10_driesOne_24 2 rfl ?_
  refine z_iadd cx d_X10_driesOne_25 ?_
  refine z_iconst (v := 0) cx d_X10_driesOne_26 ki_0 ?_
  refine z_aload_n cx d_X10_driesOne_27 1 rfl ?_
  refine z_iconst (v := 0) cx d_X10_driesOne_28 ki_0 ?_
  refine z_iload_n cx d_X10_driesOne_29 2 rfl ?_
  refine z_iadd cx d_X10_driesOne_30 ?_
  refine z_iald cx hT_p0 za_36 hi1 (((0 : Int32) + p1).toNatClampNeg) rfl d_X10_driesOne_31 ?_
  refine z_aload_n cx d_X10_driesOne_32 0 rfl ?_
  refine z_aload_n cx d_X10_driesOne_33 1 rfl ?_
  refine z_iload_n cx d_X10_driesOne_34 2 rfl ?_
  refine z_aload_n cx d_X10_driesOne_35 1 rfl ?_
  refine z_sipush (v := 193) cx d_X10_driesOne_36 ks_193 ?_
  refine z_iald cx hT_p0 za_36 (zvp (by decide +kernel)) 193 rfl d_X10_driesOne_39 ?_
  obtain ⟨v5, M4, hc, hF⟩ := zb_inv hF
  refine z_callV cx (As := [.ref (ad p0), .int p1, .int (M2.1 p0 193)]) (rest := [.int (M2.1 p0 ((0 : Int32) + p1).toNatClampNeg), .int (0 : Int32), .int ((0 : Int32) + p1), .ref (ad p0)]) (c_X10_driesOf l cx.2.2.2.1.1 M2 p0 p1 (M2.1 p0 193) hT hT_p0 hc) hT zo_11 cv_SunnyPansModel_268 ⟨rfl, rfl, Nat.le_of_ble_eq_true rfl, Nat.le_of_ble_eq_true rfl⟩ rfl rfl ⟨Nat.zero_le _, Nat.zero_le _⟩ (Nat.le_of_ble_eq_true rfl) d_X10_driesOne_40 ?_
  refine z_isub cx d_X10_driesOne_43 ?_
  obtain ⟨v7, M6, hc, hF⟩ := zb_inv hF
  refine z_callS cx (As := [.int (0 : Int32), .int ((M2.1 p0 ((0 : Int32) + p1).toNatClampNeg) - v5)]) (rest := [.int ((0 : Int32) + p1), .ref (ad p0)]) (c_X10_more l cx.2.2.2.1.1 M4 (0 : Int32) ((M2.1 p0 ((0 : Int32) + p1).toNatClampNeg) - v5)  hc) cs_SunnyPansModel_218 ⟨rfl, rfl, Nat.le_of_ble_eq_true rfl, Nat.le_of_ble_eq_true rfl⟩ rfl rfl ⟨Nat.zero_le _, Nat.zero_le _⟩ (Nat.le_of_ble_eq_true rfl) d_X10_driesOne_44 ?_
  refine z_iast cx hT_p0 za_36 hi1 (((0 : Int32) + p1).toNatClampNeg) rfl d_X10_driesOne_47 ?_
  refine z_nmM hF (fun M8 hF => ?_)
  exact z_vret cx hr hF d_X10_driesOne_48
/-! SunnyPansModel.hourEnds -/
set_option maxRecDepth 100000 in
theorem wd_1741 : Cond.code yX10_nextHour cX10_nextHour 2 none ∈ tbG := tw7 201 rfl rfl
set_option maxRecDepth 100000 in
theorem wd_1738 : Cond.methodLink "SunnyPansModel" 276 yX10_nextHour ∈ tbG := tw7 198 rfl rfl
set_option maxRecDepth 100000 in
theorem wd_1740 : Cond.instanceMethod yX10_nextHour ∈ tbG := tw7 200 rfl rfl
theorem wd_81 : Cond.selects "SunnyPansModel" yX10_nextHour yX10_nextHour ∈ tbG := tw 81 (by decide +kernel) rfl
theorem cv_SunnyPansModel_276 : zCV "SunnyPansModel" 276 "SunnyPansModel" yX10_nextHour cX10_nextHour 2 none 1 := zCV_of wd_1738 wd_1740 wd_81 wd_111 wd_1741 (by decide +kernel)
set_option maxRecDepth 100000 in
theorem wd_1701 : Cond.code yX10_driesOne cX10_driesOne 3 none ∈ tbG := tw7 161 rfl rfl
set_option maxRecDepth 100000 in
theorem wd_1698 : Cond.methodLink "SunnyPansModel" 272 yX10_driesOne ∈ tbG := tw7 158 rfl rfl
set_option maxRecDepth 100000 in
theorem wd_1700 : Cond.instanceMethod yX10_driesOne ∈ tbG := tw7 160 rfl rfl
theorem wd_74 : Cond.selects "SunnyPansModel" yX10_driesOne yX10_driesOne ∈ tbG := tw 74 (by decide +kernel) rfl
theorem cv_SunnyPansModel_272 : zCV "SunnyPansModel" 272 "SunnyPansModel" yX10_driesOne cX10_driesOne 3 none 2 := zCV_of wd_1698 wd_1700 wd_74 wd_111 wd_1701 (by decide +kernel)
theorem d_X10_hourEnds_0 : decode cX10_hourEnds 0 = .ok (.iconst 0, 1) := by decide +kernel
theorem d_X10_hourEnds_1 : decode cX10_hourEnds 1 = .ok (.istore_n 2, 1) := by decide +kernel
theorem d_X10_hourEnds_2 : decode cX10_hourEnds 2 = .ok (.iload_n 2, 1) := by decide +kernel
theorem d_X10_hourEnds_3 : decode cX10_hourEnds 3 = .ok (.bipush 64, 2) := by decide +kernel
theorem d_X10_hourEnds_5 : decode cX10_hourEnds 5 = .ok (.if_icmp .ge 15, 3) := by decide +kernel
theorem d_X10_hourEnds_8 : decode cX10_hourEnds 8 = .ok (.aload_n 0, 1) := by decide +kernel
theorem d_X10_hourEnds_9 : decode cX10_hourEnds 9 = .ok (.aload_n 1, 1) := by decide +kernel
theorem d_X10_hourEnds_10 : decode cX10_hourEnds 10 = .ok (.iload_n 2, 1) := by decide +kernel
theorem d_X10_hourEnds_11 : decode cX10_hourEnds 11 = .ok (.invokevirtual 272, 3) := by decide +kernel
theorem d_X10_hourEnds_14 : decode cX10_hourEnds 14 = .ok (.iinc 2 1, 3) := by decide +kernel
theorem d_X10_hourEnds_17 : decode cX10_hourEnds 17 = .ok (.goto (-15), 3) := by decide +kernel
theorem d_X10_hourEnds_20 : decode cX10_hourEnds 20 = .ok (.aload_n 0, 1) := by decide +kernel
theorem d_X10_hourEnds_21 : decode cX10_hourEnds 21 = .ok (.aload_n 1, 1) := by decide +kernel
theorem d_X10_hourEnds_22 : decode cX10_hourEnds 22 = .ok (.invokevirtual 276, 3) := by decide +kernel
theorem d_X10_hourEnds_25 : decode cX10_hourEnds 25 = .ok (.return_, 1) := by decide +kernel
def F_X10_hourEnds_2 (p0 : Nat) (self2 : Int32 → zMem → Option (zMem)) (b2_L2 : Int32) (M : zMem) : Option (zMem) :=
  if (64 : Int32) ≤ b2_L2 then
    zbv (F_X10_nextHour M p0) fun M1 =>
    some M1
  else
    zbv (F_X10_driesOne M p0 b2_L2) fun M2 =>
    self2 (b2_L2 + 1) M2
def F_X10_hourEnds (M : zMem) (p0 : Nat) : Option (zMem) :=
  itF (fun _ _ => none) (F_X10_hourEnds_2 p0) zFuel (0 : Int32) M
def rm_X10_hourEnds : Room := { frames := 8, cells := 0, slots := 0, locals := 218 }
set_option maxHeartbeats 4000000 in
set_option maxRecDepth 100000 in
theorem c_X10_hourEnds (l : Launch) {G : zG} {ad : Nat → Nat} {n : Nat} (hA : zInj ad n) (M : zMem) (p0 : Nat) (hT : zT shM n 0 11) (hT_p0 : zT shM n p0 36) {M9 : zMem} (hF : F_X10_hourEnds M p0 = some M9) : zM l yX10_hourEnds cX10_hourEnds 3 none rm_X10_hourEnds G shM ad n M [.ref (ad 0), .ref (ad p0)] none M9 := by
  refine zM_of hA (by decide +kernel) (lv := [(0, .ref (ad 0)), (1, .ref (ad p0))]) (Nat.le_of_ble_eq_true rfl) rfl (fun p e s m args below meth c A cx hr => ?_)
  have hL2 : ∀ (fuel : Nat), ∀ (b2_L2 : Int32) (M : zMem), itF (fun _ _ => none) (F_X10_hourEnds_2 p0) fuel b2_L2 M = some M9 → zJ p l e rm_X10_hourEnds s m args below meth c G shM ad n A 3 (MQ below (zQ G shM ad n M9 none A) args s 0 0 A) 0 0 M 2 [(0, .ref (ad 0)), (1, .ref (ad p0)), (2, .int b2_L2)] [] := by
    intro fuel
    induction fuel with
    | zero => intro b2_L2 M hF; cases hF
    | succ fuel hs2 =>
      intro b2_L2 M hF
      have hF : F_X10_hourEnds_2 p0 (itF (fun _ _ => none) (F_X10_hourEnds_2 p0) fuel) b2_L2 M = some M9 := hF
      generalize itF (fun _ _ => none) (F_X10_hourEnds_2 p0) fuel = self2 at hs2 hF
      unfold F_X10_hourEnds_2 at hF
      refine z_iload_n cx d_X10_hourEnds_2 2 rfl ?_
      refine z_bipush (v := 64) cx d_X10_hourEnds_3 kb_64 ?_
      refine z_icmp_ge cx 20 d_X10_hourEnds_5 (by decide) hF (fun hF => ?_) (fun hF => ?_)
      · refine z_aload_n cx d_X10_hourEnds_20 0 rfl ?_
        refine z_aload_n cx d_X10_hourEnds_21 1 rfl ?_
        obtain ⟨M1, hc, hF⟩ := zbv_inv hF
        refine z_callV cx (As := [.ref (ad p0)]) (rest := []) (c_X10_nextHour l cx.2.2.2.1.1 M p0 hT hT_p0 hc) hT zo_11 cv_SunnyPansModel_276 ⟨rfl, rfl, Nat.le_of_ble_eq_true rfl, Nat.le_of_ble_eq_true rfl⟩ rfl rfl ⟨Nat.zero_le _, Nat.zero_le _⟩ (Nat.le_of_ble_eq_true rfl) d_X10_hourEnds_22 ?_
        exact z_vret cx hr hF d_X10_hourEnds_25
      refine z_aload_n cx d_X10_hourEnds_8 0 rfl ?_
      refine z_aload_n cx d_X10_hourEnds_9 1 rfl ?_
      refine z_iload_n cx d_X10_hourEnds_10 2 rfl ?_
      obtain ⟨M2, hc, hF⟩ := zbv_inv hF
      refine z_callV cx (As := [.ref (ad p0), .int b2_L2]) (rest := []) (c_X10_driesOne l cx.2.2.2.1.1 M p0 b2_L2 hT hT_p0 hc) hT zo_11 cv_SunnyPansModel_272 ⟨rfl, rfl, Nat.le_of_ble_eq_true rfl, Nat.le_of_ble_eq_true rfl⟩ rfl rfl ⟨Nat.zero_le _, Nat.zero_le _⟩ (Nat.le_of_ble_eq_true rfl) d_X10_hourEnds_11 ?_
      refine z_iinc cx 2 1 [(2, .int (b2_L2 + 1)), (0, .ref (ad 0)), (1, .ref (ad p0))] d_X10_hourEnds_14 2 rfl ki_1 (by decide) rfl ?_
      refine z_goto cx 2 d_X10_hourEnds_17 (by decide) ?_
      exact z_lv [1, 2, 0] _ rfl (hs2 (b2_L2 + 1) M2 hF)
  unfold F_X10_hourEnds at hF
  refine z_iconst (v := 0) cx d_X10_hourEnds_0 ki_0 ?_
  refine z_istore_n cx 2 [(2, .int (0 : Int32)), (0, .ref (ad 0)), (1, .ref (ad p0))] d_X10_hourEnds_1 rfl (by decide) rfl ?_
  exact z_lv [1, 2, 0] _ rfl (hL2 zFuel (0 : Int32) M hF)
/-! SunnyPansModel.isDry -/
theorem d_X10_isDry_0 : decode cX10_isDry 0 = .ok (.aload_n 0, 1) := by decide +kernel
theorem d_X10_isDry_1 : decode cX10_isDry 1 = .ok (.iconst 0, 1) := by decide +kernel
theorem d_X10_isDry_2 : decode cX10_isDry 2 = .ok (.iload_n 1, 1) := by decide +kernel
theorem d_X10_isDry_3 : decode cX10_isDry 3 = .ok (.iadd, 1) := by decide +kernel
theorem d_X10_isDry_4 : decode cX10_isDry 4 = .ok (.iaload, 1) := by decide +kernel
theorem d_X10_isDry_5 : decode cX10_isDry 5 = .ok (.ifCond .ne 17, 3) := by decide +kernel
theorem d_X10_isDry_8 : decode cX10_isDry 8 = .ok (.aload_n 0, 1) := by decide +kernel
theorem d_X10_isDry_9 : decode cX10_isDry 9 = .ok (.sipush 128, 3) := by decide +kernel
theorem d_X10_isDry_12 : decode cX10_isDry 12 = .ok (.iload_n 1, 1) := by decide +kernel
theorem d_X10_isDry_13 : decode cX10_isDry 13 = .ok (.iadd, 1) := by decide +kernel
theorem d_X10_isDry_14 : decode cX10_isDry 14 = .ok (.iaload, 1) := by decide +kernel
theorem d_X10_isDry_15 : decode cX10_isDry 15 = .ok (.ifCond .ne 7, 3) := by decide +kernel
theorem d_X10_isDry_18 : decode cX10_isDry 18 = .ok (.iconst 1, 1) := by decide +kernel
theorem d_X10_isDry_19 : decode cX10_isDry 19 = .ok (.goto 4, 3) := by decide +kernel
theorem d_X10_isDry_22 : decode cX10_isDry 22 = .ok (.iconst 0, 1) := by decide +kernel
theorem d_X10_isDry_23 : decode cX10_isDry 23 = .ok (.ireturn, 1) := by decide +kernel
def F_X10_isDry (M : zMem) (p0 : Nat) (p1 : Int32) : Option (Int32 × zMem) :=
  gin ((0 : Int32) + p1) 195 <|
  if (M.1 p0 ((0 : Int32) + p1).toNatClampNeg) = 0 then
    gin ((128 : Int32) + p1) 195 <|
    if (M.1 p0 ((128 : Int32) + p1).toNatClampNeg) = 0 then
      some ((1 : Int32), M)
    else
      some ((0 : Int32), M)
  else
    some ((0 : Int32), M)
def rm_X10_isDry : Room := { frames := 2, cells := 0, slots := 0, locals := 80 }
set_option maxHeartbeats 4000000 in
set_option maxRecDepth 100000 in
theorem c_X10_isDry (l : Launch) {G : zG} {ad : Nat → Nat} {n : Nat} (hA : zInj ad n) (M : zMem) (p0 : Nat) (p1 : Int32) (hT_p0 : zT shM n p0 36) {r9 : Int32} {M9 : zMem} (hF : F_X10_isDry M p0 p1 = some (r9, M9)) : zM l yX10_isDry cX10_isDry 2 (some .boolean) rm_X10_isDry G shM ad n M [.ref (ad p0), .int p1] (some (.int r9)) M9 := by
  refine zM_of hA (by decide +kernel) (lv := [(0, .ref (ad p0)), (1, .int p1)]) (Nat.le_of_ble_eq_true rfl) rfl (fun p e s m args below meth c A cx hr => ?_)
  unfold F_X10_isDry at hF
  refine z_aload_n cx d_X10_isDry_0 0 rfl ?_
  refine z_iconst (v := 0) cx d_X10_isDry_1 ki_0 ?_
  refine z_iload_n cx d_X10_isDry_2 1 rfl ?_
  refine z_iadd cx d_X10_isDry_3 ?_
  obtain ⟨hi1, hF⟩ := gin_inv hF
  refine z_iald cx hT_p0 za_36 hi1 (((0 : Int32) + p1).toNatClampNeg) rfl d_X10_isDry_4 ?_
  refine z_if_ne cx 22 d_X10_isDry_5 (by decide) hF (fun hF => ?_) (fun hF => ?_)
  · refine z_iconst (v := 0) cx d_X10_isDry_22 ki_0 ?_
    exact z_iret cx hr nb0 hF d_X10_isDry_23
  refine z_aload_n cx d_X10_isDry_8 0 rfl ?_
  refine z_sipush (v := 128) cx d_X10_isDry_9 ks_128 ?_
  refine z_iload_n cx d_X10_isDry_12 1 rfl ?_
  refine z_iadd cx d_X10_isDry_13 ?_
  obtain ⟨hi2, hF⟩ := gin_inv hF
  refine z_iald cx hT_p0 za_36 hi2 (((128 : Int32) + p1).toNatClampNeg) rfl d_X10_isDry_14 ?_
  refine z_if_ne cx 22 d_X10_isDry_15 (by decide) hF (fun hF => ?_) (fun hF => ?_)
  · refine z_iconst (v := 0) cx d_X10_isDry_22 ki_0 ?_
    exact z_iret cx hr nb0 hF d_X10_isDry_23
  refine z_iconst (v := 1) cx d_X10_isDry_18 ki_1 ?_
  refine z_goto cx 23 d_X10_isDry_19 (by decide) ?_
  exact z_iret cx hr nb1 hF d_X10_isDry_23
/-! SunnyPansModel.canRake -/
set_option maxRecDepth 100000 in
theorem wd_1672 : Cond.code yX10_isDry cX10_isDry 2 (some .boolean) ∈ tbG := tw7 132 rfl rfl
set_option maxRecDepth 100000 in
theorem wd_1670 : Cond.methodLink "SunnyPansModel" 280 yX10_isDry ∈ tbG := tw7 130 rfl rfl
set_option maxRecDepth 100000 in
theorem wd_1671 : Cond.static yX10_isDry ∈ tbG := tw7 131 rfl rfl
theorem cs_SunnyPansModel_280 : zCS "SunnyPansModel" 280 yX10_isDry cX10_isDry 2 (some .boolean) 2 := zCS_of wd_1670 wd_1671 wd_111 wd_1672 (by decide +kernel)
theorem d_X10_canRake_0 : decode cX10_canRake 0 = .ok (.aload_n 1, 1) := by decide +kernel
theorem d_X10_canRake_1 : decode cX10_canRake 1 = .ok (.iload_n 2, 1) := by decide +kernel
theorem d_X10_canRake_2 : decode cX10_canRake 2 = .ok (.invokestatic 280, 3) := by decide +kernel
theorem d_X10_canRake_5 : decode cX10_canRake 5 = .ok (.ifCond .eq 58, 3) := by decide +kernel
theorem d_X10_canRake_8 : decode cX10_canRake 8 = .ok (.aload_n 1, 1) := by decide +kernel
theorem d_X10_canRake_9 : decode cX10_canRake 9 = .ok (.bipush 64, 2) := by decide +kernel
theorem d_X10_canRake_11 : decode cX10_canRake 11 = .ok (.iload_n 2, 1) := by decide +kernel
theorem d_X10_canRake_12 : decode cX10_canRake 12 = .ok (.iadd, 1) := by decide +kernel
theorem d_X10_canRake_13 : decode cX10_canRake 13 = .ok (.iaload, 1) := by decide +kernel
theorem d_X10_canRake_14 : decode cX10_canRake 14 = .ok (.ifCond .le 49, 3) := by decide +kernel
theorem d_X10_canRake_17 : decode cX10_canRake 17 = .ok (.iload_n 2, 1) := by decide +kernel
theorem d_X10_canRake_18 : decode cX10_canRake 18 = .ok (.iload_n 3, 1) := by decide +kernel
theorem d_X10_canRake_19 : decode cX10_canRake 19 = .ok (.if_icmp .eq 44, 3) := by decide +kernel
theorem d_X10_canRake_22 : decode cX10_canRake 22 = .ok (.aload_n 1, 1) := by decide +kernel
theorem d_X10_canRake_23 : decode cX10_canRake 23 = .ok (.iconst 0, 1) := by decide +kernel
theorem d_X10_canRake_24 : decode cX10_canRake 24 = .ok (.iload_n 3, 1) := by decide +kernel
theorem d_X10_canRake_25 : decode cX10_canRake 25 = .ok (.iadd, 1) := by decide +kernel
theorem d_X10_canRake_26 : decode cX10_canRake 26 = .ok (.iaload, 1) := by decide +kernel
theorem d_X10_canRake_27 : decode cX10_canRake 27 = .ok (.ifCond .ne 36, 3) := by decide +kernel
theorem d_X10_canRake_30 : decode cX10_canRake 30 = .ok (.aload_n 1, 1) := by decide +kernel
theorem d_X10_canRake_31 : decode cX10_canRake 31 = .ok (.bipush 64, 2) := by decide +kernel
theorem d_X10_canRake_33 : decode cX10_canRake 33 = .ok (.iload_n 3, 1) := by decide +kernel
theorem d_X10_canRake_34 : decode cX10_canRake 34 = .ok (.iadd, 1) := by decide +kernel
theorem d_X10_canRake_35 : decode cX10_canRake 35 = .ok (.iaload, 1) := by decide +kernel
theorem d_X10_canRake_36 : decode cX10_canRake 36 = .ok (.ifCond .ne 27, 3) := by decide +kernel
theorem d_X10_canRake_39 : decode cX10_canRake 39 = .ok (.aload_n 1, 1) := by decide +kernel
theorem d_X10_canRake_40 : decode cX10_canRake 40 = .ok (.sipush 128, 3) := by decide +kernel
theorem d_X10_canRake_43 : decode cX10_canRake 43 = .ok (.iload_n 3, 1) := by decide +kernel
theorem d_X10_canRake_44 : decode cX10_canRake 44 = .ok (.iadd, 1) := by decide +kernel
theorem d_X10_canRake_45 : decode cX10_canRake 45 = .ok (.iaload, 1) := by decide +kernel
theorem d_X10_canRake_46 : decode cX10_canRake 46 = .ok (.aload_n 1, 1) := by decide +kernel
theorem d_X10_canRake_47 : decode cX10_canRake 47 = .ok (.bipush 64, 2) := by decide +kernel
theorem d_X10_canRake_49 : decode cX10_canRake 49 = .ok (.iload_n 2, 1) := by decide +kernel
theorem d_X10_canRake_50 : decode cX10_canRake 50 = .ok (.iadd, 1) := by decide +kernel
theorem d_X10_canRake_51 : decode cX10_canRake 51 = .ok (.iaload, 1) := by decide +kernel
theorem d_X10_canRake_52 : decode cX10_canRake 52 = .ok (.iadd, 1) := by decide +kernel
theorem d_X10_canRake_53 : decode cX10_canRake 53 = .ok (.sipush 9999, 3) := by decide +kernel
theorem d_X10_canRake_56 : decode cX10_canRake 56 = .ok (.if_icmp .gt 7, 3) := by decide +kernel
theorem d_X10_canRake_59 : decode cX10_canRake 59 = .ok (.iconst 1, 1) := by decide +kernel
theorem d_X10_canRake_60 : decode cX10_canRake 60 = .ok (.goto 4, 3) := by decide +kernel
theorem d_X10_canRake_63 : decode cX10_canRake 63 = .ok (.iconst 0, 1) := by decide +kernel
theorem d_X10_canRake_64 : decode cX10_canRake 64 = .ok (.ireturn, 1) := by decide +kernel
def F_X10_canRake (M : zMem) (p0 : Nat) (p1 : Int32) (p2 : Int32) : Option (Int32 × zMem) :=
  zb (F_X10_isDry M p0 p1) fun v2 M1 =>
  if v2 = 0 then
    some ((0 : Int32), M1)
  else
    gin ((64 : Int32) + p1) 195 <|
    if (M1.1 p0 ((64 : Int32) + p1).toNatClampNeg) ≤ 0 then
      some ((0 : Int32), M1)
    else
      if p1 = p2 then
        some ((0 : Int32), M1)
      else
        gin ((0 : Int32) + p2) 195 <|
        if (M1.1 p0 ((0 : Int32) + p2).toNatClampNeg) = 0 then
          gin ((64 : Int32) + p2) 195 <|
          if (M1.1 p0 ((64 : Int32) + p2).toNatClampNeg) = 0 then
            gin ((128 : Int32) + p2) 195 <|
            if (9999 : Int32) < ((M1.1 p0 ((128 : Int32) + p2).toNatClampNeg) + (M1.1 p0 ((64 : Int32) + p1).toNatClampNeg)) then
              some ((0 : Int32), M1)
            else
              some ((1 : Int32), M1)
          else
            some ((0 : Int32), M1)
        else
          some ((0 : Int32), M1)
def rm_X10_canRake : Room := { frames := 3, cells := 0, slots := 0, locals := 101 }
set_option maxHeartbeats 4000000 in
set_option maxRecDepth 100000 in
theorem c_X10_canRake (l : Launch) {G : zG} {ad : Nat → Nat} {n : Nat} (hA : zInj ad n) (M : zMem) (p0 : Nat) (p1 : Int32) (p2 : Int32) (hT : zT shM n 0 11) (hT_p0 : zT shM n p0 36) {r9 : Int32} {M9 : zMem} (hF : F_X10_canRake M p0 p1 p2 = some (r9, M9)) : zM l yX10_canRake cX10_canRake 4 (some .boolean) rm_X10_canRake G shM ad n M [.ref (ad 0), .ref (ad p0), .int p1, .int p2] (some (.int r9)) M9 := by
  refine zM_of hA (by decide +kernel) (lv := [(0, .ref (ad 0)), (1, .ref (ad p0)), (2, .int p1), (3, .int p2)]) (Nat.le_of_ble_eq_true rfl) rfl (fun p e s m args below meth c A cx hr => ?_)
  unfold F_X10_canRake at hF
  refine z_aload_n cx d_X10_canRake_0 1 rfl ?_
  refine z_iload_n cx d_X10_canRake_1 2 rfl ?_
  obtain ⟨v2, M1, hc, hF⟩ := zb_inv hF
  refine z_callS cx (As := [.ref (ad p0), .int p1]) (rest := []) (c_X10_isDry l cx.2.2.2.1.1 M p0 p1 hT_p0 hc) cs_SunnyPansModel_280 ⟨rfl, rfl, Nat.le_of_ble_eq_true rfl, Nat.le_of_ble_eq_true rfl⟩ rfl rfl ⟨Nat.zero_le _, Nat.zero_le _⟩ (Nat.le_of_ble_eq_true rfl) d_X10_canRake_2 ?_
  refine z_if_eq cx 63 d_X10_canRake_5 (by decide) hF (fun hF => ?_) (fun hF => ?_)
  · refine z_iconst (v := 0) cx d_X10_canRake_63 ki_0 ?_
    exact z_iret cx hr nb0 hF d_X10_canRake_64
  refine z_aload_n cx d_X10_canRake_8 1 rfl ?_
  refine z_bipush (v := 64) cx d_X10_canRake_9 kb_64 ?_
  refine z_iload_n cx d_X10_canRake_11 2 rfl ?_
  refine z_iadd cx d_X10_canRake_12 ?_
  obtain ⟨hi3, hF⟩ := gin_inv hF
  refine z_iald cx hT_p0 za_36 hi3 (((64 : Int32) + p1).toNatClampNeg) rfl d_X10_canRake_13 ?_
  refine z_if_le cx 63 d_X10_canRake_14 (by decide) hF (fun hF => ?_) (fun hF => ?_)
  · refine z_iconst (v := 0) cx d_X10_canRake_63 ki_0 ?_
    exact z_iret cx hr nb0 hF d_X10_canRake_64
  refine z_iload_n cx d_X10_canRake_17 2 rfl ?_
  refine z_iload_n cx d_X10_canRake_18 3 rfl ?_
  refine z_icmp_eq cx 63 d_X10_canRake_19 (by decide) hF (fun hF => ?_) (fun hF => ?_)
  · refine z_iconst (v := 0) cx d_X10_canRake_63 ki_0 ?_
    exact z_iret cx hr nb0 hF d_X10_canRake_64
  refine z_aload_n cx d_X10_canRake_22 1 rfl ?_
  refine z_iconst (v := 0) cx d_X10_canRake_23 ki_0 ?_
  refine z_iload_n cx d_X10_canRake_24 3 rfl ?_
  refine z_iadd cx d_X10_canRake_25 ?_
  obtain ⟨hi4, hF⟩ := gin_inv hF
  refine z_iald cx hT_p0 za_36 hi4 (((0 : Int32) + p2).toNatClampNeg) rfl d_X10_canRake_26 ?_
  refine z_if_ne cx 63 d_X10_canRake_27 (by decide) hF (fun hF => ?_) (fun hF => ?_)
  · refine z_iconst (v := 0) cx d_X10_canRake_63 ki_0 ?_
    exact z_iret cx hr nb0 hF d_X10_canRake_64
  refine z_aload_n cx d_X10_canRake_30 1 rfl ?_
  refine z_bipush (v := 64) cx d_X10_canRake_31 kb_64 ?_
  refine z_iload_n cx d_X10_canRake_33 3 rfl ?_
  refine z_iadd cx d_X10_canRake_34 ?_
  obtain ⟨hi5, hF⟩ := gin_inv hF
  refine z_iald cx hT_p0 za_36 hi5 (((64 : Int32) + p2).toNatClampNeg) rfl d_X10_canRake_35 ?_
  refine z_if_ne cx 63 d_X10_canRake_36 (by decide) hF (fun hF => ?_) (fun hF => ?_)
  · refine z_iconst (v := 0) cx d_X10_canRake_63 ki_0 ?_
    exact z_iret cx hr nb0 hF d_X10_canRake_64
  refine z_aload_n cx d_X10_canRake_39 1 rfl ?_
  refine z_sipush (v := 128) cx d_X10_canRake_40 ks_128 ?_
  refine z_iload_n cx d_X10_canRake_43 3 rfl ?_
  refine z_iadd cx d_X10_canRake_44 ?_
  obtain ⟨hi6, hF⟩ := gin_inv hF
  refine z_iald cx hT_p0 za_36 hi6 (((128 : Int32) + p2).toNatClampNeg) rfl d_X10_canRake_45 ?_
  refine z_aload_n cx d_X10_canRake_46 1 rfl ?_
  refine z_bipush (v := 64) cx d_X10_canRake_47 kb_64 ?_
  refine z_iload_n cx d_X10_canRake_49 2 rfl ?_
  refine z_iadd cx d_X10_canRake_50 ?_
  refine z_iald cx hT_p0 za_36 hi3 (((64 : Int32) + p1).toNatClampNeg) rfl d_X10_canRake_51 ?_
  refine z_iadd cx d_X10_canRake_52 ?_
  refine z_sipush (v := 9999) cx d_X10_canRake_53 ks_9999 ?_
  refine z_icmp_gt cx 63 d_X10_canRake_56 (by decide) hF (fun hF => ?_) (fun hF => ?_)
  · refine z_iconst (v := 0) cx d_X10_canRake_63 ki_0 ?_
    exact z_iret cx hr nb0 hF d_X10_canRake_64
  refine z_iconst (v := 1) cx d_X10_canRake_59 ki_1 ?_
  refine z_goto cx 64 d_X10_canRake_60 (by decide) ?_
  exact z_iret cx hr nb1 hF d_X10_canRake_64
/-! SunnyPansModel.rains -/
set_option maxRecDepth 100000 in
theorem wd_1683 : Cond.code yX10_isHere cX10_isHere 2 (some .boolean) ∈ tbG := tw7 143 rfl rfl
set_option maxRecDepth 100000 in
theorem wd_1680 : Cond.methodLink "SunnyPansModel" 284 yX10_isHere ∈ tbG := tw7 140 rfl rfl
set_option maxRecDepth 100000 in
theorem wd_1682 : Cond.instanceMethod yX10_isHere ∈ tbG := tw7 142 rfl rfl
theorem wd_71 : Cond.selects "SunnyPansModel" yX10_isHere yX10_isHere ∈ tbG := tw 71 (by decide +kernel) rfl
theorem cv_SunnyPansModel_284 : zCV "SunnyPansModel" 284 "SunnyPansModel" yX10_isHere cX10_isHere 2 (some .boolean) 1 := zCV_of wd_1680 wd_1682 wd_71 wd_111 wd_1683 (by decide +kernel)
theorem d_X10_rains_0 : decode cX10_rains 0 = .ok (.iconst 0, 1) := by decide +kernel
theorem d_X10_rains_1 : decode cX10_rains 1 = .ok (.istore_n 3, 1) := by decide +kernel
theorem d_X10_rains_2 : decode cX10_rains 2 = .ok (.iload_n 3, 1) := by decide +kernel
theorem d_X10_rains_3 : decode cX10_rains 3 = .ok (.bipush 64, 2) := by decide +kernel
theorem d_X10_rains_5 : decode cX10_rains 5 = .ok (.if_icmp .ge 71, 3) := by decide +kernel
theorem d_X10_rains_8 : decode cX10_rains 8 = .ok (.aload_n 0, 1) := by decide +kernel
theorem d_X10_rains_9 : decode cX10_rains 9 = .ok (.iload_n 3, 1) := by decide +kernel
theorem d_X10_rains_10 : decode cX10_rains 10 = .ok (.invokevirtual 284, 3) := by decide +kernel
theorem d_X10_rains_13 : decode cX10_rains 13 = .ok (.ifCond .ne 6, 3) := by decide +kernel
theorem d_X10_rains_16 : decode cX10_rains 16 = .ok (.goto 54, 3) := by decide +kernel
theorem d_X10_rains_19 : decode cX10_rains 19 = .ok (.aload_n 1, 1) := by decide +kernel
theorem d_X10_rains_20 : decode cX10_rains 20 = .ok (.sipush 128, 3) := by decide +kernel
theorem d_X10_rains_23 : decode cX10_rains 23 = .ok (.iload_n 3, 1) := by decide +kernel
theorem d_X10_rains_24 : decode cX10_rains 24 = .ok (.iadd, 1) := by decide +kernel
theorem d_X10_rains_25 : decode cX10_rains 25 = .ok (.iaload, 1) := by decide +kernel
theorem d_X10_rains_26 : decode cX10_rains 26 = .ok (.ifCond .le 26, 3) := by decide +kernel
theorem d_X10_rains_29 : decode cX10_rains 29 = .ok (.aload_n 1, 1) := by decide +kernel
theorem d_X10_rains_30 : decode cX10_rains 30 = .ok (.sipush 128, 3) := by decide +kernel
theorem d_X10_rains_33 : decode cX10_rains 33 = .ok (.iload_n 3, 1) := by decide +kernel
theorem d_X10_rains_34 : decode cX10_rains 34 = .ok (.iadd, 1) := by decide +kernel
theorem d_X10_rains_35 : decode cX10_rains 35 = .ok (.iconst 0, 1) := by decide +kernel
theorem d_X10_rains_36 : decode cX10_rains 36 = .ok (.aload_n 1, 1) := by decide +kernel
theorem d_X10_rains_37 : decode cX10_rains 37 = .ok (.sipush 128, 3) := by decide +kernel
theorem d_X10_rains_40 : decode cX10_rains 40 = .ok (.iload_n 3, 1) := by decide +kernel
theorem d_X10_rains_41 : decode cX10_rains 41 = .ok (.iadd, 1) := by decide +kernel
theorem d_X10_rains_42 : decode cX10_rains 42 = .ok (.iaload, 1) := by decide +kernel
theorem d_X10_rains_43 : decode cX10_rains 43 = .ok (.iload_n 2, 1) := by decide +kernel
theorem d_X10_rains_44 : decode cX10_rains 44 = .ok (.isub, 1) := by decide +kernel
theorem d_X10_rains_45 : decode cX10_rains 45 = .ok (.invokestatic 218, 3) := by decide +kernel
theorem d_X10_rains_48 : decode cX10_rains 48 = .ok (.iastore, 1) := by decide +kernel
theorem d_X10_rains_49 : decode cX10_rains 49 = .ok (.goto 21, 3) := by decide +kernel
theorem d_X10_rains_52 : decode cX10_rains 52 = .ok (.aload_n 1, 1) := by decide +kernel
theorem d_X10_rains_53 : decode cX10_rains 53 = .ok (.iconst 0, 1) := by decide +kernel
theorem d_X10_rains_54 : decode cX10_rains 54 = .ok (.iload_n 3, 1) := by decide +kernel
theorem d_X10_rains_55 : decode cX10_rains 55 = .ok (.iadd, 1) := by decide +kernel
theorem d_X10_rains_56 : decode cX10_rains 56 = .ok (.sipush 9999, 3) := by decide +kernel
theorem d_X10_rains_59 : decode cX10_rains 59 = .ok (.aload_n 1, 1) := by decide +kernel
theorem d_X10_rains_60 : decode cX10_rains 60 = .ok (.iconst 0, 1) := by decide +kernel
theorem d_X10_rains_61 : decode cX10_rains 61 = .ok (.iload_n 3, 1) := by decide +kernel
theorem d_X10_rains_62 : decode cX10_rains 62 = .ok (.iadd, 1) := by decide +kernel
theorem d_X10_rains_63 : decode cX10_rains 63 = .ok (.iaload, 1) := by decide +kernel
theorem d_X10_rains_64 : decode cX10_rains 64 = .ok (.iload_n 2, 1) := by decide +kernel
theorem d_X10_rains_65 : decode cX10_rains 65 = .ok (.iadd, 1) := by decide +kernel
theorem d_X10_rains_66 : decode cX10_rains 66 = .ok (.invokestatic 215, 3) := by decide +kernel
theorem d_X10_rains_69 : decode cX10_rains 69 = .ok (.iastore, 1) := by decide +kernel
theorem d_X10_rains_70 : decode cX10_rains 70 = .ok (.iinc 3 1, 3) := by decide +kernel
theorem d_X10_rains_73 : decode cX10_rains 73 = .ok (.goto (-71), 3) := by decide +kernel
theorem d_X10_rains_76 : decode cX10_rains 76 = .ok (.return_, 1) := by decide +kernel
def F_X10_rains_70 (p0 : Nat) (p1 : Int32) (self2 : Int32 → Int32 → zMem → Option (zMem)) (b70_L2 : Int32) (b70_L3 : Int32) (M : zMem) : Option (zMem) :=
  self2 b70_L2 (b70_L3 + 1) M
def F_X10_rains_2 (p0 : Nat) (p1 : Int32) (self2 : Int32 → Int32 → zMem → Option (zMem)) (b2_L2 : Int32) (b2_L3 : Int32) (M : zMem) : Option (zMem) :=
  if (64 : Int32) ≤ b2_L3 then
    some M
  else
    zb (F_X10_isHere M b2_L3) fun v2 M1 =>
    if v2 = 0 then
      F_X10_rains_70 p0 p1 self2 b2_L2 b2_L3 M1
    else
      gin ((128 : Int32) + b2_L3) 195 <|
      if (M1.1 p0 ((128 : Int32) + b2_L3).toNatClampNeg) ≤ 0 then
        gin ((0 : Int32) + b2_L3) 195 <|
        zb (F_X10_less M1 (9999 : Int32) ((M1.1 p0 ((0 : Int32) + b2_L3).toNatClampNeg) + b2_L2)) fun v6 M5 =>
        zl (zI M5 p0 (((0 : Int32) + b2_L3).toNatClampNeg) v6) fun M7 =>
        F_X10_rains_70 p0 p1 self2 b2_L2 b2_L3 M7
      else
        zb (F_X10_more M1 (0 : Int32) ((M1.1 p0 ((128 : Int32) + b2_L3).toNatClampNeg) - b2_L2)) fun v9 M8 =>
        zl (zI M8 p0 (((128 : Int32) + b2_L3).toNatClampNeg) v9) fun M10 =>
        F_X10_rains_70 p0 p1 self2 b2_L2 b2_L3 M10
def F_X10_rains (M : zMem) (p0 : Nat) (p1 : Int32) : Option (zMem) :=
  itF (fun _ _ _ => none) (F_X10_rains_2 p0 p1) zFuel p1 (0 : Int32) M
def rm_X10_rains : Room := { frames := 5, cells := 0, slots := 0, locals := 145 }
set_option maxHeartbeats 4000000 in
set_option maxRecDepth 100000 in
theorem c_X10_rains (l : Launch) {G : zG} {ad : Nat → Nat} {n : Nat} (hA : zInj ad n) (M : zMem) (p0 : Nat) (p1 : Int32) (hT : zT shM n 0 11) (hT_p0 : zT shM n p0 36) {M9 : zMem} (hF : F_X10_rains M p0 p1 = some M9) : zM l yX10_rains cX10_rains 4 none rm_X10_rains G shM ad n M [.ref (ad 0), .ref (ad p0), .int p1] none M9 := by
  refine zM_of hA (by decide +kernel) (lv := [(0, .ref (ad 0)), (1, .ref (ad p0)), (2, .int p1)]) (Nat.le_of_ble_eq_true rfl) rfl (fun p e s m args below meth c A cx hr => ?_)
  have hb70 : ∀ (self2 : Int32 → Int32 → zMem → Option (zMem)) (hs2 : ∀ (b2_L2 : Int32) (b2_L3 : Int32) (M : zMem), self2 b2_L2 b2_L3 M = some M9 → zJ p l e rm_X10_rains s m args below meth c G shM ad n A 4 (MQ below (zQ G shM ad n M9 none A) args s 0 0 A) 0 0 M 2 [(0, .ref (ad 0)), (1, .ref (ad p0)), (2, .int b2_L2), (3, .int b2_L3)] []), ∀ (b70_L2 : Int32) (b70_L3 : Int32) (M : zMem), F_X10_rains_70 p0 p1 self2 b70_L2 b70_L3 M = some M9 → zJ p l e rm_X10_rains s m args below meth c G shM ad n A 4 (MQ below (zQ G shM ad n M9 none A) args s 0 0 A) 0 0 M 70 [(0, .ref (ad 0)), (1, .ref (ad p0)), (2, .int b70_L2), (3, .int b70_L3)] [] := by
    intro self2 hs2 b70_L2 b70_L3 M hF
    unfold F_X10_rains_70 at hF
    refine z_iinc cx 3 1 [(3, .int (b70_L3 + 1)), (0, .ref (ad 0)), (1, .ref (ad p0)), (2, .int b70_L2)] d_X10_rains_70 3 rfl ki_1 (by decide) rfl ?_
    refine z_goto cx 2 d_X10_rains_73 (by decide) ?_
    exact z_lv [1, 2, 3, 0] _ rfl (hs2 b70_L2 (b70_L3 + 1) M hF)
  have hL2 : ∀ (fuel : Nat), ∀ (b2_L2 : Int32) (b2_L3 : Int32) (M : zMem), itF (fun _ _ _ => none) (F_X10_rains_2 p0 p1) fuel b2_L2 b2_L3 M = some M9 → zJ p l e rm_X10_rains s m args below meth c G shM ad n A 4 (MQ below (zQ G shM ad n M9 none A) args s 0 0 A) 0 0 M 2 [(0, .ref (ad 0)), (1, .ref (ad p0)), (2, .int b2_L2), (3, .int b2_L3)] [] := by
    intro fuel
    induction fuel with
    | zero => intro b2_L2 b2_L3 M hF; cases hF
    | succ fuel hs2 =>
      intro b2_L2 b2_L3 M hF
      have hF : F_X10_rains_2 p0 p1 (itF (fun _ _ _ => none) (F_X10_rains_2 p0 p1) fuel) b2_L2 b2_L3 M = some M9 := hF
      generalize itF (fun _ _ _ => none) (F_X10_rains_2 p0 p1) fuel = self2 at hs2 hF
      unfold F_X10_rains_2 at hF
      refine z_iload_n cx d_X10_rains_2 3 rfl ?_
      refine z_bipush (v := 64) cx d_X10_rains_3 kb_64 ?_
      refine z_icmp_ge cx 76 d_X10_rains_5 (by decide) hF (fun hF => ?_) (fun hF => ?_)
      · exact z_vret cx hr hF d_X10_rains_76
      refine z_aload_n cx d_X10_rains_8 0 rfl ?_
      refine z_iload_n cx d_X10_rains_9 3 rfl ?_
      obtain ⟨v2, M1, hc, hF⟩ := zb_inv hF
      refine z_callV cx (As := [.int b2_L3]) (rest := []) (c_X10_isHere l cx.2.2.2.1.1 M b2_L3 hT hc) hT zo_11 cv_SunnyPansModel_284 ⟨rfl, rfl, Nat.le_of_ble_eq_true rfl, Nat.le_of_ble_eq_true rfl⟩ rfl rfl ⟨Nat.zero_le _, Nat.zero_le _⟩ (Nat.le_of_ble_eq_true rfl) d_X10_rains_10 ?_
      refine z_if_ne cx 19 d_X10_rains_13 (by decide) hF (fun hF => ?_) (fun hF => ?_)
      · refine z_aload_n cx d_X10_rains_19 1 rfl ?_
        refine z_sipush (v := 128) cx d_X10_rains_20 ks_128 ?_
        refine z_iload_n cx d_X10_rains_23 3 rfl ?_
        refine z_iadd cx d_X10_rains_24 ?_
        obtain ⟨hi3, hF⟩ := gin_inv hF
        refine z_iald cx hT_p0 za_36 hi3 (((128 : Int32) + b2_L3).toNatClampNeg) rfl d_X10_rains_25 ?_
        refine z_if_le cx 52 d_X10_rains_26 (by decide) hF (fun hF => ?_) (fun hF => ?_)
        · refine z_aload_n cx d_X10_rains_52 1 rfl ?_
          refine z_iconst (v := 0) cx d_X10_rains_53 ki_0 ?_
          refine z_iload_n cx d_X10_rains_54 3 rfl ?_
          refine z_iadd cx d_X10_rains_55 ?_
          refine z_sipush (v := 9999) cx d_X10_rains_56 ks_9999 ?_
          refine z_aload_n cx d_X10_rains_59 1 rfl ?_
          refine z_iconst (v := 0) cx d_X10_rains_60 ki_0 ?_
          refine z_iload_n cx d_X10_rains_61 3 rfl ?_
          refine z_iadd cx d_X10_rains_62 ?_
          obtain ⟨hi4, hF⟩ := gin_inv hF
          refine z_iald cx hT_p0 za_36 hi4 (((0 : Int32) + b2_L3).toNatClampNeg) rfl d_X10_rains_63 ?_
          refine z_iload_n cx d_X10_rains_64 2 rfl ?_
          refine z_iadd cx d_X10_rains_65 ?_
          obtain ⟨v6, M5, hc, hF⟩ := zb_inv hF
          refine z_callS cx (As := [.int (9999 : Int32), .int ((M1.1 p0 ((0 : Int32) + b2_L3).toNatClampNeg) + b2_L2)]) (rest := [.int ((0 : Int32) + b2_L3), .ref (ad p0)]) (c_X10_less l cx.2.2.2.1.1 M1 (9999 : Int32) ((M1.1 p0 ((0 : Int32) + b2_L3).toNatClampNeg) + b2_L2)  hc) cs_SunnyPansModel_215 ⟨rfl, rfl, Nat.le_of_ble_eq_true rfl, Nat.le_of_ble_eq_true rfl⟩ rfl rfl ⟨Nat.zero_le _, Nat.zero_le _⟩ (Nat.le_of_ble_eq_true rfl) d_X10_rains_66 ?_
          refine z_iast cx hT_p0 za_36 hi4 (((0 : Int32) + b2_L3).toNatClampNeg) rfl d_X10_rains_69 ?_
          refine z_nmM hF (fun M7 hF => ?_)
          exact hb70 self2 hs2 b2_L2 b2_L3 M7 hF
        refine z_aload_n cx d_X10_rains_29 1 rfl ?_
        refine z_sipush (v := 128) cx d_X10_rains_30 ks_128 ?_
        refine z_iload_n cx d_X10_rains_33 3 rfl ?_
        refine z_iadd cx d_X10_rains_34 ?_
        refine z_iconst (v := 0) cx d_X10_rains_35 ki_0 ?_
        refine z_aload_n cx d_X10_rains_36 1 rfl ?_
        refine z_sipush (v := 128) cx d_X10_rains_37 ks_128 ?_
        refine z_iload_n cx d_X10_rains_40 3 rfl ?_
        refine z_iadd cx d_X10_rains_41 ?_
        refine z_iald cx hT_p0 za_36 hi3 (((128 : Int32) + b2_L3).toNatClampNeg) rfl d_X10_rains_42 ?_
        refine z_iload_n cx d_X10_rains_43 2 rfl ?_
        refine z_isub cx d_X10_rains_44 ?_
        obtain ⟨v9, M8, hc, hF⟩ := zb_inv hF
        refine z_callS cx (As := [.int (0 : Int32), .int ((M1.1 p0 ((128 : Int32) + b2_L3).toNatClampNeg) - b2_L2)]) (rest := [.int ((128 : Int32) + b2_L3), .ref (ad p0)]) (c_X10_more l cx.2.2.2.1.1 M1 (0 : Int32) ((M1.1 p0 ((128 : Int32) + b2_L3).toNatClampNeg) - b2_L2)  hc) cs_SunnyPansModel_218 ⟨rfl, rfl, Nat.le_of_ble_eq_true rfl, Nat.le_of_ble_eq_true rfl⟩ rfl rfl ⟨Nat.zero_le _, Nat.zero_le _⟩ (Nat.le_of_ble_eq_true rfl) d_X10_rains_45 ?_
        refine z_iast cx hT_p0 za_36 hi3 (((128 : Int32) + b2_L3).toNatClampNeg) rfl d_X10_rains_48 ?_
        refine z_nmM hF (fun M10 hF => ?_)
        refine z_goto cx 70 d_X10_rains_49 (by decide) ?_
        exact hb70 self2 hs2 b2_L2 b2_L3 M10 hF
      refine z_goto cx 70 d_X10_rains_16 (by decide) ?_
      exact hb70 self2 hs2 b2_L2 b2_L3 M1 hF
  unfold F_X10_rains at hF
  refine z_iconst (v := 0) cx d_X10_rains_0 ki_0 ?_
  refine z_istore_n cx 3 [(3, .int (0 : Int32)), (0, .ref (ad 0)), (1, .ref (ad p0)), (2, .int p1)] d_X10_rains_1 rfl (by decide) rfl ?_
  exact z_lv [1, 2, 3, 0] _ rfl (hL2 zFuel p1 (0 : Int32) M hF)
/-! SunnyPansModel.lets -/
theorem d_X10_lets_0 : decode cX10_lets 0 = .ok (.aload_n 0, 1) := by decide +kernel
theorem d_X10_lets_1 : decode cX10_lets 1 = .ok (.sipush 128, 3) := by decide +kernel
theorem d_X10_lets_4 : decode cX10_lets 4 = .ok (.iload_n 1, 1) := by decide +kernel
theorem d_X10_lets_5 : decode cX10_lets 5 = .ok (.iadd, 1) := by decide +kernel
theorem d_X10_lets_6 : decode cX10_lets 6 = .ok (.iaload, 1) := by decide +kernel
theorem d_X10_lets_7 : decode cX10_lets 7 = .ok (.ifCond .gt 33, 3) := by decide +kernel
theorem d_X10_lets_10 : decode cX10_lets 10 = .ok (.aload_n 0, 1) := by decide +kernel
theorem d_X10_lets_11 : decode cX10_lets 11 = .ok (.iconst 0, 1) := by decide +kernel
theorem d_X10_lets_12 : decode cX10_lets 12 = .ok (.iload_n 1, 1) := by decide +kernel
theorem d_X10_lets_13 : decode cX10_lets 13 = .ok (.iadd, 1) := by decide +kernel
theorem d_X10_lets_14 : decode cX10_lets 14 = .ok (.iaload, 1) := by decide +kernel
theorem d_X10_lets_15 : decode cX10_lets 15 = .ok (.iload_n 2, 1) := by decide +kernel
theorem d_X10_lets_16 : decode cX10_lets 16 = .ok (.iadd, 1) := by decide +kernel
theorem d_X10_lets_17 : decode cX10_lets 17 = .ok (.sipush 9999, 3) := by decide +kernel
theorem d_X10_lets_20 : decode cX10_lets 20 = .ok (.if_icmp .gt 20, 3) := by decide +kernel
theorem d_X10_lets_23 : decode cX10_lets 23 = .ok (.aload_n 0, 1) := by decide +kernel
theorem d_X10_lets_24 : decode cX10_lets 24 = .ok (.bipush 64, 2) := by decide +kernel
theorem d_X10_lets_26 : decode cX10_lets 26 = .ok (.iload_n 1, 1) := by decide +kernel
theorem d_X10_lets_27 : decode cX10_lets 27 = .ok (.iadd, 1) := by decide +kernel
theorem d_X10_lets_28 : decode cX10_lets 28 = .ok (.iaload, 1) := by decide +kernel
theorem d_X10_lets_29 : decode cX10_lets 29 = .ok (.iload_n 2, 1) := by decide +kernel
theorem d_X10_lets_30 : decode cX10_lets 30 = .ok (.bipush 8, 2) := by decide +kernel
theorem d_X10_lets_32 : decode cX10_lets 32 = .ok (.idiv, 1) := by decide +kernel
theorem d_X10_lets_33 : decode cX10_lets 33 = .ok (.iadd, 1) := by decide +kernel
theorem d_X10_lets_34 : decode cX10_lets 34 = .ok (.sipush 9999, 3) := by decide +kernel
theorem d_X10_lets_37 : decode cX10_lets 37 = .ok (.if_icmp .le 5, 3) := by decide +kernel
theorem d_X10_lets_40 : decode cX10_lets 40 = .ok (.iconst 0, 1) := by decide +kernel
theorem d_X10_lets_41 : decode cX10_lets 41 = .ok (.ireturn, 1) := by decide +kernel
theorem d_X10_lets_42 : decode cX10_lets 42 = .ok (.aload_n 0, 1) := by decide +kernel
theorem d_X10_lets_43 : decode cX10_lets 43 = .ok (.iconst 0, 1) := by decide +kernel
theorem d_X10_lets_44 : decode cX10_lets 44 = .ok (.iload_n 1, 1) := by decide +kernel
theorem d_X10_lets_45 : decode cX10_lets 45 = .ok (.iadd, 1) := by decide +kernel
theorem d_X10_lets_46 : decode cX10_lets 46 = .ok (.dup2, 1) := by decide +kernel
theorem d_X10_lets_47 : decode cX10_lets 47 = .ok (.iaload, 1) := by decide +kernel
theorem d_X10_lets_48 : decode cX10_lets 48 = .ok (.iload_n 2, 1) := by decide +kernel
theorem d_X10_lets_49 : decode cX10_lets 49 = .ok (.iadd, 1) := by decide +kernel
theorem d_X10_lets_50 : decode cX10_lets 50 = .ok (.iastore, 1) := by decide +kernel
theorem d_X10_lets_51 : decode cX10_lets 51 = .ok (.aload_n 0, 1) := by decide +kernel
theorem d_X10_lets_52 : decode cX10_lets 52 = .ok (.bipush 64, 2) := by decide +kernel
theorem d_X10_lets_54 : decode cX10_lets 54 = .ok (.iload_n 1, 1) := by decide +kernel
theorem d_X10_lets_55 : decode cX10_lets 55 = .ok (.iadd, 1) := by decide +kernel
theorem d_X10_lets_56 : decode cX10_lets 56 = .ok (.dup2, 1) := by decide +kernel
theorem d_X10_lets_57 : decode cX10_lets 57 = .ok (.iaload, 1) := by decide +kernel
theorem d_X10_lets_58 : decode cX10_lets 58 = .ok (.iload_n 2, 1) := by decide +kernel
theorem d_X10_lets_59 : decode cX10_lets 59 = .ok (.bipush 8, 2) := by decide +kernel
theorem d_X10_lets_61 : decode cX10_lets 61 = .ok (.idiv, 1) := by decide +kernel
theorem d_X10_lets_62 : decode cX10_lets 62 = .ok (.iadd, 1) := by decide +kernel
theorem d_X10_lets_63 : decode cX10_lets 63 = .ok (.iastore, 1) := by decide +kernel
theorem d_X10_lets_64 : decode cX10_lets 64 = .ok (.iconst 1, 1) := by decide +kernel
theorem d_X10_lets_65 : decode cX10_lets 65 = .ok (.ireturn, 1) := by decide +kernel
def F_X10_lets (M : zMem) (p0 : Nat) (p1 : Int32) (p2 : Int32) : Option (Int32 × zMem) :=
  gin ((128 : Int32) + p1) 195 <|
  if 0 < (M.1 p0 ((128 : Int32) + p1).toNatClampNeg) then
    some ((0 : Int32), M)
  else
    gin ((0 : Int32) + p1) 195 <|
    if (9999 : Int32) < ((M.1 p0 ((0 : Int32) + p1).toNatClampNeg) + p2) then
      some ((0 : Int32), M)
    else
      gin ((64 : Int32) + p1) 195 <|
      if ((M.1 p0 ((64 : Int32) + p1).toNatClampNeg) + (p2 / (8 : Int32))) ≤ (9999 : Int32) then
        zl (zI M p0 (((0 : Int32) + p1).toNatClampNeg) ((M.1 p0 ((0 : Int32) + p1).toNatClampNeg) + p2)) fun M4 =>
        zl (zI M4 p0 (((64 : Int32) + p1).toNatClampNeg) ((M4.1 p0 ((64 : Int32) + p1).toNatClampNeg) + (p2 / (8 : Int32)))) fun M5 =>
        some ((1 : Int32), M5)
      else
        some ((0 : Int32), M)
def rm_X10_lets : Room := { frames := 2, cells := 0, slots := 0, locals := 80 }
set_option maxHeartbeats 4000000 in
set_option maxRecDepth 100000 in
theorem c_X10_lets (l : Launch) {G : zG} {ad : Nat → Nat} {n : Nat} (hA : zInj ad n) (M : zMem) (p0 : Nat) (p1 : Int32) (p2 : Int32) (hT_p0 : zT shM n p0 36) {r9 : Int32} {M9 : zMem} (hF : F_X10_lets M p0 p1 p2 = some (r9, M9)) : zM l yX10_lets cX10_lets 3 (some .boolean) rm_X10_lets G shM ad n M [.ref (ad p0), .int p1, .int p2] (some (.int r9)) M9 := by
  refine zM_of hA (by decide +kernel) (lv := [(0, .ref (ad p0)), (1, .int p1), (2, .int p2)]) (Nat.le_of_ble_eq_true rfl) rfl (fun p e s m args below meth c A cx hr => ?_)
  unfold F_X10_lets at hF
  refine z_aload_n cx d_X10_lets_0 0 rfl ?_
  refine z_sipush (v := 128) cx d_X10_lets_1 ks_128 ?_
  refine z_iload_n cx d_X10_lets_4 1 rfl ?_
  refine z_iadd cx d_X10_lets_5 ?_
  obtain ⟨hi1, hF⟩ := gin_inv hF
  refine z_iald cx hT_p0 za_36 hi1 (((128 : Int32) + p1).toNatClampNeg) rfl d_X10_lets_6 ?_
  refine z_if_gt cx 40 d_X10_lets_7 (by decide) hF (fun hF => ?_) (fun hF => ?_)
  · refine z_iconst (v := 0) cx d_X10_lets_40 ki_0 ?_
    exact z_iret cx hr nb0 hF d_X10_lets_41
  refine z_aload_n cx d_X10_lets_10 0 rfl ?_
  refine z_iconst (v := 0) cx d_X10_lets_11 ki_0 ?_
  refine z_iload_n cx d_X10_lets_12 1 rfl ?_
  refine z_iadd cx d_X10_lets_13 ?_
  obtain ⟨hi2, hF⟩ := gin_inv hF
  refine z_iald cx hT_p0 za_36 hi2 (((0 : Int32) + p1).toNatClampNeg) rfl d_X10_lets_14 ?_
  refine z_iload_n cx d_X10_lets_15 2 rfl ?_
  refine z_iadd cx d_X10_lets_16 ?_
  refine z_sipush (v := 9999) cx d_X10_lets_17 ks_9999 ?_
  refine z_icmp_gt cx 40 d_X10_lets_20 (by decide) hF (fun hF => ?_) (fun hF => ?_)
  · refine z_iconst (v := 0) cx d_X10_lets_40 ki_0 ?_
    exact z_iret cx hr nb0 hF d_X10_lets_41
  refine z_aload_n cx d_X10_lets_23 0 rfl ?_
  refine z_bipush (v := 64) cx d_X10_lets_24 kb_64 ?_
  refine z_iload_n cx d_X10_lets_26 1 rfl ?_
  refine z_iadd cx d_X10_lets_27 ?_
  obtain ⟨hi3, hF⟩ := gin_inv hF
  refine z_iald cx hT_p0 za_36 hi3 (((64 : Int32) + p1).toNatClampNeg) rfl d_X10_lets_28 ?_
  refine z_iload_n cx d_X10_lets_29 2 rfl ?_
  refine z_bipush (v := 8) cx d_X10_lets_30 kb_8 ?_
  refine z_idiv cx d_X10_lets_32 (by decide) ?_
  refine z_iadd cx d_X10_lets_33 ?_
  refine z_sipush (v := 9999) cx d_X10_lets_34 ks_9999 ?_
  refine z_icmp_le cx 42 d_X10_lets_37 (by decide) hF (fun hF => ?_) (fun hF => ?_)
  · refine z_aload_n cx d_X10_lets_42 0 rfl ?_
    refine z_iconst (v := 0) cx d_X10_lets_43 ki_0 ?_
    refine z_iload_n cx d_X10_lets_44 1 rfl ?_
    refine z_iadd cx d_X10_lets_45 ?_
    refine z_dup2 cx d_X10_lets_46 rfl rfl ?_
    refine z_iald cx hT_p0 za_36 hi2 (((0 : Int32) + p1).toNatClampNeg) rfl d_X10_lets_47 ?_
    refine z_iload_n cx d_X10_lets_48 2 rfl ?_
    refine z_iadd cx d_X10_lets_49 ?_
    refine z_iast cx hT_p0 za_36 hi2 (((0 : Int32) + p1).toNatClampNeg) rfl d_X10_lets_50 ?_
    refine z_nmM hF (fun M4 hF => ?_)
    refine z_aload_n cx d_X10_lets_51 0 rfl ?_
    refine z_bipush (v := 64) cx d_X10_lets_52 kb_64 ?_
    refine z_iload_n cx d_X10_lets_54 1 rfl ?_
    refine z_iadd cx d_X10_lets_55 ?_
    refine z_dup2 cx d_X10_lets_56 rfl rfl ?_
    refine z_iald cx hT_p0 za_36 hi3 (((64 : Int32) + p1).toNatClampNeg) rfl d_X10_lets_57 ?_
    refine z_iload_n cx d_X10_lets_58 2 rfl ?_
    refine z_bipush (v := 8) cx d_X10_lets_59 kb_8 ?_
    refine z_idiv cx d_X10_lets_61 (by decide) ?_
    refine z_iadd cx d_X10_lets_62 ?_
    refine z_iast cx hT_p0 za_36 hi3 (((64 : Int32) + p1).toNatClampNeg) rfl d_X10_lets_63 ?_
    refine z_nmM hF (fun M5 hF => ?_)
    refine z_iconst (v := 1) cx d_X10_lets_64 ki_1 ?_
    exact z_iret cx hr nb1 hF d_X10_lets_65
  refine z_iconst (v := 0) cx d_X10_lets_40 ki_0 ?_
  exact z_iret cx hr nb0 hF d_X10_lets_41
/-! SunnyPansModel.carts -/
theorem ks_194 : (Int16.ofInt (194)).toInt32 = (194 : Int32) := by decide +kernel
theorem d_X10_carts_0 : decode cX10_carts 0 = .ok (.aload_n 0, 1) := by decide +kernel
theorem d_X10_carts_1 : decode cX10_carts 1 = .ok (.sipush 128, 3) := by decide +kernel
theorem d_X10_carts_4 : decode cX10_carts 4 = .ok (.iload_n 1, 1) := by decide +kernel
theorem d_X10_carts_5 : decode cX10_carts 5 = .ok (.iadd, 1) := by decide +kernel
theorem d_X10_carts_6 : decode cX10_carts 6 = .ok (.iaload, 1) := by decide +kernel
theorem d_X10_carts_7 : decode cX10_carts 7 = .ok (.ifCond .ne 5, 3) := by decide +kernel
theorem d_X10_carts_10 : decode cX10_carts 10 = .ok (.iconst 0, 1) := by decide +kernel
theorem d_X10_carts_11 : decode cX10_carts 11 = .ok (.ireturn, 1) := by decide +kernel
theorem d_X10_carts_12 : decode cX10_carts 12 = .ok (.aload_n 0, 1) := by decide +kernel
theorem d_X10_carts_13 : decode cX10_carts 13 = .ok (.sipush 194, 3) := by decide +kernel
theorem d_X10_carts_16 : decode cX10_carts 16 = .ok (.dup2, 1) := by decide +kernel
theorem d_X10_carts_17 : decode cX10_carts 17 = .ok (.iaload, 1) := by decide +kernel
theorem d_X10_carts_18 : decode cX10_carts 18 = .ok (.aload_n 0, 1) := by decide +kernel
theorem d_X10_carts_19 : decode cX10_carts 19 = .ok (.sipush 128, 3) := by decide +kernel
theorem d_X10_carts_22 : decode cX10_carts 22 = .ok (.iload_n 1, 1) := by decide +kernel
theorem d_X10_carts_23 : decode cX10_carts 23 = .ok (.iadd, 1) := by decide +kernel
theorem d_X10_carts_24 : decode cX10_carts 24 = .ok (.iaload, 1) := by decide +kernel
theorem d_X10_carts_25 : decode cX10_carts 25 = .ok (.iadd, 1) := by decide +kernel
theorem d_X10_carts_26 : decode cX10_carts 26 = .ok (.iastore, 1) := by decide +kernel
theorem d_X10_carts_27 : decode cX10_carts 27 = .ok (.aload_n 0, 1) := by decide +kernel
theorem d_X10_carts_28 : decode cX10_carts 28 = .ok (.sipush 128, 3) := by decide +kernel
theorem d_X10_carts_31 : decode cX10_carts 31 = .ok (.iload_n 1, 1) := by decide +kernel
theorem d_X10_carts_32 : decode cX10_carts 32 = .ok (.iadd, 1) := by decide +kernel
theorem d_X10_carts_33 : decode cX10_carts 33 = .ok (.iconst 0, 1) := by decide +kernel
theorem d_X10_carts_34 : decode cX10_carts 34 = .ok (.iastore, 1) := by decide +kernel
theorem d_X10_carts_35 : decode cX10_carts 35 = .ok (.iconst 1, 1) := by decide +kernel
theorem d_X10_carts_36 : decode cX10_carts 36 = .ok (.ireturn, 1) := by decide +kernel
def F_X10_carts (M : zMem) (p0 : Nat) (p1 : Int32) : Option (Int32 × zMem) :=
  gin ((128 : Int32) + p1) 195 <|
  if (M.1 p0 ((128 : Int32) + p1).toNatClampNeg) = 0 then
    some ((0 : Int32), M)
  else
    zl (zI M p0 194 ((M.1 p0 194) + (M.1 p0 ((128 : Int32) + p1).toNatClampNeg))) fun M2 =>
    zl (zI M2 p0 (((128 : Int32) + p1).toNatClampNeg) (0 : Int32)) fun M3 =>
    some ((1 : Int32), M3)
def rm_X10_carts : Room := { frames := 2, cells := 0, slots := 0, locals := 80 }
set_option maxHeartbeats 4000000 in
set_option maxRecDepth 100000 in
theorem c_X10_carts (l : Launch) {G : zG} {ad : Nat → Nat} {n : Nat} (hA : zInj ad n) (M : zMem) (p0 : Nat) (p1 : Int32) (hT_p0 : zT shM n p0 36) {r9 : Int32} {M9 : zMem} (hF : F_X10_carts M p0 p1 = some (r9, M9)) : zM l yX10_carts cX10_carts 2 (some .boolean) rm_X10_carts G shM ad n M [.ref (ad p0), .int p1] (some (.int r9)) M9 := by
  refine zM_of hA (by decide +kernel) (lv := [(0, .ref (ad p0)), (1, .int p1)]) (Nat.le_of_ble_eq_true rfl) rfl (fun p e s m args below meth c A cx hr => ?_)
  unfold F_X10_carts at hF
  refine z_aload_n cx d_X10_carts_0 0 rfl ?_
  refine z_sipush (v := 128) cx d_X10_carts_1 ks_128 ?_
  refine z_iload_n cx d_X10_carts_4 1 rfl ?_
  refine z_iadd cx d_X10_carts_5 ?_
  obtain ⟨hi1, hF⟩ := gin_inv hF
  refine z_iald cx hT_p0 za_36 hi1 (((128 : Int32) + p1).toNatClampNeg) rfl d_X10_carts_6 ?_
  refine z_if_ne cx 12 d_X10_carts_7 (by decide) hF (fun hF => ?_) (fun hF => ?_)
  · refine z_aload_n cx d_X10_carts_12 0 rfl ?_
    refine z_sipush (v := 194) cx d_X10_carts_13 ks_194 ?_
    refine z_dup2 cx d_X10_carts_16 rfl rfl ?_
    refine z_iald cx hT_p0 za_36 (zvp (by decide +kernel)) 194 rfl d_X10_carts_17 ?_
    refine z_aload_n cx d_X10_carts_18 0 rfl ?_
    refine z_sipush (v := 128) cx d_X10_carts_19 ks_128 ?_
    refine z_iload_n cx d_X10_carts_22 1 rfl ?_
    refine z_iadd cx d_X10_carts_23 ?_
    refine z_iald cx hT_p0 za_36 hi1 (((128 : Int32) + p1).toNatClampNeg) rfl d_X10_carts_24 ?_
    refine z_iadd cx d_X10_carts_25 ?_
    refine z_iast cx hT_p0 za_36 (zvp (by decide +kernel)) 194 rfl d_X10_carts_26 ?_
    refine z_nmM hF (fun M2 hF => ?_)
    refine z_aload_n cx d_X10_carts_27 0 rfl ?_
    refine z_sipush (v := 128) cx d_X10_carts_28 ks_128 ?_
    refine z_iload_n cx d_X10_carts_31 1 rfl ?_
    refine z_iadd cx d_X10_carts_32 ?_
    refine z_iconst (v := 0) cx d_X10_carts_33 ki_0 ?_
    refine z_iast cx hT_p0 za_36 hi1 (((128 : Int32) + p1).toNatClampNeg) rfl d_X10_carts_34 ?_
    refine z_nmM hF (fun M3 hF => ?_)
    refine z_iconst (v := 1) cx d_X10_carts_35 ki_1 ?_
    exact z_iret cx hr nb1 hF d_X10_carts_36
  refine z_iconst (v := 0) cx d_X10_carts_10 ki_0 ?_
  exact z_iret cx hr nb0 hF d_X10_carts_11
/-! SunnyPansModel.does -/
set_option maxRecDepth 100000 in
theorem wd_1697 : Cond.code yX10_hourEnds cX10_hourEnds 3 none ∈ tbG := tw7 157 rfl rfl
set_option maxRecDepth 100000 in
theorem wd_1694 : Cond.methodLink "SunnyPansModel" 299 yX10_hourEnds ∈ tbG := tw7 154 rfl rfl
set_option maxRecDepth 100000 in
theorem wd_1696 : Cond.instanceMethod yX10_hourEnds ∈ tbG := tw7 156 rfl rfl
theorem wd_73 : Cond.selects "SunnyPansModel" yX10_hourEnds yX10_hourEnds ∈ tbG := tw 73 (by decide +kernel) rfl
theorem cv_SunnyPansModel_299 : zCV "SunnyPansModel" 299 "SunnyPansModel" yX10_hourEnds cX10_hourEnds 3 none 1 := zCV_of wd_1694 wd_1696 wd_73 wd_111 wd_1697 (by decide +kernel)
set_option maxRecDepth 100000 in
theorem wd_1679 : Cond.code yX10_rains cX10_rains 4 none ∈ tbG := tw7 139 rfl rfl
set_option maxRecDepth 100000 in
theorem wd_1676 : Cond.methodLink "SunnyPansModel" 296 yX10_rains ∈ tbG := tw7 136 rfl rfl
set_option maxRecDepth 100000 in
theorem wd_1678 : Cond.instanceMethod yX10_rains ∈ tbG := tw7 138 rfl rfl
theorem wd_70 : Cond.selects "SunnyPansModel" yX10_rains yX10_rains ∈ tbG := tw 70 (by decide +kernel) rfl
theorem cv_SunnyPansModel_296 : zCV "SunnyPansModel" 296 "SunnyPansModel" yX10_rains cX10_rains 4 none 2 := zCV_of wd_1676 wd_1678 wd_70 wd_111 wd_1679 (by decide +kernel)
set_option maxRecDepth 100000 in
theorem wd_1675 : Cond.code yX10_carts cX10_carts 2 (some .boolean) ∈ tbG := tw7 135 rfl rfl
set_option maxRecDepth 100000 in
theorem wd_1673 : Cond.methodLink "SunnyPansModel" 293 yX10_carts ∈ tbG := tw7 133 rfl rfl
set_option maxRecDepth 100000 in
theorem wd_1674 : Cond.static yX10_carts ∈ tbG := tw7 134 rfl rfl
theorem cs_SunnyPansModel_293 : zCS "SunnyPansModel" 293 yX10_carts cX10_carts 2 (some .boolean) 2 := zCS_of wd_1673 wd_1674 wd_111 wd_1675 (by decide +kernel)
set_option maxRecDepth 100000 in
theorem wd_1669 : Cond.code yX10_canRake cX10_canRake 4 (some .boolean) ∈ tbG := tw7 129 rfl rfl
set_option maxRecDepth 100000 in
theorem wd_1666 : Cond.methodLink "SunnyPansModel" 290 yX10_canRake ∈ tbG := tw7 126 rfl rfl
set_option maxRecDepth 100000 in
theorem wd_1668 : Cond.instanceMethod yX10_canRake ∈ tbG := tw7 128 rfl rfl
theorem wd_69 : Cond.selects "SunnyPansModel" yX10_canRake yX10_canRake ∈ tbG := tw 69 (by decide +kernel) rfl
theorem cv_SunnyPansModel_290 : zCV "SunnyPansModel" 290 "SunnyPansModel" yX10_canRake cX10_canRake 4 (some .boolean) 3 := zCV_of wd_1666 wd_1668 wd_69 wd_111 wd_1669 (by decide +kernel)
set_option maxRecDepth 100000 in
theorem wd_1665 : Cond.code yX10_lets cX10_lets 3 (some .boolean) ∈ tbG := tw7 125 rfl rfl
set_option maxRecDepth 100000 in
theorem wd_1663 : Cond.methodLink "SunnyPansModel" 287 yX10_lets ∈ tbG := tw7 123 rfl rfl
set_option maxRecDepth 100000 in
theorem wd_1664 : Cond.static yX10_lets ∈ tbG := tw7 124 rfl rfl
theorem cs_SunnyPansModel_287 : zCS "SunnyPansModel" 287 yX10_lets cX10_lets 3 (some .boolean) 3 := zCS_of wd_1663 wd_1664 wd_111 wd_1665 (by decide +kernel)
theorem d_X10_does_0 : decode cX10_does 0 = .ok (.aload_n 2, 1) := by decide +kernel
theorem d_X10_does_1 : decode cX10_does 1 = .ok (.iconst 1, 1) := by decide +kernel
theorem d_X10_does_2 : decode cX10_does 2 = .ok (.iaload, 1) := by decide +kernel
theorem d_X10_does_3 : decode cX10_does 3 = .ok (.istore_n 3, 1) := by decide +kernel
theorem d_X10_does_4 : decode cX10_does 4 = .ok (.aload_n 2, 1) := by decide +kernel
theorem d_X10_does_5 : decode cX10_does 5 = .ok (.iconst 0, 1) := by decide +kernel
theorem d_X10_does_6 : decode cX10_does 6 = .ok (.iaload, 1) := by decide +kernel
theorem d_X10_does_7 : decode cX10_does 7 = .ok (.tableswitch 93 0 3 #[29, 38, 79, 85], 29) := by decide +kernel
theorem d_X10_does_36 : decode cX10_does 36 = .ok (.aload_n 1, 1) := by decide +kernel
theorem d_X10_does_37 : decode cX10_does 37 = .ok (.iload_n 3, 1) := by decide +kernel
theorem d_X10_does_38 : decode cX10_does 38 = .ok (.aload_n 2, 1) := by decide +kernel
theorem d_X10_does_39 : decode cX10_does 39 = .ok (.iconst 2, 1) := by decide +kernel
theorem d_X10_does_40 : decode cX10_does 40 = .ok (.iaload, 1) := by decide +kernel
theorem d_X10_does_41 : decode cX10_does 41 = .ok (.invokestatic 287, 3) := by decide +kernel
theorem d_X10_does_44 : decode cX10_does 44 = .ok (.ireturn, 1) := by decide +kernel
theorem d_X10_does_45 : decode cX10_does 45 = .ok (.aload_n 0, 1) := by decide +kernel
theorem d_X10_does_46 : decode cX10_does 46 = .ok (.aload_n 1, 1) := by decide +kernel
theorem d_X10_does_47 : decode cX10_does 47 = .ok (.iload_n 3, 1) := by decide +kernel
theorem d_X10_does_48 : decode cX10_does 48 = .ok (.aload_n 2, 1) := by decide +kernel
theorem d_X10_does_49 : decode cX10_does 49 = .ok (.iconst 2, 1) := by decide +kernel
theorem d_X10_does_50 : decode cX10_does 50 = .ok (.iaload, 1) := by decide +kernel
theorem d_X10_does_51 : decode cX10_does 51 = .ok (.invokevirtual 290, 3) := by decide +kernel
theorem d_X10_does_54 : decode cX10_does 54 = .ok (.ifCond .ne 5, 3) := by decide +kernel
theorem d_X10_does_57 : decode cX10_does 57 = .ok (.iconst 0, 1) := by decide +kernel
theorem d_X10_does_58 : decode cX10_does 58 = .ok (.ireturn, 1) := by decide +kernel
theorem d_X10_does_59 : decode cX10_does 59 = .ok (.aload_n 1, 1) := by decide +kernel
theorem d_X10_does_60 : decode cX10_does 60 = .ok (.sipush 128, 3) := by decide +kernel
theorem d_X10_does_63 : decode cX10_does 63 = .ok (.aload_n 2, 1) := by decide +kernel
theorem d_X10_does_64 : decode cX10_does 64 = .ok (.iconst 2, 1) := by decide +kernel
theorem d_X10_does_65 : decode cX10_does 65 = .ok (.iaload, 1) := by decide +kernel
theorem d_X10_does_66 : decode cX10_does 66 = .ok (.iadd, 1) := by decide +kernel
theorem d_X10_does_67 : decode cX10_does 67 = .ok (.dup2, 1) := by decide +kernel
theorem d_X10_does_68 : decode cX10_does 68 = .ok (.iaload, 1) := by decide +kernel
theorem d_X10_does_69 : decode cX10_does 69 = .ok (.aload_n 1, 1) := by decide +kernel
theorem d_X10_does_70 : decode cX10_does 70 = .ok (.bipush 64, 2) := by decide +kernel
theorem d_X10_does_72 : decode cX10_does 72 = .ok (.iload_n 3, 1) := by decide +kernel
theorem d_X10_does_73 : decode cX10_does 73 = .ok (.iadd, 1) := by decide +kernel
theorem d_X10_does_74 : decode cX10_does 74 = .ok (.iaload, 1) := by decide +kernel
theorem d_X10_does_75 : decode cX10_does 75 = .ok (.iadd, 1) := by decide +kernel
theorem d_X10_does_76 : decode cX10_does 76 = .ok (.iastore, 1) := by decide +kernel
theorem d_X10_does_77 : decode cX10_does 77 = .ok (.aload_n 1, 1) := by decide +kernel
theorem d_X10_does_78 : decode cX10_does 78 = .ok (.bipush 64, 2) := by decide +kernel
theorem d_X10_does_80 : decode cX10_does 80 = .ok (.iload_n 3, 1) := by decide +kernel
theorem d_X10_does_81 : decode cX10_does 81 = .ok (.iadd, 1) := by decide +kernel
theorem d_X10_does_82 : decode cX10_does 82 = .ok (.iconst 0, 1) := by decide +kernel
theorem d_X10_does_83 : decode cX10_does 83 = .ok (.iastore, 1) := by decide +kernel
theorem d_X10_does_84 : decode cX10_does 84 = .ok (.iconst 1, 1) := by decide +kernel
theorem d_X10_does_85 : decode cX10_does 85 = .ok (.ireturn, 1) := by decide +kernel
theorem d_X10_does_86 : decode cX10_does 86 = .ok (.aload_n 1, 1) := by decide +kernel
theorem d_X10_does_87 : decode cX10_does 87 = .ok (.iload_n 3, 1) := by decide +kernel
theorem d_X10_does_88 : decode cX10_does 88 = .ok (.invokestatic 293, 3) := by decide +kernel
theorem d_X10_does_91 : decode cX10_does 91 = .ok (.ireturn, 1) := by decide +kernel
theorem d_X10_does_92 : decode cX10_does 92 = .ok (.aload_n 0, 1) := by decide +kernel
theorem d_X10_does_93 : decode cX10_does 93 = .ok (.aload_n 1, 1) := by decide +kernel
theorem d_X10_does_94 : decode cX10_does 94 = .ok (.iload_n 3, 1) := by decide +kernel
theorem d_X10_does_95 : decode cX10_does 95 = .ok (.invokevirtual 296, 3) := by decide +kernel
theorem d_X10_does_98 : decode cX10_does 98 = .ok (.iconst 1, 1) := by decide +kernel
theorem d_X10_does_99 : decode cX10_does 99 = .ok (.ireturn, 1) := by decide +kernel
theorem d_X10_does_100 : decode cX10_does 100 = .ok (.aload_n 0, 1) := by decide +kernel
theorem d_X10_does_101 : decode cX10_does 101 = .ok (.getfield 23, 3) := by decide +kernel
theorem d_X10_does_104 : decode cX10_does 104 = .ok (.iconst 2, 1) := by decide +kernel
theorem d_X10_does_105 : decode cX10_does 105 = .ok (.iaload, 1) := by decide +kernel
theorem d_X10_does_106 : decode cX10_does 106 = .ok (.ifCond .eq 14, 3) := by decide +kernel
theorem d_X10_does_109 : decode cX10_does 109 = .ok (.aload_n 1, 1) := by decide +kernel
theorem d_X10_does_110 : decode cX10_does 110 = .ok (.sipush 192, 3) := by decide +kernel
theorem d_X10_does_113 : decode cX10_does 113 = .ok (.iaload, 1) := by decide +kernel
theorem d_X10_does_114 : decode cX10_does 114 = .ok (.sipush 400, 3) := by decide +kernel
theorem d_X10_does_117 : decode cX10_does 117 = .ok (.if_icmp .lt 5, 3) := by decide +kernel
theorem d_X10_does_120 : decode cX10_does 120 = .ok (.iconst 0, 1) := by decide +kernel
theorem d_X10_does_121 : decode cX10_does 121 = .ok (.ireturn, 1) := by decide +kernel
theorem d_X10_does_122 : decode cX10_does 122 = .ok (.aload_n 0, 1) := by decide +kernel
theorem d_X10_does_123 : decode cX10_does 123 = .ok (.aload_n 1, 1) := by decide +kernel
theorem d_X10_does_124 : decode cX10_does 124 = .ok (.invokevirtual 299, 3) := by decide +kernel
theorem d_X10_does_127 : decode cX10_does 127 = .ok (.iconst 1, 1) := by decide +kernel
theorem d_X10_does_128 : decode cX10_does 128 = .ok (.ireturn, 1) := by decide +kernel
def F_X10_does_100 (p0 : Nat) (p1 : Nat) (M : zMem) : Option (Int32 × zMem) :=
  if (M.1 4 2) = 0 then
    some ((0 : Int32), M)
  else
    if (M.1 p0 192) < (400 : Int32) then
      zbv (F_X10_hourEnds M p0) fun M1 =>
      some ((1 : Int32), M1)
    else
      some ((0 : Int32), M)
def F_X10_does_92 (p0 : Nat) (p1 : Nat) (b92_L3 : Int32) (M : zMem) : Option (Int32 × zMem) :=
  zbv (F_X10_rains M p0 b92_L3) fun M2 =>
  some ((1 : Int32), M2)
def F_X10_does_86 (p0 : Nat) (p1 : Nat) (b86_L3 : Int32) (M : zMem) : Option (Int32 × zMem) :=
  zb (F_X10_carts M p0 b86_L3) fun v4 M3 =>
  gd (v4 == 0 || v4 == 1) <|
  some (v4, M3)
def F_X10_does_45 (p0 : Nat) (p1 : Nat) (b45_L3 : Int32) (M : zMem) : Option (Int32 × zMem) :=
  zb (F_X10_canRake M p0 b45_L3 (M.1 p1 2)) fun v7 M6 =>
  if v7 = 0 then
    some ((0 : Int32), M6)
  else
    gin ((128 : Int32) + (M6.1 p1 2)) 195 <|
    gin ((64 : Int32) + b45_L3) 195 <|
    zl (zI M6 p0 (((128 : Int32) + (M6.1 p1 2)).toNatClampNeg) ((M6.1 p0 ((128 : Int32) + (M6.1 p1 2)).toNatClampNeg) + (M6.1 p0 ((64 : Int32) + b45_L3).toNatClampNeg))) fun M10 =>
    zl (zI M10 p0 (((64 : Int32) + b45_L3).toNatClampNeg) (0 : Int32)) fun M11 =>
    some ((1 : Int32), M11)
def F_X10_does_36 (p0 : Nat) (p1 : Nat) (b36_L3 : Int32) (M : zMem) : Option (Int32 × zMem) :=
  zb (F_X10_lets M p0 b36_L3 (M.1 p1 2)) fun v13 M12 =>
  gd (v13 == 0 || v13 == 1) <|
  some (v13, M12)
def F_X10_does (M : zMem) (p0 : Nat) (p1 : Nat) : Option (Int32 × zMem) :=
  zl (M.1 p1 1) fun v15 =>
  if (M.1 p1 0) = 0 then
    F_X10_does_36 p0 p1 v15 M
  else
  if (M.1 p1 0) = 1 then
    F_X10_does_45 p0 p1 v15 M
  else
  if (M.1 p1 0) = 2 then
    F_X10_does_86 p0 p1 v15 M
  else
  if (M.1 p1 0) = 3 then
    F_X10_does_92 p0 p1 v15 M
  else
  F_X10_does_100 p0 p1 M
def rm_X10_does : Room := { frames := 9, cells := 0, slots := 0, locals := 240 }
set_option maxHeartbeats 4000000 in
set_option maxRecDepth 100000 in
theorem c_X10_does (l : Launch) {G : zG} {ad : Nat → Nat} {n : Nat} (hA : zInj ad n) (M : zMem) (p0 : Nat) (p1 : Nat) (hT : zT shM n 0 11) (hT_p0 : zT shM n p0 36) (hT_p1 : zT shM n p1 35) {r9 : Int32} {M9 : zMem} (hF : F_X10_does M p0 p1 = some (r9, M9)) : zM l yX10_does cX10_does 4 (some .boolean) rm_X10_does G shM ad n M [.ref (ad 0), .ref (ad p0), .ref (ad p1)] (some (.int r9)) M9 := by
  refine zM_of hA (by decide +kernel) (lv := [(0, .ref (ad 0)), (1, .ref (ad p0)), (2, .ref (ad p1))]) (Nat.le_of_ble_eq_true rfl) rfl (fun p e s m args below meth c A cx hr => ?_)
  have hb100 : ∀ (M : zMem), F_X10_does_100 p0 p1 M = some (r9, M9) → zJ p l e rm_X10_does s m args below meth c G shM ad n A 4 (MQ below (zQ G shM ad n M9 (some (.int r9)) A) args s 0 0 A) 0 0 M 100 [(0, .ref (ad 0)), (1, .ref (ad p0))] [] := by
    intro M hF
    unfold F_X10_does_100 at hF
    refine z_aload_n cx d_X10_does_100 0 rfl ?_
    refine z_getR cx hT fg_SunnyPansModel_23 4 rfl d_X10_does_101 ?_
    refine z_iconst (v := 2) cx d_X10_does_104 ki_2 ?_
    refine z_iald cx (tfM_11_4 hT) za_28 (zvp (by decide +kernel)) 2 rfl d_X10_does_105 ?_
    refine z_if_eq cx 120 d_X10_does_106 (by decide) hF (fun hF => ?_) (fun hF => ?_)
    · refine z_iconst (v := 0) cx d_X10_does_120 ki_0 ?_
      exact z_iret cx hr nb0 hF d_X10_does_121
    refine z_aload_n cx d_X10_does_109 1 rfl ?_
    refine z_sipush (v := 192) cx d_X10_does_110 ks_192 ?_
    refine z_iald cx hT_p0 za_36 (zvp (by decide +kernel)) 192 rfl d_X10_does_113 ?_
    refine z_sipush (v := 400) cx d_X10_does_114 ks_400 ?_
    refine z_icmp_lt cx 122 d_X10_does_117 (by decide) hF (fun hF => ?_) (fun hF => ?_)
    · refine z_aload_n cx d_X10_does_122 0 rfl ?_
      refine z_aload_n cx d_X10_does_123 1 rfl ?_
      obtain ⟨M1, hc, hF⟩ := zbv_inv hF
      refine z_callV cx (As := [.ref (ad p0)]) (rest := []) (c_X10_hourEnds l cx.2.2.2.1.1 M p0 hT hT_p0 hc) hT zo_11 cv_SunnyPansModel_299 ⟨rfl, rfl, Nat.le_of_ble_eq_true rfl, Nat.le_of_ble_eq_true rfl⟩ rfl rfl ⟨Nat.zero_le _, Nat.zero_le _⟩ (Nat.le_of_ble_eq_true rfl) d_X10_does_124 ?_
      refine z_iconst (v := 1) cx d_X10_does_127 ki_1 ?_
      exact z_iret cx hr nb1 hF d_X10_does_128
    refine z_iconst (v := 0) cx d_X10_does_120 ki_0 ?_
    exact z_iret cx hr nb0 hF d_X10_does_121
  have hb92 : ∀ (b92_L3 : Int32) (M : zMem), F_X10_does_92 p0 p1 b92_L3 M = some (r9, M9) → zJ p l e rm_X10_does s m args below meth c G shM ad n A 4 (MQ below (zQ G shM ad n M9 (some (.int r9)) A) args s 0 0 A) 0 0 M 92 [(0, .ref (ad 0)), (1, .ref (ad p0)), (3, .int b92_L3)] [] := by
    intro b92_L3 M hF
    unfold F_X10_does_92 at hF
    refine z_aload_n cx d_X10_does_92 0 rfl ?_
    refine z_aload_n cx d_X10_does_93 1 rfl ?_
    refine z_iload_n cx d_X10_does_94 2 rfl ?_
    obtain ⟨M2, hc, hF⟩ := zbv_inv hF
    refine z_callV cx (As := [.ref (ad p0), .int b92_L3]) (rest := []) (c_X10_rains l cx.2.2.2.1.1 M p0 b92_L3 hT hT_p0 hc) hT zo_11 cv_SunnyPansModel_296 ⟨rfl, rfl, Nat.le_of_ble_eq_true rfl, Nat.le_of_ble_eq_true rfl⟩ rfl rfl ⟨Nat.zero_le _, Nat.zero_le _⟩ (Nat.le_of_ble_eq_true rfl) d_X10_does_95 ?_
    refine z_iconst (v := 1) cx d_X10_does_98 ki_1 ?_
    exact z_iret cx hr nb1 hF d_X10_does_99
  have hb86 : ∀ (b86_L3 : Int32) (M : zMem), F_X10_does_86 p0 p1 b86_L3 M = some (r9, M9) → zJ p l e rm_X10_does s m args below meth c G shM ad n A 4 (MQ below (zQ G shM ad n M9 (some (.int r9)) A) args s 0 0 A) 0 0 M 86 [(1, .ref (ad p0)), (3, .int b86_L3)] [] := by
    intro b86_L3 M hF
    unfold F_X10_does_86 at hF
    refine z_aload_n cx d_X10_does_86 0 rfl ?_
    refine z_iload_n cx d_X10_does_87 1 rfl ?_
    obtain ⟨v4, M3, hc, hF⟩ := zb_inv hF
    refine z_callS cx (As := [.ref (ad p0), .int b86_L3]) (rest := []) (c_X10_carts l cx.2.2.2.1.1 M p0 b86_L3 hT_p0 hc) cs_SunnyPansModel_293 ⟨rfl, rfl, Nat.le_of_ble_eq_true rfl, Nat.le_of_ble_eq_true rfl⟩ rfl rfl ⟨Nat.zero_le _, Nat.zero_le _⟩ (Nat.le_of_ble_eq_true rfl) d_X10_does_88 ?_
    obtain ⟨hn5, hF⟩ := gd_inv hF
    exact z_iret cx hr (nbx hn5) hF d_X10_does_91
  have hb45 : ∀ (b45_L3 : Int32) (M : zMem), F_X10_does_45 p0 p1 b45_L3 M = some (r9, M9) → zJ p l e rm_X10_does s m args below meth c G shM ad n A 4 (MQ below (zQ G shM ad n M9 (some (.int r9)) A) args s 0 0 A) 0 0 M 45 [(0, .ref (ad 0)), (1, .ref (ad p0)), (2, .ref (ad p1)), (3, .int b45_L3)] [] := by
    intro b45_L3 M hF
    unfold F_X10_does_45 at hF
    refine z_aload_n cx d_X10_does_45 0 rfl ?_
    refine z_aload_n cx d_X10_does_46 1 rfl ?_
    refine z_iload_n cx d_X10_does_47 3 rfl ?_
    refine z_aload_n cx d_X10_does_48 2 rfl ?_
    refine z_iconst (v := 2) cx d_X10_does_49 ki_2 ?_
    refine z_iald cx hT_p1 za_35 (zvp (by decide +kernel)) 2 rfl d_X10_does_50 ?_
    obtain ⟨v7, M6, hc, hF⟩ := zb_inv hF
    refine z_callV cx (As := [.ref (ad p0), .int b45_L3, .int (M.1 p1 2)]) (rest := []) (c_X10_canRake l cx.2.2.2.1.1 M p0 b45_L3 (M.1 p1 2) hT hT_p0 hc) hT zo_11 cv_SunnyPansModel_290 ⟨rfl, rfl, Nat.le_of_ble_eq_true rfl, Nat.le_of_ble_eq_true rfl⟩ rfl rfl ⟨Nat.zero_le _, Nat.zero_le _⟩ (Nat.le_of_ble_eq_true rfl) d_X10_does_51 ?_
    refine z_if_ne cx 59 d_X10_does_54 (by decide) hF (fun hF => ?_) (fun hF => ?_)
    · refine z_aload_n cx d_X10_does_59 1 rfl ?_
      refine z_sipush (v := 128) cx d_X10_does_60 ks_128 ?_
      refine z_aload_n cx d_X10_does_63 2 rfl ?_
      refine z_iconst (v := 2) cx d_X10_does_64 ki_2 ?_
      refine z_iald cx hT_p1 za_35 (zvp (by decide +kernel)) 2 rfl d_X10_does_65 ?_
      refine z_iadd cx d_X10_does_66 ?_
      refine z_dup2 cx d_X10_does_67 rfl rfl ?_
      obtain ⟨hi8, hF⟩ := gin_inv hF
      refine z_iald cx hT_p0 za_36 hi8 (((128 : Int32) + (M6.1 p1 2)).toNatClampNeg) rfl d_X10_does_68 ?_
      refine z_aload_n cx d_X10_does_69 1 rfl ?_
      refine z_bipush (v := 64) cx d_X10_does_70 kb_64 ?_
      refine z_iload_n cx d_X10_does_72 3 rfl ?_
      refine z_iadd cx d_X10_does_73 ?_
      obtain ⟨hi9, hF⟩ := gin_inv hF
      refine z_iald cx hT_p0 za_36 hi9 (((64 : Int32) + b45_L3).toNatClampNeg) rfl d_X10_does_74 ?_
      refine z_iadd cx d_X10_does_75 ?_
      refine z_iast cx hT_p0 za_36 hi8 (((128 : Int32) + (M6.1 p1 2)).toNatClampNeg) rfl d_X10_does_76 ?_
      refine z_nmM hF (fun M10 hF => ?_)
      refine z_aload_n cx d_X10_does_77 1 rfl ?_
      refine z_bipush (v := 64) cx d_X10_does_78 kb_64 ?_
      refine z_iload_n cx d_X10_does_80 3 rfl ?_
      refine z_iadd cx d_X10_does_81 ?_
      refine z_iconst (v := 0) cx d_X10_does_82 ki_0 ?_
      refine z_iast cx hT_p0 za_36 hi9 (((64 : Int32) + b45_L3).toNatClampNeg) rfl d_X10_does_83 ?_
      refine z_nmM hF (fun M11 hF => ?_)
      refine z_iconst (v := 1) cx d_X10_does_84 ki_1 ?_
      exact z_iret cx hr nb1 hF d_X10_does_85
    refine z_iconst (v := 0) cx d_X10_does_57 ki_0 ?_
    exact z_iret cx hr nb0 hF d_X10_does_58
  have hb36 : ∀ (b36_L3 : Int32) (M : zMem), F_X10_does_36 p0 p1 b36_L3 M = some (r9, M9) → zJ p l e rm_X10_does s m args below meth c G shM ad n A 4 (MQ below (zQ G shM ad n M9 (some (.int r9)) A) args s 0 0 A) 0 0 M 36 [(1, .ref (ad p0)), (2, .ref (ad p1)), (3, .int b36_L3)] [] := by
    intro b36_L3 M hF
    unfold F_X10_does_36 at hF
    refine z_aload_n cx d_X10_does_36 0 rfl ?_
    refine z_iload_n cx d_X10_does_37 2 rfl ?_
    refine z_aload_n cx d_X10_does_38 1 rfl ?_
    refine z_iconst (v := 2) cx d_X10_does_39 ki_2 ?_
    refine z_iald cx hT_p1 za_35 (zvp (by decide +kernel)) 2 rfl d_X10_does_40 ?_
    obtain ⟨v13, M12, hc, hF⟩ := zb_inv hF
    refine z_callS cx (As := [.ref (ad p0), .int b36_L3, .int (M.1 p1 2)]) (rest := []) (c_X10_lets l cx.2.2.2.1.1 M p0 b36_L3 (M.1 p1 2) hT_p0 hc) cs_SunnyPansModel_287 ⟨rfl, rfl, Nat.le_of_ble_eq_true rfl, Nat.le_of_ble_eq_true rfl⟩ rfl rfl ⟨Nat.zero_le _, Nat.zero_le _⟩ (Nat.le_of_ble_eq_true rfl) d_X10_does_41 ?_
    obtain ⟨hn14, hF⟩ := gd_inv hF
    exact z_iret cx hr (nbx hn14) hF d_X10_does_44
  unfold F_X10_does at hF
  refine z_aload_n cx d_X10_does_0 2 rfl ?_
  refine z_iconst (v := 1) cx d_X10_does_1 ki_1 ?_
  refine z_iald cx hT_p1 za_35 (zvp (by decide +kernel)) 1 rfl d_X10_does_2 ?_
  refine z_nm hF (fun v15 hF => ?_)
  refine z_istore_n cx 3 [(3, .int v15), (0, .ref (ad 0)), (1, .ref (ad p0)), (2, .ref (ad p1))] d_X10_does_3 rfl (by decide) rfl ?_
  refine z_aload_n cx d_X10_does_4 3 rfl ?_
  refine z_iconst (v := 0) cx d_X10_does_5 ki_0 ?_
  refine z_iald cx hT_p1 za_35 (zvp (by decide +kernel)) 0 rfl d_X10_does_6 ?_
  by_cases q0 : (M.1 p1 0) = 0
  · rw [if_pos q0] at hF
    refine z_tabIn cx 36 d_X10_does_7 (by rw [q0]; decide +kernel) (by rw [q0]; decide +kernel) (by rw [q0]; rfl) (by decide) ?_
    exact z_lv [2, 3, 0] _ rfl (hb36 v15 M hF)
  rw [if_neg q0] at hF
  by_cases q1 : (M.1 p1 0) = 1
  · rw [if_pos q1] at hF
    refine z_tabIn cx 45 d_X10_does_7 (by rw [q1]; decide +kernel) (by rw [q1]; decide +kernel) (by rw [q1]; rfl) (by decide) ?_
    exact z_lv [1, 2, 3, 0] _ rfl (hb45 v15 M hF)
  rw [if_neg q1] at hF
  by_cases q2 : (M.1 p1 0) = 2
  · rw [if_pos q2] at hF
    refine z_tabIn cx 86 d_X10_does_7 (by rw [q2]; decide +kernel) (by rw [q2]; decide +kernel) (by rw [q2]; rfl) (by decide) ?_
    exact z_lv [2, 0] _ rfl (hb86 v15 M hF)
  rw [if_neg q2] at hF
  by_cases q3 : (M.1 p1 0) = 3
  · rw [if_pos q3] at hF
    refine z_tabIn cx 92 d_X10_does_7 (by rw [q3]; decide +kernel) (by rw [q3]; decide +kernel) (by rw [q3]; rfl) (by decide) ?_
    exact z_lv [1, 2, 0] _ rfl (hb92 v15 M hF)
  rw [if_neg q3] at hF
  refine z_tabOut cx 100 d_X10_does_7 (by have w0 := lv_neT q0 (a := 0) (by decide +kernel); have w1 := lv_neT q1 (a := 1) (by decide +kernel); have w2 := lv_neT q2 (a := 2) (by decide +kernel); have w3 := lv_neT q3 (a := 3) (by decide +kernel); omega) (by decide) ?_
  exact z_lv [1, 2] _ rfl (hb100 M hF)
/-! SunnyPansModel.undo -/
set_option maxRecDepth 100000 in
theorem wd_1418 : Cond.fieldLink "SunnyPansModel" 55 "SunnyPansModel" "step" "[[I" ∈ tbG := tw6 118 rfl rfl
theorem fg_SunnyPansModel_55 : zGetR "SunnyPansModel" 55 10 11 24 370 := ⟨RX10, TX10, 40, rfl, by decide, uw_10, wd_1418, fun _ _ _ _ _ _ => ⟨_, rfl, rfl⟩⟩
theorem za_34 : zArrR 34 80 4 1 1 := ⟨by decide, fun _ _ _ _ _ _ => rfl⟩
theorem teM_34 {n k : Nat} {i : Int32} (h : zT shM n k 34) (hi : vp_in i 80) : zT shM n (k + (1 + 1 * i.toNatClampNeg)) 35 := by
  have hlt : i.toNatClampNeg < 80 := Nat.not_le.mp fun q => hi (Or.inr q)
  have h2 : k + 81 ≤ n := h.2.2
  exact ⟨shM_e (by decide) (by decide +kernel) k h.1 _ hlt, by omega, by show _ + 1 ≤ n; omega⟩
set_option maxRecDepth 100000 in
theorem wd_1430 : Cond.fieldLink "SunnyPansModel" 312 "SunnyPansModel" "doneSteps" "I" ∈ tbG := tw6 130 rfl rfl
theorem fg_SunnyPansModel_312 : zGetI "SunnyPansModel" 312 10 11 36 := ⟨RX10, TX10, 40, rfl, by decide, uw_10, wd_1430, fun _ _ _ _ _ _ => ⟨_, rfl, rfl⟩⟩
theorem fp_SunnyPansModel_312 : zPutI "SunnyPansModel" 312 10 11 36 := ⟨zc_10, fg_SunnyPansModel_312, ⟨RX10, TX10, 40, rfl, rfl, by decide +kernel⟩, fun _ _ _ _ _ _ _ => ⟨_, rfl, Nat.le_of_ble_eq_true rfl, rfl⟩⟩
set_option maxRecDepth 100000 in
theorem wd_1429 : Cond.fieldLink "SunnyPansModel" 302 "SunnyPansModel" "begun" "I" ∈ tbG := tw6 129 rfl rfl
theorem fg_SunnyPansModel_302 : zGetI "SunnyPansModel" 302 10 11 35 := ⟨RX10, TX10, 40, rfl, by decide, uw_10, wd_1429, fun _ _ _ _ _ _ => ⟨_, rfl, rfl⟩⟩
theorem tfM_11_453 {n k : Nat} (h : zT shM n k 11) : zT shM n (k + 453) 37 := zT_off h (shM_f (by decide) (by decide +kernel)) (by decide) (by decide)
set_option maxRecDepth 100000 in
theorem wd_1422 : Cond.fieldLink "SunnyPansModel" 64 "SunnyPansModel" "before" "[[I" ∈ tbG := tw6 122 rfl rfl
theorem fg_SunnyPansModel_64 : zGetR "SunnyPansModel" 64 10 11 28 453 := ⟨RX10, TX10, 40, rfl, by decide, uw_10, wd_1422, fun _ _ _ _ _ _ => ⟨_, rfl, rfl⟩⟩
theorem za_37 : zArrR 37 16 4 1 1 := ⟨by decide, fun _ _ _ _ _ _ => rfl⟩
theorem teM_37 {n k : Nat} {i : Int32} (h : zT shM n k 37) (hi : vp_in i 16) : zT shM n (k + (1 + 1 * i.toNatClampNeg)) 36 := by
  have hlt : i.toNatClampNeg < 16 := Nat.not_le.mp fun q => hi (Or.inr q)
  have h2 : k + 17 ≤ n := h.2.2
  exact ⟨shM_e (by decide) (by decide +kernel) k h.1 _ hlt, by omega, by show _ + 1 ≤ n; omega⟩
set_option maxRecDepth 100000 in
theorem wd_1654 : Cond.code yX10_copies cX10_copies 3 none ∈ tbG := tw7 114 rfl rfl
set_option maxRecDepth 100000 in
theorem wd_1652 : Cond.methodLink "SunnyPansModel" 315 yX10_copies ∈ tbG := tw7 112 rfl rfl
set_option maxRecDepth 100000 in
theorem wd_1653 : Cond.static yX10_copies ∈ tbG := tw7 113 rfl rfl
theorem cs_SunnyPansModel_315 : zCS "SunnyPansModel" 315 yX10_copies cX10_copies 3 none 2 := zCS_of wd_1652 wd_1653 wd_111 wd_1654 (by decide +kernel)
theorem fp_SunnyPansModel_302 : zPutI "SunnyPansModel" 302 10 11 35 := ⟨zc_10, fg_SunnyPansModel_302, ⟨RX10, TX10, 40, rfl, rfl, by decide +kernel⟩, fun _ _ _ _ _ _ _ => ⟨_, rfl, Nat.le_of_ble_eq_true rfl, rfl⟩⟩
theorem d_X10_undo_0 : decode cX10_undo 0 = .ok (.aload_n 0, 1) := by decide +kernel
theorem d_X10_undo_1 : decode cX10_undo 1 = .ok (.iconst 0, 1) := by decide +kernel
theorem d_X10_undo_2 : decode cX10_undo 2 = .ok (.putfield 82, 3) := by decide +kernel
theorem d_X10_undo_5 : decode cX10_undo 5 = .ok (.aload_n 0, 1) := by decide +kernel
theorem d_X10_undo_6 : decode cX10_undo 6 = .ok (.getfield 178, 3) := by decide +kernel
theorem d_X10_undo_9 : decode cX10_undo 9 = .ok (.ifCond .ne 5, 3) := by decide +kernel
theorem d_X10_undo_12 : decode cX10_undo 12 = .ok (.iconst (-1), 1) := by decide +kernel
theorem d_X10_undo_13 : decode cX10_undo 13 = .ok (.ireturn, 1) := by decide +kernel
theorem d_X10_undo_14 : decode cX10_undo 14 = .ok (.aload_n 0, 1) := by decide +kernel
theorem d_X10_undo_15 : decode cX10_undo 15 = .ok (.dup, 1) := by decide +kernel
theorem d_X10_undo_16 : decode cX10_undo 16 = .ok (.getfield 178, 3) := by decide +kernel
theorem d_X10_undo_19 : decode cX10_undo 19 = .ok (.iconst 1, 1) := by decide +kernel
theorem d_X10_undo_20 : decode cX10_undo 20 = .ok (.isub, 1) := by decide +kernel
theorem d_X10_undo_21 : decode cX10_undo 21 = .ok (.putfield 178, 3) := by decide +kernel
theorem d_X10_undo_24 : decode cX10_undo 24 = .ok (.aload_n 0, 1) := by decide +kernel
theorem d_X10_undo_25 : decode cX10_undo 25 = .ok (.getfield 64, 3) := by decide +kernel
theorem d_X10_undo_28 : decode cX10_undo 28 = .ok (.aload_n 0, 1) := by decide +kernel
theorem d_X10_undo_29 : decode cX10_undo 29 = .ok (.getfield 178, 3) := by decide +kernel
theorem d_X10_undo_32 : decode cX10_undo 32 = .ok (.aaload, 1) := by decide +kernel
theorem d_X10_undo_33 : decode cX10_undo 33 = .ok (.aload_n 0, 1) := by decide +kernel
theorem d_X10_undo_34 : decode cX10_undo 34 = .ok (.getfield 58, 3) := by decide +kernel
theorem d_X10_undo_37 : decode cX10_undo 37 = .ok (.invokestatic 315, 3) := by decide +kernel
theorem d_X10_undo_40 : decode cX10_undo 40 = .ok (.aload_n 0, 1) := by decide +kernel
theorem d_X10_undo_41 : decode cX10_undo 41 = .ok (.iconst 0, 1) := by decide +kernel
theorem d_X10_undo_42 : decode cX10_undo 42 = .ok (.putfield 181, 3) := by decide +kernel
theorem d_X10_undo_45 : decode cX10_undo 45 = .ok (.aload_n 0, 1) := by decide +kernel
theorem d_X10_undo_46 : decode cX10_undo 46 = .ok (.getfield 178, 3) := by decide +kernel
theorem d_X10_undo_49 : decode cX10_undo 49 = .ok (.ireturn, 1) := by decide +kernel
def F_X10_undo (M : zMem)  : Option (Int32 × zMem) :=
  zl (zI M 0 0 (0 : Int32)) fun M1 =>
  if (M1.1 0 31) = 0 then
    some ((-1 : Int32), M1)
  else
    zl (zI M1 0 31 ((M1.1 0 31) - (1 : Int32))) fun M2 =>
    gin (M2.1 0 31) 16 <|
    zbv (F_X10_copies M2 (453 + (1 + 1 * (M2.1 0 31).toNatClampNeg)) 451) fun M4 =>
    zl (zI M4 0 32 (0 : Int32)) fun M5 =>
    some ((M5.1 0 31), M5)
def rm_X10_undo : Room := { frames := 3, cells := 0, slots := 0, locals := 102 }
set_option maxHeartbeats 4000000 in
set_option maxRecDepth 100000 in
theorem c_X10_undo (l : Launch) {G : zG} {ad : Nat → Nat} {n : Nat} (hA : zInj ad n) (M : zMem)  (hT : zT shM n 0 11) {r9 : Int32} {M9 : zMem} (hF : F_X10_undo M  = some (r9, M9)) : zM l yX10_undo cX10_undo 1 (some .int) rm_X10_undo G shM ad n M [.ref (ad 0)] (some (.int r9)) M9 := by
  refine zM_of hA (by decide +kernel) (lv := [(0, .ref (ad 0))]) (Nat.le_of_ble_eq_true rfl) rfl (fun p e s m args below meth c A cx hr => ?_)
  unfold F_X10_undo at hF
  refine z_aload_n cx d_X10_undo_0 0 rfl ?_
  refine z_iconst (v := 0) cx d_X10_undo_1 ki_0 ?_
  refine z_putI cx hT fp_SunnyPansModel_82 d_X10_undo_2 ?_
  refine z_nmM hF (fun M1 hF => ?_)
  refine z_aload_n cx d_X10_undo_5 0 rfl ?_
  refine z_getI cx hT fg_SunnyPansModel_178 d_X10_undo_6 ?_
  refine z_if_ne cx 14 d_X10_undo_9 (by decide) hF (fun hF => ?_) (fun hF => ?_)
  · refine z_aload_n cx d_X10_undo_14 0 rfl ?_
    refine z_dup cx d_X10_undo_15 rfl ?_
    refine z_getI cx hT fg_SunnyPansModel_178 d_X10_undo_16 ?_
    refine z_iconst (v := 1) cx d_X10_undo_19 ki_1 ?_
    refine z_isub cx d_X10_undo_20 ?_
    refine z_putI cx hT fp_SunnyPansModel_178 d_X10_undo_21 ?_
    refine z_nmM hF (fun M2 hF => ?_)
    refine z_aload_n cx d_X10_undo_24 0 rfl ?_
    refine z_getR cx hT fg_SunnyPansModel_64 453 rfl d_X10_undo_25 ?_
    refine z_aload_n cx d_X10_undo_28 0 rfl ?_
    refine z_getI cx hT fg_SunnyPansModel_178 d_X10_undo_29 ?_
    obtain ⟨hi3, hF⟩ := gin_inv hF
    refine z_aald cx (tfM_11_453 hT) za_37 hi3 (453 + (1 + 1 * (M2.1 0 31).toNatClampNeg)) rfl d_X10_undo_32 ?_
    refine z_aload_n cx d_X10_undo_33 0 rfl ?_
    refine z_getR cx hT fg_SunnyPansModel_58 451 rfl d_X10_undo_34 ?_
    obtain ⟨M4, hc, hF⟩ := zbv_inv hF
    refine z_callS cx (As := [.ref (ad (453 + (1 + 1 * (M2.1 0 31).toNatClampNeg))), .ref (ad 451)]) (rest := []) (c_X10_copies l cx.2.2.2.1.1 M2 (453 + (1 + 1 * (M2.1 0 31).toNatClampNeg)) 451 (teM_37 (tfM_11_453 hT) hi3) (tfM_11_451 hT) hc) cs_SunnyPansModel_315 ⟨rfl, rfl, Nat.le_of_ble_eq_true rfl, Nat.le_of_ble_eq_true rfl⟩ rfl rfl ⟨Nat.zero_le _, Nat.zero_le _⟩ (Nat.le_of_ble_eq_true rfl) d_X10_undo_37 ?_
    refine z_aload_n cx d_X10_undo_40 0 rfl ?_
    refine z_iconst (v := 0) cx d_X10_undo_41 ki_0 ?_
    refine z_putI cx hT fp_SunnyPansModel_181 d_X10_undo_42 ?_
    refine z_nmM hF (fun M5 hF => ?_)
    refine z_aload_n cx d_X10_undo_45 0 rfl ?_
    refine z_getI cx hT fg_SunnyPansModel_178 d_X10_undo_46 ?_
    exact z_iret cx hr rfl hF d_X10_undo_49
  refine z_iconst (v := -1) cx d_X10_undo_12 ki_m1 ?_
  exact z_iret cx hr rfl hF d_X10_undo_13
/-! SunnyPansModel.together -/
theorem d_X10_together_0 : decode cX10_together 0 = .ok (.iconst 0, 1) := by decide +kernel
theorem d_X10_together_1 : decode cX10_together 1 = .ok (.istore_n 2, 1) := by decide +kernel
theorem d_X10_together_2 : decode cX10_together 2 = .ok (.iconst 0, 1) := by decide +kernel
theorem d_X10_together_3 : decode cX10_together 3 = .ok (.istore_n 3, 1) := by decide +kernel
theorem d_X10_together_4 : decode cX10_together 4 = .ok (.iload_n 3, 1) := by decide +kernel
theorem d_X10_together_5 : decode cX10_together 5 = .ok (.bipush 64, 2) := by decide +kernel
theorem d_X10_together_7 : decode cX10_together 7 = .ok (.if_icmp .ge 17, 3) := by decide +kernel
theorem d_X10_together_10 : decode cX10_together 10 = .ok (.iload_n 2, 1) := by decide +kernel
theorem d_X10_together_11 : decode cX10_together 11 = .ok (.aload_n 0, 1) := by decide +kernel
theorem d_X10_together_12 : decode cX10_together 12 = .ok (.iload_n 1, 1) := by decide +kernel
theorem d_X10_together_13 : decode cX10_together 13 = .ok (.iload_n 3, 1) := by decide +kernel
theorem d_X10_together_14 : decode cX10_together 14 = .ok (.iadd, 1) := by decide +kernel
theorem d_X10_together_15 : decode cX10_together 15 = .ok (.iaload, 1) := by decide +kernel
theorem d_X10_together_16 : decode cX10_together 16 = .ok (.iadd, 1) := by decide +kernel
theorem d_X10_together_17 : decode cX10_together 17 = .ok (.istore_n 2, 1) := by decide +kernel
theorem d_X10_together_18 : decode cX10_together 18 = .ok (.iinc 3 1, 3) := by decide +kernel
theorem d_X10_together_21 : decode cX10_together 21 = .ok (.goto (-17), 3) := by decide +kernel
theorem d_X10_together_24 : decode cX10_together 24 = .ok (.iload_n 2, 1) := by decide +kernel
theorem d_X10_together_25 : decode cX10_together 25 = .ok (.ireturn, 1) := by decide +kernel
def F_X10_together_4 (p0 : Nat) (p1 : Int32) (self4 : Int32 → Int32 → Int32 → zMem → Option (Int32 × zMem)) (b4_L1 : Int32) (b4_L2 : Int32) (b4_L3 : Int32) (M : zMem) : Option (Int32 × zMem) :=
  if (64 : Int32) ≤ b4_L3 then
    some (b4_L2, M)
  else
    gin (b4_L1 + b4_L3) 195 <|
    zl (b4_L2 + (M.1 p0 (b4_L1 + b4_L3).toNatClampNeg)) fun v2 =>
    self4 b4_L1 v2 (b4_L3 + 1) M
def F_X10_together (M : zMem) (p0 : Nat) (p1 : Int32) : Option (Int32 × zMem) :=
  itF (fun _ _ _ _ => none) (F_X10_together_4 p0 p1) zFuel p1 (0 : Int32) (0 : Int32) M
def rm_X10_together : Room := { frames := 2, cells := 0, slots := 0, locals := 80 }
set_option maxHeartbeats 4000000 in
set_option maxRecDepth 100000 in
theorem c_X10_together (l : Launch) {G : zG} {ad : Nat → Nat} {n : Nat} (hA : zInj ad n) (M : zMem) (p0 : Nat) (p1 : Int32) (hT_p0 : zT shM n p0 36) {r9 : Int32} {M9 : zMem} (hF : F_X10_together M p0 p1 = some (r9, M9)) : zM l yX10_together cX10_together 4 (some .int) rm_X10_together G shM ad n M [.ref (ad p0), .int p1] (some (.int r9)) M9 := by
  refine zM_of hA (by decide +kernel) (lv := [(0, .ref (ad p0)), (1, .int p1)]) (Nat.le_of_ble_eq_true rfl) rfl (fun p e s m args below meth c A cx hr => ?_)
  have hL4 : ∀ (fuel : Nat), ∀ (b4_L1 : Int32) (b4_L2 : Int32) (b4_L3 : Int32) (M : zMem), itF (fun _ _ _ _ => none) (F_X10_together_4 p0 p1) fuel b4_L1 b4_L2 b4_L3 M = some (r9, M9) → zJ p l e rm_X10_together s m args below meth c G shM ad n A 4 (MQ below (zQ G shM ad n M9 (some (.int r9)) A) args s 0 0 A) 0 0 M 4 [(0, .ref (ad p0)), (1, .int b4_L1), (2, .int b4_L2), (3, .int b4_L3)] [] := by
    intro fuel
    induction fuel with
    | zero => intro b4_L1 b4_L2 b4_L3 M hF; cases hF
    | succ fuel hs4 =>
      intro b4_L1 b4_L2 b4_L3 M hF
      have hF : F_X10_together_4 p0 p1 (itF (fun _ _ _ _ => none) (F_X10_together_4 p0 p1) fuel) b4_L1 b4_L2 b4_L3 M = some (r9, M9) := hF
      generalize itF (fun _ _ _ _ => none) (F_X10_together_4 p0 p1) fuel = self4 at hs4 hF
      unfold F_X10_together_4 at hF
      refine z_iload_n cx d_X10_together_4 3 rfl ?_
      refine z_bipush (v := 64) cx d_X10_together_5 kb_64 ?_
      refine z_icmp_ge cx 24 d_X10_together_7 (by decide) hF (fun hF => ?_) (fun hF => ?_)
      · refine z_iload_n cx d_X10_together_24 2 rfl ?_
        exact z_iret cx hr rfl hF d_X10_together_25
      refine z_iload_n cx d_X10_together_10 2 rfl ?_
      refine z_aload_n cx d_X10_together_11 0 rfl ?_
      refine z_iload_n cx d_X10_together_12 1 rfl ?_
      refine z_iload_n cx d_X10_together_13 3 rfl ?_
      refine z_iadd cx d_X10_together_14 ?_
      obtain ⟨hi1, hF⟩ := gin_inv hF
      refine z_iald cx hT_p0 za_36 hi1 ((b4_L1 + b4_L3).toNatClampNeg) rfl d_X10_together_15 ?_
      refine z_iadd cx d_X10_together_16 ?_
      refine z_nm hF (fun v2 hF => ?_)
      refine z_istore_n cx 2 [(2, .int v2), (0, .ref (ad p0)), (1, .int b4_L1), (3, .int b4_L3)] d_X10_together_17 rfl (by decide) rfl ?_
      refine z_iinc cx 3 1 [(3, .int (b4_L3 + 1)), (2, .int v2), (0, .ref (ad p0)), (1, .int b4_L1)] d_X10_together_18 3 rfl ki_1 (by decide) rfl ?_
      refine z_goto cx 4 d_X10_together_21 (by decide) ?_
      exact z_lv [2, 3, 1, 0] _ rfl (hs4 b4_L1 v2 (b4_L3 + 1) M hF)
  unfold F_X10_together at hF
  refine z_iconst (v := 0) cx d_X10_together_0 ki_0 ?_
  refine z_istore_n cx 2 [(2, .int (0 : Int32)), (0, .ref (ad p0)), (1, .int p1)] d_X10_together_1 rfl (by decide) rfl ?_
  refine z_iconst (v := 0) cx d_X10_together_2 ki_0 ?_
  refine z_istore_n cx 3 [(3, .int (0 : Int32)), (2, .int (0 : Int32)), (0, .ref (ad p0)), (1, .int p1)] d_X10_together_3 rfl (by decide) rfl ?_
  exact z_lv [2, 3, 1, 0] _ rfl (hL4 zFuel p1 (0 : Int32) (0 : Int32) M hF)
/-! SunnyPansModel.dryOnes -/
theorem d_X10_dryOnes_0 : decode cX10_dryOnes 0 = .ok (.iconst 0, 1) := by decide +kernel
theorem d_X10_dryOnes_1 : decode cX10_dryOnes 1 = .ok (.istore_n 3, 1) := by decide +kernel
theorem d_X10_dryOnes_2 : decode cX10_dryOnes 2 = .ok (.iconst 0, 1) := by decide +kernel
theorem d_X10_dryOnes_3 : decode cX10_dryOnes 3 = .ok (.istore 4, 2) := by decide +kernel
theorem d_X10_dryOnes_5 : decode cX10_dryOnes 5 = .ok (.iload 4, 2) := by decide +kernel
theorem d_X10_dryOnes_7 : decode cX10_dryOnes 7 = .ok (.bipush 64, 2) := by decide +kernel
theorem d_X10_dryOnes_9 : decode cX10_dryOnes 9 = .ok (.if_icmp .ge 49, 3) := by decide +kernel
theorem d_X10_dryOnes_12 : decode cX10_dryOnes 12 = .ok (.iload_n 3, 1) := by decide +kernel
theorem d_X10_dryOnes_13 : decode cX10_dryOnes 13 = .ok (.aload_n 0, 1) := by decide +kernel
theorem d_X10_dryOnes_14 : decode cX10_dryOnes 14 = .ok (.iload 4, 2) := by decide +kernel
theorem d_X10_dryOnes_16 : decode cX10_dryOnes 16 = .ok (.invokevirtual 284, 3) := by decide +kernel
theorem d_X10_dryOnes_19 : decode cX10_dryOnes 19 = .ok (.ifCond .eq 30, 3) := by decide +kernel
theorem d_X10_dryOnes_22 : decode cX10_dryOnes 22 = .ok (.aload_n 1, 1) := by decide +kernel
theorem d_X10_dryOnes_23 : decode cX10_dryOnes 23 = .ok (.iload 4, 2) := by decide +kernel
theorem d_X10_dryOnes_25 : decode cX10_dryOnes 25 = .ok (.invokestatic 280, 3) := by decide +kernel
theorem d_X10_dryOnes_28 : decode cX10_dryOnes 28 = .ok (.ifCond .eq 21, 3) := by decide +kernel
theorem d_X10_dryOnes_31 : decode cX10_dryOnes 31 = .ok (.iload_n 2, 1) := by decide +kernel
theorem d_X10_dryOnes_32 : decode cX10_dryOnes 32 = .ok (.ifCond .eq 13, 3) := by decide +kernel
theorem d_X10_dryOnes_35 : decode cX10_dryOnes 35 = .ok (.aload_n 1, 1) := by decide +kernel
theorem d_X10_dryOnes_36 : decode cX10_dryOnes 36 = .ok (.bipush 64, 2) := by decide +kernel
theorem d_X10_dryOnes_38 : decode cX10_dryOnes 38 = .ok (.iload 4, 2) := by decide +kernel
theorem d_X10_dryOnes_40 : decode cX10_dryOnes 40 = .ok (.iadd, 1) := by decide +kernel
theorem d_X10_dryOnes_41 : decode cX10_dryOnes 41 = .ok (.iaload, 1) := by decide +kernel
theorem d_X10_dryOnes_42 : decode cX10_dryOnes 42 = .ok (.ifCond .le 7, 3) := by decide +kernel
theorem d_X10_dryOnes_45 : decode cX10_dryOnes 45 = .ok (.iconst 1, 1) := by decide +kernel
theorem d_X10_dryOnes_46 : decode cX10_dryOnes 46 = .ok (.goto 4, 3) := by decide +kernel
theorem d_X10_dryOnes_49 : decode cX10_dryOnes 49 = .ok (.iconst 0, 1) := by decide +kernel
theorem d_X10_dryOnes_50 : decode cX10_dryOnes 50 = .ok (.iadd, 1) := by decide +kernel
theorem d_X10_dryOnes_51 : decode cX10_dryOnes 51 = .ok (.istore_n 3, 1) := by decide +kernel
theorem d_X10_dryOnes_52 : decode cX10_dryOnes 52 = .ok (.iinc 4 1, 3) := by decide +kernel
theorem d_X10_dryOnes_55 : decode cX10_dryOnes 55 = .ok (.goto (-50), 3) := by decide +kernel
theorem d_X10_dryOnes_58 : decode cX10_dryOnes 58 = .ok (.iload_n 3, 1) := by decide +kernel
theorem d_X10_dryOnes_59 : decode cX10_dryOnes 59 = .ok (.ireturn, 1) := by decide +kernel
def F_X10_dryOnes_50 (p0 : Nat) (p1 : Int32) (self5 : Int32 → Int32 → Int32 → zMem → Option (Int32 × zMem)) (b50_L2 : Int32) (b50_L4 : Int32) (b50_S0 : Int32) (b50_S1 : Int32) (M : zMem) : Option (Int32 × zMem) :=
  zl (b50_S0 + b50_S1) fun v1 =>
  self5 b50_L2 v1 (b50_L4 + 1) M
def F_X10_dryOnes_49 (p0 : Nat) (p1 : Int32) (self5 : Int32 → Int32 → Int32 → zMem → Option (Int32 × zMem)) (b49_L2 : Int32) (b49_L4 : Int32) (b49_S0 : Int32) (M : zMem) : Option (Int32 × zMem) :=
  F_X10_dryOnes_50 p0 p1 self5 b49_L2 b49_L4 b49_S0 (0 : Int32) M
def F_X10_dryOnes_5 (p0 : Nat) (p1 : Int32) (self5 : Int32 → Int32 → Int32 → zMem → Option (Int32 × zMem)) (b5_L2 : Int32) (b5_L3 : Int32) (b5_L4 : Int32) (M : zMem) : Option (Int32 × zMem) :=
  if (64 : Int32) ≤ b5_L4 then
    some (b5_L3, M)
  else
    zb (F_X10_isHere M b5_L4) fun v3 M2 =>
    if v3 = 0 then
      F_X10_dryOnes_49 p0 p1 self5 b5_L2 b5_L4 b5_L3 M2
    else
      zb (F_X10_isDry M2 p0 b5_L4) fun v5 M4 =>
      if v5 = 0 then
        F_X10_dryOnes_49 p0 p1 self5 b5_L2 b5_L4 b5_L3 M4
      else
        if b5_L2 = 0 then
          F_X10_dryOnes_50 p0 p1 self5 b5_L2 b5_L4 b5_L3 (1 : Int32) M4
        else
          gin ((64 : Int32) + b5_L4) 195 <|
          if (M4.1 p0 ((64 : Int32) + b5_L4).toNatClampNeg) ≤ 0 then
            F_X10_dryOnes_49 p0 p1 self5 b5_L2 b5_L4 b5_L3 M4
          else
            F_X10_dryOnes_50 p0 p1 self5 b5_L2 b5_L4 b5_L3 (1 : Int32) M4
def F_X10_dryOnes (M : zMem) (p0 : Nat) (p1 : Int32) : Option (Int32 × zMem) :=
  itF (fun _ _ _ _ => none) (F_X10_dryOnes_5 p0 p1) zFuel p1 (0 : Int32) (0 : Int32) M
def rm_X10_dryOnes : Room := { frames := 5, cells := 0, slots := 0, locals := 145 }
set_option maxHeartbeats 4000000 in
set_option maxRecDepth 100000 in
theorem c_X10_dryOnes (l : Launch) {G : zG} {ad : Nat → Nat} {n : Nat} (hA : zInj ad n) (M : zMem) (p0 : Nat) (p1 : Int32) (hT : zT shM n 0 11) (hT_p0 : zT shM n p0 36) {r9 : Int32} {M9 : zMem} (hF : F_X10_dryOnes M p0 p1 = some (r9, M9)) : zM l yX10_dryOnes cX10_dryOnes 5 (some .int) rm_X10_dryOnes G shM ad n M [.ref (ad 0), .ref (ad p0), .int p1] (some (.int r9)) M9 := by
  refine zM_of hA (by decide +kernel) (lv := [(0, .ref (ad 0)), (1, .ref (ad p0)), (2, .int p1)]) (Nat.le_of_ble_eq_true rfl) rfl (fun p e s m args below meth c A cx hr => ?_)
  have hb50 : ∀ (self5 : Int32 → Int32 → Int32 → zMem → Option (Int32 × zMem)) (hs5 : ∀ (b5_L2 : Int32) (b5_L3 : Int32) (b5_L4 : Int32) (M : zMem), self5 b5_L2 b5_L3 b5_L4 M = some (r9, M9) → zJ p l e rm_X10_dryOnes s m args below meth c G shM ad n A 5 (MQ below (zQ G shM ad n M9 (some (.int r9)) A) args s 0 0 A) 0 0 M 5 [(0, .ref (ad 0)), (1, .ref (ad p0)), (2, .int b5_L2), (3, .int b5_L3), (4, .int b5_L4)] []), ∀ (b50_L2 : Int32) (b50_L4 : Int32) (b50_S0 : Int32) (b50_S1 : Int32) (M : zMem), F_X10_dryOnes_50 p0 p1 self5 b50_L2 b50_L4 b50_S0 b50_S1 M = some (r9, M9) → zJ p l e rm_X10_dryOnes s m args below meth c G shM ad n A 5 (MQ below (zQ G shM ad n M9 (some (.int r9)) A) args s 0 0 A) 0 0 M 50 [(0, .ref (ad 0)), (1, .ref (ad p0)), (2, .int b50_L2), (4, .int b50_L4)] [.int b50_S1, .int b50_S0] := by
    intro self5 hs5 b50_L2 b50_L4 b50_S0 b50_S1 M hF
    unfold F_X10_dryOnes_50 at hF
    refine z_iadd cx d_X10_dryOnes_50 ?_
    refine z_nm hF (fun v1 hF => ?_)
    refine z_istore_n cx 3 [(3, .int v1), (0, .ref (ad 0)), (1, .ref (ad p0)), (2, .int b50_L2), (4, .int b50_L4)] d_X10_dryOnes_51 rfl (by decide) rfl ?_
    refine z_iinc cx 4 1 [(4, .int (b50_L4 + 1)), (3, .int v1), (0, .ref (ad 0)), (1, .ref (ad p0)), (2, .int b50_L2)] d_X10_dryOnes_52 4 rfl ki_1 (by decide) rfl ?_
    refine z_goto cx 5 d_X10_dryOnes_55 (by decide) ?_
    exact z_lv [2, 3, 4, 1, 0] _ rfl (hs5 b50_L2 v1 (b50_L4 + 1) M hF)
  have hb49 : ∀ (self5 : Int32 → Int32 → Int32 → zMem → Option (Int32 × zMem)) (hs5 : ∀ (b5_L2 : Int32) (b5_L3 : Int32) (b5_L4 : Int32) (M : zMem), self5 b5_L2 b5_L3 b5_L4 M = some (r9, M9) → zJ p l e rm_X10_dryOnes s m args below meth c G shM ad n A 5 (MQ below (zQ G shM ad n M9 (some (.int r9)) A) args s 0 0 A) 0 0 M 5 [(0, .ref (ad 0)), (1, .ref (ad p0)), (2, .int b5_L2), (3, .int b5_L3), (4, .int b5_L4)] []), ∀ (b49_L2 : Int32) (b49_L4 : Int32) (b49_S0 : Int32) (M : zMem), F_X10_dryOnes_49 p0 p1 self5 b49_L2 b49_L4 b49_S0 M = some (r9, M9) → zJ p l e rm_X10_dryOnes s m args below meth c G shM ad n A 5 (MQ below (zQ G shM ad n M9 (some (.int r9)) A) args s 0 0 A) 0 0 M 49 [(0, .ref (ad 0)), (1, .ref (ad p0)), (2, .int b49_L2), (4, .int b49_L4)] [.int b49_S0] := by
    intro self5 hs5 b49_L2 b49_L4 b49_S0 M hF
    unfold F_X10_dryOnes_49 at hF
    refine z_iconst (v := 0) cx d_X10_dryOnes_49 ki_0 ?_
    exact hb50 self5 hs5 b49_L2 b49_L4 b49_S0 (0 : Int32) M hF
  have hL5 : ∀ (fuel : Nat), ∀ (b5_L2 : Int32) (b5_L3 : Int32) (b5_L4 : Int32) (M : zMem), itF (fun _ _ _ _ => none) (F_X10_dryOnes_5 p0 p1) fuel b5_L2 b5_L3 b5_L4 M = some (r9, M9) → zJ p l e rm_X10_dryOnes s m args below meth c G shM ad n A 5 (MQ below (zQ G shM ad n M9 (some (.int r9)) A) args s 0 0 A) 0 0 M 5 [(0, .ref (ad 0)), (1, .ref (ad p0)), (2, .int b5_L2), (3, .int b5_L3), (4, .int b5_L4)] [] := by
    intro fuel
    induction fuel with
    | zero => intro b5_L2 b5_L3 b5_L4 M hF; cases hF
    | succ fuel hs5 =>
      intro b5_L2 b5_L3 b5_L4 M hF
      have hF : F_X10_dryOnes_5 p0 p1 (itF (fun _ _ _ _ => none) (F_X10_dryOnes_5 p0 p1) fuel) b5_L2 b5_L3 b5_L4 M = some (r9, M9) := hF
      generalize itF (fun _ _ _ _ => none) (F_X10_dryOnes_5 p0 p1) fuel = self5 at hs5 hF
      unfold F_X10_dryOnes_5 at hF
      refine z_iload cx d_X10_dryOnes_5 4 rfl ?_
      refine z_bipush (v := 64) cx d_X10_dryOnes_7 kb_64 ?_
      refine z_icmp_ge cx 58 d_X10_dryOnes_9 (by decide) hF (fun hF => ?_) (fun hF => ?_)
      · refine z_iload_n cx d_X10_dryOnes_58 3 rfl ?_
        exact z_iret cx hr rfl hF d_X10_dryOnes_59
      refine z_iload_n cx d_X10_dryOnes_12 3 rfl ?_
      refine z_aload_n cx d_X10_dryOnes_13 0 rfl ?_
      refine z_iload cx d_X10_dryOnes_14 4 rfl ?_
      obtain ⟨v3, M2, hc, hF⟩ := zb_inv hF
      refine z_callV cx (As := [.int b5_L4]) (rest := [.int b5_L3]) (c_X10_isHere l cx.2.2.2.1.1 M b5_L4 hT hc) hT zo_11 cv_SunnyPansModel_284 ⟨rfl, rfl, Nat.le_of_ble_eq_true rfl, Nat.le_of_ble_eq_true rfl⟩ rfl rfl ⟨Nat.zero_le _, Nat.zero_le _⟩ (Nat.le_of_ble_eq_true rfl) d_X10_dryOnes_16 ?_
      refine z_if_eq cx 49 d_X10_dryOnes_19 (by decide) hF (fun hF => ?_) (fun hF => ?_)
      · exact z_lv [0, 1, 2, 4] _ rfl (hb49 self5 hs5 b5_L2 b5_L4 b5_L3 M2 hF)
      refine z_aload_n cx d_X10_dryOnes_22 1 rfl ?_
      refine z_iload cx d_X10_dryOnes_23 4 rfl ?_
      obtain ⟨v5, M4, hc, hF⟩ := zb_inv hF
      refine z_callS cx (As := [.ref (ad p0), .int b5_L4]) (rest := [.int b5_L3]) (c_X10_isDry l cx.2.2.2.1.1 M2 p0 b5_L4 hT_p0 hc) cs_SunnyPansModel_280 ⟨rfl, rfl, Nat.le_of_ble_eq_true rfl, Nat.le_of_ble_eq_true rfl⟩ rfl rfl ⟨Nat.zero_le _, Nat.zero_le _⟩ (Nat.le_of_ble_eq_true rfl) d_X10_dryOnes_25 ?_
      refine z_if_eq cx 49 d_X10_dryOnes_28 (by decide) hF (fun hF => ?_) (fun hF => ?_)
      · exact z_lv [0, 1, 2, 4] _ rfl (hb49 self5 hs5 b5_L2 b5_L4 b5_L3 M4 hF)
      refine z_iload_n cx d_X10_dryOnes_31 2 rfl ?_
      refine z_if_eq cx 45 d_X10_dryOnes_32 (by decide) hF (fun hF => ?_) (fun hF => ?_)
      · refine z_iconst (v := 1) cx d_X10_dryOnes_45 ki_1 ?_
        refine z_goto cx 50 d_X10_dryOnes_46 (by decide) ?_
        exact z_lv [0, 1, 2, 4] _ rfl (hb50 self5 hs5 b5_L2 b5_L4 b5_L3 (1 : Int32) M4 hF)
      refine z_aload_n cx d_X10_dryOnes_35 1 rfl ?_
      refine z_bipush (v := 64) cx d_X10_dryOnes_36 kb_64 ?_
      refine z_iload cx d_X10_dryOnes_38 4 rfl ?_
      refine z_iadd cx d_X10_dryOnes_40 ?_
      obtain ⟨hi6, hF⟩ := gin_inv hF
      refine z_iald cx hT_p0 za_36 hi6 (((64 : Int32) + b5_L4).toNatClampNeg) rfl d_X10_dryOnes_41 ?_
      refine z_if_le cx 49 d_X10_dryOnes_42 (by decide) hF (fun hF => ?_) (fun hF => ?_)
      · exact z_lv [0, 1, 2, 4] _ rfl (hb49 self5 hs5 b5_L2 b5_L4 b5_L3 M4 hF)
      refine z_iconst (v := 1) cx d_X10_dryOnes_45 ki_1 ?_
      refine z_goto cx 50 d_X10_dryOnes_46 (by decide) ?_
      exact z_lv [0, 1, 2, 4] _ rfl (hb50 self5 hs5 b5_L2 b5_L4 b5_L3 (1 : Int32) M4 hF)
  unfold F_X10_dryOnes at hF
  refine z_iconst (v := 0) cx d_X10_dryOnes_0 ki_0 ?_
  refine z_istore_n cx 3 [(3, .int (0 : Int32)), (0, .ref (ad 0)), (1, .ref (ad p0)), (2, .int p1)] d_X10_dryOnes_1 rfl (by decide) rfl ?_
  refine z_iconst (v := 0) cx d_X10_dryOnes_2 ki_0 ?_
  refine z_istore cx 4 [(4, .int (0 : Int32)), (3, .int (0 : Int32)), (0, .ref (ad 0)), (1, .ref (ad p0)), (2, .int p1)] d_X10_dryOnes_3 (by decide) rfl ?_
  exact z_lv [2, 3, 4, 1, 0] _ rfl (hL5 zFuel p1 (0 : Int32) (0 : Int32) M hF)
/-! SunnyPansModel.heaps -/
theorem d_X10_heaps_0 : decode cX10_heaps 0 = .ok (.iconst 0, 1) := by decide +kernel
theorem d_X10_heaps_1 : decode cX10_heaps 1 = .ok (.istore_n 1, 1) := by decide +kernel
theorem d_X10_heaps_2 : decode cX10_heaps 2 = .ok (.iconst 0, 1) := by decide +kernel
theorem d_X10_heaps_3 : decode cX10_heaps 3 = .ok (.istore_n 2, 1) := by decide +kernel
theorem d_X10_heaps_4 : decode cX10_heaps 4 = .ok (.iload_n 2, 1) := by decide +kernel
theorem d_X10_heaps_5 : decode cX10_heaps 5 = .ok (.bipush 64, 2) := by decide +kernel
theorem d_X10_heaps_7 : decode cX10_heaps 7 = .ok (.if_icmp .ge 30, 3) := by decide +kernel
theorem d_X10_heaps_10 : decode cX10_heaps 10 = .ok (.iload_n 1, 1) := by decide +kernel
theorem d_X10_heaps_11 : decode cX10_heaps 11 = .ok (.aload_n 0, 1) := by decide +kernel
theorem d_X10_heaps_12 : decode cX10_heaps 12 = .ok (.getfield 58, 3) := by decide +kernel
theorem d_X10_heaps_15 : decode cX10_heaps 15 = .ok (.sipush 128, 3) := by decide +kernel
theorem d_X10_heaps_18 : decode cX10_heaps 18 = .ok (.iload_n 2, 1) := by decide +kernel
theorem d_X10_heaps_19 : decode cX10_heaps 19 = .ok (.iadd, 1) := by decide +kernel
theorem d_X10_heaps_20 : decode cX10_heaps 20 = .ok (.iaload, 1) := by decide +kernel
theorem d_X10_heaps_21 : decode cX10_heaps 21 = .ok (.ifCond .le 7, 3) := by decide +kernel
theorem d_X10_heaps_24 : decode cX10_heaps 24 = .ok (.iconst 1, 1) := by decide +kernel
theorem d_X10_heaps_25 : decode cX10_heaps 25 = .ok (.goto 4, 3) := by decide +kernel
theorem d_X10_heaps_28 : decode cX10_heaps 28 = .ok (.iconst 0, 1) := by decide +kernel
theorem d_X10_heaps_29 : decode cX10_heaps 29 = .ok (.iadd, 1) := by decide +kernel
theorem d_X10_heaps_30 : decode cX10_heaps 30 = .ok (.istore_n 1, 1) := by decide +kernel
theorem d_X10_heaps_31 : decode cX10_heaps 31 = .ok (.iinc 2 1, 3) := by decide +kernel
theorem d_X10_heaps_34 : decode cX10_heaps 34 = .ok (.goto (-30), 3) := by decide +kernel
theorem d_X10_heaps_37 : decode cX10_heaps 37 = .ok (.iload_n 1, 1) := by decide +kernel
theorem d_X10_heaps_38 : decode cX10_heaps 38 = .ok (.ireturn, 1) := by decide +kernel
def F_X10_heaps_29 (self4 : Int32 → Int32 → zMem → Option (Int32 × zMem)) (b29_L2 : Int32) (b29_S0 : Int32) (b29_S1 : Int32) (M : zMem) : Option (Int32 × zMem) :=
  zl (b29_S0 + b29_S1) fun v1 =>
  self4 v1 (b29_L2 + 1) M
def F_X10_heaps_4 (self4 : Int32 → Int32 → zMem → Option (Int32 × zMem)) (b4_L1 : Int32) (b4_L2 : Int32) (M : zMem) : Option (Int32 × zMem) :=
  if (64 : Int32) ≤ b4_L2 then
    some (b4_L1, M)
  else
    gin ((128 : Int32) + b4_L2) 195 <|
    if (M.1 451 ((128 : Int32) + b4_L2).toNatClampNeg) ≤ 0 then
      F_X10_heaps_29 self4 b4_L2 b4_L1 (0 : Int32) M
    else
      F_X10_heaps_29 self4 b4_L2 b4_L1 (1 : Int32) M
def F_X10_heaps (M : zMem)  : Option (Int32 × zMem) :=
  itF (fun _ _ _ => none) (F_X10_heaps_4) zFuel (0 : Int32) (0 : Int32) M
def rm_X10_heaps : Room := { frames := 2, cells := 0, slots := 0, locals := 80 }
set_option maxHeartbeats 4000000 in
set_option maxRecDepth 100000 in
theorem c_X10_heaps (l : Launch) {G : zG} {ad : Nat → Nat} {n : Nat} (hA : zInj ad n) (M : zMem)  (hT : zT shM n 0 11) {r9 : Int32} {M9 : zMem} (hF : F_X10_heaps M  = some (r9, M9)) : zM l yX10_heaps cX10_heaps 3 (some .int) rm_X10_heaps G shM ad n M [.ref (ad 0)] (some (.int r9)) M9 := by
  refine zM_of hA (by decide +kernel) (lv := [(0, .ref (ad 0))]) (Nat.le_of_ble_eq_true rfl) rfl (fun p e s m args below meth c A cx hr => ?_)
  have hb29 : ∀ (self4 : Int32 → Int32 → zMem → Option (Int32 × zMem)) (hs4 : ∀ (b4_L1 : Int32) (b4_L2 : Int32) (M : zMem), self4 b4_L1 b4_L2 M = some (r9, M9) → zJ p l e rm_X10_heaps s m args below meth c G shM ad n A 3 (MQ below (zQ G shM ad n M9 (some (.int r9)) A) args s 0 0 A) 0 0 M 4 [(0, .ref (ad 0)), (1, .int b4_L1), (2, .int b4_L2)] []), ∀ (b29_L2 : Int32) (b29_S0 : Int32) (b29_S1 : Int32) (M : zMem), F_X10_heaps_29 self4 b29_L2 b29_S0 b29_S1 M = some (r9, M9) → zJ p l e rm_X10_heaps s m args below meth c G shM ad n A 3 (MQ below (zQ G shM ad n M9 (some (.int r9)) A) args s 0 0 A) 0 0 M 29 [(0, .ref (ad 0)), (2, .int b29_L2)] [.int b29_S1, .int b29_S0] := by
    intro self4 hs4 b29_L2 b29_S0 b29_S1 M hF
    unfold F_X10_heaps_29 at hF
    refine z_iadd cx d_X10_heaps_29 ?_
    refine z_nm hF (fun v1 hF => ?_)
    refine z_istore_n cx 1 [(1, .int v1), (0, .ref (ad 0)), (2, .int b29_L2)] d_X10_heaps_30 rfl (by decide) rfl ?_
    refine z_iinc cx 2 1 [(2, .int (b29_L2 + 1)), (1, .int v1), (0, .ref (ad 0))] d_X10_heaps_31 2 rfl ki_1 (by decide) rfl ?_
    refine z_goto cx 4 d_X10_heaps_34 (by decide) ?_
    exact z_lv [2, 1, 0] _ rfl (hs4 v1 (b29_L2 + 1) M hF)
  have hL4 : ∀ (fuel : Nat), ∀ (b4_L1 : Int32) (b4_L2 : Int32) (M : zMem), itF (fun _ _ _ => none) (F_X10_heaps_4) fuel b4_L1 b4_L2 M = some (r9, M9) → zJ p l e rm_X10_heaps s m args below meth c G shM ad n A 3 (MQ below (zQ G shM ad n M9 (some (.int r9)) A) args s 0 0 A) 0 0 M 4 [(0, .ref (ad 0)), (1, .int b4_L1), (2, .int b4_L2)] [] := by
    intro fuel
    induction fuel with
    | zero => intro b4_L1 b4_L2 M hF; cases hF
    | succ fuel hs4 =>
      intro b4_L1 b4_L2 M hF
      have hF : F_X10_heaps_4 (itF (fun _ _ _ => none) (F_X10_heaps_4) fuel) b4_L1 b4_L2 M = some (r9, M9) := hF
      generalize itF (fun _ _ _ => none) (F_X10_heaps_4) fuel = self4 at hs4 hF
      unfold F_X10_heaps_4 at hF
      refine z_iload_n cx d_X10_heaps_4 2 rfl ?_
      refine z_bipush (v := 64) cx d_X10_heaps_5 kb_64 ?_
      refine z_icmp_ge cx 37 d_X10_heaps_7 (by decide) hF (fun hF => ?_) (fun hF => ?_)
      · refine z_iload_n cx d_X10_heaps_37 1 rfl ?_
        exact z_iret cx hr rfl hF d_X10_heaps_38
      refine z_iload_n cx d_X10_heaps_10 1 rfl ?_
      refine z_aload_n cx d_X10_heaps_11 0 rfl ?_
      refine z_getR cx hT fg_SunnyPansModel_58 451 rfl d_X10_heaps_12 ?_
      refine z_sipush (v := 128) cx d_X10_heaps_15 ks_128 ?_
      refine z_iload_n cx d_X10_heaps_18 2 rfl ?_
      refine z_iadd cx d_X10_heaps_19 ?_
      obtain ⟨hi2, hF⟩ := gin_inv hF
      refine z_iald cx (tfM_11_451 hT) za_36 hi2 (((128 : Int32) + b4_L2).toNatClampNeg) rfl d_X10_heaps_20 ?_
      refine z_if_le cx 28 d_X10_heaps_21 (by decide) hF (fun hF => ?_) (fun hF => ?_)
      · refine z_iconst (v := 0) cx d_X10_heaps_28 ki_0 ?_
        exact z_lv [0, 2] _ rfl (hb29 self4 hs4 b4_L2 b4_L1 (0 : Int32) M hF)
      refine z_iconst (v := 1) cx d_X10_heaps_24 ki_1 ?_
      refine z_goto cx 29 d_X10_heaps_25 (by decide) ?_
      exact z_lv [0, 2] _ rfl (hb29 self4 hs4 b4_L2 b4_L1 (1 : Int32) M hF)
  unfold F_X10_heaps at hF
  refine z_iconst (v := 0) cx d_X10_heaps_0 ki_0 ?_
  refine z_istore_n cx 1 [(1, .int (0 : Int32)), (0, .ref (ad 0))] d_X10_heaps_1 rfl (by decide) rfl ?_
  refine z_iconst (v := 0) cx d_X10_heaps_2 ki_0 ?_
  refine z_istore_n cx 2 [(2, .int (0 : Int32)), (1, .int (0 : Int32)), (0, .ref (ad 0))] d_X10_heaps_3 rfl (by decide) rfl ?_
  exact z_lv [2, 1, 0] _ rfl (hL4 zFuel (0 : Int32) (0 : Int32) M hF)
/-! SunnyPansModel.told -/
set_option maxRecDepth 100000 in
theorem wd_1760 : Cond.code yX10_dryOnes cX10_dryOnes 5 (some .int) ∈ tbG := tw7 220 rfl rfl
set_option maxRecDepth 100000 in
theorem wd_1757 : Cond.methodLink "SunnyPansModel" 326 yX10_dryOnes ∈ tbG := tw7 217 rfl rfl
set_option maxRecDepth 100000 in
theorem wd_1759 : Cond.instanceMethod yX10_dryOnes ∈ tbG := tw7 219 rfl rfl
theorem wd_83 : Cond.selects "SunnyPansModel" yX10_dryOnes yX10_dryOnes ∈ tbG := tw 83 (by decide +kernel) rfl
theorem cv_SunnyPansModel_326 : zCV "SunnyPansModel" 326 "SunnyPansModel" yX10_dryOnes cX10_dryOnes 5 (some .int) 2 := zCV_of wd_1757 wd_1759 wd_83 wd_111 wd_1760 (by decide +kernel)
set_option maxRecDepth 100000 in
theorem wd_1756 : Cond.code yX10_heaps cX10_heaps 3 (some .int) ∈ tbG := tw7 216 rfl rfl
set_option maxRecDepth 100000 in
theorem wd_1753 : Cond.methodLink "SunnyPansModel" 323 yX10_heaps ∈ tbG := tw7 213 rfl rfl
set_option maxRecDepth 100000 in
theorem wd_1755 : Cond.instanceMethod yX10_heaps ∈ tbG := tw7 215 rfl rfl
theorem wd_82 : Cond.selects "SunnyPansModel" yX10_heaps yX10_heaps ∈ tbG := tw 82 (by decide +kernel) rfl
theorem cv_SunnyPansModel_323 : zCV "SunnyPansModel" 323 "SunnyPansModel" yX10_heaps cX10_heaps 3 (some .int) 0 := zCV_of wd_1753 wd_1755 wd_82 wd_111 wd_1756 (by decide +kernel)
set_option maxRecDepth 100000 in
theorem wd_1752 : Cond.code yX10_together cX10_together 4 (some .int) ∈ tbG := tw7 212 rfl rfl
set_option maxRecDepth 100000 in
theorem wd_1750 : Cond.methodLink "SunnyPansModel" 319 yX10_together ∈ tbG := tw7 210 rfl rfl
set_option maxRecDepth 100000 in
theorem wd_1751 : Cond.static yX10_together ∈ tbG := tw7 211 rfl rfl
theorem cs_SunnyPansModel_319 : zCS "SunnyPansModel" 319 yX10_together cX10_together 4 (some .int) 2 := zCS_of wd_1750 wd_1751 wd_111 wd_1752 (by decide +kernel)
set_option maxRecDepth 100000 in
theorem wd_1533 : Cond.code yX10_bad cX10_bad 4 (some .boolean) ∈ tbG := tw6 233 rfl rfl
set_option maxRecDepth 100000 in
theorem wd_1530 : Cond.methodLink "SunnyPansModel" 155 yX10_bad ∈ tbG := tw6 230 rfl rfl
set_option maxRecDepth 100000 in
theorem wd_1532 : Cond.instanceMethod yX10_bad ∈ tbG := tw6 232 rfl rfl
theorem wd_43 : Cond.selects "SunnyPansModel" yX10_bad yX10_bad ∈ tbG := tw 43 (by decide +kernel) rfl
theorem cv_SunnyPansModel_155 : zCV "SunnyPansModel" 155 "SunnyPansModel" yX10_bad cX10_bad 4 (some .boolean) 3 := zCV_of wd_1530 wd_1532 wd_43 wd_111 wd_1533 (by decide +kernel)
theorem d_X10_told_0 : decode cX10_told 0 = .ok (.aload_n 0, 1) := by decide +kernel
theorem d_X10_told_1 : decode cX10_told 1 = .ok (.iconst 0, 1) := by decide +kernel
theorem d_X10_told_2 : decode cX10_told 2 = .ok (.putfield 82, 3) := by decide +kernel
theorem d_X10_told_5 : decode cX10_told 5 = .ok (.aload_n 0, 1) := by decide +kernel
theorem d_X10_told_6 : decode cX10_told 6 = .ok (.iload_n 1, 1) := by decide +kernel
theorem d_X10_told_7 : decode cX10_told 7 = .ok (.iconst 0, 1) := by decide +kernel
theorem d_X10_told_8 : decode cX10_told 8 = .ok (.bipush 12, 2) := by decide +kernel
theorem d_X10_told_10 : decode cX10_told 10 = .ok (.invokestatic 116, 3) := by decide +kernel
theorem d_X10_told_13 : decode cX10_told 13 = .ok (.ifCond .ne 7, 3) := by decide +kernel
theorem d_X10_told_16 : decode cX10_told 16 = .ok (.iconst 1, 1) := by decide +kernel
theorem d_X10_told_17 : decode cX10_told 17 = .ok (.goto 4, 3) := by decide +kernel
theorem d_X10_told_20 : decode cX10_told 20 = .ok (.iconst 0, 1) := by decide +kernel
theorem d_X10_told_21 : decode cX10_told 21 = .ok (.iconst 1, 1) := by decide +kernel
theorem d_X10_told_22 : decode cX10_told 22 = .ok (.iconst 1, 1) := by decide +kernel
theorem d_X10_told_23 : decode cX10_told 23 = .ok (.invokevirtual 155, 3) := by decide +kernel
theorem d_X10_told_26 : decode cX10_told 26 = .ok (.ifCond .eq 5, 3) := by decide +kernel
theorem d_X10_told_29 : decode cX10_told 29 = .ok (.iconst 0, 1) := by decide +kernel
theorem d_X10_told_30 : decode cX10_told 30 = .ok (.ireturn, 1) := by decide +kernel
theorem d_X10_told_31 : decode cX10_told 31 = .ok (.iload_n 1, 1) := by decide +kernel
theorem d_X10_told_32 : decode cX10_told 32 = .ok (.tableswitch 156 0 11 #[64, 64, 64, 71, 80, 102, 111, 121, 132, 141, 146, 151], 64) := by decide +kernel
theorem d_X10_told_96 : decode cX10_told 96 = .ok (.aload_n 0, 1) := by decide +kernel
theorem d_X10_told_97 : decode cX10_told 97 = .ok (.getfield 23, 3) := by decide +kernel
theorem d_X10_told_100 : decode cX10_told 100 = .ok (.iload_n 1, 1) := by decide +kernel
theorem d_X10_told_101 : decode cX10_told 101 = .ok (.iaload, 1) := by decide +kernel
theorem d_X10_told_102 : decode cX10_told 102 = .ok (.ireturn, 1) := by decide +kernel
theorem d_X10_told_103 : decode cX10_told 103 = .ok (.aload_n 0, 1) := by decide +kernel
theorem d_X10_told_104 : decode cX10_told 104 = .ok (.getfield 58, 3) := by decide +kernel
theorem d_X10_told_107 : decode cX10_told 107 = .ok (.sipush 192, 3) := by decide +kernel
theorem d_X10_told_110 : decode cX10_told 110 = .ok (.iaload, 1) := by decide +kernel
theorem d_X10_told_111 : decode cX10_told 111 = .ok (.ireturn, 1) := by decide +kernel
theorem d_X10_told_112 : decode cX10_told 112 = .ok (.aload_n 0, 1) := by decide +kernel
theorem d_X10_told_113 : decode cX10_told 113 = .ok (.getfield 23, 3) := by decide +kernel
theorem d_X10_told_116 : decode cX10_told 116 = .ok (.iconst 2, 1) := by decide +kernel
theorem d_X10_told_117 : decode cX10_told 117 = .ok (.iaload, 1) := by decide +kernel
theorem d_X10_told_118 : decode cX10_told 118 = .ok (.ifCond .ne 7, 3) := by decide +kernel
theorem d_X10_told_121 : decode cX10_told 121 = .ok (.iconst (-1), 1) := by decide +kernel
theorem d_X10_told_122 : decode cX10_told 122 = .ok (.goto 11, 3) := by decide +kernel
theorem d_X10_told_125 : decode cX10_told 125 = .ok (.aload_n 0, 1) := by decide +kernel
theorem d_X10_told_126 : decode cX10_told 126 = .ok (.getfield 58, 3) := by decide +kernel
theorem d_X10_told_129 : decode cX10_told 129 = .ok (.sipush 193, 3) := by decide +kernel
theorem d_X10_told_132 : decode cX10_told 132 = .ok (.iaload, 1) := by decide +kernel
theorem d_X10_told_133 : decode cX10_told 133 = .ok (.ireturn, 1) := by decide +kernel
theorem d_X10_told_134 : decode cX10_told 134 = .ok (.aload_n 0, 1) := by decide +kernel
theorem d_X10_told_135 : decode cX10_told 135 = .ok (.getfield 58, 3) := by decide +kernel
theorem d_X10_told_138 : decode cX10_told 138 = .ok (.iconst 0, 1) := by decide +kernel
theorem d_X10_told_139 : decode cX10_told 139 = .ok (.invokestatic 319, 3) := by decide +kernel
theorem d_X10_told_142 : decode cX10_told 142 = .ok (.ireturn, 1) := by decide +kernel
theorem d_X10_told_143 : decode cX10_told 143 = .ok (.aload_n 0, 1) := by decide +kernel
theorem d_X10_told_144 : decode cX10_told 144 = .ok (.getfield 58, 3) := by decide +kernel
theorem d_X10_told_147 : decode cX10_told 147 = .ok (.bipush 64, 2) := by decide +kernel
theorem d_X10_told_149 : decode cX10_told 149 = .ok (.invokestatic 319, 3) := by decide +kernel
theorem d_X10_told_152 : decode cX10_told 152 = .ok (.ireturn, 1) := by decide +kernel
theorem d_X10_told_153 : decode cX10_told 153 = .ok (.aload_n 0, 1) := by decide +kernel
theorem d_X10_told_154 : decode cX10_told 154 = .ok (.getfield 58, 3) := by decide +kernel
theorem d_X10_told_157 : decode cX10_told 157 = .ok (.sipush 128, 3) := by decide +kernel
theorem d_X10_told_160 : decode cX10_told 160 = .ok (.invokestatic 319, 3) := by decide +kernel
theorem d_X10_told_163 : decode cX10_told 163 = .ok (.ireturn, 1) := by decide +kernel
theorem d_X10_told_164 : decode cX10_told 164 = .ok (.aload_n 0, 1) := by decide +kernel
theorem d_X10_told_165 : decode cX10_told 165 = .ok (.getfield 58, 3) := by decide +kernel
theorem d_X10_told_168 : decode cX10_told 168 = .ok (.sipush 194, 3) := by decide +kernel
theorem d_X10_told_171 : decode cX10_told 171 = .ok (.iaload, 1) := by decide +kernel
theorem d_X10_told_172 : decode cX10_told 172 = .ok (.ireturn, 1) := by decide +kernel
theorem d_X10_told_173 : decode cX10_told 173 = .ok (.aload_n 0, 1) := by decide +kernel
theorem d_X10_told_174 : decode cX10_told 174 = .ok (.getfield 175, 3) := by decide +kernel
theorem d_X10_told_177 : decode cX10_told 177 = .ok (.ireturn, 1) := by decide +kernel
theorem d_X10_told_178 : decode cX10_told 178 = .ok (.aload_n 0, 1) := by decide +kernel
theorem d_X10_told_179 : decode cX10_told 179 = .ok (.getfield 181, 3) := by decide +kernel
theorem d_X10_told_182 : decode cX10_told 182 = .ok (.ireturn, 1) := by decide +kernel
theorem d_X10_told_183 : decode cX10_told 183 = .ok (.aload_n 0, 1) := by decide +kernel
theorem d_X10_told_184 : decode cX10_told 184 = .ok (.invokevirtual 323, 3) := by decide +kernel
theorem d_X10_told_187 : decode cX10_told 187 = .ok (.ireturn, 1) := by decide +kernel
theorem d_X10_told_188 : decode cX10_told 188 = .ok (.aload_n 0, 1) := by decide +kernel
theorem d_X10_told_189 : decode cX10_told 189 = .ok (.aload_n 0, 1) := by decide +kernel
theorem d_X10_told_190 : decode cX10_told 190 = .ok (.getfield 58, 3) := by decide +kernel
theorem d_X10_told_193 : decode cX10_told 193 = .ok (.iconst 1, 1) := by decide +kernel
theorem d_X10_told_194 : decode cX10_told 194 = .ok (.invokevirtual 326, 3) := by decide +kernel
theorem d_X10_told_197 : decode cX10_told 197 = .ok (.ireturn, 1) := by decide +kernel
def F_X10_told_188 (p0 : Int32) (M : zMem) : Option (Int32 × zMem) :=
  zb (F_X10_dryOnes M 451 (1 : Int32)) fun v2 M1 =>
  some (v2, M1)
def F_X10_told_183 (p0 : Int32) (M : zMem) : Option (Int32 × zMem) :=
  zb (F_X10_heaps M) fun v4 M3 =>
  some (v4, M3)
def F_X10_told_178 (p0 : Int32) (M : zMem) : Option (Int32 × zMem) :=
  some ((M.1 0 32), M)
def F_X10_told_173 (p0 : Int32) (M : zMem) : Option (Int32 × zMem) :=
  some ((M.1 0 30), M)
def F_X10_told_164 (p0 : Int32) (M : zMem) : Option (Int32 × zMem) :=
  some ((M.1 451 194), M)
def F_X10_told_153 (p0 : Int32) (M : zMem) : Option (Int32 × zMem) :=
  zb (F_X10_together M 451 (128 : Int32)) fun v6 M5 =>
  some (v6, M5)
def F_X10_told_143 (p0 : Int32) (M : zMem) : Option (Int32 × zMem) :=
  zb (F_X10_together M 451 (64 : Int32)) fun v8 M7 =>
  some (v8, M7)
def F_X10_told_134 (p0 : Int32) (M : zMem) : Option (Int32 × zMem) :=
  zb (F_X10_together M 451 (0 : Int32)) fun v10 M9 =>
  some (v10, M9)
def F_X10_told_112 (p0 : Int32) (M : zMem) : Option (Int32 × zMem) :=
  if (M.1 4 2) = 0 then
    some ((-1 : Int32), M)
  else
    some ((M.1 451 193), M)
def F_X10_told_103 (p0 : Int32) (M : zMem) : Option (Int32 × zMem) :=
  some ((M.1 451 192), M)
def F_X10_told_96 (p0 : Int32) (b96_L1 : Int32) (M : zMem) : Option (Int32 × zMem) :=
  gin b96_L1 3 <|
  some ((M.1 4 b96_L1.toNatClampNeg), M)
def F_X10_told_21 (p0 : Int32) (b21_L1 : Int32) (b21_S1 : Int32) (M : zMem) : Option (Int32 × zMem) :=
  zb (F_X10_bad M b21_S1 (1 : Int32) (1 : Int32)) fun v13 M12 =>
  if v13 = 0 then
    if b21_L1 = 0 then
      F_X10_told_96 p0 b21_L1 M12
    else
    if b21_L1 = 1 then
      F_X10_told_96 p0 b21_L1 M12
    else
    if b21_L1 = 2 then
      F_X10_told_96 p0 b21_L1 M12
    else
    if b21_L1 = 3 then
      F_X10_told_103 p0 M12
    else
    if b21_L1 = 4 then
      F_X10_told_112 p0 M12
    else
    if b21_L1 = 5 then
      F_X10_told_134 p0 M12
    else
    if b21_L1 = 6 then
      F_X10_told_143 p0 M12
    else
    if b21_L1 = 7 then
      F_X10_told_153 p0 M12
    else
    if b21_L1 = 8 then
      F_X10_told_164 p0 M12
    else
    if b21_L1 = 9 then
      F_X10_told_173 p0 M12
    else
    if b21_L1 = 10 then
      F_X10_told_178 p0 M12
    else
    if b21_L1 = 11 then
      F_X10_told_183 p0 M12
    else
    F_X10_told_188 p0 M12
  else
    some ((0 : Int32), M12)
def F_X10_told (M : zMem) (p0 : Int32) : Option (Int32 × zMem) :=
  zl (zI M 0 0 (0 : Int32)) fun M14 =>
  zb (F_X10_in M14 p0 (0 : Int32) (12 : Int32)) fun v16 M15 =>
  if v16 = 0 then
    F_X10_told_21 p0 p0 (1 : Int32) M15
  else
    F_X10_told_21 p0 p0 (0 : Int32) M15
def rm_X10_told : Room := { frames := 6, cells := 0, slots := 0, locals := 169 }
set_option maxHeartbeats 4000000 in
set_option maxRecDepth 100000 in
theorem c_X10_told (l : Launch) {G : zG} {ad : Nat → Nat} {n : Nat} (hA : zInj ad n) (M : zMem) (p0 : Int32) (hT : zT shM n 0 11) {r9 : Int32} {M9 : zMem} (hF : F_X10_told M p0 = some (r9, M9)) : zM l yX10_told cX10_told 2 (some .int) rm_X10_told G shM ad n M [.ref (ad 0), .int p0] (some (.int r9)) M9 := by
  refine zM_of hA (by decide +kernel) (lv := [(0, .ref (ad 0)), (1, .int p0)]) (Nat.le_of_ble_eq_true rfl) rfl (fun p e s m args below meth c A cx hr => ?_)
  have hb188 : ∀ (M : zMem), F_X10_told_188 p0 M = some (r9, M9) → zJ p l e rm_X10_told s m args below meth c G shM ad n A 2 (MQ below (zQ G shM ad n M9 (some (.int r9)) A) args s 0 0 A) 0 0 M 188 [(0, .ref (ad 0))] [] := by
    intro M hF
    unfold F_X10_told_188 at hF
    refine z_aload_n cx d_X10_told_188 0 rfl ?_
    refine z_aload_n cx d_X10_told_189 0 rfl ?_
    refine z_getR cx hT fg_SunnyPansModel_58 451 rfl d_X10_told_190 ?_
    refine z_iconst (v := 1) cx d_X10_told_193 ki_1 ?_
    obtain ⟨v2, M1, hc, hF⟩ := zb_inv hF
    refine z_callV cx (As := [.ref (ad 451), .int (1 : Int32)]) (rest := []) (c_X10_dryOnes l cx.2.2.2.1.1 M 451 (1 : Int32) hT (tfM_11_451 hT) hc) hT zo_11 cv_SunnyPansModel_326 ⟨rfl, rfl, Nat.le_of_ble_eq_true rfl, Nat.le_of_ble_eq_true rfl⟩ rfl rfl ⟨Nat.zero_le _, Nat.zero_le _⟩ (Nat.le_of_ble_eq_true rfl) d_X10_told_194 ?_
    exact z_iret cx hr rfl hF d_X10_told_197
  have hb183 : ∀ (M : zMem), F_X10_told_183 p0 M = some (r9, M9) → zJ p l e rm_X10_told s m args below meth c G shM ad n A 2 (MQ below (zQ G shM ad n M9 (some (.int r9)) A) args s 0 0 A) 0 0 M 183 [(0, .ref (ad 0))] [] := by
    intro M hF
    unfold F_X10_told_183 at hF
    refine z_aload_n cx d_X10_told_183 0 rfl ?_
    obtain ⟨v4, M3, hc, hF⟩ := zb_inv hF
    refine z_callV cx (As := []) (rest := []) (c_X10_heaps l cx.2.2.2.1.1 M hT hc) hT zo_11 cv_SunnyPansModel_323 ⟨rfl, rfl, Nat.le_of_ble_eq_true rfl, Nat.le_of_ble_eq_true rfl⟩ rfl rfl ⟨Nat.zero_le _, Nat.zero_le _⟩ (Nat.le_of_ble_eq_true rfl) d_X10_told_184 ?_
    exact z_iret cx hr rfl hF d_X10_told_187
  have hb178 : ∀ (M : zMem), F_X10_told_178 p0 M = some (r9, M9) → zJ p l e rm_X10_told s m args below meth c G shM ad n A 2 (MQ below (zQ G shM ad n M9 (some (.int r9)) A) args s 0 0 A) 0 0 M 178 [(0, .ref (ad 0))] [] := by
    intro M hF
    unfold F_X10_told_178 at hF
    refine z_aload_n cx d_X10_told_178 0 rfl ?_
    refine z_getI cx hT fg_SunnyPansModel_181 d_X10_told_179 ?_
    exact z_iret cx hr rfl hF d_X10_told_182
  have hb173 : ∀ (M : zMem), F_X10_told_173 p0 M = some (r9, M9) → zJ p l e rm_X10_told s m args below meth c G shM ad n A 2 (MQ below (zQ G shM ad n M9 (some (.int r9)) A) args s 0 0 A) 0 0 M 173 [(0, .ref (ad 0))] [] := by
    intro M hF
    unfold F_X10_told_173 at hF
    refine z_aload_n cx d_X10_told_173 0 rfl ?_
    refine z_getI cx hT fg_SunnyPansModel_175 d_X10_told_174 ?_
    exact z_iret cx hr rfl hF d_X10_told_177
  have hb164 : ∀ (M : zMem), F_X10_told_164 p0 M = some (r9, M9) → zJ p l e rm_X10_told s m args below meth c G shM ad n A 2 (MQ below (zQ G shM ad n M9 (some (.int r9)) A) args s 0 0 A) 0 0 M 164 [(0, .ref (ad 0))] [] := by
    intro M hF
    unfold F_X10_told_164 at hF
    refine z_aload_n cx d_X10_told_164 0 rfl ?_
    refine z_getR cx hT fg_SunnyPansModel_58 451 rfl d_X10_told_165 ?_
    refine z_sipush (v := 194) cx d_X10_told_168 ks_194 ?_
    refine z_iald cx (tfM_11_451 hT) za_36 (zvp (by decide +kernel)) 194 rfl d_X10_told_171 ?_
    exact z_iret cx hr rfl hF d_X10_told_172
  have hb153 : ∀ (M : zMem), F_X10_told_153 p0 M = some (r9, M9) → zJ p l e rm_X10_told s m args below meth c G shM ad n A 2 (MQ below (zQ G shM ad n M9 (some (.int r9)) A) args s 0 0 A) 0 0 M 153 [(0, .ref (ad 0))] [] := by
    intro M hF
    unfold F_X10_told_153 at hF
    refine z_aload_n cx d_X10_told_153 0 rfl ?_
    refine z_getR cx hT fg_SunnyPansModel_58 451 rfl d_X10_told_154 ?_
    refine z_sipush (v := 128) cx d_X10_told_157 ks_128 ?_
    obtain ⟨v6, M5, hc, hF⟩ := zb_inv hF
    refine z_callS cx (As := [.ref (ad 451), .int (128 : Int32)]) (rest := []) (c_X10_together l cx.2.2.2.1.1 M 451 (128 : Int32) (tfM_11_451 hT) hc) cs_SunnyPansModel_319 ⟨rfl, rfl, Nat.le_of_ble_eq_true rfl, Nat.le_of_ble_eq_true rfl⟩ rfl rfl ⟨Nat.zero_le _, Nat.zero_le _⟩ (Nat.le_of_ble_eq_true rfl) d_X10_told_160 ?_
    exact z_iret cx hr rfl hF d_X10_told_163
  have hb143 : ∀ (M : zMem), F_X10_told_143 p0 M = some (r9, M9) → zJ p l e rm_X10_told s m args below meth c G shM ad n A 2 (MQ below (zQ G shM ad n M9 (some (.int r9)) A) args s 0 0 A) 0 0 M 143 [(0, .ref (ad 0))] [] := by
    intro M hF
    unfold F_X10_told_143 at hF
    refine z_aload_n cx d_X10_told_143 0 rfl ?_
    refine z_getR cx hT fg_SunnyPansModel_58 451 rfl d_X10_told_144 ?_
    refine z_bipush (v := 64) cx d_X10_told_147 kb_64 ?_
    obtain ⟨v8, M7, hc, hF⟩ := zb_inv hF
    refine z_callS cx (As := [.ref (ad 451), .int (64 : Int32)]) (rest := []) (c_X10_together l cx.2.2.2.1.1 M 451 (64 : Int32) (tfM_11_451 hT) hc) cs_SunnyPansModel_319 ⟨rfl, rfl, Nat.le_of_ble_eq_true rfl, Nat.le_of_ble_eq_true rfl⟩ rfl rfl ⟨Nat.zero_le _, Nat.zero_le _⟩ (Nat.le_of_ble_eq_true rfl) d_X10_told_149 ?_
    exact z_iret cx hr rfl hF d_X10_told_152
  have hb134 : ∀ (M : zMem), F_X10_told_134 p0 M = some (r9, M9) → zJ p l e rm_X10_told s m args below meth c G shM ad n A 2 (MQ below (zQ G shM ad n M9 (some (.int r9)) A) args s 0 0 A) 0 0 M 134 [(0, .ref (ad 0))] [] := by
    intro M hF
    unfold F_X10_told_134 at hF
    refine z_aload_n cx d_X10_told_134 0 rfl ?_
    refine z_getR cx hT fg_SunnyPansModel_58 451 rfl d_X10_told_135 ?_
    refine z_iconst (v := 0) cx d_X10_told_138 ki_0 ?_
    obtain ⟨v10, M9, hc, hF⟩ := zb_inv hF
    refine z_callS cx (As := [.ref (ad 451), .int (0 : Int32)]) (rest := []) (c_X10_together l cx.2.2.2.1.1 M 451 (0 : Int32) (tfM_11_451 hT) hc) cs_SunnyPansModel_319 ⟨rfl, rfl, Nat.le_of_ble_eq_true rfl, Nat.le_of_ble_eq_true rfl⟩ rfl rfl ⟨Nat.zero_le _, Nat.zero_le _⟩ (Nat.le_of_ble_eq_true rfl) d_X10_told_139 ?_
    exact z_iret cx hr rfl hF d_X10_told_142
  have hb112 : ∀ (M : zMem), F_X10_told_112 p0 M = some (r9, M9) → zJ p l e rm_X10_told s m args below meth c G shM ad n A 2 (MQ below (zQ G shM ad n M9 (some (.int r9)) A) args s 0 0 A) 0 0 M 112 [(0, .ref (ad 0))] [] := by
    intro M hF
    unfold F_X10_told_112 at hF
    refine z_aload_n cx d_X10_told_112 0 rfl ?_
    refine z_getR cx hT fg_SunnyPansModel_23 4 rfl d_X10_told_113 ?_
    refine z_iconst (v := 2) cx d_X10_told_116 ki_2 ?_
    refine z_iald cx (tfM_11_4 hT) za_28 (zvp (by decide +kernel)) 2 rfl d_X10_told_117 ?_
    refine z_if_ne cx 125 d_X10_told_118 (by decide) hF (fun hF => ?_) (fun hF => ?_)
    · refine z_aload_n cx d_X10_told_125 0 rfl ?_
      refine z_getR cx hT fg_SunnyPansModel_58 451 rfl d_X10_told_126 ?_
      refine z_sipush (v := 193) cx d_X10_told_129 ks_193 ?_
      refine z_iald cx (tfM_11_451 hT) za_36 (zvp (by decide +kernel)) 193 rfl d_X10_told_132 ?_
      exact z_iret cx hr rfl hF d_X10_told_133
    refine z_iconst (v := -1) cx d_X10_told_121 ki_m1 ?_
    refine z_goto cx 133 d_X10_told_122 (by decide) ?_
    exact z_iret cx hr rfl hF d_X10_told_133
  have hb103 : ∀ (M : zMem), F_X10_told_103 p0 M = some (r9, M9) → zJ p l e rm_X10_told s m args below meth c G shM ad n A 2 (MQ below (zQ G shM ad n M9 (some (.int r9)) A) args s 0 0 A) 0 0 M 103 [(0, .ref (ad 0))] [] := by
    intro M hF
    unfold F_X10_told_103 at hF
    refine z_aload_n cx d_X10_told_103 0 rfl ?_
    refine z_getR cx hT fg_SunnyPansModel_58 451 rfl d_X10_told_104 ?_
    refine z_sipush (v := 192) cx d_X10_told_107 ks_192 ?_
    refine z_iald cx (tfM_11_451 hT) za_36 (zvp (by decide +kernel)) 192 rfl d_X10_told_110 ?_
    exact z_iret cx hr rfl hF d_X10_told_111
  have hb96 : ∀ (b96_L1 : Int32) (M : zMem), F_X10_told_96 p0 b96_L1 M = some (r9, M9) → zJ p l e rm_X10_told s m args below meth c G shM ad n A 2 (MQ below (zQ G shM ad n M9 (some (.int r9)) A) args s 0 0 A) 0 0 M 96 [(0, .ref (ad 0)), (1, .int b96_L1)] [] := by
    intro b96_L1 M hF
    unfold F_X10_told_96 at hF
    refine z_aload_n cx d_X10_told_96 0 rfl ?_
    refine z_getR cx hT fg_SunnyPansModel_23 4 rfl d_X10_told_97 ?_
    refine z_iload_n cx d_X10_told_100 1 rfl ?_
    obtain ⟨hi11, hF⟩ := gin_inv hF
    refine z_iald cx (tfM_11_4 hT) za_28 hi11 b96_L1.toNatClampNeg rfl d_X10_told_101 ?_
    exact z_iret cx hr rfl hF d_X10_told_102
  have hb21 : ∀ (b21_L1 : Int32) (b21_S1 : Int32) (M : zMem), F_X10_told_21 p0 b21_L1 b21_S1 M = some (r9, M9) → zJ p l e rm_X10_told s m args below meth c G shM ad n A 2 (MQ below (zQ G shM ad n M9 (some (.int r9)) A) args s 0 0 A) 0 0 M 21 [(0, .ref (ad 0)), (1, .int b21_L1)] [.int b21_S1, .ref (ad 0)] := by
    intro b21_L1 b21_S1 M hF
    unfold F_X10_told_21 at hF
    refine z_iconst (v := 1) cx d_X10_told_21 ki_1 ?_
    refine z_iconst (v := 1) cx d_X10_told_22 ki_1 ?_
    obtain ⟨v13, M12, hc, hF⟩ := zb_inv hF
    refine z_callV cx (As := [.int b21_S1, .int (1 : Int32), .int (1 : Int32)]) (rest := []) (c_X10_bad l cx.2.2.2.1.1 M b21_S1 (1 : Int32) (1 : Int32) hT hc) hT zo_11 cv_SunnyPansModel_155 ⟨rfl, rfl, Nat.le_of_ble_eq_true rfl, Nat.le_of_ble_eq_true rfl⟩ rfl rfl ⟨Nat.zero_le _, Nat.zero_le _⟩ (Nat.le_of_ble_eq_true rfl) d_X10_told_23 ?_
    refine z_if_eq cx 31 d_X10_told_26 (by decide) hF (fun hF => ?_) (fun hF => ?_)
    · refine z_iload_n cx d_X10_told_31 1 rfl ?_
      by_cases q0 : b21_L1 = 0
      · rw [if_pos q0] at hF
        refine z_tabIn cx 96 d_X10_told_32 (by rw [q0]; decide +kernel) (by rw [q0]; decide +kernel) (by rw [q0]; rfl) (by decide) ?_
        exact hb96 b21_L1 M12 hF
      rw [if_neg q0] at hF
      by_cases q1 : b21_L1 = 1
      · rw [if_pos q1] at hF
        refine z_tabIn cx 96 d_X10_told_32 (by rw [q1]; decide +kernel) (by rw [q1]; decide +kernel) (by rw [q1]; rfl) (by decide) ?_
        exact hb96 b21_L1 M12 hF
      rw [if_neg q1] at hF
      by_cases q2 : b21_L1 = 2
      · rw [if_pos q2] at hF
        refine z_tabIn cx 96 d_X10_told_32 (by rw [q2]; decide +kernel) (by rw [q2]; decide +kernel) (by rw [q2]; rfl) (by decide) ?_
        exact hb96 b21_L1 M12 hF
      rw [if_neg q2] at hF
      by_cases q3 : b21_L1 = 3
      · rw [if_pos q3] at hF
        refine z_tabIn cx 103 d_X10_told_32 (by rw [q3]; decide +kernel) (by rw [q3]; decide +kernel) (by rw [q3]; rfl) (by decide) ?_
        exact z_lv [0] _ rfl (hb103 M12 hF)
      rw [if_neg q3] at hF
      by_cases q4 : b21_L1 = 4
      · rw [if_pos q4] at hF
        refine z_tabIn cx 112 d_X10_told_32 (by rw [q4]; decide +kernel) (by rw [q4]; decide +kernel) (by rw [q4]; rfl) (by decide) ?_
        exact z_lv [0] _ rfl (hb112 M12 hF)
      rw [if_neg q4] at hF
      by_cases q5 : b21_L1 = 5
      · rw [if_pos q5] at hF
        refine z_tabIn cx 134 d_X10_told_32 (by rw [q5]; decide +kernel) (by rw [q5]; decide +kernel) (by rw [q5]; rfl) (by decide) ?_
        exact z_lv [0] _ rfl (hb134 M12 hF)
      rw [if_neg q5] at hF
      by_cases q6 : b21_L1 = 6
      · rw [if_pos q6] at hF
        refine z_tabIn cx 143 d_X10_told_32 (by rw [q6]; decide +kernel) (by rw [q6]; decide +kernel) (by rw [q6]; rfl) (by decide) ?_
        exact z_lv [0] _ rfl (hb143 M12 hF)
      rw [if_neg q6] at hF
      by_cases q7 : b21_L1 = 7
      · rw [if_pos q7] at hF
        refine z_tabIn cx 153 d_X10_told_32 (by rw [q7]; decide +kernel) (by rw [q7]; decide +kernel) (by rw [q7]; rfl) (by decide) ?_
        exact z_lv [0] _ rfl (hb153 M12 hF)
      rw [if_neg q7] at hF
      by_cases q8 : b21_L1 = 8
      · rw [if_pos q8] at hF
        refine z_tabIn cx 164 d_X10_told_32 (by rw [q8]; decide +kernel) (by rw [q8]; decide +kernel) (by rw [q8]; rfl) (by decide) ?_
        exact z_lv [0] _ rfl (hb164 M12 hF)
      rw [if_neg q8] at hF
      by_cases q9 : b21_L1 = 9
      · rw [if_pos q9] at hF
        refine z_tabIn cx 173 d_X10_told_32 (by rw [q9]; decide +kernel) (by rw [q9]; decide +kernel) (by rw [q9]; rfl) (by decide) ?_
        exact z_lv [0] _ rfl (hb173 M12 hF)
      rw [if_neg q9] at hF
      by_cases q10 : b21_L1 = 10
      · rw [if_pos q10] at hF
        refine z_tabIn cx 178 d_X10_told_32 (by rw [q10]; decide +kernel) (by rw [q10]; decide +kernel) (by rw [q10]; rfl) (by decide) ?_
        exact z_lv [0] _ rfl (hb178 M12 hF)
      rw [if_neg q10] at hF
      by_cases q11 : b21_L1 = 11
      · rw [if_pos q11] at hF
        refine z_tabIn cx 183 d_X10_told_32 (by rw [q11]; decide +kernel) (by rw [q11]; decide +kernel) (by rw [q11]; rfl) (by decide) ?_
        exact z_lv [0] _ rfl (hb183 M12 hF)
      rw [if_neg q11] at hF
      refine z_tabOut cx 188 d_X10_told_32 (by have w0 := lv_neT q0 (a := 0) (by decide +kernel); have w1 := lv_neT q1 (a := 1) (by decide +kernel); have w2 := lv_neT q2 (a := 2) (by decide +kernel); have w3 := lv_neT q3 (a := 3) (by decide +kernel); have w4 := lv_neT q4 (a := 4) (by decide +kernel); have w5 := lv_neT q5 (a := 5) (by decide +kernel); have w6 := lv_neT q6 (a := 6) (by decide +kernel); have w7 := lv_neT q7 (a := 7) (by decide +kernel); have w8 := lv_neT q8 (a := 8) (by decide +kernel); have w9 := lv_neT q9 (a := 9) (by decide +kernel); have w10 := lv_neT q10 (a := 10) (by decide +kernel); have w11 := lv_neT q11 (a := 11) (by decide +kernel); omega) (by decide) ?_
      exact z_lv [0] _ rfl (hb188 M12 hF)
    refine z_iconst (v := 0) cx d_X10_told_29 ki_0 ?_
    exact z_iret cx hr rfl hF d_X10_told_30
  unfold F_X10_told at hF
  refine z_aload_n cx d_X10_told_0 0 rfl ?_
  refine z_iconst (v := 0) cx d_X10_told_1 ki_0 ?_
  refine z_putI cx hT fp_SunnyPansModel_82 d_X10_told_2 ?_
  refine z_nmM hF (fun M14 hF => ?_)
  refine z_aload_n cx d_X10_told_5 0 rfl ?_
  refine z_iload_n cx d_X10_told_6 1 rfl ?_
  refine z_iconst (v := 0) cx d_X10_told_7 ki_0 ?_
  refine z_bipush (v := 12) cx d_X10_told_8 kb_12 ?_
  obtain ⟨v16, M15, hc, hF⟩ := zb_inv hF
  refine z_callS cx (As := [.int p0, .int (0 : Int32), .int (12 : Int32)]) (rest := [.ref (ad 0)]) (c_X10_in l cx.2.2.2.1.1 M14 p0 (0 : Int32) (12 : Int32)  hc) cs_SunnyPansModel_116 ⟨rfl, rfl, Nat.le_of_ble_eq_true rfl, Nat.le_of_ble_eq_true rfl⟩ rfl rfl ⟨Nat.zero_le _, Nat.zero_le _⟩ (Nat.le_of_ble_eq_true rfl) d_X10_told_10 ?_
  refine z_if_ne cx 20 d_X10_told_13 (by decide) hF (fun hF => ?_) (fun hF => ?_)
  · refine z_iconst (v := 0) cx d_X10_told_20 ki_0 ?_
    exact hb21 p0 (0 : Int32) M15 hF
  refine z_iconst (v := 1) cx d_X10_told_16 ki_1 ?_
  refine z_goto cx 21 d_X10_told_17 (by decide) ?_
  exact hb21 p0 (1 : Int32) M15 hF
/-! SunnyPansModel.strength -/
theorem d_X10_strength_0 : decode cX10_strength 0 = .ok (.aload_n 0, 1) := by decide +kernel
theorem d_X10_strength_1 : decode cX10_strength 1 = .ok (.bipush 64, 2) := by decide +kernel
theorem d_X10_strength_3 : decode cX10_strength 3 = .ok (.iload_n 1, 1) := by decide +kernel
theorem d_X10_strength_4 : decode cX10_strength 4 = .ok (.iadd, 1) := by decide +kernel
theorem d_X10_strength_5 : decode cX10_strength 5 = .ok (.iaload, 1) := by decide +kernel
theorem d_X10_strength_6 : decode cX10_strength 6 = .ok (.aload_n 0, 1) := by decide +kernel
theorem d_X10_strength_7 : decode cX10_strength 7 = .ok (.iconst 0, 1) := by decide +kernel
theorem d_X10_strength_8 : decode cX10_strength 8 = .ok (.iload_n 1, 1) := by decide +kernel
theorem d_X10_strength_9 : decode cX10_strength 9 = .ok (.iadd, 1) := by decide +kernel
theorem d_X10_strength_10 : decode cX10_strength 10 = .ok (.iaload, 1) := by decide +kernel
theorem d_X10_strength_11 : decode cX10_strength 11 = .ok (.iadd, 1) := by decide +kernel
theorem d_X10_strength_12 : decode cX10_strength 12 = .ok (.istore_n 2, 1) := by decide +kernel
theorem d_X10_strength_13 : decode cX10_strength 13 = .ok (.iload_n 2, 1) := by decide +kernel
theorem d_X10_strength_14 : decode cX10_strength 14 = .ok (.ifCond .ne 7, 3) := by decide +kernel
theorem d_X10_strength_17 : decode cX10_strength 17 = .ok (.iconst 0, 1) := by decide +kernel
theorem d_X10_strength_18 : decode cX10_strength 18 = .ok (.goto 15, 3) := by decide +kernel
theorem d_X10_strength_21 : decode cX10_strength 21 = .ok (.sipush 1000, 3) := by decide +kernel
theorem d_X10_strength_24 : decode cX10_strength 24 = .ok (.aload_n 0, 1) := by decide +kernel
theorem d_X10_strength_25 : decode cX10_strength 25 = .ok (.bipush 64, 2) := by decide +kernel
theorem d_X10_strength_27 : decode cX10_strength 27 = .ok (.iload_n 1, 1) := by decide +kernel
theorem d_X10_strength_28 : decode cX10_strength 28 = .ok (.iadd, 1) := by decide +kernel
theorem d_X10_strength_29 : decode cX10_strength 29 = .ok (.iaload, 1) := by decide +kernel
theorem d_X10_strength_30 : decode cX10_strength 30 = .ok (.imul, 1) := by decide +kernel
theorem d_X10_strength_31 : decode cX10_strength 31 = .ok (.iload_n 2, 1) := by decide +kernel
theorem d_X10_strength_32 : decode cX10_strength 32 = .ok (.idiv, 1) := by decide +kernel
theorem d_X10_strength_33 : decode cX10_strength 33 = .ok (.ireturn, 1) := by decide +kernel
def F_X10_strength (M : zMem) (p0 : Nat) (p1 : Int32) : Option (Int32 × zMem) :=
  gin ((64 : Int32) + p1) 195 <|
  gin ((0 : Int32) + p1) 195 <|
  zl ((M.1 p0 ((64 : Int32) + p1).toNatClampNeg) + (M.1 p0 ((0 : Int32) + p1).toNatClampNeg)) fun v3 =>
  if v3 = 0 then
    some ((0 : Int32), M)
  else
    gd (!(v3 == 0)) <|
    some ((((1000 : Int32) * (M.1 p0 ((64 : Int32) + p1).toNatClampNeg)) / v3), M)
def rm_X10_strength : Room := { frames := 2, cells := 0, slots := 0, locals := 80 }
set_option maxHeartbeats 4000000 in
set_option maxRecDepth 100000 in
theorem c_X10_strength (l : Launch) {G : zG} {ad : Nat → Nat} {n : Nat} (hA : zInj ad n) (M : zMem) (p0 : Nat) (p1 : Int32) (hT_p0 : zT shM n p0 36) {r9 : Int32} {M9 : zMem} (hF : F_X10_strength M p0 p1 = some (r9, M9)) : zM l yX10_strength cX10_strength 3 (some .int) rm_X10_strength G shM ad n M [.ref (ad p0), .int p1] (some (.int r9)) M9 := by
  refine zM_of hA (by decide +kernel) (lv := [(0, .ref (ad p0)), (1, .int p1)]) (Nat.le_of_ble_eq_true rfl) rfl (fun p e s m args below meth c A cx hr => ?_)
  unfold F_X10_strength at hF
  refine z_aload_n cx d_X10_strength_0 0 rfl ?_
  refine z_bipush (v := 64) cx d_X10_strength_1 kb_64 ?_
  refine z_iload_n cx d_X10_strength_3 1 rfl ?_
  refine z_iadd cx d_X10_strength_4 ?_
  obtain ⟨hi1, hF⟩ := gin_inv hF
  refine z_iald cx hT_p0 za_36 hi1 (((64 : Int32) + p1).toNatClampNeg) rfl d_X10_strength_5 ?_
  refine z_aload_n cx d_X10_strength_6 0 rfl ?_
  refine z_iconst (v := 0) cx d_X10_strength_7 ki_0 ?_
  refine z_iload_n cx d_X10_strength_8 1 rfl ?_
  refine z_iadd cx d_X10_strength_9 ?_
  obtain ⟨hi2, hF⟩ := gin_inv hF
  refine z_iald cx hT_p0 za_36 hi2 (((0 : Int32) + p1).toNatClampNeg) rfl d_X10_strength_10 ?_
  refine z_iadd cx d_X10_strength_11 ?_
  refine z_nm hF (fun v3 hF => ?_)
  refine z_istore_n cx 2 [(2, .int v3), (0, .ref (ad p0)), (1, .int p1)] d_X10_strength_12 rfl (by decide) rfl ?_
  refine z_iload_n cx d_X10_strength_13 0 rfl ?_
  refine z_if_ne cx 21 d_X10_strength_14 (by decide) hF (fun hF => ?_) (fun hF => ?_)
  · refine z_sipush (v := 1000) cx d_X10_strength_21 ks_1000 ?_
    refine z_aload_n cx d_X10_strength_24 1 rfl ?_
    refine z_bipush (v := 64) cx d_X10_strength_25 kb_64 ?_
    refine z_iload_n cx d_X10_strength_27 2 rfl ?_
    refine z_iadd cx d_X10_strength_28 ?_
    refine z_iald cx hT_p0 za_36 hi1 (((64 : Int32) + p1).toNatClampNeg) rfl d_X10_strength_29 ?_
    refine z_imul cx d_X10_strength_30 ?_
    refine z_iload_n cx d_X10_strength_31 0 rfl ?_
    obtain ⟨hz4, hF⟩ := gd_inv hF
    refine z_idiv cx d_X10_strength_32 (zne hz4) ?_
    exact z_iret cx hr rfl hF d_X10_strength_33
  refine z_iconst (v := 0) cx d_X10_strength_17 ki_0 ?_
  refine z_goto cx 33 d_X10_strength_18 (by decide) ?_
  exact z_iret cx hr rfl hF d_X10_strength_33
/-! SunnyPansModel.sunOf -/
theorem d_X10_sunOf_0 : decode cX10_sunOf 0 = .ok (.iconst 0, 1) := by decide +kernel
theorem d_X10_sunOf_1 : decode cX10_sunOf 1 = .ok (.istore_n 2, 1) := by decide +kernel
theorem d_X10_sunOf_2 : decode cX10_sunOf 2 = .ok (.iconst 0, 1) := by decide +kernel
theorem d_X10_sunOf_3 : decode cX10_sunOf 3 = .ok (.istore_n 3, 1) := by decide +kernel
theorem d_X10_sunOf_4 : decode cX10_sunOf 4 = .ok (.iload_n 3, 1) := by decide +kernel
theorem d_X10_sunOf_5 : decode cX10_sunOf 5 = .ok (.aload_n 0, 1) := by decide +kernel
theorem d_X10_sunOf_6 : decode cX10_sunOf 6 = .ok (.getfield 23, 3) := by decide +kernel
theorem d_X10_sunOf_9 : decode cX10_sunOf 9 = .ok (.iconst 2, 1) := by decide +kernel
theorem d_X10_sunOf_10 : decode cX10_sunOf 10 = .ok (.iaload, 1) := by decide +kernel
theorem d_X10_sunOf_11 : decode cX10_sunOf 11 = .ok (.if_icmp .ge 30, 3) := by decide +kernel
theorem d_X10_sunOf_14 : decode cX10_sunOf 14 = .ok (.iload_n 2, 1) := by decide +kernel
theorem d_X10_sunOf_15 : decode cX10_sunOf 15 = .ok (.aload_n 0, 1) := by decide +kernel
theorem d_X10_sunOf_16 : decode cX10_sunOf 16 = .ok (.aload_n 0, 1) := by decide +kernel
theorem d_X10_sunOf_17 : decode cX10_sunOf 17 = .ok (.getfield 58, 3) := by decide +kernel
theorem d_X10_sunOf_20 : decode cX10_sunOf 20 = .ok (.iload_n 1, 1) := by decide +kernel
theorem d_X10_sunOf_21 : decode cX10_sunOf 21 = .ok (.iload_n 3, 1) := by decide +kernel
theorem d_X10_sunOf_22 : decode cX10_sunOf 22 = .ok (.invokevirtual 264, 3) := by decide +kernel
theorem d_X10_sunOf_25 : decode cX10_sunOf 25 = .ok (.ifCond .eq 7, 3) := by decide +kernel
theorem d_X10_sunOf_28 : decode cX10_sunOf 28 = .ok (.iconst 0, 1) := by decide +kernel
theorem d_X10_sunOf_29 : decode cX10_sunOf 29 = .ok (.goto 4, 3) := by decide +kernel
theorem d_X10_sunOf_32 : decode cX10_sunOf 32 = .ok (.iconst 1, 1) := by decide +kernel
theorem d_X10_sunOf_33 : decode cX10_sunOf 33 = .ok (.iadd, 1) := by decide +kernel
theorem d_X10_sunOf_34 : decode cX10_sunOf 34 = .ok (.istore_n 2, 1) := by decide +kernel
theorem d_X10_sunOf_35 : decode cX10_sunOf 35 = .ok (.iinc 3 1, 3) := by decide +kernel
theorem d_X10_sunOf_38 : decode cX10_sunOf 38 = .ok (.goto (-34), 3) := by decide +kernel
theorem d_X10_sunOf_41 : decode cX10_sunOf 41 = .ok (.iload_n 2, 1) := by decide +kernel
theorem d_X10_sunOf_42 : decode cX10_sunOf 42 = .ok (.ireturn, 1) := by decide +kernel
def F_X10_sunOf_33 (p0 : Int32) (self4 : Int32 → Int32 → Int32 → zMem → Option (Int32 × zMem)) (b33_L1 : Int32) (b33_L3 : Int32) (b33_S0 : Int32) (b33_S1 : Int32) (M : zMem) : Option (Int32 × zMem) :=
  zl (b33_S0 + b33_S1) fun v1 =>
  self4 b33_L1 v1 (b33_L3 + 1) M
def F_X10_sunOf_4 (p0 : Int32) (self4 : Int32 → Int32 → Int32 → zMem → Option (Int32 × zMem)) (b4_L1 : Int32) (b4_L2 : Int32) (b4_L3 : Int32) (M : zMem) : Option (Int32 × zMem) :=
  if (M.1 4 2) ≤ b4_L3 then
    some (b4_L2, M)
  else
    zb (F_X10_isShade M 451 b4_L1 b4_L3) fun v3 M2 =>
    if v3 = 0 then
      F_X10_sunOf_33 p0 self4 b4_L1 b4_L3 b4_L2 (1 : Int32) M2
    else
      F_X10_sunOf_33 p0 self4 b4_L1 b4_L3 b4_L2 (0 : Int32) M2
def F_X10_sunOf (M : zMem) (p0 : Int32) : Option (Int32 × zMem) :=
  itF (fun _ _ _ _ => none) (F_X10_sunOf_4 p0) zFuel p0 (0 : Int32) (0 : Int32) M
def rm_X10_sunOf : Room := { frames := 6, cells := 0, slots := 0, locals := 173 }
set_option maxHeartbeats 4000000 in
set_option maxRecDepth 100000 in
theorem c_X10_sunOf (l : Launch) {G : zG} {ad : Nat → Nat} {n : Nat} (hA : zInj ad n) (M : zMem) (p0 : Int32) (hT : zT shM n 0 11) {r9 : Int32} {M9 : zMem} (hF : F_X10_sunOf M p0 = some (r9, M9)) : zM l yX10_sunOf cX10_sunOf 4 (some .int) rm_X10_sunOf G shM ad n M [.ref (ad 0), .int p0] (some (.int r9)) M9 := by
  refine zM_of hA (by decide +kernel) (lv := [(0, .ref (ad 0)), (1, .int p0)]) (Nat.le_of_ble_eq_true rfl) rfl (fun p e s m args below meth c A cx hr => ?_)
  have hb33 : ∀ (self4 : Int32 → Int32 → Int32 → zMem → Option (Int32 × zMem)) (hs4 : ∀ (b4_L1 : Int32) (b4_L2 : Int32) (b4_L3 : Int32) (M : zMem), self4 b4_L1 b4_L2 b4_L3 M = some (r9, M9) → zJ p l e rm_X10_sunOf s m args below meth c G shM ad n A 4 (MQ below (zQ G shM ad n M9 (some (.int r9)) A) args s 0 0 A) 0 0 M 4 [(0, .ref (ad 0)), (1, .int b4_L1), (2, .int b4_L2), (3, .int b4_L3)] []), ∀ (b33_L1 : Int32) (b33_L3 : Int32) (b33_S0 : Int32) (b33_S1 : Int32) (M : zMem), F_X10_sunOf_33 p0 self4 b33_L1 b33_L3 b33_S0 b33_S1 M = some (r9, M9) → zJ p l e rm_X10_sunOf s m args below meth c G shM ad n A 4 (MQ below (zQ G shM ad n M9 (some (.int r9)) A) args s 0 0 A) 0 0 M 33 [(0, .ref (ad 0)), (1, .int b33_L1), (3, .int b33_L3)] [.int b33_S1, .int b33_S0] := by
    intro self4 hs4 b33_L1 b33_L3 b33_S0 b33_S1 M hF
    unfold F_X10_sunOf_33 at hF
    refine z_iadd cx d_X10_sunOf_33 ?_
    refine z_nm hF (fun v1 hF => ?_)
    refine z_istore_n cx 2 [(2, .int v1), (0, .ref (ad 0)), (1, .int b33_L1), (3, .int b33_L3)] d_X10_sunOf_34 rfl (by decide) rfl ?_
    refine z_iinc cx 3 1 [(3, .int (b33_L3 + 1)), (2, .int v1), (0, .ref (ad 0)), (1, .int b33_L1)] d_X10_sunOf_35 3 rfl ki_1 (by decide) rfl ?_
    refine z_goto cx 4 d_X10_sunOf_38 (by decide) ?_
    exact z_lv [2, 3, 1, 0] _ rfl (hs4 b33_L1 v1 (b33_L3 + 1) M hF)
  have hL4 : ∀ (fuel : Nat), ∀ (b4_L1 : Int32) (b4_L2 : Int32) (b4_L3 : Int32) (M : zMem), itF (fun _ _ _ _ => none) (F_X10_sunOf_4 p0) fuel b4_L1 b4_L2 b4_L3 M = some (r9, M9) → zJ p l e rm_X10_sunOf s m args below meth c G shM ad n A 4 (MQ below (zQ G shM ad n M9 (some (.int r9)) A) args s 0 0 A) 0 0 M 4 [(0, .ref (ad 0)), (1, .int b4_L1), (2, .int b4_L2), (3, .int b4_L3)] [] := by
    intro fuel
    induction fuel with
    | zero => intro b4_L1 b4_L2 b4_L3 M hF; cases hF
    | succ fuel hs4 =>
      intro b4_L1 b4_L2 b4_L3 M hF
      have hF : F_X10_sunOf_4 p0 (itF (fun _ _ _ _ => none) (F_X10_sunOf_4 p0) fuel) b4_L1 b4_L2 b4_L3 M = some (r9, M9) := hF
      generalize itF (fun _ _ _ _ => none) (F_X10_sunOf_4 p0) fuel = self4 at hs4 hF
      unfold F_X10_sunOf_4 at hF
      refine z_iload_n cx d_X10_sunOf_4 3 rfl ?_
      refine z_aload_n cx d_X10_sunOf_5 0 rfl ?_
      refine z_getR cx hT fg_SunnyPansModel_23 4 rfl d_X10_sunOf_6 ?_
      refine z_iconst (v := 2) cx d_X10_sunOf_9 ki_2 ?_
      refine z_iald cx (tfM_11_4 hT) za_28 (zvp (by decide +kernel)) 2 rfl d_X10_sunOf_10 ?_
      refine z_icmp_ge cx 41 d_X10_sunOf_11 (by decide) hF (fun hF => ?_) (fun hF => ?_)
      · refine z_iload_n cx d_X10_sunOf_41 2 rfl ?_
        exact z_iret cx hr rfl hF d_X10_sunOf_42
      refine z_iload_n cx d_X10_sunOf_14 2 rfl ?_
      refine z_aload_n cx d_X10_sunOf_15 0 rfl ?_
      refine z_aload_n cx d_X10_sunOf_16 0 rfl ?_
      refine z_getR cx hT fg_SunnyPansModel_58 451 rfl d_X10_sunOf_17 ?_
      refine z_iload_n cx d_X10_sunOf_20 1 rfl ?_
      refine z_iload_n cx d_X10_sunOf_21 3 rfl ?_
      obtain ⟨v3, M2, hc, hF⟩ := zb_inv hF
      refine z_callV cx (As := [.ref (ad 451), .int b4_L1, .int b4_L3]) (rest := [.int b4_L2]) (c_X10_isShade l cx.2.2.2.1.1 M 451 b4_L1 b4_L3 hT (tfM_11_451 hT) hc) hT zo_11 cv_SunnyPansModel_264 ⟨rfl, rfl, Nat.le_of_ble_eq_true rfl, Nat.le_of_ble_eq_true rfl⟩ rfl rfl ⟨Nat.zero_le _, Nat.zero_le _⟩ (Nat.le_of_ble_eq_true rfl) d_X10_sunOf_22 ?_
      refine z_if_eq cx 32 d_X10_sunOf_25 (by decide) hF (fun hF => ?_) (fun hF => ?_)
      · refine z_iconst (v := 1) cx d_X10_sunOf_32 ki_1 ?_
        exact z_lv [0, 1, 3] _ rfl (hb33 self4 hs4 b4_L1 b4_L3 b4_L2 (1 : Int32) M2 hF)
      refine z_iconst (v := 0) cx d_X10_sunOf_28 ki_0 ?_
      refine z_goto cx 33 d_X10_sunOf_29 (by decide) ?_
      exact z_lv [0, 1, 3] _ rfl (hb33 self4 hs4 b4_L1 b4_L3 b4_L2 (0 : Int32) M2 hF)
  unfold F_X10_sunOf at hF
  refine z_iconst (v := 0) cx d_X10_sunOf_0 ki_0 ?_
  refine z_istore_n cx 2 [(2, .int (0 : Int32)), (0, .ref (ad 0)), (1, .int p0)] d_X10_sunOf_1 rfl (by decide) rfl ?_
  refine z_iconst (v := 0) cx d_X10_sunOf_2 ki_0 ?_
  refine z_istore_n cx 3 [(3, .int (0 : Int32)), (2, .int (0 : Int32)), (0, .ref (ad 0)), (1, .int p0)] d_X10_sunOf_3 rfl (by decide) rfl ?_
  exact z_lv [2, 3, 1, 0] _ rfl (hL4 zFuel p0 (0 : Int32) (0 : Int32) M hF)
/-! SunnyPansModel.pan -/
set_option maxRecDepth 100000 in
theorem wd_1771 : Cond.code yX10_sunOf cX10_sunOf 4 (some .int) ∈ tbG := tw7 231 rfl rfl
set_option maxRecDepth 100000 in
theorem wd_1768 : Cond.methodLink "SunnyPansModel" 333 yX10_sunOf ∈ tbG := tw7 228 rfl rfl
set_option maxRecDepth 100000 in
theorem wd_1770 : Cond.instanceMethod yX10_sunOf ∈ tbG := tw7 230 rfl rfl
theorem wd_84 : Cond.selects "SunnyPansModel" yX10_sunOf yX10_sunOf ∈ tbG := tw 84 (by decide +kernel) rfl
theorem cv_SunnyPansModel_333 : zCV "SunnyPansModel" 333 "SunnyPansModel" yX10_sunOf cX10_sunOf 4 (some .int) 1 := zCV_of wd_1768 wd_1770 wd_84 wd_111 wd_1771 (by decide +kernel)
set_option maxRecDepth 100000 in
theorem wd_1767 : Cond.code yX10_strength cX10_strength 3 (some .int) ∈ tbG := tw7 227 rfl rfl
set_option maxRecDepth 100000 in
theorem wd_1765 : Cond.methodLink "SunnyPansModel" 330 yX10_strength ∈ tbG := tw7 225 rfl rfl
set_option maxRecDepth 100000 in
theorem wd_1766 : Cond.static yX10_strength ∈ tbG := tw7 226 rfl rfl
theorem cs_SunnyPansModel_330 : zCS "SunnyPansModel" 330 yX10_strength cX10_strength 3 (some .int) 2 := zCS_of wd_1765 wd_1766 wd_111 wd_1767 (by decide +kernel)
theorem d_X10_pan_0 : decode cX10_pan 0 = .ok (.aload_n 0, 1) := by decide +kernel
theorem d_X10_pan_1 : decode cX10_pan 1 = .ok (.iconst 0, 1) := by decide +kernel
theorem d_X10_pan_2 : decode cX10_pan 2 = .ok (.putfield 82, 3) := by decide +kernel
theorem d_X10_pan_5 : decode cX10_pan 5 = .ok (.aload_n 0, 1) := by decide +kernel
theorem d_X10_pan_6 : decode cX10_pan 6 = .ok (.aload_n 0, 1) := by decide +kernel
theorem d_X10_pan_7 : decode cX10_pan 7 = .ok (.iload_n 1, 1) := by decide +kernel
theorem d_X10_pan_8 : decode cX10_pan 8 = .ok (.iload_n 2, 1) := by decide +kernel
theorem d_X10_pan_9 : decode cX10_pan 9 = .ok (.invokevirtual 237, 3) := by decide +kernel
theorem d_X10_pan_12 : decode cX10_pan 12 = .ok (.ifCond .ne 7, 3) := by decide +kernel
theorem d_X10_pan_15 : decode cX10_pan 15 = .ok (.iconst 1, 1) := by decide +kernel
theorem d_X10_pan_16 : decode cX10_pan 16 = .ok (.goto 4, 3) := by decide +kernel
theorem d_X10_pan_19 : decode cX10_pan 19 = .ok (.iconst 0, 1) := by decide +kernel
theorem d_X10_pan_20 : decode cX10_pan 20 = .ok (.iconst 1, 1) := by decide +kernel
theorem d_X10_pan_21 : decode cX10_pan 21 = .ok (.iconst 0, 1) := by decide +kernel
theorem d_X10_pan_22 : decode cX10_pan 22 = .ok (.invokevirtual 155, 3) := by decide +kernel
theorem d_X10_pan_25 : decode cX10_pan 25 = .ok (.ifCond .ne 27, 3) := by decide +kernel
theorem d_X10_pan_28 : decode cX10_pan 28 = .ok (.aload_n 0, 1) := by decide +kernel
theorem d_X10_pan_29 : decode cX10_pan 29 = .ok (.iload_n 3, 1) := by decide +kernel
theorem d_X10_pan_30 : decode cX10_pan 30 = .ok (.iconst 0, 1) := by decide +kernel
theorem d_X10_pan_31 : decode cX10_pan 31 = .ok (.bipush 6, 2) := by decide +kernel
theorem d_X10_pan_33 : decode cX10_pan 33 = .ok (.invokestatic 116, 3) := by decide +kernel
theorem d_X10_pan_36 : decode cX10_pan 36 = .ok (.ifCond .ne 7, 3) := by decide +kernel
theorem d_X10_pan_39 : decode cX10_pan 39 = .ok (.iconst 1, 1) := by decide +kernel
theorem d_X10_pan_40 : decode cX10_pan 40 = .ok (.goto 4, 3) := by decide +kernel
theorem d_X10_pan_43 : decode cX10_pan 43 = .ok (.iconst 0, 1) := by decide +kernel
theorem d_X10_pan_44 : decode cX10_pan 44 = .ok (.iconst 2, 1) := by decide +kernel
theorem d_X10_pan_45 : decode cX10_pan 45 = .ok (.iconst 1, 1) := by decide +kernel
theorem d_X10_pan_46 : decode cX10_pan 46 = .ok (.invokevirtual 155, 3) := by decide +kernel
theorem d_X10_pan_49 : decode cX10_pan 49 = .ok (.ifCond .eq 5, 3) := by decide +kernel
theorem d_X10_pan_52 : decode cX10_pan 52 = .ok (.iconst 0, 1) := by decide +kernel
theorem d_X10_pan_53 : decode cX10_pan 53 = .ok (.ireturn, 1) := by decide +kernel
theorem d_X10_pan_54 : decode cX10_pan 54 = .ok (.bipush 8, 2) := by decide +kernel
theorem d_X10_pan_56 : decode cX10_pan 56 = .ok (.iload_n 2, 1) := by decide +kernel
theorem d_X10_pan_57 : decode cX10_pan 57 = .ok (.imul, 1) := by decide +kernel
theorem d_X10_pan_58 : decode cX10_pan 58 = .ok (.iload_n 1, 1) := by decide +kernel
theorem d_X10_pan_59 : decode cX10_pan 59 = .ok (.iadd, 1) := by decide +kernel
theorem d_X10_pan_60 : decode cX10_pan 60 = .ok (.istore 4, 2) := by decide +kernel
theorem d_X10_pan_62 : decode cX10_pan 62 = .ok (.iload_n 3, 1) := by decide +kernel
theorem d_X10_pan_63 : decode cX10_pan 63 = .ok (.tableswitch 102 0 5 #[37, 47, 58, 68, 80, 95], 37) := by decide +kernel
theorem d_X10_pan_100 : decode cX10_pan 100 = .ok (.aload_n 0, 1) := by decide +kernel
theorem d_X10_pan_101 : decode cX10_pan 101 = .ok (.getfield 58, 3) := by decide +kernel
theorem d_X10_pan_104 : decode cX10_pan 104 = .ok (.iconst 0, 1) := by decide +kernel
theorem d_X10_pan_105 : decode cX10_pan 105 = .ok (.iload 4, 2) := by decide +kernel
theorem d_X10_pan_107 : decode cX10_pan 107 = .ok (.iadd, 1) := by decide +kernel
theorem d_X10_pan_108 : decode cX10_pan 108 = .ok (.iaload, 1) := by decide +kernel
theorem d_X10_pan_109 : decode cX10_pan 109 = .ok (.ireturn, 1) := by decide +kernel
theorem d_X10_pan_110 : decode cX10_pan 110 = .ok (.aload_n 0, 1) := by decide +kernel
theorem d_X10_pan_111 : decode cX10_pan 111 = .ok (.getfield 58, 3) := by decide +kernel
theorem d_X10_pan_114 : decode cX10_pan 114 = .ok (.bipush 64, 2) := by decide +kernel
theorem d_X10_pan_116 : decode cX10_pan 116 = .ok (.iload 4, 2) := by decide +kernel
theorem d_X10_pan_118 : decode cX10_pan 118 = .ok (.iadd, 1) := by decide +kernel
theorem d_X10_pan_119 : decode cX10_pan 119 = .ok (.iaload, 1) := by decide +kernel
theorem d_X10_pan_120 : decode cX10_pan 120 = .ok (.ireturn, 1) := by decide +kernel
theorem d_X10_pan_121 : decode cX10_pan 121 = .ok (.aload_n 0, 1) := by decide +kernel
theorem d_X10_pan_122 : decode cX10_pan 122 = .ok (.getfield 58, 3) := by decide +kernel
theorem d_X10_pan_125 : decode cX10_pan 125 = .ok (.iload 4, 2) := by decide +kernel
theorem d_X10_pan_127 : decode cX10_pan 127 = .ok (.invokestatic 330, 3) := by decide +kernel
theorem d_X10_pan_130 : decode cX10_pan 130 = .ok (.ireturn, 1) := by decide +kernel
theorem d_X10_pan_131 : decode cX10_pan 131 = .ok (.aload_n 0, 1) := by decide +kernel
theorem d_X10_pan_132 : decode cX10_pan 132 = .ok (.getfield 58, 3) := by decide +kernel
theorem d_X10_pan_135 : decode cX10_pan 135 = .ok (.sipush 128, 3) := by decide +kernel
theorem d_X10_pan_138 : decode cX10_pan 138 = .ok (.iload 4, 2) := by decide +kernel
theorem d_X10_pan_140 : decode cX10_pan 140 = .ok (.iadd, 1) := by decide +kernel
theorem d_X10_pan_141 : decode cX10_pan 141 = .ok (.iaload, 1) := by decide +kernel
theorem d_X10_pan_142 : decode cX10_pan 142 = .ok (.ireturn, 1) := by decide +kernel
theorem d_X10_pan_143 : decode cX10_pan 143 = .ok (.aload_n 0, 1) := by decide +kernel
theorem d_X10_pan_144 : decode cX10_pan 144 = .ok (.getfield 58, 3) := by decide +kernel
theorem d_X10_pan_147 : decode cX10_pan 147 = .ok (.sipush 128, 3) := by decide +kernel
theorem d_X10_pan_150 : decode cX10_pan 150 = .ok (.iload 4, 2) := by decide +kernel
theorem d_X10_pan_152 : decode cX10_pan 152 = .ok (.iadd, 1) := by decide +kernel
theorem d_X10_pan_153 : decode cX10_pan 153 = .ok (.iaload, 1) := by decide +kernel
theorem d_X10_pan_154 : decode cX10_pan 154 = .ok (.invokestatic 241, 3) := by decide +kernel
theorem d_X10_pan_157 : decode cX10_pan 157 = .ok (.ireturn, 1) := by decide +kernel
theorem d_X10_pan_158 : decode cX10_pan 158 = .ok (.aload_n 0, 1) := by decide +kernel
theorem d_X10_pan_159 : decode cX10_pan 159 = .ok (.iload 4, 2) := by decide +kernel
theorem d_X10_pan_161 : decode cX10_pan 161 = .ok (.invokevirtual 333, 3) := by decide +kernel
theorem d_X10_pan_164 : decode cX10_pan 164 = .ok (.ireturn, 1) := by decide +kernel
theorem d_X10_pan_165 : decode cX10_pan 165 = .ok (.aload_n 0, 1) := by decide +kernel
theorem d_X10_pan_166 : decode cX10_pan 166 = .ok (.getfield 23, 3) := by decide +kernel
theorem d_X10_pan_169 : decode cX10_pan 169 = .ok (.iconst 2, 1) := by decide +kernel
theorem d_X10_pan_170 : decode cX10_pan 170 = .ok (.iaload, 1) := by decide +kernel
theorem d_X10_pan_171 : decode cX10_pan 171 = .ok (.ifCond .le 28, 3) := by decide +kernel
theorem d_X10_pan_174 : decode cX10_pan 174 = .ok (.aload_n 0, 1) := by decide +kernel
theorem d_X10_pan_175 : decode cX10_pan 175 = .ok (.aload_n 0, 1) := by decide +kernel
theorem d_X10_pan_176 : decode cX10_pan 176 = .ok (.getfield 58, 3) := by decide +kernel
theorem d_X10_pan_179 : decode cX10_pan 179 = .ok (.iload 4, 2) := by decide +kernel
theorem d_X10_pan_181 : decode cX10_pan 181 = .ok (.aload_n 0, 1) := by decide +kernel
theorem d_X10_pan_182 : decode cX10_pan 182 = .ok (.getfield 58, 3) := by decide +kernel
theorem d_X10_pan_185 : decode cX10_pan 185 = .ok (.sipush 193, 3) := by decide +kernel
theorem d_X10_pan_188 : decode cX10_pan 188 = .ok (.iaload, 1) := by decide +kernel
theorem d_X10_pan_189 : decode cX10_pan 189 = .ok (.invokevirtual 264, 3) := by decide +kernel
theorem d_X10_pan_192 : decode cX10_pan 192 = .ok (.ifCond .eq 7, 3) := by decide +kernel
theorem d_X10_pan_195 : decode cX10_pan 195 = .ok (.iconst 1, 1) := by decide +kernel
theorem d_X10_pan_196 : decode cX10_pan 196 = .ok (.goto 4, 3) := by decide +kernel
theorem d_X10_pan_199 : decode cX10_pan 199 = .ok (.iconst 0, 1) := by decide +kernel
theorem d_X10_pan_200 : decode cX10_pan 200 = .ok (.ireturn, 1) := by decide +kernel
def F_X10_pan_165 (p0 : Int32) (p1 : Int32) (p2 : Int32) (b165_L4 : Int32) (M : zMem) : Option (Int32 × zMem) :=
  if (M.1 4 2) ≤ 0 then
    some ((0 : Int32), M)
  else
    zb (F_X10_isShade M 451 b165_L4 (M.1 451 193)) fun v2 M1 =>
    if v2 = 0 then
      some ((0 : Int32), M1)
    else
      some ((1 : Int32), M1)
def F_X10_pan_158 (p0 : Int32) (p1 : Int32) (p2 : Int32) (b158_L4 : Int32) (M : zMem) : Option (Int32 × zMem) :=
  zb (F_X10_sunOf M b158_L4) fun v4 M3 =>
  some (v4, M3)
def F_X10_pan_143 (p0 : Int32) (p1 : Int32) (p2 : Int32) (b143_L4 : Int32) (M : zMem) : Option (Int32 × zMem) :=
  gin ((128 : Int32) + b143_L4) 195 <|
  zb (F_X10_high M (M.1 451 ((128 : Int32) + b143_L4).toNatClampNeg)) fun v7 M6 =>
  some (v7, M6)
def F_X10_pan_131 (p0 : Int32) (p1 : Int32) (p2 : Int32) (b131_L4 : Int32) (M : zMem) : Option (Int32 × zMem) :=
  gin ((128 : Int32) + b131_L4) 195 <|
  some ((M.1 451 ((128 : Int32) + b131_L4).toNatClampNeg), M)
def F_X10_pan_121 (p0 : Int32) (p1 : Int32) (p2 : Int32) (b121_L4 : Int32) (M : zMem) : Option (Int32 × zMem) :=
  zb (F_X10_strength M 451 b121_L4) fun v10 M9 =>
  some (v10, M9)
def F_X10_pan_110 (p0 : Int32) (p1 : Int32) (p2 : Int32) (b110_L4 : Int32) (M : zMem) : Option (Int32 × zMem) :=
  gin ((64 : Int32) + b110_L4) 195 <|
  some ((M.1 451 ((64 : Int32) + b110_L4).toNatClampNeg), M)
def F_X10_pan_100 (p0 : Int32) (p1 : Int32) (p2 : Int32) (b100_L4 : Int32) (M : zMem) : Option (Int32 × zMem) :=
  gin ((0 : Int32) + b100_L4) 195 <|
  some ((M.1 451 ((0 : Int32) + b100_L4).toNatClampNeg), M)
def F_X10_pan_44 (p0 : Int32) (p1 : Int32) (p2 : Int32) (b44_L1 : Int32) (b44_L2 : Int32) (b44_L3 : Int32) (b44_S1 : Int32) (M : zMem) : Option (Int32 × zMem) :=
  zb (F_X10_bad M b44_S1 (2 : Int32) (1 : Int32)) fun v14 M13 =>
  if v14 = 0 then
    zl (((8 : Int32) * b44_L2) + b44_L1) fun v15 =>
    if b44_L3 = 0 then
      F_X10_pan_100 p0 p1 p2 v15 M13
    else
    if b44_L3 = 1 then
      F_X10_pan_110 p0 p1 p2 v15 M13
    else
    if b44_L3 = 2 then
      F_X10_pan_121 p0 p1 p2 v15 M13
    else
    if b44_L3 = 3 then
      F_X10_pan_131 p0 p1 p2 v15 M13
    else
    if b44_L3 = 4 then
      F_X10_pan_143 p0 p1 p2 v15 M13
    else
    if b44_L3 = 5 then
      F_X10_pan_158 p0 p1 p2 v15 M13
    else
    F_X10_pan_165 p0 p1 p2 v15 M13
  else
    some ((0 : Int32), M13)
def F_X10_pan_20 (p0 : Int32) (p1 : Int32) (p2 : Int32) (b20_L1 : Int32) (b20_L2 : Int32) (b20_L3 : Int32) (b20_S1 : Int32) (M : zMem) : Option (Int32 × zMem) :=
  zb (F_X10_bad M b20_S1 (1 : Int32) (0 : Int32)) fun v17 M16 =>
  if v17 = 0 then
    zb (F_X10_in M16 b20_L3 (0 : Int32) (6 : Int32)) fun v19 M18 =>
    if v19 = 0 then
      F_X10_pan_44 p0 p1 p2 b20_L1 b20_L2 b20_L3 (1 : Int32) M18
    else
      F_X10_pan_44 p0 p1 p2 b20_L1 b20_L2 b20_L3 (0 : Int32) M18
  else
    some ((0 : Int32), M16)
def F_X10_pan (M : zMem) (p0 : Int32) (p1 : Int32) (p2 : Int32) : Option (Int32 × zMem) :=
  zl (zI M 0 0 (0 : Int32)) fun M20 =>
  zb (F_X10_isWithin M20 p0 p1) fun v22 M21 =>
  if v22 = 0 then
    F_X10_pan_20 p0 p1 p2 p0 p1 p2 (1 : Int32) M21
  else
    F_X10_pan_20 p0 p1 p2 p0 p1 p2 (0 : Int32) M21
def rm_X10_pan : Room := { frames := 7, cells := 0, slots := 0, locals := 196 }
set_option maxHeartbeats 4000000 in
set_option maxRecDepth 100000 in
theorem c_X10_pan (l : Launch) {G : zG} {ad : Nat → Nat} {n : Nat} (hA : zInj ad n) (M : zMem) (p0 : Int32) (p1 : Int32) (p2 : Int32) (hT : zT shM n 0 11) {r9 : Int32} {M9 : zMem} (hF : F_X10_pan M p0 p1 p2 = some (r9, M9)) : zM l yX10_pan cX10_pan 5 (some .int) rm_X10_pan G shM ad n M [.ref (ad 0), .int p0, .int p1, .int p2] (some (.int r9)) M9 := by
  refine zM_of hA (by decide +kernel) (lv := [(0, .ref (ad 0)), (1, .int p0), (2, .int p1), (3, .int p2)]) (Nat.le_of_ble_eq_true rfl) rfl (fun p e s m args below meth c A cx hr => ?_)
  have hb165 : ∀ (b165_L4 : Int32) (M : zMem), F_X10_pan_165 p0 p1 p2 b165_L4 M = some (r9, M9) → zJ p l e rm_X10_pan s m args below meth c G shM ad n A 5 (MQ below (zQ G shM ad n M9 (some (.int r9)) A) args s 0 0 A) 0 0 M 165 [(0, .ref (ad 0)), (4, .int b165_L4)] [] := by
    intro b165_L4 M hF
    unfold F_X10_pan_165 at hF
    refine z_aload_n cx d_X10_pan_165 0 rfl ?_
    refine z_getR cx hT fg_SunnyPansModel_23 4 rfl d_X10_pan_166 ?_
    refine z_iconst (v := 2) cx d_X10_pan_169 ki_2 ?_
    refine z_iald cx (tfM_11_4 hT) za_28 (zvp (by decide +kernel)) 2 rfl d_X10_pan_170 ?_
    refine z_if_le cx 199 d_X10_pan_171 (by decide) hF (fun hF => ?_) (fun hF => ?_)
    · refine z_iconst (v := 0) cx d_X10_pan_199 ki_0 ?_
      exact z_iret cx hr rfl hF d_X10_pan_200
    refine z_aload_n cx d_X10_pan_174 0 rfl ?_
    refine z_aload_n cx d_X10_pan_175 0 rfl ?_
    refine z_getR cx hT fg_SunnyPansModel_58 451 rfl d_X10_pan_176 ?_
    refine z_iload cx d_X10_pan_179 1 rfl ?_
    refine z_aload_n cx d_X10_pan_181 0 rfl ?_
    refine z_getR cx hT fg_SunnyPansModel_58 451 rfl d_X10_pan_182 ?_
    refine z_sipush (v := 193) cx d_X10_pan_185 ks_193 ?_
    refine z_iald cx (tfM_11_451 hT) za_36 (zvp (by decide +kernel)) 193 rfl d_X10_pan_188 ?_
    obtain ⟨v2, M1, hc, hF⟩ := zb_inv hF
    refine z_callV cx (As := [.ref (ad 451), .int b165_L4, .int (M.1 451 193)]) (rest := []) (c_X10_isShade l cx.2.2.2.1.1 M 451 b165_L4 (M.1 451 193) hT (tfM_11_451 hT) hc) hT zo_11 cv_SunnyPansModel_264 ⟨rfl, rfl, Nat.le_of_ble_eq_true rfl, Nat.le_of_ble_eq_true rfl⟩ rfl rfl ⟨Nat.zero_le _, Nat.zero_le _⟩ (Nat.le_of_ble_eq_true rfl) d_X10_pan_189 ?_
    refine z_if_eq cx 199 d_X10_pan_192 (by decide) hF (fun hF => ?_) (fun hF => ?_)
    · refine z_iconst (v := 0) cx d_X10_pan_199 ki_0 ?_
      exact z_iret cx hr rfl hF d_X10_pan_200
    refine z_iconst (v := 1) cx d_X10_pan_195 ki_1 ?_
    refine z_goto cx 200 d_X10_pan_196 (by decide) ?_
    exact z_iret cx hr rfl hF d_X10_pan_200
  have hb158 : ∀ (b158_L4 : Int32) (M : zMem), F_X10_pan_158 p0 p1 p2 b158_L4 M = some (r9, M9) → zJ p l e rm_X10_pan s m args below meth c G shM ad n A 5 (MQ below (zQ G shM ad n M9 (some (.int r9)) A) args s 0 0 A) 0 0 M 158 [(0, .ref (ad 0)), (4, .int b158_L4)] [] := by
    intro b158_L4 M hF
    unfold F_X10_pan_158 at hF
    refine z_aload_n cx d_X10_pan_158 0 rfl ?_
    refine z_iload cx d_X10_pan_159 1 rfl ?_
    obtain ⟨v4, M3, hc, hF⟩ := zb_inv hF
    refine z_callV cx (As := [.int b158_L4]) (rest := []) (c_X10_sunOf l cx.2.2.2.1.1 M b158_L4 hT hc) hT zo_11 cv_SunnyPansModel_333 ⟨rfl, rfl, Nat.le_of_ble_eq_true rfl, Nat.le_of_ble_eq_true rfl⟩ rfl rfl ⟨Nat.zero_le _, Nat.zero_le _⟩ (Nat.le_of_ble_eq_true rfl) d_X10_pan_161 ?_
    exact z_iret cx hr rfl hF d_X10_pan_164
  have hb143 : ∀ (b143_L4 : Int32) (M : zMem), F_X10_pan_143 p0 p1 p2 b143_L4 M = some (r9, M9) → zJ p l e rm_X10_pan s m args below meth c G shM ad n A 5 (MQ below (zQ G shM ad n M9 (some (.int r9)) A) args s 0 0 A) 0 0 M 143 [(0, .ref (ad 0)), (4, .int b143_L4)] [] := by
    intro b143_L4 M hF
    unfold F_X10_pan_143 at hF
    refine z_aload_n cx d_X10_pan_143 0 rfl ?_
    refine z_getR cx hT fg_SunnyPansModel_58 451 rfl d_X10_pan_144 ?_
    refine z_sipush (v := 128) cx d_X10_pan_147 ks_128 ?_
    refine z_iload cx d_X10_pan_150 1 rfl ?_
    refine z_iadd cx d_X10_pan_152 ?_
    obtain ⟨hi5, hF⟩ := gin_inv hF
    refine z_iald cx (tfM_11_451 hT) za_36 hi5 (((128 : Int32) + b143_L4).toNatClampNeg) rfl d_X10_pan_153 ?_
    obtain ⟨v7, M6, hc, hF⟩ := zb_inv hF
    refine z_callS cx (As := [.int (M.1 451 ((128 : Int32) + b143_L4).toNatClampNeg)]) (rest := []) (c_X10_high l cx.2.2.2.1.1 M (M.1 451 ((128 : Int32) + b143_L4).toNatClampNeg)  hc) cs_SunnyPansModel_241 ⟨rfl, rfl, Nat.le_of_ble_eq_true rfl, Nat.le_of_ble_eq_true rfl⟩ rfl rfl ⟨Nat.zero_le _, Nat.zero_le _⟩ (Nat.le_of_ble_eq_true rfl) d_X10_pan_154 ?_
    exact z_iret cx hr rfl hF d_X10_pan_157
  have hb131 : ∀ (b131_L4 : Int32) (M : zMem), F_X10_pan_131 p0 p1 p2 b131_L4 M = some (r9, M9) → zJ p l e rm_X10_pan s m args below meth c G shM ad n A 5 (MQ below (zQ G shM ad n M9 (some (.int r9)) A) args s 0 0 A) 0 0 M 131 [(0, .ref (ad 0)), (4, .int b131_L4)] [] := by
    intro b131_L4 M hF
    unfold F_X10_pan_131 at hF
    refine z_aload_n cx d_X10_pan_131 0 rfl ?_
    refine z_getR cx hT fg_SunnyPansModel_58 451 rfl d_X10_pan_132 ?_
    refine z_sipush (v := 128) cx d_X10_pan_135 ks_128 ?_
    refine z_iload cx d_X10_pan_138 1 rfl ?_
    refine z_iadd cx d_X10_pan_140 ?_
    obtain ⟨hi8, hF⟩ := gin_inv hF
    refine z_iald cx (tfM_11_451 hT) za_36 hi8 (((128 : Int32) + b131_L4).toNatClampNeg) rfl d_X10_pan_141 ?_
    exact z_iret cx hr rfl hF d_X10_pan_142
  have hb121 : ∀ (b121_L4 : Int32) (M : zMem), F_X10_pan_121 p0 p1 p2 b121_L4 M = some (r9, M9) → zJ p l e rm_X10_pan s m args below meth c G shM ad n A 5 (MQ below (zQ G shM ad n M9 (some (.int r9)) A) args s 0 0 A) 0 0 M 121 [(0, .ref (ad 0)), (4, .int b121_L4)] [] := by
    intro b121_L4 M hF
    unfold F_X10_pan_121 at hF
    refine z_aload_n cx d_X10_pan_121 0 rfl ?_
    refine z_getR cx hT fg_SunnyPansModel_58 451 rfl d_X10_pan_122 ?_
    refine z_iload cx d_X10_pan_125 1 rfl ?_
    obtain ⟨v10, M9, hc, hF⟩ := zb_inv hF
    refine z_callS cx (As := [.ref (ad 451), .int b121_L4]) (rest := []) (c_X10_strength l cx.2.2.2.1.1 M 451 b121_L4 (tfM_11_451 hT) hc) cs_SunnyPansModel_330 ⟨rfl, rfl, Nat.le_of_ble_eq_true rfl, Nat.le_of_ble_eq_true rfl⟩ rfl rfl ⟨Nat.zero_le _, Nat.zero_le _⟩ (Nat.le_of_ble_eq_true rfl) d_X10_pan_127 ?_
    exact z_iret cx hr rfl hF d_X10_pan_130
  have hb110 : ∀ (b110_L4 : Int32) (M : zMem), F_X10_pan_110 p0 p1 p2 b110_L4 M = some (r9, M9) → zJ p l e rm_X10_pan s m args below meth c G shM ad n A 5 (MQ below (zQ G shM ad n M9 (some (.int r9)) A) args s 0 0 A) 0 0 M 110 [(0, .ref (ad 0)), (4, .int b110_L4)] [] := by
    intro b110_L4 M hF
    unfold F_X10_pan_110 at hF
    refine z_aload_n cx d_X10_pan_110 0 rfl ?_
    refine z_getR cx hT fg_SunnyPansModel_58 451 rfl d_X10_pan_111 ?_
    refine z_bipush (v := 64) cx d_X10_pan_114 kb_64 ?_
    refine z_iload cx d_X10_pan_116 1 rfl ?_
    refine z_iadd cx d_X10_pan_118 ?_
    obtain ⟨hi11, hF⟩ := gin_inv hF
    refine z_iald cx (tfM_11_451 hT) za_36 hi11 (((64 : Int32) + b110_L4).toNatClampNeg) rfl d_X10_pan_119 ?_
    exact z_iret cx hr rfl hF d_X10_pan_120
  have hb100 : ∀ (b100_L4 : Int32) (M : zMem), F_X10_pan_100 p0 p1 p2 b100_L4 M = some (r9, M9) → zJ p l e rm_X10_pan s m args below meth c G shM ad n A 5 (MQ below (zQ G shM ad n M9 (some (.int r9)) A) args s 0 0 A) 0 0 M 100 [(0, .ref (ad 0)), (4, .int b100_L4)] [] := by
    intro b100_L4 M hF
    unfold F_X10_pan_100 at hF
    refine z_aload_n cx d_X10_pan_100 0 rfl ?_
    refine z_getR cx hT fg_SunnyPansModel_58 451 rfl d_X10_pan_101 ?_
    refine z_iconst (v := 0) cx d_X10_pan_104 ki_0 ?_
    refine z_iload cx d_X10_pan_105 1 rfl ?_
    refine z_iadd cx d_X10_pan_107 ?_
    obtain ⟨hi12, hF⟩ := gin_inv hF
    refine z_iald cx (tfM_11_451 hT) za_36 hi12 (((0 : Int32) + b100_L4).toNatClampNeg) rfl d_X10_pan_108 ?_
    exact z_iret cx hr rfl hF d_X10_pan_109
  have hb44 : ∀ (b44_L1 : Int32) (b44_L2 : Int32) (b44_L3 : Int32) (b44_S1 : Int32) (M : zMem), F_X10_pan_44 p0 p1 p2 b44_L1 b44_L2 b44_L3 b44_S1 M = some (r9, M9) → zJ p l e rm_X10_pan s m args below meth c G shM ad n A 5 (MQ below (zQ G shM ad n M9 (some (.int r9)) A) args s 0 0 A) 0 0 M 44 [(0, .ref (ad 0)), (1, .int b44_L1), (2, .int b44_L2), (3, .int b44_L3)] [.int b44_S1, .ref (ad 0)] := by
    intro b44_L1 b44_L2 b44_L3 b44_S1 M hF
    unfold F_X10_pan_44 at hF
    refine z_iconst (v := 2) cx d_X10_pan_44 ki_2 ?_
    refine z_iconst (v := 1) cx d_X10_pan_45 ki_1 ?_
    obtain ⟨v14, M13, hc, hF⟩ := zb_inv hF
    refine z_callV cx (As := [.int b44_S1, .int (2 : Int32), .int (1 : Int32)]) (rest := []) (c_X10_bad l cx.2.2.2.1.1 M b44_S1 (2 : Int32) (1 : Int32) hT hc) hT zo_11 cv_SunnyPansModel_155 ⟨rfl, rfl, Nat.le_of_ble_eq_true rfl, Nat.le_of_ble_eq_true rfl⟩ rfl rfl ⟨Nat.zero_le _, Nat.zero_le _⟩ (Nat.le_of_ble_eq_true rfl) d_X10_pan_46 ?_
    refine z_if_eq cx 54 d_X10_pan_49 (by decide) hF (fun hF => ?_) (fun hF => ?_)
    · refine z_bipush (v := 8) cx d_X10_pan_54 kb_8 ?_
      refine z_iload_n cx d_X10_pan_56 2 rfl ?_
      refine z_imul cx d_X10_pan_57 ?_
      refine z_iload_n cx d_X10_pan_58 1 rfl ?_
      refine z_iadd cx d_X10_pan_59 ?_
      refine z_nm hF (fun v15 hF => ?_)
      refine z_istore cx 4 [(4, .int v15), (0, .ref (ad 0)), (1, .int b44_L1), (2, .int b44_L2), (3, .int b44_L3)] d_X10_pan_60 (by decide) rfl ?_
      refine z_iload_n cx d_X10_pan_62 4 rfl ?_
      by_cases q0 : b44_L3 = 0
      · rw [if_pos q0] at hF
        refine z_tabIn cx 100 d_X10_pan_63 (by rw [q0]; decide +kernel) (by rw [q0]; decide +kernel) (by rw [q0]; rfl) (by decide) ?_
        exact z_lv [1, 0] _ rfl (hb100 v15 M13 hF)
      rw [if_neg q0] at hF
      by_cases q1 : b44_L3 = 1
      · rw [if_pos q1] at hF
        refine z_tabIn cx 110 d_X10_pan_63 (by rw [q1]; decide +kernel) (by rw [q1]; decide +kernel) (by rw [q1]; rfl) (by decide) ?_
        exact z_lv [1, 0] _ rfl (hb110 v15 M13 hF)
      rw [if_neg q1] at hF
      by_cases q2 : b44_L3 = 2
      · rw [if_pos q2] at hF
        refine z_tabIn cx 121 d_X10_pan_63 (by rw [q2]; decide +kernel) (by rw [q2]; decide +kernel) (by rw [q2]; rfl) (by decide) ?_
        exact z_lv [1, 0] _ rfl (hb121 v15 M13 hF)
      rw [if_neg q2] at hF
      by_cases q3 : b44_L3 = 3
      · rw [if_pos q3] at hF
        refine z_tabIn cx 131 d_X10_pan_63 (by rw [q3]; decide +kernel) (by rw [q3]; decide +kernel) (by rw [q3]; rfl) (by decide) ?_
        exact z_lv [1, 0] _ rfl (hb131 v15 M13 hF)
      rw [if_neg q3] at hF
      by_cases q4 : b44_L3 = 4
      · rw [if_pos q4] at hF
        refine z_tabIn cx 143 d_X10_pan_63 (by rw [q4]; decide +kernel) (by rw [q4]; decide +kernel) (by rw [q4]; rfl) (by decide) ?_
        exact z_lv [1, 0] _ rfl (hb143 v15 M13 hF)
      rw [if_neg q4] at hF
      by_cases q5 : b44_L3 = 5
      · rw [if_pos q5] at hF
        refine z_tabIn cx 158 d_X10_pan_63 (by rw [q5]; decide +kernel) (by rw [q5]; decide +kernel) (by rw [q5]; rfl) (by decide) ?_
        exact z_lv [1, 0] _ rfl (hb158 v15 M13 hF)
      rw [if_neg q5] at hF
      refine z_tabOut cx 165 d_X10_pan_63 (by have w0 := lv_neT q0 (a := 0) (by decide +kernel); have w1 := lv_neT q1 (a := 1) (by decide +kernel); have w2 := lv_neT q2 (a := 2) (by decide +kernel); have w3 := lv_neT q3 (a := 3) (by decide +kernel); have w4 := lv_neT q4 (a := 4) (by decide +kernel); have w5 := lv_neT q5 (a := 5) (by decide +kernel); omega) (by decide) ?_
      exact z_lv [1, 0] _ rfl (hb165 v15 M13 hF)
    refine z_iconst (v := 0) cx d_X10_pan_52 ki_0 ?_
    exact z_iret cx hr rfl hF d_X10_pan_53
  have hb20 : ∀ (b20_L1 : Int32) (b20_L2 : Int32) (b20_L3 : Int32) (b20_S1 : Int32) (M : zMem), F_X10_pan_20 p0 p1 p2 b20_L1 b20_L2 b20_L3 b20_S1 M = some (r9, M9) → zJ p l e rm_X10_pan s m args below meth c G shM ad n A 5 (MQ below (zQ G shM ad n M9 (some (.int r9)) A) args s 0 0 A) 0 0 M 20 [(0, .ref (ad 0)), (1, .int b20_L1), (2, .int b20_L2), (3, .int b20_L3)] [.int b20_S1, .ref (ad 0)] := by
    intro b20_L1 b20_L2 b20_L3 b20_S1 M hF
    unfold F_X10_pan_20 at hF
    refine z_iconst (v := 1) cx d_X10_pan_20 ki_1 ?_
    refine z_iconst (v := 0) cx d_X10_pan_21 ki_0 ?_
    obtain ⟨v17, M16, hc, hF⟩ := zb_inv hF
    refine z_callV cx (As := [.int b20_S1, .int (1 : Int32), .int (0 : Int32)]) (rest := []) (c_X10_bad l cx.2.2.2.1.1 M b20_S1 (1 : Int32) (0 : Int32) hT hc) hT zo_11 cv_SunnyPansModel_155 ⟨rfl, rfl, Nat.le_of_ble_eq_true rfl, Nat.le_of_ble_eq_true rfl⟩ rfl rfl ⟨Nat.zero_le _, Nat.zero_le _⟩ (Nat.le_of_ble_eq_true rfl) d_X10_pan_22 ?_
    refine z_if_ne cx 52 d_X10_pan_25 (by decide) hF (fun hF => ?_) (fun hF => ?_)
    · refine z_iconst (v := 0) cx d_X10_pan_52 ki_0 ?_
      exact z_iret cx hr rfl hF d_X10_pan_53
    refine z_aload_n cx d_X10_pan_28 0 rfl ?_
    refine z_iload_n cx d_X10_pan_29 3 rfl ?_
    refine z_iconst (v := 0) cx d_X10_pan_30 ki_0 ?_
    refine z_bipush (v := 6) cx d_X10_pan_31 kb_6 ?_
    obtain ⟨v19, M18, hc, hF⟩ := zb_inv hF
    refine z_callS cx (As := [.int b20_L3, .int (0 : Int32), .int (6 : Int32)]) (rest := [.ref (ad 0)]) (c_X10_in l cx.2.2.2.1.1 M16 b20_L3 (0 : Int32) (6 : Int32)  hc) cs_SunnyPansModel_116 ⟨rfl, rfl, Nat.le_of_ble_eq_true rfl, Nat.le_of_ble_eq_true rfl⟩ rfl rfl ⟨Nat.zero_le _, Nat.zero_le _⟩ (Nat.le_of_ble_eq_true rfl) d_X10_pan_33 ?_
    refine z_if_ne cx 43 d_X10_pan_36 (by decide) hF (fun hF => ?_) (fun hF => ?_)
    · refine z_iconst (v := 0) cx d_X10_pan_43 ki_0 ?_
      exact hb44 b20_L1 b20_L2 b20_L3 (0 : Int32) M18 hF
    refine z_iconst (v := 1) cx d_X10_pan_39 ki_1 ?_
    refine z_goto cx 44 d_X10_pan_40 (by decide) ?_
    exact hb44 b20_L1 b20_L2 b20_L3 (1 : Int32) M18 hF
  unfold F_X10_pan at hF
  refine z_aload_n cx d_X10_pan_0 0 rfl ?_
  refine z_iconst (v := 0) cx d_X10_pan_1 ki_0 ?_
  refine z_putI cx hT fp_SunnyPansModel_82 d_X10_pan_2 ?_
  refine z_nmM hF (fun M20 hF => ?_)
  refine z_aload_n cx d_X10_pan_5 0 rfl ?_
  refine z_aload_n cx d_X10_pan_6 0 rfl ?_
  refine z_iload_n cx d_X10_pan_7 1 rfl ?_
  refine z_iload_n cx d_X10_pan_8 2 rfl ?_
  obtain ⟨v22, M21, hc, hF⟩ := zb_inv hF
  refine z_callV cx (As := [.int p0, .int p1]) (rest := [.ref (ad 0)]) (c_X10_isWithin l cx.2.2.2.1.1 M20 p0 p1 hT hc) hT zo_11 cv_SunnyPansModel_237 ⟨rfl, rfl, Nat.le_of_ble_eq_true rfl, Nat.le_of_ble_eq_true rfl⟩ rfl rfl ⟨Nat.zero_le _, Nat.zero_le _⟩ (Nat.le_of_ble_eq_true rfl) d_X10_pan_9 ?_
  refine z_if_ne cx 19 d_X10_pan_12 (by decide) hF (fun hF => ?_) (fun hF => ?_)
  · refine z_iconst (v := 0) cx d_X10_pan_19 ki_0 ?_
    exact hb20 p0 p1 p2 (0 : Int32) M21 hF
  refine z_iconst (v := 1) cx d_X10_pan_15 ki_1 ?_
  refine z_goto cx 20 d_X10_pan_16 (by decide) ?_
  exact hb20 p0 p1 p2 (1 : Int32) M21 hF
/-! SunnyPansModel.isHour -/
theorem d_X10_isHour_0 : decode cX10_isHour 0 = .ok (.iload_n 1, 1) := by decide +kernel
theorem d_X10_isHour_1 : decode cX10_isHour 1 = .ok (.iconst 0, 1) := by decide +kernel
theorem d_X10_isHour_2 : decode cX10_isHour 2 = .ok (.aload_n 0, 1) := by decide +kernel
theorem d_X10_isHour_3 : decode cX10_isHour 3 = .ok (.getfield 23, 3) := by decide +kernel
theorem d_X10_isHour_6 : decode cX10_isHour 6 = .ok (.iconst 2, 1) := by decide +kernel
theorem d_X10_isHour_7 : decode cX10_isHour 7 = .ok (.iaload, 1) := by decide +kernel
theorem d_X10_isHour_8 : decode cX10_isHour 8 = .ok (.iconst 1, 1) := by decide +kernel
theorem d_X10_isHour_9 : decode cX10_isHour 9 = .ok (.isub, 1) := by decide +kernel
theorem d_X10_isHour_10 : decode cX10_isHour 10 = .ok (.invokestatic 116, 3) := by decide +kernel
theorem d_X10_isHour_13 : decode cX10_isHour 13 = .ok (.ireturn, 1) := by decide +kernel
def F_X10_isHour (M : zMem) (p0 : Int32) : Option (Int32 × zMem) :=
  zb (F_X10_in M p0 (0 : Int32) ((M.1 4 2) - (1 : Int32))) fun v2 M1 =>
  gd (v2 == 0 || v2 == 1) <|
  some (v2, M1)
def rm_X10_isHour : Room := { frames := 3, cells := 0, slots := 0, locals := 102 }
set_option maxHeartbeats 4000000 in
set_option maxRecDepth 100000 in
theorem c_X10_isHour (l : Launch) {G : zG} {ad : Nat → Nat} {n : Nat} (hA : zInj ad n) (M : zMem) (p0 : Int32) (hT : zT shM n 0 11) {r9 : Int32} {M9 : zMem} (hF : F_X10_isHour M p0 = some (r9, M9)) : zM l yX10_isHour cX10_isHour 2 (some .boolean) rm_X10_isHour G shM ad n M [.ref (ad 0), .int p0] (some (.int r9)) M9 := by
  refine zM_of hA (by decide +kernel) (lv := [(0, .ref (ad 0)), (1, .int p0)]) (Nat.le_of_ble_eq_true rfl) rfl (fun p e s m args below meth c A cx hr => ?_)
  unfold F_X10_isHour at hF
  refine z_iload_n cx d_X10_isHour_0 1 rfl ?_
  refine z_iconst (v := 0) cx d_X10_isHour_1 ki_0 ?_
  refine z_aload_n cx d_X10_isHour_2 0 rfl ?_
  refine z_getR cx hT fg_SunnyPansModel_23 4 rfl d_X10_isHour_3 ?_
  refine z_iconst (v := 2) cx d_X10_isHour_6 ki_2 ?_
  refine z_iald cx (tfM_11_4 hT) za_28 (zvp (by decide +kernel)) 2 rfl d_X10_isHour_7 ?_
  refine z_iconst (v := 1) cx d_X10_isHour_8 ki_1 ?_
  refine z_isub cx d_X10_isHour_9 ?_
  obtain ⟨v2, M1, hc, hF⟩ := zb_inv hF
  refine z_callS cx (As := [.int p0, .int (0 : Int32), .int ((M.1 4 2) - (1 : Int32))]) (rest := []) (c_X10_in l cx.2.2.2.1.1 M p0 (0 : Int32) ((M.1 4 2) - (1 : Int32))  hc) cs_SunnyPansModel_116 ⟨rfl, rfl, Nat.le_of_ble_eq_true rfl, Nat.le_of_ble_eq_true rfl⟩ rfl rfl ⟨Nat.zero_le _, Nat.zero_le _⟩ (Nat.le_of_ble_eq_true rfl) d_X10_isHour_10 ?_
  obtain ⟨hn3, hF⟩ := gd_inv hF
  exact z_iret cx hr (nbx hn3) hF d_X10_isHour_13
/-! SunnyPansModel.shadeBits -/
theorem d_X10_shadeBits_0 : decode cX10_shadeBits 0 = .ok (.iconst 0, 1) := by decide +kernel
theorem d_X10_shadeBits_1 : decode cX10_shadeBits 1 = .ok (.istore_n 3, 1) := by decide +kernel
theorem d_X10_shadeBits_2 : decode cX10_shadeBits 2 = .ok (.iconst 0, 1) := by decide +kernel
theorem d_X10_shadeBits_3 : decode cX10_shadeBits 3 = .ok (.istore 4, 2) := by decide +kernel
theorem d_X10_shadeBits_5 : decode cX10_shadeBits 5 = .ok (.iload 4, 2) := by decide +kernel
theorem d_X10_shadeBits_7 : decode cX10_shadeBits 7 = .ok (.aload_n 0, 1) := by decide +kernel
theorem d_X10_shadeBits_8 : decode cX10_shadeBits 8 = .ok (.getfield 23, 3) := by decide +kernel
theorem d_X10_shadeBits_11 : decode cX10_shadeBits 11 = .ok (.iconst 0, 1) := by decide +kernel
theorem d_X10_shadeBits_12 : decode cX10_shadeBits 12 = .ok (.iaload, 1) := by decide +kernel
theorem d_X10_shadeBits_13 : decode cX10_shadeBits 13 = .ok (.if_icmp .ge 39, 3) := by decide +kernel
theorem d_X10_shadeBits_16 : decode cX10_shadeBits 16 = .ok (.iload_n 3, 1) := by decide +kernel
theorem d_X10_shadeBits_17 : decode cX10_shadeBits 17 = .ok (.aload_n 0, 1) := by decide +kernel
theorem d_X10_shadeBits_18 : decode cX10_shadeBits 18 = .ok (.aload_n 0, 1) := by decide +kernel
theorem d_X10_shadeBits_19 : decode cX10_shadeBits 19 = .ok (.getfield 58, 3) := by decide +kernel
theorem d_X10_shadeBits_22 : decode cX10_shadeBits 22 = .ok (.bipush 8, 2) := by decide +kernel
theorem d_X10_shadeBits_24 : decode cX10_shadeBits 24 = .ok (.iload_n 2, 1) := by decide +kernel
theorem d_X10_shadeBits_25 : decode cX10_shadeBits 25 = .ok (.imul, 1) := by decide +kernel
theorem d_X10_shadeBits_26 : decode cX10_shadeBits 26 = .ok (.iload 4, 2) := by decide +kernel
theorem d_X10_shadeBits_28 : decode cX10_shadeBits 28 = .ok (.iadd, 1) := by decide +kernel
theorem d_X10_shadeBits_29 : decode cX10_shadeBits 29 = .ok (.iload_n 1, 1) := by decide +kernel
theorem d_X10_shadeBits_30 : decode cX10_shadeBits 30 = .ok (.invokevirtual 264, 3) := by decide +kernel
theorem d_X10_shadeBits_33 : decode cX10_shadeBits 33 = .ok (.ifCond .eq 10, 3) := by decide +kernel
theorem d_X10_shadeBits_36 : decode cX10_shadeBits 36 = .ok (.iconst 1, 1) := by decide +kernel
theorem d_X10_shadeBits_37 : decode cX10_shadeBits 37 = .ok (.iload 4, 2) := by decide +kernel
theorem d_X10_shadeBits_39 : decode cX10_shadeBits 39 = .ok (.ishl, 1) := by decide +kernel
theorem d_X10_shadeBits_40 : decode cX10_shadeBits 40 = .ok (.goto 4, 3) := by decide +kernel
theorem d_X10_shadeBits_43 : decode cX10_shadeBits 43 = .ok (.iconst 0, 1) := by decide +kernel
theorem d_X10_shadeBits_44 : decode cX10_shadeBits 44 = .ok (.ior, 1) := by decide +kernel
theorem d_X10_shadeBits_45 : decode cX10_shadeBits 45 = .ok (.istore_n 3, 1) := by decide +kernel
theorem d_X10_shadeBits_46 : decode cX10_shadeBits 46 = .ok (.iinc 4 1, 3) := by decide +kernel
theorem d_X10_shadeBits_49 : decode cX10_shadeBits 49 = .ok (.goto (-44), 3) := by decide +kernel
theorem d_X10_shadeBits_52 : decode cX10_shadeBits 52 = .ok (.iload_n 3, 1) := by decide +kernel
theorem d_X10_shadeBits_53 : decode cX10_shadeBits 53 = .ok (.ireturn, 1) := by decide +kernel
def F_X10_shadeBits_44 (p0 : Int32) (p1 : Int32) (self5 : Int32 → Int32 → Int32 → Int32 → zMem → Option (Int32 × zMem)) (b44_L1 : Int32) (b44_L2 : Int32) (b44_L4 : Int32) (b44_S0 : Int32) (b44_S1 : Int32) (M : zMem) : Option (Int32 × zMem) :=
  zl (b44_S0 ||| b44_S1) fun v1 =>
  self5 b44_L1 b44_L2 v1 (b44_L4 + 1) M
def F_X10_shadeBits_5 (p0 : Int32) (p1 : Int32) (self5 : Int32 → Int32 → Int32 → Int32 → zMem → Option (Int32 × zMem)) (b5_L1 : Int32) (b5_L2 : Int32) (b5_L3 : Int32) (b5_L4 : Int32) (M : zMem) : Option (Int32 × zMem) :=
  if (M.1 4 0) ≤ b5_L4 then
    some (b5_L3, M)
  else
    zb (F_X10_isShade M 451 (((8 : Int32) * b5_L2) + b5_L4) b5_L1) fun v3 M2 =>
    if v3 = 0 then
      F_X10_shadeBits_44 p0 p1 self5 b5_L1 b5_L2 b5_L4 b5_L3 (0 : Int32) M2
    else
      F_X10_shadeBits_44 p0 p1 self5 b5_L1 b5_L2 b5_L4 b5_L3 ((1 : Int32) <<< (b5_L4 &&& 31)) M2
def F_X10_shadeBits (M : zMem) (p0 : Int32) (p1 : Int32) : Option (Int32 × zMem) :=
  itF (fun _ _ _ _ _ => none) (F_X10_shadeBits_5 p0 p1) zFuel p0 p1 (0 : Int32) (0 : Int32) M
def rm_X10_shadeBits : Room := { frames := 6, cells := 0, slots := 0, locals := 173 }
set_option maxHeartbeats 4000000 in
set_option maxRecDepth 100000 in
theorem c_X10_shadeBits (l : Launch) {G : zG} {ad : Nat → Nat} {n : Nat} (hA : zInj ad n) (M : zMem) (p0 : Int32) (p1 : Int32) (hT : zT shM n 0 11) {r9 : Int32} {M9 : zMem} (hF : F_X10_shadeBits M p0 p1 = some (r9, M9)) : zM l yX10_shadeBits cX10_shadeBits 5 (some .int) rm_X10_shadeBits G shM ad n M [.ref (ad 0), .int p0, .int p1] (some (.int r9)) M9 := by
  refine zM_of hA (by decide +kernel) (lv := [(0, .ref (ad 0)), (1, .int p0), (2, .int p1)]) (Nat.le_of_ble_eq_true rfl) rfl (fun p e s m args below meth c A cx hr => ?_)
  have hb44 : ∀ (self5 : Int32 → Int32 → Int32 → Int32 → zMem → Option (Int32 × zMem)) (hs5 : ∀ (b5_L1 : Int32) (b5_L2 : Int32) (b5_L3 : Int32) (b5_L4 : Int32) (M : zMem), self5 b5_L1 b5_L2 b5_L3 b5_L4 M = some (r9, M9) → zJ p l e rm_X10_shadeBits s m args below meth c G shM ad n A 5 (MQ below (zQ G shM ad n M9 (some (.int r9)) A) args s 0 0 A) 0 0 M 5 [(0, .ref (ad 0)), (1, .int b5_L1), (2, .int b5_L2), (3, .int b5_L3), (4, .int b5_L4)] []), ∀ (b44_L1 : Int32) (b44_L2 : Int32) (b44_L4 : Int32) (b44_S0 : Int32) (b44_S1 : Int32) (M : zMem), F_X10_shadeBits_44 p0 p1 self5 b44_L1 b44_L2 b44_L4 b44_S0 b44_S1 M = some (r9, M9) → zJ p l e rm_X10_shadeBits s m args below meth c G shM ad n A 5 (MQ below (zQ G shM ad n M9 (some (.int r9)) A) args s 0 0 A) 0 0 M 44 [(0, .ref (ad 0)), (1, .int b44_L1), (2, .int b44_L2), (4, .int b44_L4)] [.int b44_S1, .int b44_S0] := by
    intro self5 hs5 b44_L1 b44_L2 b44_L4 b44_S0 b44_S1 M hF
    unfold F_X10_shadeBits_44 at hF
    refine z_ior cx d_X10_shadeBits_44 ?_
    refine z_nm hF (fun v1 hF => ?_)
    refine z_istore_n cx 3 [(3, .int v1), (0, .ref (ad 0)), (1, .int b44_L1), (2, .int b44_L2), (4, .int b44_L4)] d_X10_shadeBits_45 rfl (by decide) rfl ?_
    refine z_iinc cx 4 1 [(4, .int (b44_L4 + 1)), (3, .int v1), (0, .ref (ad 0)), (1, .int b44_L1), (2, .int b44_L2)] d_X10_shadeBits_46 4 rfl ki_1 (by decide) rfl ?_
    refine z_goto cx 5 d_X10_shadeBits_49 (by decide) ?_
    exact z_lv [2, 3, 4, 1, 0] _ rfl (hs5 b44_L1 b44_L2 v1 (b44_L4 + 1) M hF)
  have hL5 : ∀ (fuel : Nat), ∀ (b5_L1 : Int32) (b5_L2 : Int32) (b5_L3 : Int32) (b5_L4 : Int32) (M : zMem), itF (fun _ _ _ _ _ => none) (F_X10_shadeBits_5 p0 p1) fuel b5_L1 b5_L2 b5_L3 b5_L4 M = some (r9, M9) → zJ p l e rm_X10_shadeBits s m args below meth c G shM ad n A 5 (MQ below (zQ G shM ad n M9 (some (.int r9)) A) args s 0 0 A) 0 0 M 5 [(0, .ref (ad 0)), (1, .int b5_L1), (2, .int b5_L2), (3, .int b5_L3), (4, .int b5_L4)] [] := by
    intro fuel
    induction fuel with
    | zero => intro b5_L1 b5_L2 b5_L3 b5_L4 M hF; cases hF
    | succ fuel hs5 =>
      intro b5_L1 b5_L2 b5_L3 b5_L4 M hF
      have hF : F_X10_shadeBits_5 p0 p1 (itF (fun _ _ _ _ _ => none) (F_X10_shadeBits_5 p0 p1) fuel) b5_L1 b5_L2 b5_L3 b5_L4 M = some (r9, M9) := hF
      generalize itF (fun _ _ _ _ _ => none) (F_X10_shadeBits_5 p0 p1) fuel = self5 at hs5 hF
      unfold F_X10_shadeBits_5 at hF
      refine z_iload cx d_X10_shadeBits_5 4 rfl ?_
      refine z_aload_n cx d_X10_shadeBits_7 0 rfl ?_
      refine z_getR cx hT fg_SunnyPansModel_23 4 rfl d_X10_shadeBits_8 ?_
      refine z_iconst (v := 0) cx d_X10_shadeBits_11 ki_0 ?_
      refine z_iald cx (tfM_11_4 hT) za_28 (zvp (by decide +kernel)) 0 rfl d_X10_shadeBits_12 ?_
      refine z_icmp_ge cx 52 d_X10_shadeBits_13 (by decide) hF (fun hF => ?_) (fun hF => ?_)
      · refine z_iload_n cx d_X10_shadeBits_52 3 rfl ?_
        exact z_iret cx hr rfl hF d_X10_shadeBits_53
      refine z_iload_n cx d_X10_shadeBits_16 3 rfl ?_
      refine z_aload_n cx d_X10_shadeBits_17 0 rfl ?_
      refine z_aload_n cx d_X10_shadeBits_18 0 rfl ?_
      refine z_getR cx hT fg_SunnyPansModel_58 451 rfl d_X10_shadeBits_19 ?_
      refine z_bipush (v := 8) cx d_X10_shadeBits_22 kb_8 ?_
      refine z_iload_n cx d_X10_shadeBits_24 2 rfl ?_
      refine z_imul cx d_X10_shadeBits_25 ?_
      refine z_iload cx d_X10_shadeBits_26 4 rfl ?_
      refine z_iadd cx d_X10_shadeBits_28 ?_
      refine z_iload_n cx d_X10_shadeBits_29 1 rfl ?_
      obtain ⟨v3, M2, hc, hF⟩ := zb_inv hF
      refine z_callV cx (As := [.ref (ad 451), .int (((8 : Int32) * b5_L2) + b5_L4), .int b5_L1]) (rest := [.int b5_L3]) (c_X10_isShade l cx.2.2.2.1.1 M 451 (((8 : Int32) * b5_L2) + b5_L4) b5_L1 hT (tfM_11_451 hT) hc) hT zo_11 cv_SunnyPansModel_264 ⟨rfl, rfl, Nat.le_of_ble_eq_true rfl, Nat.le_of_ble_eq_true rfl⟩ rfl rfl ⟨Nat.zero_le _, Nat.zero_le _⟩ (Nat.le_of_ble_eq_true rfl) d_X10_shadeBits_30 ?_
      refine z_if_eq cx 43 d_X10_shadeBits_33 (by decide) hF (fun hF => ?_) (fun hF => ?_)
      · refine z_iconst (v := 0) cx d_X10_shadeBits_43 ki_0 ?_
        exact z_lv [0, 1, 2, 4] _ rfl (hb44 self5 hs5 b5_L1 b5_L2 b5_L4 b5_L3 (0 : Int32) M2 hF)
      refine z_iconst (v := 1) cx d_X10_shadeBits_36 ki_1 ?_
      refine z_iload cx d_X10_shadeBits_37 4 rfl ?_
      refine z_ishl cx d_X10_shadeBits_39 ?_
      refine z_goto cx 44 d_X10_shadeBits_40 (by decide) ?_
      exact z_lv [0, 1, 2, 4] _ rfl (hb44 self5 hs5 b5_L1 b5_L2 b5_L4 b5_L3 ((1 : Int32) <<< (b5_L4 &&& 31)) M2 hF)
  unfold F_X10_shadeBits at hF
  refine z_iconst (v := 0) cx d_X10_shadeBits_0 ki_0 ?_
  refine z_istore_n cx 3 [(3, .int (0 : Int32)), (0, .ref (ad 0)), (1, .int p0), (2, .int p1)] d_X10_shadeBits_1 rfl (by decide) rfl ?_
  refine z_iconst (v := 0) cx d_X10_shadeBits_2 ki_0 ?_
  refine z_istore cx 4 [(4, .int (0 : Int32)), (3, .int (0 : Int32)), (0, .ref (ad 0)), (1, .int p0), (2, .int p1)] d_X10_shadeBits_3 (by decide) rfl ?_
  exact z_lv [2, 3, 4, 1, 0] _ rfl (hL5 zFuel p0 p1 (0 : Int32) (0 : Int32) M hF)
/-! SunnyPansModel.hour -/
set_option maxRecDepth 100000 in
theorem wd_1779 : Cond.code yX10_isHour cX10_isHour 2 (some .boolean) ∈ tbG := tw7 239 rfl rfl
set_option maxRecDepth 100000 in
theorem wd_1776 : Cond.methodLink "SunnyPansModel" 336 yX10_isHour ∈ tbG := tw7 236 rfl rfl
set_option maxRecDepth 100000 in
theorem wd_1778 : Cond.instanceMethod yX10_isHour ∈ tbG := tw7 238 rfl rfl
theorem wd_85 : Cond.selects "SunnyPansModel" yX10_isHour yX10_isHour ∈ tbG := tw 85 (by decide +kernel) rfl
theorem cv_SunnyPansModel_336 : zCV "SunnyPansModel" 336 "SunnyPansModel" yX10_isHour cX10_isHour 2 (some .boolean) 1 := zCV_of wd_1776 wd_1778 wd_85 wd_111 wd_1779 (by decide +kernel)
theorem d_X10_hour_0 : decode cX10_hour 0 = .ok (.aload_n 0, 1) := by decide +kernel
theorem d_X10_hour_1 : decode cX10_hour 1 = .ok (.iconst 0, 1) := by decide +kernel
theorem d_X10_hour_2 : decode cX10_hour 2 = .ok (.putfield 82, 3) := by decide +kernel
theorem d_X10_hour_5 : decode cX10_hour 5 = .ok (.aload_n 0, 1) := by decide +kernel
theorem d_X10_hour_6 : decode cX10_hour 6 = .ok (.aload_n 0, 1) := by decide +kernel
theorem d_X10_hour_7 : decode cX10_hour 7 = .ok (.iload_n 1, 1) := by decide +kernel
theorem d_X10_hour_8 : decode cX10_hour 8 = .ok (.invokevirtual 336, 3) := by decide +kernel
theorem d_X10_hour_11 : decode cX10_hour 11 = .ok (.ifCond .ne 7, 3) := by decide +kernel
theorem d_X10_hour_14 : decode cX10_hour 14 = .ok (.iconst 1, 1) := by decide +kernel
theorem d_X10_hour_15 : decode cX10_hour 15 = .ok (.goto 4, 3) := by decide +kernel
theorem d_X10_hour_18 : decode cX10_hour 18 = .ok (.iconst 0, 1) := by decide +kernel
theorem d_X10_hour_19 : decode cX10_hour 19 = .ok (.iconst 1, 1) := by decide +kernel
theorem d_X10_hour_20 : decode cX10_hour 20 = .ok (.iconst 0, 1) := by decide +kernel
theorem d_X10_hour_21 : decode cX10_hour 21 = .ok (.invokevirtual 155, 3) := by decide +kernel
theorem d_X10_hour_24 : decode cX10_hour 24 = .ok (.ifCond .ne 26, 3) := by decide +kernel
theorem d_X10_hour_27 : decode cX10_hour 27 = .ok (.aload_n 0, 1) := by decide +kernel
theorem d_X10_hour_28 : decode cX10_hour 28 = .ok (.iload_n 2, 1) := by decide +kernel
theorem d_X10_hour_29 : decode cX10_hour 29 = .ok (.iconst 0, 1) := by decide +kernel
theorem d_X10_hour_30 : decode cX10_hour 30 = .ok (.iconst 2, 1) := by decide +kernel
theorem d_X10_hour_31 : decode cX10_hour 31 = .ok (.invokestatic 116, 3) := by decide +kernel
theorem d_X10_hour_34 : decode cX10_hour 34 = .ok (.ifCond .ne 7, 3) := by decide +kernel
theorem d_X10_hour_37 : decode cX10_hour 37 = .ok (.iconst 1, 1) := by decide +kernel
theorem d_X10_hour_38 : decode cX10_hour 38 = .ok (.goto 4, 3) := by decide +kernel
theorem d_X10_hour_41 : decode cX10_hour 41 = .ok (.iconst 0, 1) := by decide +kernel
theorem d_X10_hour_42 : decode cX10_hour 42 = .ok (.iconst 2, 1) := by decide +kernel
theorem d_X10_hour_43 : decode cX10_hour 43 = .ok (.iconst 1, 1) := by decide +kernel
theorem d_X10_hour_44 : decode cX10_hour 44 = .ok (.invokevirtual 155, 3) := by decide +kernel
theorem d_X10_hour_47 : decode cX10_hour 47 = .ok (.ifCond .eq 5, 3) := by decide +kernel
theorem d_X10_hour_50 : decode cX10_hour 50 = .ok (.iconst 0, 1) := by decide +kernel
theorem d_X10_hour_51 : decode cX10_hour 51 = .ok (.ireturn, 1) := by decide +kernel
theorem d_X10_hour_52 : decode cX10_hour 52 = .ok (.iload_n 2, 1) := by decide +kernel
theorem d_X10_hour_53 : decode cX10_hour 53 = .ok (.iconst 2, 1) := by decide +kernel
theorem d_X10_hour_54 : decode cX10_hour 54 = .ok (.if_icmp .ge 12, 3) := by decide +kernel
theorem d_X10_hour_57 : decode cX10_hour 57 = .ok (.aload_n 0, 1) := by decide +kernel
theorem d_X10_hour_58 : decode cX10_hour 58 = .ok (.getfield 34, 3) := by decide +kernel
theorem d_X10_hour_61 : decode cX10_hour 61 = .ok (.iload_n 1, 1) := by decide +kernel
theorem d_X10_hour_62 : decode cX10_hour 62 = .ok (.aaload, 1) := by decide +kernel
theorem d_X10_hour_63 : decode cX10_hour 63 = .ok (.iload_n 2, 1) := by decide +kernel
theorem d_X10_hour_64 : decode cX10_hour 64 = .ok (.iaload, 1) := by decide +kernel
theorem d_X10_hour_65 : decode cX10_hour 65 = .ok (.ireturn, 1) := by decide +kernel
theorem d_X10_hour_66 : decode cX10_hour 66 = .ok (.iconst 0, 1) := by decide +kernel
theorem d_X10_hour_67 : decode cX10_hour 67 = .ok (.istore_n 3, 1) := by decide +kernel
theorem d_X10_hour_68 : decode cX10_hour 68 = .ok (.iconst 0, 1) := by decide +kernel
theorem d_X10_hour_69 : decode cX10_hour 69 = .ok (.istore 4, 2) := by decide +kernel
theorem d_X10_hour_71 : decode cX10_hour 71 = .ok (.iload 4, 2) := by decide +kernel
theorem d_X10_hour_73 : decode cX10_hour 73 = .ok (.bipush 64, 2) := by decide +kernel
theorem d_X10_hour_75 : decode cX10_hour 75 = .ok (.if_icmp .ge 40, 3) := by decide +kernel
theorem d_X10_hour_78 : decode cX10_hour 78 = .ok (.iload_n 3, 1) := by decide +kernel
theorem d_X10_hour_79 : decode cX10_hour 79 = .ok (.aload_n 0, 1) := by decide +kernel
theorem d_X10_hour_80 : decode cX10_hour 80 = .ok (.iload 4, 2) := by decide +kernel
theorem d_X10_hour_82 : decode cX10_hour 82 = .ok (.invokevirtual 284, 3) := by decide +kernel
theorem d_X10_hour_85 : decode cX10_hour 85 = .ok (.ifCond .eq 21, 3) := by decide +kernel
theorem d_X10_hour_88 : decode cX10_hour 88 = .ok (.aload_n 0, 1) := by decide +kernel
theorem d_X10_hour_89 : decode cX10_hour 89 = .ok (.aload_n 0, 1) := by decide +kernel
theorem d_X10_hour_90 : decode cX10_hour 90 = .ok (.getfield 58, 3) := by decide +kernel
theorem d_X10_hour_93 : decode cX10_hour 93 = .ok (.iload 4, 2) := by decide +kernel
theorem d_X10_hour_95 : decode cX10_hour 95 = .ok (.iload_n 1, 1) := by decide +kernel
theorem d_X10_hour_96 : decode cX10_hour 96 = .ok (.invokevirtual 264, 3) := by decide +kernel
theorem d_X10_hour_99 : decode cX10_hour 99 = .ok (.ifCond .eq 7, 3) := by decide +kernel
theorem d_X10_hour_102 : decode cX10_hour 102 = .ok (.iconst 1, 1) := by decide +kernel
theorem d_X10_hour_103 : decode cX10_hour 103 = .ok (.goto 4, 3) := by decide +kernel
theorem d_X10_hour_106 : decode cX10_hour 106 = .ok (.iconst 0, 1) := by decide +kernel
theorem d_X10_hour_107 : decode cX10_hour 107 = .ok (.iadd, 1) := by decide +kernel
theorem d_X10_hour_108 : decode cX10_hour 108 = .ok (.istore_n 3, 1) := by decide +kernel
theorem d_X10_hour_109 : decode cX10_hour 109 = .ok (.iinc 4 1, 3) := by decide +kernel
theorem d_X10_hour_112 : decode cX10_hour 112 = .ok (.goto (-41), 3) := by decide +kernel
theorem d_X10_hour_115 : decode cX10_hour 115 = .ok (.iload_n 3, 1) := by decide +kernel
theorem d_X10_hour_116 : decode cX10_hour 116 = .ok (.ireturn, 1) := by decide +kernel
def F_X10_hour_107 (p0 : Int32) (p1 : Int32) (self71 : Int32 → Int32 → Int32 → zMem → Option (Int32 × zMem)) (b107_L1 : Int32) (b107_L4 : Int32) (b107_S0 : Int32) (b107_S1 : Int32) (M : zMem) : Option (Int32 × zMem) :=
  zl (b107_S0 + b107_S1) fun v1 =>
  self71 b107_L1 v1 (b107_L4 + 1) M
def F_X10_hour_106 (p0 : Int32) (p1 : Int32) (self71 : Int32 → Int32 → Int32 → zMem → Option (Int32 × zMem)) (b106_L1 : Int32) (b106_L4 : Int32) (b106_S0 : Int32) (M : zMem) : Option (Int32 × zMem) :=
  F_X10_hour_107 p0 p1 self71 b106_L1 b106_L4 b106_S0 (0 : Int32) M
def F_X10_hour_71 (p0 : Int32) (p1 : Int32) (self71 : Int32 → Int32 → Int32 → zMem → Option (Int32 × zMem)) (b71_L1 : Int32) (b71_L3 : Int32) (b71_L4 : Int32) (M : zMem) : Option (Int32 × zMem) :=
  if (64 : Int32) ≤ b71_L4 then
    some (b71_L3, M)
  else
    zb (F_X10_isHere M b71_L4) fun v3 M2 =>
    if v3 = 0 then
      F_X10_hour_106 p0 p1 self71 b71_L1 b71_L4 b71_L3 M2
    else
      zb (F_X10_isShade M2 451 b71_L4 b71_L1) fun v5 M4 =>
      if v5 = 0 then
        F_X10_hour_106 p0 p1 self71 b71_L1 b71_L4 b71_L3 M4
      else
        F_X10_hour_107 p0 p1 self71 b71_L1 b71_L4 b71_L3 (1 : Int32) M4
def F_X10_hour_42 (p0 : Int32) (p1 : Int32) (b42_L1 : Int32) (b42_L2 : Int32) (b42_S1 : Int32) (M : zMem) : Option (Int32 × zMem) :=
  zb (F_X10_bad M b42_S1 (2 : Int32) (1 : Int32)) fun v7 M6 =>
  if v7 = 0 then
    if (2 : Int32) ≤ b42_L2 then
      itF (fun _ _ _ _ => none) (F_X10_hour_71 p0 p1) zFuel b42_L1 (0 : Int32) (0 : Int32) M6
    else
      gin b42_L1 10 <|
      gin b42_L2 2 <|
      some ((M6.1 (17 + (1 + 1 * b42_L1.toNatClampNeg)) b42_L2.toNatClampNeg), M6)
  else
    some ((0 : Int32), M6)
def F_X10_hour_19 (p0 : Int32) (p1 : Int32) (b19_L1 : Int32) (b19_L2 : Int32) (b19_S1 : Int32) (M : zMem) : Option (Int32 × zMem) :=
  zb (F_X10_bad M b19_S1 (1 : Int32) (0 : Int32)) fun v11 M10 =>
  if v11 = 0 then
    zb (F_X10_in M10 b19_L2 (0 : Int32) (2 : Int32)) fun v13 M12 =>
    if v13 = 0 then
      F_X10_hour_42 p0 p1 b19_L1 b19_L2 (1 : Int32) M12
    else
      F_X10_hour_42 p0 p1 b19_L1 b19_L2 (0 : Int32) M12
  else
    some ((0 : Int32), M10)
def F_X10_hour (M : zMem) (p0 : Int32) (p1 : Int32) : Option (Int32 × zMem) :=
  zl (zI M 0 0 (0 : Int32)) fun M14 =>
  zb (F_X10_isHour M14 p0) fun v16 M15 =>
  if v16 = 0 then
    F_X10_hour_19 p0 p1 p0 p1 (1 : Int32) M15
  else
    F_X10_hour_19 p0 p1 p0 p1 (0 : Int32) M15
def rm_X10_hour : Room := { frames := 6, cells := 0, slots := 0, locals := 173 }
set_option maxHeartbeats 4000000 in
set_option maxRecDepth 100000 in
theorem c_X10_hour (l : Launch) {G : zG} {ad : Nat → Nat} {n : Nat} (hA : zInj ad n) (M : zMem) (p0 : Int32) (p1 : Int32) (hT : zT shM n 0 11) {r9 : Int32} {M9 : zMem} (hF : F_X10_hour M p0 p1 = some (r9, M9)) : zM l yX10_hour cX10_hour 5 (some .int) rm_X10_hour G shM ad n M [.ref (ad 0), .int p0, .int p1] (some (.int r9)) M9 := by
  refine zM_of hA (by decide +kernel) (lv := [(0, .ref (ad 0)), (1, .int p0), (2, .int p1)]) (Nat.le_of_ble_eq_true rfl) rfl (fun p e s m args below meth c A cx hr => ?_)
  have hb107 : ∀ (self71 : Int32 → Int32 → Int32 → zMem → Option (Int32 × zMem)) (hs71 : ∀ (b71_L1 : Int32) (b71_L3 : Int32) (b71_L4 : Int32) (M : zMem), self71 b71_L1 b71_L3 b71_L4 M = some (r9, M9) → zJ p l e rm_X10_hour s m args below meth c G shM ad n A 5 (MQ below (zQ G shM ad n M9 (some (.int r9)) A) args s 0 0 A) 0 0 M 71 [(0, .ref (ad 0)), (1, .int b71_L1), (3, .int b71_L3), (4, .int b71_L4)] []), ∀ (b107_L1 : Int32) (b107_L4 : Int32) (b107_S0 : Int32) (b107_S1 : Int32) (M : zMem), F_X10_hour_107 p0 p1 self71 b107_L1 b107_L4 b107_S0 b107_S1 M = some (r9, M9) → zJ p l e rm_X10_hour s m args below meth c G shM ad n A 5 (MQ below (zQ G shM ad n M9 (some (.int r9)) A) args s 0 0 A) 0 0 M 107 [(0, .ref (ad 0)), (1, .int b107_L1), (4, .int b107_L4)] [.int b107_S1, .int b107_S0] := by
    intro self71 hs71 b107_L1 b107_L4 b107_S0 b107_S1 M hF
    unfold F_X10_hour_107 at hF
    refine z_iadd cx d_X10_hour_107 ?_
    refine z_nm hF (fun v1 hF => ?_)
    refine z_istore_n cx 3 [(3, .int v1), (0, .ref (ad 0)), (1, .int b107_L1), (4, .int b107_L4)] d_X10_hour_108 rfl (by decide) rfl ?_
    refine z_iinc cx 4 1 [(4, .int (b107_L4 + 1)), (3, .int v1), (0, .ref (ad 0)), (1, .int b107_L1)] d_X10_hour_109 3 rfl ki_1 (by decide) rfl ?_
    refine z_goto cx 71 d_X10_hour_112 (by decide) ?_
    exact z_lv [2, 3, 1, 0] _ rfl (hs71 b107_L1 v1 (b107_L4 + 1) M hF)
  have hb106 : ∀ (self71 : Int32 → Int32 → Int32 → zMem → Option (Int32 × zMem)) (hs71 : ∀ (b71_L1 : Int32) (b71_L3 : Int32) (b71_L4 : Int32) (M : zMem), self71 b71_L1 b71_L3 b71_L4 M = some (r9, M9) → zJ p l e rm_X10_hour s m args below meth c G shM ad n A 5 (MQ below (zQ G shM ad n M9 (some (.int r9)) A) args s 0 0 A) 0 0 M 71 [(0, .ref (ad 0)), (1, .int b71_L1), (3, .int b71_L3), (4, .int b71_L4)] []), ∀ (b106_L1 : Int32) (b106_L4 : Int32) (b106_S0 : Int32) (M : zMem), F_X10_hour_106 p0 p1 self71 b106_L1 b106_L4 b106_S0 M = some (r9, M9) → zJ p l e rm_X10_hour s m args below meth c G shM ad n A 5 (MQ below (zQ G shM ad n M9 (some (.int r9)) A) args s 0 0 A) 0 0 M 106 [(0, .ref (ad 0)), (1, .int b106_L1), (4, .int b106_L4)] [.int b106_S0] := by
    intro self71 hs71 b106_L1 b106_L4 b106_S0 M hF
    unfold F_X10_hour_106 at hF
    refine z_iconst (v := 0) cx d_X10_hour_106 ki_0 ?_
    exact hb107 self71 hs71 b106_L1 b106_L4 b106_S0 (0 : Int32) M hF
  have hL71 : ∀ (fuel : Nat), ∀ (b71_L1 : Int32) (b71_L3 : Int32) (b71_L4 : Int32) (M : zMem), itF (fun _ _ _ _ => none) (F_X10_hour_71 p0 p1) fuel b71_L1 b71_L3 b71_L4 M = some (r9, M9) → zJ p l e rm_X10_hour s m args below meth c G shM ad n A 5 (MQ below (zQ G shM ad n M9 (some (.int r9)) A) args s 0 0 A) 0 0 M 71 [(0, .ref (ad 0)), (1, .int b71_L1), (3, .int b71_L3), (4, .int b71_L4)] [] := by
    intro fuel
    induction fuel with
    | zero => intro b71_L1 b71_L3 b71_L4 M hF; cases hF
    | succ fuel hs71 =>
      intro b71_L1 b71_L3 b71_L4 M hF
      have hF : F_X10_hour_71 p0 p1 (itF (fun _ _ _ _ => none) (F_X10_hour_71 p0 p1) fuel) b71_L1 b71_L3 b71_L4 M = some (r9, M9) := hF
      generalize itF (fun _ _ _ _ => none) (F_X10_hour_71 p0 p1) fuel = self71 at hs71 hF
      unfold F_X10_hour_71 at hF
      refine z_iload cx d_X10_hour_71 3 rfl ?_
      refine z_bipush (v := 64) cx d_X10_hour_73 kb_64 ?_
      refine z_icmp_ge cx 115 d_X10_hour_75 (by decide) hF (fun hF => ?_) (fun hF => ?_)
      · refine z_iload_n cx d_X10_hour_115 2 rfl ?_
        exact z_iret cx hr rfl hF d_X10_hour_116
      refine z_iload_n cx d_X10_hour_78 2 rfl ?_
      refine z_aload_n cx d_X10_hour_79 0 rfl ?_
      refine z_iload cx d_X10_hour_80 3 rfl ?_
      obtain ⟨v3, M2, hc, hF⟩ := zb_inv hF
      refine z_callV cx (As := [.int b71_L4]) (rest := [.int b71_L3]) (c_X10_isHere l cx.2.2.2.1.1 M b71_L4 hT hc) hT zo_11 cv_SunnyPansModel_284 ⟨rfl, rfl, Nat.le_of_ble_eq_true rfl, Nat.le_of_ble_eq_true rfl⟩ rfl rfl ⟨Nat.zero_le _, Nat.zero_le _⟩ (Nat.le_of_ble_eq_true rfl) d_X10_hour_82 ?_
      refine z_if_eq cx 106 d_X10_hour_85 (by decide) hF (fun hF => ?_) (fun hF => ?_)
      · exact z_lv [0, 1, 3] _ rfl (hb106 self71 hs71 b71_L1 b71_L4 b71_L3 M2 hF)
      refine z_aload_n cx d_X10_hour_88 0 rfl ?_
      refine z_aload_n cx d_X10_hour_89 0 rfl ?_
      refine z_getR cx hT fg_SunnyPansModel_58 451 rfl d_X10_hour_90 ?_
      refine z_iload cx d_X10_hour_93 3 rfl ?_
      refine z_iload_n cx d_X10_hour_95 1 rfl ?_
      obtain ⟨v5, M4, hc, hF⟩ := zb_inv hF
      refine z_callV cx (As := [.ref (ad 451), .int b71_L4, .int b71_L1]) (rest := [.int b71_L3]) (c_X10_isShade l cx.2.2.2.1.1 M2 451 b71_L4 b71_L1 hT (tfM_11_451 hT) hc) hT zo_11 cv_SunnyPansModel_264 ⟨rfl, rfl, Nat.le_of_ble_eq_true rfl, Nat.le_of_ble_eq_true rfl⟩ rfl rfl ⟨Nat.zero_le _, Nat.zero_le _⟩ (Nat.le_of_ble_eq_true rfl) d_X10_hour_96 ?_
      refine z_if_eq cx 106 d_X10_hour_99 (by decide) hF (fun hF => ?_) (fun hF => ?_)
      · exact z_lv [0, 1, 3] _ rfl (hb106 self71 hs71 b71_L1 b71_L4 b71_L3 M4 hF)
      refine z_iconst (v := 1) cx d_X10_hour_102 ki_1 ?_
      refine z_goto cx 107 d_X10_hour_103 (by decide) ?_
      exact z_lv [0, 1, 3] _ rfl (hb107 self71 hs71 b71_L1 b71_L4 b71_L3 (1 : Int32) M4 hF)
  have hb42 : ∀ (b42_L1 : Int32) (b42_L2 : Int32) (b42_S1 : Int32) (M : zMem), F_X10_hour_42 p0 p1 b42_L1 b42_L2 b42_S1 M = some (r9, M9) → zJ p l e rm_X10_hour s m args below meth c G shM ad n A 5 (MQ below (zQ G shM ad n M9 (some (.int r9)) A) args s 0 0 A) 0 0 M 42 [(0, .ref (ad 0)), (1, .int b42_L1), (2, .int b42_L2)] [.int b42_S1, .ref (ad 0)] := by
    intro b42_L1 b42_L2 b42_S1 M hF
    unfold F_X10_hour_42 at hF
    refine z_iconst (v := 2) cx d_X10_hour_42 ki_2 ?_
    refine z_iconst (v := 1) cx d_X10_hour_43 ki_1 ?_
    obtain ⟨v7, M6, hc, hF⟩ := zb_inv hF
    refine z_callV cx (As := [.int b42_S1, .int (2 : Int32), .int (1 : Int32)]) (rest := []) (c_X10_bad l cx.2.2.2.1.1 M b42_S1 (2 : Int32) (1 : Int32) hT hc) hT zo_11 cv_SunnyPansModel_155 ⟨rfl, rfl, Nat.le_of_ble_eq_true rfl, Nat.le_of_ble_eq_true rfl⟩ rfl rfl ⟨Nat.zero_le _, Nat.zero_le _⟩ (Nat.le_of_ble_eq_true rfl) d_X10_hour_44 ?_
    refine z_if_eq cx 52 d_X10_hour_47 (by decide) hF (fun hF => ?_) (fun hF => ?_)
    · refine z_iload_n cx d_X10_hour_52 2 rfl ?_
      refine z_iconst (v := 2) cx d_X10_hour_53 ki_2 ?_
      refine z_icmp_ge cx 66 d_X10_hour_54 (by decide) hF (fun hF => ?_) (fun hF => ?_)
      · refine z_iconst (v := 0) cx d_X10_hour_66 ki_0 ?_
        refine z_istore_n cx 3 [(3, .int (0 : Int32)), (0, .ref (ad 0)), (1, .int b42_L1), (2, .int b42_L2)] d_X10_hour_67 rfl (by decide) rfl ?_
        refine z_iconst (v := 0) cx d_X10_hour_68 ki_0 ?_
        refine z_istore cx 4 [(4, .int (0 : Int32)), (3, .int (0 : Int32)), (0, .ref (ad 0)), (1, .int b42_L1), (2, .int b42_L2)] d_X10_hour_69 (by decide) rfl ?_
        exact z_lv [2, 3, 1, 0] _ rfl (hL71 zFuel b42_L1 (0 : Int32) (0 : Int32) M6 hF)
      refine z_aload_n cx d_X10_hour_57 0 rfl ?_
      refine z_getR cx hT fg_SunnyPansModel_34 17 rfl d_X10_hour_58 ?_
      refine z_iload_n cx d_X10_hour_61 1 rfl ?_
      obtain ⟨hi8, hF⟩ := gin_inv hF
      refine z_aald cx (tfM_11_17 hT) za_30 hi8 (17 + (1 + 1 * b42_L1.toNatClampNeg)) rfl d_X10_hour_62 ?_
      refine z_iload_n cx d_X10_hour_63 2 rfl ?_
      obtain ⟨hi9, hF⟩ := gin_inv hF
      refine z_iald cx (teM_30 (tfM_11_17 hT) hi8) za_27 hi9 b42_L2.toNatClampNeg rfl d_X10_hour_64 ?_
      exact z_iret cx hr rfl hF d_X10_hour_65
    refine z_iconst (v := 0) cx d_X10_hour_50 ki_0 ?_
    exact z_iret cx hr rfl hF d_X10_hour_51
  have hb19 : ∀ (b19_L1 : Int32) (b19_L2 : Int32) (b19_S1 : Int32) (M : zMem), F_X10_hour_19 p0 p1 b19_L1 b19_L2 b19_S1 M = some (r9, M9) → zJ p l e rm_X10_hour s m args below meth c G shM ad n A 5 (MQ below (zQ G shM ad n M9 (some (.int r9)) A) args s 0 0 A) 0 0 M 19 [(0, .ref (ad 0)), (1, .int b19_L1), (2, .int b19_L2)] [.int b19_S1, .ref (ad 0)] := by
    intro b19_L1 b19_L2 b19_S1 M hF
    unfold F_X10_hour_19 at hF
    refine z_iconst (v := 1) cx d_X10_hour_19 ki_1 ?_
    refine z_iconst (v := 0) cx d_X10_hour_20 ki_0 ?_
    obtain ⟨v11, M10, hc, hF⟩ := zb_inv hF
    refine z_callV cx (As := [.int b19_S1, .int (1 : Int32), .int (0 : Int32)]) (rest := []) (c_X10_bad l cx.2.2.2.1.1 M b19_S1 (1 : Int32) (0 : Int32) hT hc) hT zo_11 cv_SunnyPansModel_155 ⟨rfl, rfl, Nat.le_of_ble_eq_true rfl, Nat.le_of_ble_eq_true rfl⟩ rfl rfl ⟨Nat.zero_le _, Nat.zero_le _⟩ (Nat.le_of_ble_eq_true rfl) d_X10_hour_21 ?_
    refine z_if_ne cx 50 d_X10_hour_24 (by decide) hF (fun hF => ?_) (fun hF => ?_)
    · refine z_iconst (v := 0) cx d_X10_hour_50 ki_0 ?_
      exact z_iret cx hr rfl hF d_X10_hour_51
    refine z_aload_n cx d_X10_hour_27 0 rfl ?_
    refine z_iload_n cx d_X10_hour_28 2 rfl ?_
    refine z_iconst (v := 0) cx d_X10_hour_29 ki_0 ?_
    refine z_iconst (v := 2) cx d_X10_hour_30 ki_2 ?_
    obtain ⟨v13, M12, hc, hF⟩ := zb_inv hF
    refine z_callS cx (As := [.int b19_L2, .int (0 : Int32), .int (2 : Int32)]) (rest := [.ref (ad 0)]) (c_X10_in l cx.2.2.2.1.1 M10 b19_L2 (0 : Int32) (2 : Int32)  hc) cs_SunnyPansModel_116 ⟨rfl, rfl, Nat.le_of_ble_eq_true rfl, Nat.le_of_ble_eq_true rfl⟩ rfl rfl ⟨Nat.zero_le _, Nat.zero_le _⟩ (Nat.le_of_ble_eq_true rfl) d_X10_hour_31 ?_
    refine z_if_ne cx 41 d_X10_hour_34 (by decide) hF (fun hF => ?_) (fun hF => ?_)
    · refine z_iconst (v := 0) cx d_X10_hour_41 ki_0 ?_
      exact hb42 b19_L1 b19_L2 (0 : Int32) M12 hF
    refine z_iconst (v := 1) cx d_X10_hour_37 ki_1 ?_
    refine z_goto cx 42 d_X10_hour_38 (by decide) ?_
    exact hb42 b19_L1 b19_L2 (1 : Int32) M12 hF
  unfold F_X10_hour at hF
  refine z_aload_n cx d_X10_hour_0 0 rfl ?_
  refine z_iconst (v := 0) cx d_X10_hour_1 ki_0 ?_
  refine z_putI cx hT fp_SunnyPansModel_82 d_X10_hour_2 ?_
  refine z_nmM hF (fun M14 hF => ?_)
  refine z_aload_n cx d_X10_hour_5 0 rfl ?_
  refine z_aload_n cx d_X10_hour_6 0 rfl ?_
  refine z_iload_n cx d_X10_hour_7 1 rfl ?_
  obtain ⟨v16, M15, hc, hF⟩ := zb_inv hF
  refine z_callV cx (As := [.int p0]) (rest := [.ref (ad 0)]) (c_X10_isHour l cx.2.2.2.1.1 M14 p0 hT hc) hT zo_11 cv_SunnyPansModel_336 ⟨rfl, rfl, Nat.le_of_ble_eq_true rfl, Nat.le_of_ble_eq_true rfl⟩ rfl rfl ⟨Nat.zero_le _, Nat.zero_le _⟩ (Nat.le_of_ble_eq_true rfl) d_X10_hour_8 ?_
  refine z_if_ne cx 18 d_X10_hour_11 (by decide) hF (fun hF => ?_) (fun hF => ?_)
  · refine z_iconst (v := 0) cx d_X10_hour_18 ki_0 ?_
    exact hb19 p0 p1 (0 : Int32) M15 hF
  refine z_iconst (v := 1) cx d_X10_hour_14 ki_1 ?_
  refine z_goto cx 19 d_X10_hour_15 (by decide) ?_
  exact hb19 p0 p1 (1 : Int32) M15 hF
