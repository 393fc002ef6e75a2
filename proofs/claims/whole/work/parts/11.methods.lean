/-! SunnyPans$Text.failHere -/
theorem d_X8_failHere_0 : decode cX8_failHere 0 = .ok (.aload_n 0, 1) := by decide +kernel
theorem d_X8_failHere_1 : decode cX8_failHere 1 = .ok (.invokevirtual 40, 3) := by decide +kernel
theorem d_X8_failHere_4 : decode cX8_failHere 4 = .ok (.aload_n 0, 1) := by decide +kernel
theorem d_X8_failHere_5 : decode cX8_failHere 5 = .ok (.iconst 1, 1) := by decide +kernel
theorem d_X8_failHere_6 : decode cX8_failHere 6 = .ok (.aload_n 0, 1) := by decide +kernel
theorem d_X8_failHere_7 : decode cX8_failHere 7 = .ok (.getfield 34, 3) := by decide +kernel
theorem d_X8_failHere_10 : decode cX8_failHere 10 = .ok (.invokevirtual 43, 3) := by decide +kernel
theorem d_X8_failHere_13 : decode cX8_failHere 13 = .ok (.return_, 1) := by decide +kernel
noncomputable def F_X8_failHere (M : zMem) (t : Nat) : Option (zMem) :=
  zbv (F_X8_skipBlanks M t) fun M1 =>
  zbv (F_X8_fail M1 t (1 : Int32) (M1.1 t 7)) fun M2 =>
  some M2
def rm_X8_failHere : Room := { frames := 3, cells := 0, slots := 0, locals := 102 }
set_option maxHeartbeats 4000000 in
set_option maxRecDepth 100000 in
theorem c_X8_failHere (l : Launch) {G : zG} {ad : Nat → Nat} {n : Nat} (hA : zInj ad n) (M : zMem) (t : Nat) (hT_t : zT shX n t 9) {M9 : zMem} (hF : F_X8_failHere M t = some M9) : zM l yX8_failHere cX8_failHere 1 none rm_X8_failHere G shX ad n M [.ref (ad t)] none M9 := by
  refine zM_of hA (by decide +kernel) (lv := [(0, .ref (ad t))]) (Nat.le_of_ble_eq_true rfl) rfl (fun p e s m args below meth c A cx hr => ?_)
  unfold F_X8_failHere at hF
  refine z_aload_n cx d_X8_failHere_0 0 rfl ?_
  obtain ⟨M1, hc, hF⟩ := zbv_inv hF
  refine z_callV cx (As := []) (rest := []) (c_X8_skipBlanks l cx.2.2.2.1.1 M t hT_t hc) hT_t zo_9 cv_Text_40 ⟨rfl, rfl, Nat.le_of_ble_eq_true rfl, Nat.le_of_ble_eq_true rfl⟩ rfl rfl ⟨Nat.zero_le _, Nat.zero_le _⟩ (Nat.le_of_ble_eq_true rfl) d_X8_failHere_1 ?_
  refine z_aload_n cx d_X8_failHere_4 0 rfl ?_
  refine z_iconst (v := 1) cx d_X8_failHere_5 ki_1 ?_
  refine z_aload_n cx d_X8_failHere_6 0 rfl ?_
  refine z_getI cx hT_t fg_Text_34 d_X8_failHere_7 ?_
  obtain ⟨M2, hc, hF⟩ := zbv_inv hF
  refine z_callV cx (As := [.int (1 : Int32), .int (M1.1 t 7)]) (rest := []) (c_X8_fail l cx.2.2.2.1.1 M1 t (1 : Int32) (M1.1 t 7) hT_t hc) hT_t zo_9 cv_Text_43 ⟨rfl, rfl, Nat.le_of_ble_eq_true rfl, Nat.le_of_ble_eq_true rfl⟩ rfl rfl ⟨Nat.zero_le _, Nat.zero_le _⟩ (Nat.le_of_ble_eq_true rfl) d_X8_failHere_10 ?_
  exact z_vret cx hr hF d_X8_failHere_13
/-! SunnyPans$Law.read -/
set_option maxRecDepth 100000 in
theorem wd_825 : Cond.methodLink "SunnyPans$Law" 36 yX8_goesOn ∈ tbG := tw4 5 rfl rfl
theorem cv_Law_36 : zCV "SunnyPans$Law" 36 "SunnyPans$Text" yX8_goesOn cX8_goesOn 1 (some .boolean) 0 := zCV_of wd_825 wd_612 wd_613 wd_102 wd_614 (by decide +kernel)
set_option maxRecDepth 100000 in
theorem wd_829 : Cond.code yX8_failHere cX8_failHere 1 none ∈ tbG := tw4 9 rfl rfl
set_option maxRecDepth 100000 in
theorem wd_826 : Cond.methodLink "SunnyPans$Law" 42 yX8_failHere ∈ tbG := tw4 6 rfl rfl
set_option maxRecDepth 100000 in
theorem wd_827 : Cond.instanceMethod yX8_failHere ∈ tbG := tw4 7 rfl rfl
set_option maxRecDepth 100000 in
theorem wd_828 : Cond.selects "SunnyPans$Text" yX8_failHere yX8_failHere ∈ tbG := tw4 8 rfl rfl
theorem cv_Law_42 : zCV "SunnyPans$Law" 42 "SunnyPans$Text" yX8_failHere cX8_failHere 1 none 0 := zCV_of wd_826 wd_827 wd_828 wd_102 wd_829 (by decide +kernel)
theorem d_X3_read_0 : decode cX3_read 0 = .ok (.aload_n 0, 1) := by decide +kernel
theorem d_X3_read_1 : decode cX3_read 1 = .ok (.iconst 0, 1) := by decide +kernel
theorem d_X3_read_2 : decode cX3_read 2 = .ok (.putfield 24, 3) := by decide +kernel
theorem d_X3_read_5 : decode cX3_read 5 = .ok (.aload_n 0, 1) := by decide +kernel
theorem d_X3_read_6 : decode cX3_read 6 = .ok (.aload_n 1, 1) := by decide +kernel
theorem d_X3_read_7 : decode cX3_read 7 = .ok (.iconst 0, 1) := by decide +kernel
theorem d_X3_read_8 : decode cX3_read 8 = .ok (.invokevirtual 32, 3) := by decide +kernel
theorem d_X3_read_11 : decode cX3_read 11 = .ok (.aload_n 1, 1) := by decide +kernel
theorem d_X3_read_12 : decode cX3_read 12 = .ok (.invokevirtual 36, 3) := by decide +kernel
theorem d_X3_read_15 : decode cX3_read 15 = .ok (.ifCond .eq 7, 3) := by decide +kernel
theorem d_X3_read_18 : decode cX3_read 18 = .ok (.aload_n 1, 1) := by decide +kernel
theorem d_X3_read_19 : decode cX3_read 19 = .ok (.invokevirtual 42, 3) := by decide +kernel
theorem d_X3_read_22 : decode cX3_read 22 = .ok (.return_, 1) := by decide +kernel
noncomputable def F_X3_read (M : zMem) (t : Nat) (p0 : Nat) : Option (zMem) :=
  zl (zI M t 3 (0 : Int32)) fun M1 =>
  zbv (F_X3_readSum M1 t p0 (0 : Int32)) fun M2 =>
  zb (F_X8_goesOn M2 p0) fun v4 M3 =>
  if v4 = 0 then
    some M3
  else
    zbv (F_X8_failHere M3 p0) fun M5 =>
    some M5
def rm_X3_read : Room := { frames := 961, cells := 0, slots := 0, locals := 24024 }
set_option maxHeartbeats 4000000 in
set_option maxRecDepth 100000 in
theorem c_X3_read (l : Launch) {G : zG} {ad : Nat → Nat} {n : Nat} (hA : zInj ad n) (M : zMem) (t : Nat) (p0 : Nat) (hT_t : zT shX n t 4) (hT_p0 : zT shX n p0 9) {M9 : zMem} (hF : F_X3_read M t p0 = some M9) : zM l yX3_read cX3_read 2 none rm_X3_read G shX ad n M [.ref (ad t), .ref (ad p0)] none M9 := by
  refine zM_of hA (by decide +kernel) (lv := [(0, .ref (ad t)), (1, .ref (ad p0))]) (Nat.le_of_ble_eq_true rfl) rfl (fun p e s m args below meth c A cx hr => ?_)
  unfold F_X3_read at hF
  refine z_aload_n cx d_X3_read_0 0 rfl ?_
  refine z_iconst (v := 0) cx d_X3_read_1 ki_0 ?_
  refine z_putI cx hT_t fp_Law_24 d_X3_read_2 ?_
  refine z_nmM hF (fun M1 hF => ?_)
  refine z_aload_n cx d_X3_read_5 0 rfl ?_
  refine z_aload_n cx d_X3_read_6 1 rfl ?_
  refine z_iconst (v := 0) cx d_X3_read_7 ki_0 ?_
  obtain ⟨M2, hc, hF⟩ := zbv_inv hF
  refine z_callV cx (As := [.ref (ad p0), .int (0 : Int32)]) (rest := []) (c_X3_readSum l cx.2.2.2.1.1 M1 t p0 (0 : Int32) hT_t hT_p0 hc) hT_t zo_4 cv_Law_32 ⟨rfl, rfl, Nat.le_of_ble_eq_true rfl, Nat.le_of_ble_eq_true rfl⟩ rfl rfl ⟨Nat.zero_le _, Nat.zero_le _⟩ (Nat.le_of_ble_eq_true rfl) d_X3_read_8 ?_
  refine z_aload_n cx d_X3_read_11 1 rfl ?_
  obtain ⟨v4, M3, hc, hF⟩ := zb_inv hF
  refine z_callV cx (As := []) (rest := []) (c_X8_goesOn l cx.2.2.2.1.1 M2 p0 hT_p0 hc) hT_p0 zo_9 cv_Law_36 ⟨rfl, rfl, Nat.le_of_ble_eq_true rfl, Nat.le_of_ble_eq_true rfl⟩ rfl rfl ⟨Nat.zero_le _, Nat.zero_le _⟩ (Nat.le_of_ble_eq_true rfl) d_X3_read_12 ?_
  refine z_if_eq cx 22 d_X3_read_15 (by decide) hF (fun hF => ?_) (fun hF => ?_)
  · exact z_vret cx hr hF d_X3_read_22
  refine z_aload_n cx d_X3_read_18 1 rfl ?_
  obtain ⟨M5, hc, hF⟩ := zbv_inv hF
  refine z_callV cx (As := []) (rest := []) (c_X8_failHere l cx.2.2.2.1.1 M3 p0 hT_p0 hc) hT_p0 zo_9 cv_Law_42 ⟨rfl, rfl, Nat.le_of_ble_eq_true rfl, Nat.le_of_ble_eq_true rfl⟩ rfl rfl ⟨Nat.zero_le _, Nat.zero_le _⟩ (Nat.le_of_ble_eq_true rfl) d_X3_read_19 ?_
  exact z_vret cx hr hF d_X3_read_22
/-! SunnyPans$Law.join -/
set_option maxRecDepth 100000 in
theorem wd_948 : Cond.methodLink "SunnyPans$Law" 122 Lib.Math.max.name ∈ tbG := tw4 128 rfl rfl
set_option maxRecDepth 100000 in
theorem wd_605 : Cond.static Lib.Math.max.name ∈ tbG := tw3 25 rfl rfl
set_option maxRecDepth 100000 in
theorem wd_606 : Cond.code Lib.Math.max.name Lib.Math.max.code 2 (some .int) ∈ tbG := tw3 26 rfl rfl
set_option maxRecDepth 100000 in
theorem wd_947 : Cond.methodLink "SunnyPans$Law" 117 Lib.Math.min.name ∈ tbG := tw4 127 rfl rfl
theorem d_X3_join_0 : decode cX3_join 0 = .ok (.iload_n 0, 1) := by decide +kernel
theorem d_X3_join_1 : decode cX3_join 1 = .ok (.tableswitch 81 1008 1013 #[39, 43, 47, 51, 63, 75], 39) := by decide +kernel
theorem d_X3_join_40 : decode cX3_join 40 = .ok (.iload_n 1, 1) := by decide +kernel
theorem d_X3_join_41 : decode cX3_join 41 = .ok (.iload_n 2, 1) := by decide +kernel
theorem d_X3_join_42 : decode cX3_join 42 = .ok (.iadd, 1) := by decide +kernel
theorem d_X3_join_43 : decode cX3_join 43 = .ok (.ireturn, 1) := by decide +kernel
theorem d_X3_join_44 : decode cX3_join 44 = .ok (.iload_n 1, 1) := by decide +kernel
theorem d_X3_join_45 : decode cX3_join 45 = .ok (.iload_n 2, 1) := by decide +kernel
theorem d_X3_join_46 : decode cX3_join 46 = .ok (.isub, 1) := by decide +kernel
theorem d_X3_join_47 : decode cX3_join 47 = .ok (.ireturn, 1) := by decide +kernel
theorem d_X3_join_48 : decode cX3_join 48 = .ok (.iload_n 1, 1) := by decide +kernel
theorem d_X3_join_49 : decode cX3_join 49 = .ok (.iload_n 2, 1) := by decide +kernel
theorem d_X3_join_50 : decode cX3_join 50 = .ok (.imul, 1) := by decide +kernel
theorem d_X3_join_51 : decode cX3_join 51 = .ok (.ireturn, 1) := by decide +kernel
theorem d_X3_join_52 : decode cX3_join 52 = .ok (.iload_n 2, 1) := by decide +kernel
theorem d_X3_join_53 : decode cX3_join 53 = .ok (.ifCond .ne 7, 3) := by decide +kernel
theorem d_X3_join_56 : decode cX3_join 56 = .ok (.iconst 0, 1) := by decide +kernel
theorem d_X3_join_57 : decode cX3_join 57 = .ok (.goto 6, 3) := by decide +kernel
theorem d_X3_join_60 : decode cX3_join 60 = .ok (.iload_n 1, 1) := by decide +kernel
theorem d_X3_join_61 : decode cX3_join 61 = .ok (.iload_n 2, 1) := by decide +kernel
theorem d_X3_join_62 : decode cX3_join 62 = .ok (.idiv, 1) := by decide +kernel
theorem d_X3_join_63 : decode cX3_join 63 = .ok (.ireturn, 1) := by decide +kernel
theorem d_X3_join_64 : decode cX3_join 64 = .ok (.iload_n 2, 1) := by decide +kernel
theorem d_X3_join_65 : decode cX3_join 65 = .ok (.ifCond .ne 7, 3) := by decide +kernel
theorem d_X3_join_68 : decode cX3_join 68 = .ok (.iconst 0, 1) := by decide +kernel
theorem d_X3_join_69 : decode cX3_join 69 = .ok (.goto 6, 3) := by decide +kernel
theorem d_X3_join_72 : decode cX3_join 72 = .ok (.iload_n 1, 1) := by decide +kernel
theorem d_X3_join_73 : decode cX3_join 73 = .ok (.iload_n 2, 1) := by decide +kernel
theorem d_X3_join_74 : decode cX3_join 74 = .ok (.irem, 1) := by decide +kernel
theorem d_X3_join_75 : decode cX3_join 75 = .ok (.ireturn, 1) := by decide +kernel
theorem d_X3_join_76 : decode cX3_join 76 = .ok (.iload_n 1, 1) := by decide +kernel
theorem d_X3_join_77 : decode cX3_join 77 = .ok (.iload_n 2, 1) := by decide +kernel
theorem d_X3_join_78 : decode cX3_join 78 = .ok (.invokestatic 117, 3) := by decide +kernel
theorem d_X3_join_81 : decode cX3_join 81 = .ok (.ireturn, 1) := by decide +kernel
theorem d_X3_join_82 : decode cX3_join 82 = .ok (.iload_n 1, 1) := by decide +kernel
theorem d_X3_join_83 : decode cX3_join 83 = .ok (.iload_n 2, 1) := by decide +kernel
theorem d_X3_join_84 : decode cX3_join 84 = .ok (.invokestatic 122, 3) := by decide +kernel
theorem d_X3_join_87 : decode cX3_join 87 = .ok (.ireturn, 1) := by decide +kernel
noncomputable def F_X3_join_82 (p0 : Int32) (p1 : Int32) (p2 : Int32) (b82_L1 : Int32) (b82_L2 : Int32) (M : zMem) : Option (Int32 × zMem) :=
  some ((zmax b82_L1 b82_L2), M)
noncomputable def F_X3_join_76 (p0 : Int32) (p1 : Int32) (p2 : Int32) (b76_L1 : Int32) (b76_L2 : Int32) (M : zMem) : Option (Int32 × zMem) :=
  some ((zmin b76_L1 b76_L2), M)
noncomputable def F_X3_join_64 (p0 : Int32) (p1 : Int32) (p2 : Int32) (b64_L1 : Int32) (b64_L2 : Int32) (M : zMem) : Option (Int32 × zMem) :=
  if b64_L2 = 0 then
    some ((0 : Int32), M)
  else
    gd (!(b64_L2 == 0)) <|
    some ((b64_L1 - b64_L1 / b64_L2 * b64_L2), M)
noncomputable def F_X3_join_52 (p0 : Int32) (p1 : Int32) (p2 : Int32) (b52_L1 : Int32) (b52_L2 : Int32) (M : zMem) : Option (Int32 × zMem) :=
  if b52_L2 = 0 then
    some ((0 : Int32), M)
  else
    gd (!(b52_L2 == 0)) <|
    some ((b52_L1 / b52_L2), M)
noncomputable def F_X3_join_48 (p0 : Int32) (p1 : Int32) (p2 : Int32) (b48_L1 : Int32) (b48_L2 : Int32) (M : zMem) : Option (Int32 × zMem) :=
  some ((b48_L1 * b48_L2), M)
noncomputable def F_X3_join_44 (p0 : Int32) (p1 : Int32) (p2 : Int32) (b44_L1 : Int32) (b44_L2 : Int32) (M : zMem) : Option (Int32 × zMem) :=
  some ((b44_L1 - b44_L2), M)
noncomputable def F_X3_join_40 (p0 : Int32) (p1 : Int32) (p2 : Int32) (b40_L1 : Int32) (b40_L2 : Int32) (M : zMem) : Option (Int32 × zMem) :=
  some ((b40_L1 + b40_L2), M)
noncomputable def F_X3_join (M : zMem) (p0 : Int32) (p1 : Int32) (p2 : Int32) : Option (Int32 × zMem) :=
  if p0 = 1008 then
    F_X3_join_40 p0 p1 p2 p1 p2 M
  else
  if p0 = 1009 then
    F_X3_join_44 p0 p1 p2 p1 p2 M
  else
  if p0 = 1010 then
    F_X3_join_48 p0 p1 p2 p1 p2 M
  else
  if p0 = 1011 then
    F_X3_join_52 p0 p1 p2 p1 p2 M
  else
  if p0 = 1012 then
    F_X3_join_64 p0 p1 p2 p1 p2 M
  else
  if p0 = 1013 then
    F_X3_join_76 p0 p1 p2 p1 p2 M
  else
  F_X3_join_82 p0 p1 p2 p1 p2 M
def rm_X3_join : Room := { frames := 3, cells := 0, slots := 0, locals := 80 }
set_option maxHeartbeats 4000000 in
set_option maxRecDepth 100000 in
theorem c_X3_join (l : Launch) {G : zG} {ad : Nat → Nat} {n : Nat} (hA : zInj ad n) (M : zMem) (p0 : Int32) (p1 : Int32) (p2 : Int32) {r9 : Int32} {M9 : zMem} (hF : F_X3_join M p0 p1 p2 = some (r9, M9)) : zM l yX3_join cX3_join 3 (some .int) rm_X3_join G shX ad n M [.int p0, .int p1, .int p2] (some (.int r9)) M9 := by
  refine zM_of hA (by decide +kernel) (lv := [(0, .int p0), (1, .int p1), (2, .int p2)]) (Nat.le_of_ble_eq_true rfl) rfl (fun p e s m args below meth c A cx hr => ?_)
  have hb82 : ∀ (b82_L1 : Int32) (b82_L2 : Int32) (M : zMem), F_X3_join_82 p0 p1 p2 b82_L1 b82_L2 M = some (r9, M9) → zJ p l e rm_X3_join s m args below meth c G shX ad n A 3 (MQ below (zQ G shX ad n M9 (some (.int r9)) A) args s 0 0 A) 0 0 M 82 [(1, .int b82_L1), (2, .int b82_L2)] [] := by
    intro b82_L1 b82_L2 M hF
    unfold F_X3_join_82 at hF
    refine z_iload_n cx d_X3_join_82 0 rfl ?_
    refine z_iload_n cx d_X3_join_83 1 rfl ?_
    refine z_mmax cx ⟨wd_948, wd_605, wd_116, wd_606⟩ ⟨Nat.le_of_ble_eq_true rfl, Nat.le_of_ble_eq_true rfl, Nat.le_of_ble_eq_true rfl, Nat.le_of_ble_eq_true rfl⟩ d_X3_join_84 ?_
    exact z_iret cx hr rfl hF d_X3_join_87
  have hb76 : ∀ (b76_L1 : Int32) (b76_L2 : Int32) (M : zMem), F_X3_join_76 p0 p1 p2 b76_L1 b76_L2 M = some (r9, M9) → zJ p l e rm_X3_join s m args below meth c G shX ad n A 3 (MQ below (zQ G shX ad n M9 (some (.int r9)) A) args s 0 0 A) 0 0 M 76 [(1, .int b76_L1), (2, .int b76_L2)] [] := by
    intro b76_L1 b76_L2 M hF
    unfold F_X3_join_76 at hF
    refine z_iload_n cx d_X3_join_76 0 rfl ?_
    refine z_iload_n cx d_X3_join_77 1 rfl ?_
    refine z_mmin cx ⟨wd_947, wd_602, wd_116, wd_603⟩ ⟨Nat.le_of_ble_eq_true rfl, Nat.le_of_ble_eq_true rfl, Nat.le_of_ble_eq_true rfl, Nat.le_of_ble_eq_true rfl⟩ d_X3_join_78 ?_
    exact z_iret cx hr rfl hF d_X3_join_81
  have hb64 : ∀ (b64_L1 : Int32) (b64_L2 : Int32) (M : zMem), F_X3_join_64 p0 p1 p2 b64_L1 b64_L2 M = some (r9, M9) → zJ p l e rm_X3_join s m args below meth c G shX ad n A 3 (MQ below (zQ G shX ad n M9 (some (.int r9)) A) args s 0 0 A) 0 0 M 64 [(1, .int b64_L1), (2, .int b64_L2)] [] := by
    intro b64_L1 b64_L2 M hF
    unfold F_X3_join_64 at hF
    refine z_iload_n cx d_X3_join_64 1 rfl ?_
    refine z_if_ne cx 72 d_X3_join_65 (by decide) hF (fun hF => ?_) (fun hF => ?_)
    · refine z_iload_n cx d_X3_join_72 0 rfl ?_
      refine z_iload_n cx d_X3_join_73 1 rfl ?_
      obtain ⟨hz1, hF⟩ := gd_inv hF
      refine z_irem cx d_X3_join_74 (zne hz1) ?_
      exact z_iret cx hr rfl hF d_X3_join_75
    refine z_iconst (v := 0) cx d_X3_join_68 ki_0 ?_
    refine z_goto cx 75 d_X3_join_69 (by decide) ?_
    exact z_iret cx hr rfl hF d_X3_join_75
  have hb52 : ∀ (b52_L1 : Int32) (b52_L2 : Int32) (M : zMem), F_X3_join_52 p0 p1 p2 b52_L1 b52_L2 M = some (r9, M9) → zJ p l e rm_X3_join s m args below meth c G shX ad n A 3 (MQ below (zQ G shX ad n M9 (some (.int r9)) A) args s 0 0 A) 0 0 M 52 [(1, .int b52_L1), (2, .int b52_L2)] [] := by
    intro b52_L1 b52_L2 M hF
    unfold F_X3_join_52 at hF
    refine z_iload_n cx d_X3_join_52 1 rfl ?_
    refine z_if_ne cx 60 d_X3_join_53 (by decide) hF (fun hF => ?_) (fun hF => ?_)
    · refine z_iload_n cx d_X3_join_60 0 rfl ?_
      refine z_iload_n cx d_X3_join_61 1 rfl ?_
      obtain ⟨hz2, hF⟩ := gd_inv hF
      refine z_idiv cx d_X3_join_62 (zne hz2) ?_
      exact z_iret cx hr rfl hF d_X3_join_63
    refine z_iconst (v := 0) cx d_X3_join_56 ki_0 ?_
    refine z_goto cx 63 d_X3_join_57 (by decide) ?_
    exact z_iret cx hr rfl hF d_X3_join_63
  have hb48 : ∀ (b48_L1 : Int32) (b48_L2 : Int32) (M : zMem), F_X3_join_48 p0 p1 p2 b48_L1 b48_L2 M = some (r9, M9) → zJ p l e rm_X3_join s m args below meth c G shX ad n A 3 (MQ below (zQ G shX ad n M9 (some (.int r9)) A) args s 0 0 A) 0 0 M 48 [(1, .int b48_L1), (2, .int b48_L2)] [] := by
    intro b48_L1 b48_L2 M hF
    unfold F_X3_join_48 at hF
    refine z_iload_n cx d_X3_join_48 0 rfl ?_
    refine z_iload_n cx d_X3_join_49 1 rfl ?_
    refine z_imul cx d_X3_join_50 ?_
    exact z_iret cx hr rfl hF d_X3_join_51
  have hb44 : ∀ (b44_L1 : Int32) (b44_L2 : Int32) (M : zMem), F_X3_join_44 p0 p1 p2 b44_L1 b44_L2 M = some (r9, M9) → zJ p l e rm_X3_join s m args below meth c G shX ad n A 3 (MQ below (zQ G shX ad n M9 (some (.int r9)) A) args s 0 0 A) 0 0 M 44 [(1, .int b44_L1), (2, .int b44_L2)] [] := by
    intro b44_L1 b44_L2 M hF
    unfold F_X3_join_44 at hF
    refine z_iload_n cx d_X3_join_44 0 rfl ?_
    refine z_iload_n cx d_X3_join_45 1 rfl ?_
    refine z_isub cx d_X3_join_46 ?_
    exact z_iret cx hr rfl hF d_X3_join_47
  have hb40 : ∀ (b40_L1 : Int32) (b40_L2 : Int32) (M : zMem), F_X3_join_40 p0 p1 p2 b40_L1 b40_L2 M = some (r9, M9) → zJ p l e rm_X3_join s m args below meth c G shX ad n A 3 (MQ below (zQ G shX ad n M9 (some (.int r9)) A) args s 0 0 A) 0 0 M 40 [(1, .int b40_L1), (2, .int b40_L2)] [] := by
    intro b40_L1 b40_L2 M hF
    unfold F_X3_join_40 at hF
    refine z_iload_n cx d_X3_join_40 0 rfl ?_
    refine z_iload_n cx d_X3_join_41 1 rfl ?_
    refine z_iadd cx d_X3_join_42 ?_
    exact z_iret cx hr rfl hF d_X3_join_43
  unfold F_X3_join at hF
  refine z_iload_n cx d_X3_join_0 0 rfl ?_
  by_cases q0 : p0 = 1008
  · rw [if_pos q0] at hF
    refine z_tabIn cx 40 d_X3_join_1 (by rw [q0]; decide +kernel) (by rw [q0]; decide +kernel) (by rw [q0]; rfl) (by decide) ?_
    exact z_lv [1, 2] _ rfl (hb40 p1 p2 M hF)
  rw [if_neg q0] at hF
  by_cases q1 : p0 = 1009
  · rw [if_pos q1] at hF
    refine z_tabIn cx 44 d_X3_join_1 (by rw [q1]; decide +kernel) (by rw [q1]; decide +kernel) (by rw [q1]; rfl) (by decide) ?_
    exact z_lv [1, 2] _ rfl (hb44 p1 p2 M hF)
  rw [if_neg q1] at hF
  by_cases q2 : p0 = 1010
  · rw [if_pos q2] at hF
    refine z_tabIn cx 48 d_X3_join_1 (by rw [q2]; decide +kernel) (by rw [q2]; decide +kernel) (by rw [q2]; rfl) (by decide) ?_
    exact z_lv [1, 2] _ rfl (hb48 p1 p2 M hF)
  rw [if_neg q2] at hF
  by_cases q3 : p0 = 1011
  · rw [if_pos q3] at hF
    refine z_tabIn cx 52 d_X3_join_1 (by rw [q3]; decide +kernel) (by rw [q3]; decide +kernel) (by rw [q3]; rfl) (by decide) ?_
    exact z_lv [1, 2] _ rfl (hb52 p1 p2 M hF)
  rw [if_neg q3] at hF
  by_cases q4 : p0 = 1012
  · rw [if_pos q4] at hF
    refine z_tabIn cx 64 d_X3_join_1 (by rw [q4]; decide +kernel) (by rw [q4]; decide +kernel) (by rw [q4]; rfl) (by decide) ?_
    exact z_lv [1, 2] _ rfl (hb64 p1 p2 M hF)
  rw [if_neg q4] at hF
  by_cases q5 : p0 = 1013
  · rw [if_pos q5] at hF
    refine z_tabIn cx 76 d_X3_join_1 (by rw [q5]; decide +kernel) (by rw [q5]; decide +kernel) (by rw [q5]; rfl) (by decide) ?_
    exact z_lv [1, 2] _ rfl (hb76 p1 p2 M hF)
  rw [if_neg q5] at hF
  refine z_tabOut cx 82 d_X3_join_1 (by have w0 := lv_neT q0 (a := 1008) (by decide +kernel); have w1 := lv_neT q1 (a := 1009) (by decide +kernel); have w2 := lv_neT q2 (a := 1010) (by decide +kernel); have w3 := lv_neT q3 (a := 1011) (by decide +kernel); have w4 := lv_neT q4 (a := 1012) (by decide +kernel); have w5 := lv_neT q5 (a := 1013) (by decide +kernel); omega) (by decide) ?_
  exact z_lv [1, 2] _ rfl (hb82 p1 p2 M hF)
/-! SunnyPans$Law.rate -/
theorem tfX_4_3 {n k : Nat} (h : zT shX n k 4) : zT shX n (k + 3) 26 := zT_off h (shX_f (by decide) (by decide +kernel)) (by decide) (by decide)
theorem tfX_4_2 {n k : Nat} (h : zT shX n k 4) : zT shX n (k + 2) 21 := zT_off h (shX_f (by decide) (by decide +kernel)) (by decide) (by decide)
set_option maxRecDepth 100000 in
theorem wd_374 : Cond.fieldLink "SunnyPans$Law" 15 "SunnyPans$Law" "stack" "[I" ∈ tbG := tw2 34 rfl rfl
theorem fg_Law_15 : zGetR "SunnyPans$Law" 15 3 4 1 2 := ⟨RX3, TX3, 4, rfl, by decide, uw_3, wd_374, fun _ _ _ _ _ _ => ⟨_, rfl, rfl⟩⟩
set_option maxRecDepth 100000 in
theorem wd_375 : Cond.fieldLink "SunnyPans$Law" 18 "SunnyPans$Law" "named" "[I" ∈ tbG := tw2 35 rfl rfl
theorem fg_Law_18 : zGetR "SunnyPans$Law" 18 3 4 2 3 := ⟨RX3, TX3, 4, rfl, by decide, uw_3, wd_375, fun _ _ _ _ _ _ => ⟨_, rfl, rfl⟩⟩
set_option maxRecDepth 100000 in
theorem wd_946 : Cond.code yX3_join cX3_join 3 (some .int) ∈ tbG := tw4 126 rfl rfl
set_option maxRecDepth 100000 in
theorem wd_944 : Cond.methodLink "SunnyPans$Law" 113 yX3_join ∈ tbG := tw4 124 rfl rfl
set_option maxRecDepth 100000 in
theorem wd_945 : Cond.static yX3_join ∈ tbG := tw4 125 rfl rfl
theorem cs_Law_113 : zCS "SunnyPans$Law" 113 yX3_join cX3_join 3 (some .int) 3 := zCS_of wd_944 wd_945 wd_109 wd_946 (by decide +kernel)
theorem d_X3_rate_0 : decode cX3_rate 0 = .ok (.aload_n 0, 1) := by decide +kernel
theorem d_X3_rate_1 : decode cX3_rate 1 = .ok (.getfield 18, 3) := by decide +kernel
theorem d_X3_rate_4 : decode cX3_rate 4 = .ok (.iconst 0, 1) := by decide +kernel
theorem d_X3_rate_5 : decode cX3_rate 5 = .ok (.iload_n 1, 1) := by decide +kernel
theorem d_X3_rate_6 : decode cX3_rate 6 = .ok (.iastore, 1) := by decide +kernel
theorem d_X3_rate_7 : decode cX3_rate 7 = .ok (.aload_n 0, 1) := by decide +kernel
theorem d_X3_rate_8 : decode cX3_rate 8 = .ok (.getfield 18, 3) := by decide +kernel
theorem d_X3_rate_11 : decode cX3_rate 11 = .ok (.iconst 1, 1) := by decide +kernel
theorem d_X3_rate_12 : decode cX3_rate 12 = .ok (.iload_n 2, 1) := by decide +kernel
theorem d_X3_rate_13 : decode cX3_rate 13 = .ok (.iastore, 1) := by decide +kernel
theorem d_X3_rate_14 : decode cX3_rate 14 = .ok (.aload_n 0, 1) := by decide +kernel
theorem d_X3_rate_15 : decode cX3_rate 15 = .ok (.getfield 18, 3) := by decide +kernel
theorem d_X3_rate_18 : decode cX3_rate 18 = .ok (.iconst 2, 1) := by decide +kernel
theorem d_X3_rate_19 : decode cX3_rate 19 = .ok (.iload_n 3, 1) := by decide +kernel
theorem d_X3_rate_20 : decode cX3_rate 20 = .ok (.iastore, 1) := by decide +kernel
theorem d_X3_rate_21 : decode cX3_rate 21 = .ok (.aload_n 0, 1) := by decide +kernel
theorem d_X3_rate_22 : decode cX3_rate 22 = .ok (.getfield 18, 3) := by decide +kernel
theorem d_X3_rate_25 : decode cX3_rate 25 = .ok (.iconst 3, 1) := by decide +kernel
theorem d_X3_rate_26 : decode cX3_rate 26 = .ok (.iload 4, 2) := by decide +kernel
theorem d_X3_rate_28 : decode cX3_rate 28 = .ok (.iastore, 1) := by decide +kernel
theorem d_X3_rate_29 : decode cX3_rate 29 = .ok (.aload_n 0, 1) := by decide +kernel
theorem d_X3_rate_30 : decode cX3_rate 30 = .ok (.getfield 18, 3) := by decide +kernel
theorem d_X3_rate_33 : decode cX3_rate 33 = .ok (.iconst 4, 1) := by decide +kernel
theorem d_X3_rate_34 : decode cX3_rate 34 = .ok (.iload 5, 2) := by decide +kernel
theorem d_X3_rate_36 : decode cX3_rate 36 = .ok (.iastore, 1) := by decide +kernel
theorem d_X3_rate_37 : decode cX3_rate 37 = .ok (.aload_n 0, 1) := by decide +kernel
theorem d_X3_rate_38 : decode cX3_rate 38 = .ok (.getfield 18, 3) := by decide +kernel
theorem d_X3_rate_41 : decode cX3_rate 41 = .ok (.iconst 5, 1) := by decide +kernel
theorem d_X3_rate_42 : decode cX3_rate 42 = .ok (.iload 6, 2) := by decide +kernel
theorem d_X3_rate_44 : decode cX3_rate 44 = .ok (.iastore, 1) := by decide +kernel
theorem d_X3_rate_45 : decode cX3_rate 45 = .ok (.aload_n 0, 1) := by decide +kernel
theorem d_X3_rate_46 : decode cX3_rate 46 = .ok (.getfield 18, 3) := by decide +kernel
theorem d_X3_rate_49 : decode cX3_rate 49 = .ok (.bipush 6, 2) := by decide +kernel
theorem d_X3_rate_51 : decode cX3_rate 51 = .ok (.iload 7, 2) := by decide +kernel
theorem d_X3_rate_53 : decode cX3_rate 53 = .ok (.bipush 8, 2) := by decide +kernel
theorem d_X3_rate_55 : decode cX3_rate 55 = .ok (.irem, 1) := by decide +kernel
theorem d_X3_rate_56 : decode cX3_rate 56 = .ok (.iastore, 1) := by decide +kernel
theorem d_X3_rate_57 : decode cX3_rate 57 = .ok (.aload_n 0, 1) := by decide +kernel
theorem d_X3_rate_58 : decode cX3_rate 58 = .ok (.getfield 18, 3) := by decide +kernel
theorem d_X3_rate_61 : decode cX3_rate 61 = .ok (.bipush 7, 2) := by decide +kernel
theorem d_X3_rate_63 : decode cX3_rate 63 = .ok (.iload 7, 2) := by decide +kernel
theorem d_X3_rate_65 : decode cX3_rate 65 = .ok (.bipush 8, 2) := by decide +kernel
theorem d_X3_rate_67 : decode cX3_rate 67 = .ok (.idiv, 1) := by decide +kernel
theorem d_X3_rate_68 : decode cX3_rate 68 = .ok (.iastore, 1) := by decide +kernel
theorem d_X3_rate_69 : decode cX3_rate 69 = .ok (.iconst 0, 1) := by decide +kernel
theorem d_X3_rate_70 : decode cX3_rate 70 = .ok (.istore 8, 2) := by decide +kernel
theorem d_X3_rate_72 : decode cX3_rate 72 = .ok (.iconst 0, 1) := by decide +kernel
theorem d_X3_rate_73 : decode cX3_rate 73 = .ok (.istore 9, 2) := by decide +kernel
theorem d_X3_rate_75 : decode cX3_rate 75 = .ok (.iload 9, 2) := by decide +kernel
theorem d_X3_rate_77 : decode cX3_rate 77 = .ok (.aload_n 0, 1) := by decide +kernel
theorem d_X3_rate_78 : decode cX3_rate 78 = .ok (.getfield 24, 3) := by decide +kernel
theorem d_X3_rate_81 : decode cX3_rate 81 = .ok (.if_icmp .ge 130, 3) := by decide +kernel
theorem d_X3_rate_84 : decode cX3_rate 84 = .ok (.iload 9, 2) := by decide +kernel
theorem d_X3_rate_86 : decode cX3_rate 86 = .ok (.aload_n 0, 1) := by decide +kernel
theorem d_X3_rate_87 : decode cX3_rate 87 = .ok (.getfield 11, 3) := by decide +kernel
theorem d_X3_rate_90 : decode cX3_rate 90 = .ok (.arraylength, 1) := by decide +kernel
theorem d_X3_rate_91 : decode cX3_rate 91 = .ok (.if_icmp .ge 120, 3) := by decide +kernel
theorem d_X3_rate_94 : decode cX3_rate 94 = .ok (.aload_n 0, 1) := by decide +kernel
theorem d_X3_rate_95 : decode cX3_rate 95 = .ok (.getfield 11, 3) := by decide +kernel
theorem d_X3_rate_98 : decode cX3_rate 98 = .ok (.iload 9, 2) := by decide +kernel
theorem d_X3_rate_100 : decode cX3_rate 100 = .ok (.iaload, 1) := by decide +kernel
theorem d_X3_rate_101 : decode cX3_rate 101 = .ok (.istore 10, 2) := by decide +kernel
theorem d_X3_rate_103 : decode cX3_rate 103 = .ok (.iload 10, 2) := by decide +kernel
theorem d_X3_rate_105 : decode cX3_rate 105 = .ok (.sipush 1008, 3) := by decide +kernel
theorem d_X3_rate_108 : decode cX3_rate 108 = .ok (.if_icmp .lt 45, 3) := by decide +kernel
theorem d_X3_rate_111 : decode cX3_rate 111 = .ok (.iload 8, 2) := by decide +kernel
theorem d_X3_rate_113 : decode cX3_rate 113 = .ok (.iconst 2, 1) := by decide +kernel
theorem d_X3_rate_114 : decode cX3_rate 114 = .ok (.if_icmp .lt 39, 3) := by decide +kernel
theorem d_X3_rate_117 : decode cX3_rate 117 = .ok (.iinc 8 (-1), 3) := by decide +kernel
theorem d_X3_rate_120 : decode cX3_rate 120 = .ok (.aload_n 0, 1) := by decide +kernel
theorem d_X3_rate_121 : decode cX3_rate 121 = .ok (.getfield 15, 3) := by decide +kernel
theorem d_X3_rate_124 : decode cX3_rate 124 = .ok (.iload 8, 2) := by decide +kernel
theorem d_X3_rate_126 : decode cX3_rate 126 = .ok (.iconst 1, 1) := by decide +kernel
theorem d_X3_rate_127 : decode cX3_rate 127 = .ok (.isub, 1) := by decide +kernel
theorem d_X3_rate_128 : decode cX3_rate 128 = .ok (.iload 10, 2) := by decide +kernel
theorem d_X3_rate_130 : decode cX3_rate 130 = .ok (.aload_n 0, 1) := by decide +kernel
theorem d_X3_rate_131 : decode cX3_rate 131 = .ok (.getfield 15, 3) := by decide +kernel
theorem d_X3_rate_134 : decode cX3_rate 134 = .ok (.iload 8, 2) := by decide +kernel
theorem d_X3_rate_136 : decode cX3_rate 136 = .ok (.iconst 1, 1) := by decide +kernel
theorem d_X3_rate_137 : decode cX3_rate 137 = .ok (.isub, 1) := by decide +kernel
theorem d_X3_rate_138 : decode cX3_rate 138 = .ok (.iaload, 1) := by decide +kernel
theorem d_X3_rate_139 : decode cX3_rate 139 = .ok (.aload_n 0, 1) := by decide +kernel
theorem d_X3_rate_140 : decode cX3_rate 140 = .ok (.getfield 15, 3) := by decide +kernel
theorem d_X3_rate_143 : decode cX3_rate 143 = .ok (.iload 8, 2) := by decide +kernel
theorem d_X3_rate_145 : decode cX3_rate 145 = .ok (.iaload, 1) := by decide +kernel
theorem d_X3_rate_146 : decode cX3_rate 146 = .ok (.invokestatic 113, 3) := by decide +kernel
theorem d_X3_rate_149 : decode cX3_rate 149 = .ok (.iastore, 1) := by decide +kernel
theorem d_X3_rate_150 : decode cX3_rate 150 = .ok (.goto 55, 3) := by decide +kernel
theorem d_X3_rate_153 : decode cX3_rate 153 = .ok (.iload 10, 2) := by decide +kernel
theorem d_X3_rate_155 : decode cX3_rate 155 = .ok (.sipush 1008, 3) := by decide +kernel
theorem d_X3_rate_158 : decode cX3_rate 158 = .ok (.if_icmp .ge 47, 3) := by decide +kernel
theorem d_X3_rate_161 : decode cX3_rate 161 = .ok (.iload 8, 2) := by decide +kernel
theorem d_X3_rate_163 : decode cX3_rate 163 = .ok (.aload_n 0, 1) := by decide +kernel
theorem d_X3_rate_164 : decode cX3_rate 164 = .ok (.getfield 15, 3) := by decide +kernel
theorem d_X3_rate_167 : decode cX3_rate 167 = .ok (.arraylength, 1) := by decide +kernel
theorem d_X3_rate_168 : decode cX3_rate 168 = .ok (.if_icmp .ge 37, 3) := by decide +kernel
theorem d_X3_rate_171 : decode cX3_rate 171 = .ok (.aload_n 0, 1) := by decide +kernel
theorem d_X3_rate_172 : decode cX3_rate 172 = .ok (.getfield 15, 3) := by decide +kernel
theorem d_X3_rate_175 : decode cX3_rate 175 = .ok (.iload 8, 2) := by decide +kernel
theorem d_X3_rate_177 : decode cX3_rate 177 = .ok (.iload 10, 2) := by decide +kernel
theorem d_X3_rate_179 : decode cX3_rate 179 = .ok (.sipush 1000, 3) := by decide +kernel
theorem d_X3_rate_182 : decode cX3_rate 182 = .ok (.if_icmp .lt 17, 3) := by decide +kernel
theorem d_X3_rate_185 : decode cX3_rate 185 = .ok (.aload_n 0, 1) := by decide +kernel
theorem d_X3_rate_186 : decode cX3_rate 186 = .ok (.getfield 18, 3) := by decide +kernel
theorem d_X3_rate_189 : decode cX3_rate 189 = .ok (.iload 10, 2) := by decide +kernel
theorem d_X3_rate_191 : decode cX3_rate 191 = .ok (.sipush 1000, 3) := by decide +kernel
theorem d_X3_rate_194 : decode cX3_rate 194 = .ok (.isub, 1) := by decide +kernel
theorem d_X3_rate_195 : decode cX3_rate 195 = .ok (.iaload, 1) := by decide +kernel
theorem d_X3_rate_196 : decode cX3_rate 196 = .ok (.goto 5, 3) := by decide +kernel
theorem d_X3_rate_199 : decode cX3_rate 199 = .ok (.iload 10, 2) := by decide +kernel
theorem d_X3_rate_201 : decode cX3_rate 201 = .ok (.iastore, 1) := by decide +kernel
theorem d_X3_rate_202 : decode cX3_rate 202 = .ok (.iinc 8 1, 3) := by decide +kernel
theorem d_X3_rate_205 : decode cX3_rate 205 = .ok (.iinc 9 1, 3) := by decide +kernel
theorem d_X3_rate_208 : decode cX3_rate 208 = .ok (.goto (-133), 3) := by decide +kernel
theorem d_X3_rate_211 : decode cX3_rate 211 = .ok (.iconst 0, 1) := by decide +kernel
theorem d_X3_rate_212 : decode cX3_rate 212 = .ok (.bipush 99, 2) := by decide +kernel
theorem d_X3_rate_214 : decode cX3_rate 214 = .ok (.aload_n 0, 1) := by decide +kernel
theorem d_X3_rate_215 : decode cX3_rate 215 = .ok (.getfield 15, 3) := by decide +kernel
theorem d_X3_rate_218 : decode cX3_rate 218 = .ok (.iconst 0, 1) := by decide +kernel
theorem d_X3_rate_219 : decode cX3_rate 219 = .ok (.iaload, 1) := by decide +kernel
theorem d_X3_rate_220 : decode cX3_rate 220 = .ok (.invokestatic 117, 3) := by decide +kernel
theorem d_X3_rate_223 : decode cX3_rate 223 = .ok (.invokestatic 122, 3) := by decide +kernel
theorem d_X3_rate_226 : decode cX3_rate 226 = .ok (.ireturn, 1) := by decide +kernel
noncomputable def F_X3_rate_211 (t : Nat) (p0 : Int32) (p1 : Int32) (p2 : Int32) (p3 : Int32) (p4 : Int32) (p5 : Int32) (p6 : Int32) (M : zMem) : Option (Int32 × zMem) :=
  some ((zmax (0 : Int32) (zmin (99 : Int32) (M.1 (t + 2) 0))), M)
noncomputable def F_X3_rate_205 (t : Nat) (p0 : Int32) (p1 : Int32) (p2 : Int32) (p3 : Int32) (p4 : Int32) (p5 : Int32) (p6 : Int32) (self75 : Int32 → Int32 → zMem → Option (Int32 × zMem)) (b205_L8 : Int32) (b205_L9 : Int32) (M : zMem) : Option (Int32 × zMem) :=
  self75 b205_L8 (b205_L9 + 1) M
noncomputable def F_X3_rate_201 (t : Nat) (p0 : Int32) (p1 : Int32) (p2 : Int32) (p3 : Int32) (p4 : Int32) (p5 : Int32) (p6 : Int32) (self75 : Int32 → Int32 → zMem → Option (Int32 × zMem)) (b201_L8 : Int32) (b201_L9 : Int32) (b201_S1 : Int32) (b201_S2 : Int32) (M : zMem) : Option (Int32 × zMem) :=
  gin b201_S1 150 <|
  zl (zI M (t + 2) b201_S1.toNatClampNeg b201_S2) fun M2 =>
  F_X3_rate_205 t p0 p1 p2 p3 p4 p5 p6 self75 (b201_L8 + 1) b201_L9 M2
noncomputable def F_X3_rate_153 (t : Nat) (p0 : Int32) (p1 : Int32) (p2 : Int32) (p3 : Int32) (p4 : Int32) (p5 : Int32) (p6 : Int32) (self75 : Int32 → Int32 → zMem → Option (Int32 × zMem)) (b153_L8 : Int32) (b153_L9 : Int32) (b153_L10 : Int32) (M : zMem) : Option (Int32 × zMem) :=
  if (1008 : Int32) ≤ b153_L10 then
    F_X3_rate_205 t p0 p1 p2 p3 p4 p5 p6 self75 b153_L8 b153_L9 M
  else
    if (nI 150) ≤ b153_L8 then
      F_X3_rate_205 t p0 p1 p2 p3 p4 p5 p6 self75 b153_L8 b153_L9 M
    else
      if b153_L10 < (1000 : Int32) then
        F_X3_rate_201 t p0 p1 p2 p3 p4 p5 p6 self75 b153_L8 b153_L9 b153_L8 b153_L10 M
      else
        gin (b153_L10 - (1000 : Int32)) 8 <|
        F_X3_rate_201 t p0 p1 p2 p3 p4 p5 p6 self75 b153_L8 b153_L9 b153_L8 (M.1 (t + 3) (b153_L10 - (1000 : Int32)).toNatClampNeg) M
noncomputable def F_X3_rate_75 (t : Nat) (p0 : Int32) (p1 : Int32) (p2 : Int32) (p3 : Int32) (p4 : Int32) (p5 : Int32) (p6 : Int32) (self75 : Int32 → Int32 → zMem → Option (Int32 × zMem)) (b75_L8 : Int32) (b75_L9 : Int32) (M : zMem) : Option (Int32 × zMem) :=
  if (M.1 t 3) ≤ b75_L9 then
    F_X3_rate_211 t p0 p1 p2 p3 p4 p5 p6 M
  else
    if (nI 150) ≤ b75_L9 then
      F_X3_rate_211 t p0 p1 p2 p3 p4 p5 p6 M
    else
      gin b75_L9 150 <|
      zl (M.1 (t + 1) b75_L9.toNatClampNeg) fun v5 =>
      if v5 < (1008 : Int32) then
        F_X3_rate_153 t p0 p1 p2 p3 p4 p5 p6 self75 b75_L8 b75_L9 v5 M
      else
        if b75_L8 < (2 : Int32) then
          F_X3_rate_153 t p0 p1 p2 p3 p4 p5 p6 self75 b75_L8 b75_L9 v5 M
        else
          gin ((b75_L8 + (-1)) - (1 : Int32)) 150 <|
          gin (b75_L8 + (-1)) 150 <|
          zb (F_X3_join M v5 (M.1 (t + 2) ((b75_L8 + (-1)) - (1 : Int32)).toNatClampNeg) (M.1 (t + 2) (b75_L8 + (-1)).toNatClampNeg)) fun v9 M8 =>
          zl (zI M8 (t + 2) (((b75_L8 + (-1)) - (1 : Int32)).toNatClampNeg) v9) fun M10 =>
          F_X3_rate_205 t p0 p1 p2 p3 p4 p5 p6 self75 (b75_L8 + (-1)) b75_L9 M10
noncomputable def F_X3_rate (M : zMem) (t : Nat) (p0 : Int32) (p1 : Int32) (p2 : Int32) (p3 : Int32) (p4 : Int32) (p5 : Int32) (p6 : Int32) : Option (Int32 × zMem) :=
  zl (zI M (t + 3) 0 p0) fun M11 =>
  zl (zI M11 (t + 3) 1 p1) fun M12 =>
  zl (zI M12 (t + 3) 2 p2) fun M13 =>
  zl (zI M13 (t + 3) 3 p3) fun M14 =>
  zl (zI M14 (t + 3) 4 p4) fun M15 =>
  zl (zI M15 (t + 3) 5 p5) fun M16 =>
  zl (zI M16 (t + 3) 6 (p6 - p6 / (8 : Int32) * (8 : Int32))) fun M17 =>
  zl (zI M17 (t + 3) 7 (p6 / (8 : Int32))) fun M18 =>
  itF (fun _ _ _ => none) (F_X3_rate_75 t p0 p1 p2 p3 p4 p5 p6) zFuel (0 : Int32) (0 : Int32) M18
def rm_X3_rate : Room := { frames := 4, cells := 0, slots := 0, locals := 102 }
set_option maxHeartbeats 4000000 in
set_option maxRecDepth 100000 in
theorem c_X3_rate (l : Launch) {G : zG} {ad : Nat → Nat} {n : Nat} (hA : zInj ad n) (M : zMem) (t : Nat) (p0 : Int32) (p1 : Int32) (p2 : Int32) (p3 : Int32) (p4 : Int32) (p5 : Int32) (p6 : Int32) (hT_t : zT shX n t 4) {r9 : Int32} {M9 : zMem} (hF : F_X3_rate M t p0 p1 p2 p3 p4 p5 p6 = some (r9, M9)) : zM l yX3_rate cX3_rate 11 (some .int) rm_X3_rate G shX ad n M [.ref (ad t), .int p0, .int p1, .int p2, .int p3, .int p4, .int p5, .int p6] (some (.int r9)) M9 := by
  refine zM_of hA (by decide +kernel) (lv := [(0, .ref (ad t)), (1, .int p0), (2, .int p1), (3, .int p2), (4, .int p3), (5, .int p4), (6, .int p5), (7, .int p6)]) (Nat.le_of_ble_eq_true rfl) rfl (fun p e s m args below meth c A cx hr => ?_)
  have hb211 : ∀ (M : zMem), F_X3_rate_211 t p0 p1 p2 p3 p4 p5 p6 M = some (r9, M9) → zJ p l e rm_X3_rate s m args below meth c G shX ad n A 11 (MQ below (zQ G shX ad n M9 (some (.int r9)) A) args s 0 0 A) 0 0 M 211 [(0, .ref (ad t))] [] := by
    intro M hF
    unfold F_X3_rate_211 at hF
    refine z_iconst (v := 0) cx d_X3_rate_211 ki_0 ?_
    refine z_bipush (v := 99) cx d_X3_rate_212 kb_99 ?_
    refine z_aload_n cx d_X3_rate_214 0 rfl ?_
    refine z_getR cx hT_t fg_Law_15 (t + 2) rfl d_X3_rate_215 ?_
    refine z_iconst (v := 0) cx d_X3_rate_218 ki_0 ?_
    refine z_iald cx (tfX_4_2 hT_t) za_21 (zvp (by decide +kernel)) 0 rfl d_X3_rate_219 ?_
    refine z_mmin cx ⟨wd_947, wd_602, wd_116, wd_603⟩ ⟨Nat.le_of_ble_eq_true rfl, Nat.le_of_ble_eq_true rfl, Nat.le_of_ble_eq_true rfl, Nat.le_of_ble_eq_true rfl⟩ d_X3_rate_220 ?_
    refine z_mmax cx ⟨wd_948, wd_605, wd_116, wd_606⟩ ⟨Nat.le_of_ble_eq_true rfl, Nat.le_of_ble_eq_true rfl, Nat.le_of_ble_eq_true rfl, Nat.le_of_ble_eq_true rfl⟩ d_X3_rate_223 ?_
    exact z_iret cx hr rfl hF d_X3_rate_226
  have hb205 : ∀ (self75 : Int32 → Int32 → zMem → Option (Int32 × zMem)) (hs75 : ∀ (b75_L8 : Int32) (b75_L9 : Int32) (M : zMem), self75 b75_L8 b75_L9 M = some (r9, M9) → zJ p l e rm_X3_rate s m args below meth c G shX ad n A 11 (MQ below (zQ G shX ad n M9 (some (.int r9)) A) args s 0 0 A) 0 0 M 75 [(0, .ref (ad t)), (8, .int b75_L8), (9, .int b75_L9)] []), ∀ (b205_L8 : Int32) (b205_L9 : Int32) (M : zMem), F_X3_rate_205 t p0 p1 p2 p3 p4 p5 p6 self75 b205_L8 b205_L9 M = some (r9, M9) → zJ p l e rm_X3_rate s m args below meth c G shX ad n A 11 (MQ below (zQ G shX ad n M9 (some (.int r9)) A) args s 0 0 A) 0 0 M 205 [(0, .ref (ad t)), (8, .int b205_L8), (9, .int b205_L9)] [] := by
    intro self75 hs75 b205_L8 b205_L9 M hF
    unfold F_X3_rate_205 at hF
    refine z_iinc cx 9 1 [(9, .int (b205_L9 + 1)), (0, .ref (ad t)), (8, .int b205_L8)] d_X3_rate_205 2 rfl ki_1 (by decide) rfl ?_
    refine z_goto cx 75 d_X3_rate_208 (by decide) ?_
    exact z_lv [1, 2, 0] _ rfl (hs75 b205_L8 (b205_L9 + 1) M hF)
  have hb201 : ∀ (self75 : Int32 → Int32 → zMem → Option (Int32 × zMem)) (hs75 : ∀ (b75_L8 : Int32) (b75_L9 : Int32) (M : zMem), self75 b75_L8 b75_L9 M = some (r9, M9) → zJ p l e rm_X3_rate s m args below meth c G shX ad n A 11 (MQ below (zQ G shX ad n M9 (some (.int r9)) A) args s 0 0 A) 0 0 M 75 [(0, .ref (ad t)), (8, .int b75_L8), (9, .int b75_L9)] []), ∀ (b201_L8 : Int32) (b201_L9 : Int32) (b201_S1 : Int32) (b201_S2 : Int32) (M : zMem), F_X3_rate_201 t p0 p1 p2 p3 p4 p5 p6 self75 b201_L8 b201_L9 b201_S1 b201_S2 M = some (r9, M9) → zJ p l e rm_X3_rate s m args below meth c G shX ad n A 11 (MQ below (zQ G shX ad n M9 (some (.int r9)) A) args s 0 0 A) 0 0 M 201 [(0, .ref (ad t)), (8, .int b201_L8), (9, .int b201_L9)] [.int b201_S2, .int b201_S1, .ref (ad (t + 2))] := by
    intro self75 hs75 b201_L8 b201_L9 b201_S1 b201_S2 M hF
    unfold F_X3_rate_201 at hF
    obtain ⟨hi1, hF⟩ := gin_inv hF
    refine z_iast cx (tfX_4_2 hT_t) za_21 hi1 b201_S1.toNatClampNeg rfl d_X3_rate_201 ?_
    refine z_nmM hF (fun M2 hF => ?_)
    refine z_iinc cx 8 1 [(8, .int (b201_L8 + 1)), (0, .ref (ad t)), (9, .int b201_L9)] d_X3_rate_202 1 rfl ki_1 (by decide) rfl ?_
    exact z_lv [1, 0, 2] _ rfl (hb205 self75 hs75 (b201_L8 + 1) b201_L9 M2 hF)
  have hb153 : ∀ (self75 : Int32 → Int32 → zMem → Option (Int32 × zMem)) (hs75 : ∀ (b75_L8 : Int32) (b75_L9 : Int32) (M : zMem), self75 b75_L8 b75_L9 M = some (r9, M9) → zJ p l e rm_X3_rate s m args below meth c G shX ad n A 11 (MQ below (zQ G shX ad n M9 (some (.int r9)) A) args s 0 0 A) 0 0 M 75 [(0, .ref (ad t)), (8, .int b75_L8), (9, .int b75_L9)] []), ∀ (b153_L8 : Int32) (b153_L9 : Int32) (b153_L10 : Int32) (M : zMem), F_X3_rate_153 t p0 p1 p2 p3 p4 p5 p6 self75 b153_L8 b153_L9 b153_L10 M = some (r9, M9) → zJ p l e rm_X3_rate s m args below meth c G shX ad n A 11 (MQ below (zQ G shX ad n M9 (some (.int r9)) A) args s 0 0 A) 0 0 M 153 [(0, .ref (ad t)), (8, .int b153_L8), (9, .int b153_L9), (10, .int b153_L10)] [] := by
    intro self75 hs75 b153_L8 b153_L9 b153_L10 M hF
    unfold F_X3_rate_153 at hF
    refine z_iload cx d_X3_rate_153 3 rfl ?_
    refine z_sipush (v := 1008) cx d_X3_rate_155 ks_1008 ?_
    refine z_icmp_ge cx 205 d_X3_rate_158 (by decide) hF (fun hF => ?_) (fun hF => ?_)
    · exact z_lv [0, 1, 2] _ rfl (hb205 self75 hs75 b153_L8 b153_L9 M hF)
    refine z_iload cx d_X3_rate_161 1 rfl ?_
    refine z_aload_n cx d_X3_rate_163 0 rfl ?_
    refine z_getR cx hT_t fg_Law_15 (t + 2) rfl d_X3_rate_164 ?_
    refine z_alenI cx (tfX_4_2 hT_t) za_21 d_X3_rate_167 ?_
    refine z_icmp_ge cx 205 d_X3_rate_168 (by decide) hF (fun hF => ?_) (fun hF => ?_)
    · exact z_lv [0, 1, 2] _ rfl (hb205 self75 hs75 b153_L8 b153_L9 M hF)
    refine z_aload_n cx d_X3_rate_171 0 rfl ?_
    refine z_getR cx hT_t fg_Law_15 (t + 2) rfl d_X3_rate_172 ?_
    refine z_iload cx d_X3_rate_175 1 rfl ?_
    refine z_iload cx d_X3_rate_177 3 rfl ?_
    refine z_sipush (v := 1000) cx d_X3_rate_179 ks_1000 ?_
    refine z_icmp_lt cx 199 d_X3_rate_182 (by decide) hF (fun hF => ?_) (fun hF => ?_)
    · refine z_iload cx d_X3_rate_199 3 rfl ?_
      exact z_lv [0, 1, 2] _ rfl (hb201 self75 hs75 b153_L8 b153_L9 b153_L8 b153_L10 M hF)
    refine z_aload_n cx d_X3_rate_185 0 rfl ?_
    refine z_getR cx hT_t fg_Law_18 (t + 3) rfl d_X3_rate_186 ?_
    refine z_iload cx d_X3_rate_189 3 rfl ?_
    refine z_sipush (v := 1000) cx d_X3_rate_191 ks_1000 ?_
    refine z_isub cx d_X3_rate_194 ?_
    obtain ⟨hi3, hF⟩ := gin_inv hF
    refine z_iald cx (tfX_4_3 hT_t) za_26 hi3 ((b153_L10 - (1000 : Int32)).toNatClampNeg) rfl d_X3_rate_195 ?_
    refine z_goto cx 201 d_X3_rate_196 (by decide) ?_
    exact z_lv [0, 1, 2] _ rfl (hb201 self75 hs75 b153_L8 b153_L9 b153_L8 (M.1 (t + 3) (b153_L10 - (1000 : Int32)).toNatClampNeg) M hF)
  have hL75 : ∀ (fuel : Nat), ∀ (b75_L8 : Int32) (b75_L9 : Int32) (M : zMem), itF (fun _ _ _ => none) (F_X3_rate_75 t p0 p1 p2 p3 p4 p5 p6) fuel b75_L8 b75_L9 M = some (r9, M9) → zJ p l e rm_X3_rate s m args below meth c G shX ad n A 11 (MQ below (zQ G shX ad n M9 (some (.int r9)) A) args s 0 0 A) 0 0 M 75 [(0, .ref (ad t)), (8, .int b75_L8), (9, .int b75_L9)] [] := by
    intro fuel
    induction fuel with
    | zero => intro b75_L8 b75_L9 M hF; cases hF
    | succ fuel hs75 =>
      intro b75_L8 b75_L9 M hF
      have hF : F_X3_rate_75 t p0 p1 p2 p3 p4 p5 p6 (itF (fun _ _ _ => none) (F_X3_rate_75 t p0 p1 p2 p3 p4 p5 p6) fuel) b75_L8 b75_L9 M = some (r9, M9) := hF
      generalize itF (fun _ _ _ => none) (F_X3_rate_75 t p0 p1 p2 p3 p4 p5 p6) fuel = self75 at hs75 hF
      unfold F_X3_rate_75 at hF
      refine z_iload cx d_X3_rate_75 2 rfl ?_
      refine z_aload_n cx d_X3_rate_77 0 rfl ?_
      refine z_getI cx hT_t fg_Law_24 d_X3_rate_78 ?_
      refine z_icmp_ge cx 211 d_X3_rate_81 (by decide) hF (fun hF => ?_) (fun hF => ?_)
      · exact z_lv [0] _ rfl (hb211 M hF)
      refine z_iload cx d_X3_rate_84 2 rfl ?_
      refine z_aload_n cx d_X3_rate_86 0 rfl ?_
      refine z_getR cx hT_t fg_Law_11 (t + 1) rfl d_X3_rate_87 ?_
      refine z_alenI cx (tfX_4_1 hT_t) za_21 d_X3_rate_90 ?_
      refine z_icmp_ge cx 211 d_X3_rate_91 (by decide) hF (fun hF => ?_) (fun hF => ?_)
      · exact z_lv [0] _ rfl (hb211 M hF)
      refine z_aload_n cx d_X3_rate_94 0 rfl ?_
      refine z_getR cx hT_t fg_Law_11 (t + 1) rfl d_X3_rate_95 ?_
      refine z_iload cx d_X3_rate_98 2 rfl ?_
      obtain ⟨hi4, hF⟩ := gin_inv hF
      refine z_iald cx (tfX_4_1 hT_t) za_21 hi4 b75_L9.toNatClampNeg rfl d_X3_rate_100 ?_
      refine z_nm hF (fun v5 hF => ?_)
      refine z_istore cx 10 [(10, .int v5), (0, .ref (ad t)), (8, .int b75_L8), (9, .int b75_L9)] d_X3_rate_101 (by decide) rfl ?_
      refine z_iload cx d_X3_rate_103 0 rfl ?_
      refine z_sipush (v := 1008) cx d_X3_rate_105 ks_1008 ?_
      refine z_icmp_lt cx 153 d_X3_rate_108 (by decide) hF (fun hF => ?_) (fun hF => ?_)
      · exact z_lv [1, 2, 3, 0] _ rfl (hb153 self75 hs75 b75_L8 b75_L9 v5 M hF)
      refine z_iload cx d_X3_rate_111 2 rfl ?_
      refine z_iconst (v := 2) cx d_X3_rate_113 ki_2 ?_
      refine z_icmp_lt cx 153 d_X3_rate_114 (by decide) hF (fun hF => ?_) (fun hF => ?_)
      · exact z_lv [1, 2, 3, 0] _ rfl (hb153 self75 hs75 b75_L8 b75_L9 v5 M hF)
      refine z_iinc cx 8 (-1) [(8, .int (b75_L8 + (-1))), (10, .int v5), (0, .ref (ad t)), (9, .int b75_L9)] d_X3_rate_117 2 rfl ki_m1 (by decide) rfl ?_
      refine z_aload_n cx d_X3_rate_120 2 rfl ?_
      refine z_getR cx hT_t fg_Law_15 (t + 2) rfl d_X3_rate_121 ?_
      refine z_iload cx d_X3_rate_124 0 rfl ?_
      refine z_iconst (v := 1) cx d_X3_rate_126 ki_1 ?_
      refine z_isub cx d_X3_rate_127 ?_
      refine z_iload cx d_X3_rate_128 1 rfl ?_
      refine z_aload_n cx d_X3_rate_130 2 rfl ?_
      refine z_getR cx hT_t fg_Law_15 (t + 2) rfl d_X3_rate_131 ?_
      refine z_iload cx d_X3_rate_134 0 rfl ?_
      refine z_iconst (v := 1) cx d_X3_rate_136 ki_1 ?_
      refine z_isub cx d_X3_rate_137 ?_
      obtain ⟨hi6, hF⟩ := gin_inv hF
      refine z_iald cx (tfX_4_2 hT_t) za_21 hi6 (((b75_L8 + (-1)) - (1 : Int32)).toNatClampNeg) rfl d_X3_rate_138 ?_
      refine z_aload_n cx d_X3_rate_139 2 rfl ?_
      refine z_getR cx hT_t fg_Law_15 (t + 2) rfl d_X3_rate_140 ?_
      refine z_iload cx d_X3_rate_143 0 rfl ?_
      obtain ⟨hi7, hF⟩ := gin_inv hF
      refine z_iald cx (tfX_4_2 hT_t) za_21 hi7 ((b75_L8 + (-1)).toNatClampNeg) rfl d_X3_rate_145 ?_
      obtain ⟨v9, M8, hc, hF⟩ := zb_inv hF
      refine z_callS cx (As := [.int v5, .int (M.1 (t + 2) ((b75_L8 + (-1)) - (1 : Int32)).toNatClampNeg), .int (M.1 (t + 2) (b75_L8 + (-1)).toNatClampNeg)]) (rest := [.int ((b75_L8 + (-1)) - (1 : Int32)), .ref (ad (t + 2))]) (c_X3_join l cx.2.2.2.1.1 M v5 (M.1 (t + 2) ((b75_L8 + (-1)) - (1 : Int32)).toNatClampNeg) (M.1 (t + 2) (b75_L8 + (-1)).toNatClampNeg)  hc) cs_Law_113 ⟨rfl, rfl, Nat.le_of_ble_eq_true rfl, Nat.le_of_ble_eq_true rfl⟩ rfl rfl ⟨Nat.zero_le _, Nat.zero_le _⟩ (Nat.le_of_ble_eq_true rfl) d_X3_rate_146 ?_
      refine z_iast cx (tfX_4_2 hT_t) za_21 hi6 (((b75_L8 + (-1)) - (1 : Int32)).toNatClampNeg) rfl d_X3_rate_149 ?_
      refine z_nmM hF (fun M10 hF => ?_)
      refine z_goto cx 205 d_X3_rate_150 (by decide) ?_
      exact z_lv [2, 0, 3] _ rfl (hb205 self75 hs75 (b75_L8 + (-1)) b75_L9 M10 hF)
  unfold F_X3_rate at hF
  refine z_aload_n cx d_X3_rate_0 0 rfl ?_
  refine z_getR cx hT_t fg_Law_18 (t + 3) rfl d_X3_rate_1 ?_
  refine z_iconst (v := 0) cx d_X3_rate_4 ki_0 ?_
  refine z_iload_n cx d_X3_rate_5 1 rfl ?_
  refine z_iast cx (tfX_4_3 hT_t) za_26 (zvp (by decide +kernel)) 0 rfl d_X3_rate_6 ?_
  refine z_nmM hF (fun M11 hF => ?_)
  refine z_aload_n cx d_X3_rate_7 0 rfl ?_
  refine z_getR cx hT_t fg_Law_18 (t + 3) rfl d_X3_rate_8 ?_
  refine z_iconst (v := 1) cx d_X3_rate_11 ki_1 ?_
  refine z_iload_n cx d_X3_rate_12 2 rfl ?_
  refine z_iast cx (tfX_4_3 hT_t) za_26 (zvp (by decide +kernel)) 1 rfl d_X3_rate_13 ?_
  refine z_nmM hF (fun M12 hF => ?_)
  refine z_aload_n cx d_X3_rate_14 0 rfl ?_
  refine z_getR cx hT_t fg_Law_18 (t + 3) rfl d_X3_rate_15 ?_
  refine z_iconst (v := 2) cx d_X3_rate_18 ki_2 ?_
  refine z_iload_n cx d_X3_rate_19 3 rfl ?_
  refine z_iast cx (tfX_4_3 hT_t) za_26 (zvp (by decide +kernel)) 2 rfl d_X3_rate_20 ?_
  refine z_nmM hF (fun M13 hF => ?_)
  refine z_aload_n cx d_X3_rate_21 0 rfl ?_
  refine z_getR cx hT_t fg_Law_18 (t + 3) rfl d_X3_rate_22 ?_
  refine z_iconst (v := 3) cx d_X3_rate_25 ki_3 ?_
  refine z_iload cx d_X3_rate_26 4 rfl ?_
  refine z_iast cx (tfX_4_3 hT_t) za_26 (zvp (by decide +kernel)) 3 rfl d_X3_rate_28 ?_
  refine z_nmM hF (fun M14 hF => ?_)
  refine z_aload_n cx d_X3_rate_29 0 rfl ?_
  refine z_getR cx hT_t fg_Law_18 (t + 3) rfl d_X3_rate_30 ?_
  refine z_iconst (v := 4) cx d_X3_rate_33 ki_4 ?_
  refine z_iload cx d_X3_rate_34 5 rfl ?_
  refine z_iast cx (tfX_4_3 hT_t) za_26 (zvp (by decide +kernel)) 4 rfl d_X3_rate_36 ?_
  refine z_nmM hF (fun M15 hF => ?_)
  refine z_aload_n cx d_X3_rate_37 0 rfl ?_
  refine z_getR cx hT_t fg_Law_18 (t + 3) rfl d_X3_rate_38 ?_
  refine z_iconst (v := 5) cx d_X3_rate_41 ki_5 ?_
  refine z_iload cx d_X3_rate_42 6 rfl ?_
  refine z_iast cx (tfX_4_3 hT_t) za_26 (zvp (by decide +kernel)) 5 rfl d_X3_rate_44 ?_
  refine z_nmM hF (fun M16 hF => ?_)
  refine z_aload_n cx d_X3_rate_45 0 rfl ?_
  refine z_getR cx hT_t fg_Law_18 (t + 3) rfl d_X3_rate_46 ?_
  refine z_bipush (v := 6) cx d_X3_rate_49 kb_6 ?_
  refine z_iload cx d_X3_rate_51 7 rfl ?_
  refine z_bipush (v := 8) cx d_X3_rate_53 kb_8 ?_
  refine z_irem cx d_X3_rate_55 (by decide) ?_
  refine z_iast cx (tfX_4_3 hT_t) za_26 (zvp (by decide +kernel)) 6 rfl d_X3_rate_56 ?_
  refine z_nmM hF (fun M17 hF => ?_)
  refine z_aload_n cx d_X3_rate_57 0 rfl ?_
  refine z_getR cx hT_t fg_Law_18 (t + 3) rfl d_X3_rate_58 ?_
  refine z_bipush (v := 7) cx d_X3_rate_61 kb_7 ?_
  refine z_iload cx d_X3_rate_63 7 rfl ?_
  refine z_bipush (v := 8) cx d_X3_rate_65 kb_8 ?_
  refine z_idiv cx d_X3_rate_67 (by decide) ?_
  refine z_iast cx (tfX_4_3 hT_t) za_26 (zvp (by decide +kernel)) 7 rfl d_X3_rate_68 ?_
  refine z_nmM hF (fun M18 hF => ?_)
  refine z_iconst (v := 0) cx d_X3_rate_69 ki_0 ?_
  refine z_istore cx 8 [(8, .int (0 : Int32)), (0, .ref (ad t)), (1, .int p0), (2, .int p1), (3, .int p2), (4, .int p3), (5, .int p4), (6, .int p5), (7, .int p6)] d_X3_rate_70 (by decide) rfl ?_
  refine z_iconst (v := 0) cx d_X3_rate_72 ki_0 ?_
  refine z_istore cx 9 [(9, .int (0 : Int32)), (8, .int (0 : Int32)), (0, .ref (ad t)), (1, .int p0), (2, .int p1), (3, .int p2), (4, .int p3), (5, .int p4), (6, .int p5), (7, .int p6)] d_X3_rate_73 (by decide) rfl ?_
  exact z_lv [2, 1, 0] _ rfl (hL75 zFuel (0 : Int32) (0 : Int32) M18 hF)
/-! SunnyPans$Pans.copyFrom -/
theorem tfX_5_1 {n k : Nat} (h : zT shX n k 5) : zT shX n (k + 1) 16 := zT_off h (shX_f (by decide) (by decide +kernel)) (by decide) (by decide)
theorem tfX_5_2 {n k : Nat} (h : zT shX n k 5) : zT shX n (k + 2) 16 := zT_off h (shX_f (by decide) (by decide +kernel)) (by decide) (by decide)
theorem tfX_5_3 {n k : Nat} (h : zT shX n k 5) : zT shX n (k + 3) 16 := zT_off h (shX_f (by decide) (by decide +kernel)) (by decide) (by decide)
theorem tfX_5_4 {n k : Nat} (h : zT shX n k 5) : zT shX n (k + 4) 18 := zT_off h (shX_f (by decide) (by decide +kernel)) (by decide) (by decide)
set_option maxRecDepth 100000 in
theorem wd_183 : Cond.fieldLink "SunnyPans$Pans" 9 "SunnyPans$Pans" "brine" "[I" ∈ tbG := tw1 83 rfl rfl
theorem uw_4 : ∀ w ∈ u_ws RX4 TX4 7, w ∈ tbG := zUW _ [197, 199, 201, 203, 205, 207, 209] (by decide +kernel) (by decide +kernel)
theorem fg_Pans_9 : zGetR "SunnyPans$Pans" 9 4 5 0 1 := ⟨RX4, TX4, 7, rfl, by decide, uw_4, wd_183, fun _ _ _ _ _ _ => ⟨_, rfl, rfl⟩⟩
theorem kb_64 : (Int8.ofInt (64)).toInt32 = (64 : Int32) := by decide +kernel
set_option maxRecDepth 100000 in
theorem wd_491 : Cond.methodLink "SunnyPans$Pans" 25 arraycopyName ∈ tbG := tw2 151 rfl rfl
set_option maxRecDepth 100000 in
theorem wd_493 : Cond.native arraycopyName ∈ tbG := tw2 153 rfl rfl
set_option maxRecDepth 100000 in
theorem wd_492 : Cond.static arraycopyName ∈ tbG := tw2 152 rfl rfl
set_option maxRecDepth 100000 in
theorem wd_121 : Cond.initialized "java/lang/System" ∈ tbG := tw1 21 rfl rfl
theorem za_16 : zArrI 16 64 := fun _ _ _ _ _ _ => rfl
set_option maxRecDepth 100000 in
theorem wd_185 : Cond.fieldLink "SunnyPans$Pans" 15 "SunnyPans$Pans" "salt" "[I" ∈ tbG := tw1 85 rfl rfl
theorem fg_Pans_15 : zGetR "SunnyPans$Pans" 15 4 5 1 2 := ⟨RX4, TX4, 7, rfl, by decide, uw_4, wd_185, fun _ _ _ _ _ _ => ⟨_, rfl, rfl⟩⟩
set_option maxRecDepth 100000 in
theorem wd_187 : Cond.fieldLink "SunnyPans$Pans" 18 "SunnyPans$Pans" "grams" "[I" ∈ tbG := tw1 87 rfl rfl
theorem fg_Pans_18 : zGetR "SunnyPans$Pans" 18 4 5 2 3 := ⟨RX4, TX4, 7, rfl, by decide, uw_4, wd_187, fun _ _ _ _ _ _ => ⟨_, rfl, rfl⟩⟩
set_option maxRecDepth 100000 in
theorem wd_190 : Cond.fieldLink "SunnyPans$Pans" 31 "SunnyPans$Pans" "store" "I" ∈ tbG := tw1 90 rfl rfl
theorem fg_Pans_31 : zGetI "SunnyPans$Pans" 31 4 5 3 := ⟨RX4, TX4, 7, rfl, by decide, uw_4, wd_190, fun _ _ _ _ _ _ => ⟨_, rfl, rfl⟩⟩
theorem zc_4 : zCls 4 := ⟨RX4, TX4, 7, tyX4, rfl, tyX4_ok, nmX4⟩
theorem fp_Pans_31 : zPutI "SunnyPans$Pans" 31 4 5 3 := ⟨zc_4, fg_Pans_31, ⟨RX4, TX4, 7, rfl, rfl, by decide +kernel⟩, fun _ _ _ _ _ _ _ => ⟨_, rfl, Nat.le_of_ble_eq_true rfl, rfl⟩⟩
set_option maxRecDepth 100000 in
theorem wd_192 : Cond.fieldLink "SunnyPans$Pans" 35 "SunnyPans$Pans" "day" "I" ∈ tbG := tw1 92 rfl rfl
theorem fg_Pans_35 : zGetI "SunnyPans$Pans" 35 4 5 4 := ⟨RX4, TX4, 7, rfl, by decide, uw_4, wd_192, fun _ _ _ _ _ _ => ⟨_, rfl, rfl⟩⟩
theorem fp_Pans_35 : zPutI "SunnyPans$Pans" 35 4 5 4 := ⟨zc_4, fg_Pans_35, ⟨RX4, TX4, 7, rfl, rfl, by decide +kernel⟩, fun _ _ _ _ _ _ _ => ⟨_, rfl, Nat.le_of_ble_eq_true rfl, rfl⟩⟩
set_option maxRecDepth 100000 in
theorem wd_194 : Cond.fieldLink "SunnyPans$Pans" 38 "SunnyPans$Pans" "next" "I" ∈ tbG := tw1 94 rfl rfl
theorem fg_Pans_38 : zGetI "SunnyPans$Pans" 38 4 5 5 := ⟨RX4, TX4, 7, rfl, by decide, uw_4, wd_194, fun _ _ _ _ _ _ => ⟨_, rfl, rfl⟩⟩
theorem fp_Pans_38 : zPutI "SunnyPans$Pans" 38 4 5 5 := ⟨zc_4, fg_Pans_38, ⟨RX4, TX4, 7, rfl, rfl, by decide +kernel⟩, fun _ _ _ _ _ _ _ => ⟨_, rfl, Nat.le_of_ble_eq_true rfl, rfl⟩⟩
set_option maxRecDepth 100000 in
theorem wd_196 : Cond.fieldLink "SunnyPans$Pans" 21 "SunnyPans$Pans" "shades" "[J" ∈ tbG := tw1 96 rfl rfl
theorem fg_Pans_21 : zGetR "SunnyPans$Pans" 21 4 5 6 4 := ⟨RX4, TX4, 7, rfl, by decide, uw_4, wd_196, fun _ _ _ _ _ _ => ⟨_, rfl, rfl⟩⟩
theorem za_18 : zArrL 18 10 := fun _ _ _ _ _ _ => rfl
theorem d_X4_copyFrom_0 : decode cX4_copyFrom 0 = .ok (.aload_n 1, 1) := by decide +kernel
theorem d_X4_copyFrom_1 : decode cX4_copyFrom 1 = .ok (.getfield 9, 3) := by decide +kernel
theorem d_X4_copyFrom_4 : decode cX4_copyFrom 4 = .ok (.iconst 0, 1) := by decide +kernel
theorem d_X4_copyFrom_5 : decode cX4_copyFrom 5 = .ok (.aload_n 0, 1) := by decide +kernel
theorem d_X4_copyFrom_6 : decode cX4_copyFrom 6 = .ok (.getfield 9, 3) := by decide +kernel
theorem d_X4_copyFrom_9 : decode cX4_copyFrom 9 = .ok (.iconst 0, 1) := by decide +kernel
theorem d_X4_copyFrom_10 : decode cX4_copyFrom 10 = .ok (.bipush 64, 2) := by decide +kernel
theorem d_X4_copyFrom_12 : decode cX4_copyFrom 12 = .ok (.invokestatic 25, 3) := by decide +kernel
theorem d_X4_copyFrom_15 : decode cX4_copyFrom 15 = .ok (.aload_n 1, 1) := by decide +kernel
theorem d_X4_copyFrom_16 : decode cX4_copyFrom 16 = .ok (.getfield 15, 3) := by decide +kernel
theorem d_X4_copyFrom_19 : decode cX4_copyFrom 19 = .ok (.iconst 0, 1) := by decide +kernel
theorem d_X4_copyFrom_20 : decode cX4_copyFrom 20 = .ok (.aload_n 0, 1) := by decide +kernel
theorem d_X4_copyFrom_21 : decode cX4_copyFrom 21 = .ok (.getfield 15, 3) := by decide +kernel
theorem d_X4_copyFrom_24 : decode cX4_copyFrom 24 = .ok (.iconst 0, 1) := by decide +kernel
theorem d_X4_copyFrom_25 : decode cX4_copyFrom 25 = .ok (.bipush 64, 2) := by decide +kernel
theorem d_X4_copyFrom_27 : decode cX4_copyFrom 27 = .ok (.invokestatic 25, 3) := by decide +kernel
theorem d_X4_copyFrom_30 : decode cX4_copyFrom 30 = .ok (.aload_n 1, 1) := by decide +kernel
theorem d_X4_copyFrom_31 : decode cX4_copyFrom 31 = .ok (.getfield 18, 3) := by decide +kernel
theorem d_X4_copyFrom_34 : decode cX4_copyFrom 34 = .ok (.iconst 0, 1) := by decide +kernel
theorem d_X4_copyFrom_35 : decode cX4_copyFrom 35 = .ok (.aload_n 0, 1) := by decide +kernel
theorem d_X4_copyFrom_36 : decode cX4_copyFrom 36 = .ok (.getfield 18, 3) := by decide +kernel
theorem d_X4_copyFrom_39 : decode cX4_copyFrom 39 = .ok (.iconst 0, 1) := by decide +kernel
theorem d_X4_copyFrom_40 : decode cX4_copyFrom 40 = .ok (.bipush 64, 2) := by decide +kernel
theorem d_X4_copyFrom_42 : decode cX4_copyFrom 42 = .ok (.invokestatic 25, 3) := by decide +kernel
theorem d_X4_copyFrom_45 : decode cX4_copyFrom 45 = .ok (.aload_n 0, 1) := by decide +kernel
theorem d_X4_copyFrom_46 : decode cX4_copyFrom 46 = .ok (.aload_n 1, 1) := by decide +kernel
theorem d_X4_copyFrom_47 : decode cX4_copyFrom 47 = .ok (.getfield 31, 3) := by decide +kernel
theorem d_X4_copyFrom_50 : decode cX4_copyFrom 50 = .ok (.putfield 31, 3) := by decide +kernel
theorem d_X4_copyFrom_53 : decode cX4_copyFrom 53 = .ok (.aload_n 0, 1) := by decide +kernel
theorem d_X4_copyFrom_54 : decode cX4_copyFrom 54 = .ok (.aload_n 1, 1) := by decide +kernel
theorem d_X4_copyFrom_55 : decode cX4_copyFrom 55 = .ok (.getfield 35, 3) := by decide +kernel
theorem d_X4_copyFrom_58 : decode cX4_copyFrom 58 = .ok (.putfield 35, 3) := by decide +kernel
theorem d_X4_copyFrom_61 : decode cX4_copyFrom 61 = .ok (.aload_n 0, 1) := by decide +kernel
theorem d_X4_copyFrom_62 : decode cX4_copyFrom 62 = .ok (.aload_n 1, 1) := by decide +kernel
theorem d_X4_copyFrom_63 : decode cX4_copyFrom 63 = .ok (.getfield 38, 3) := by decide +kernel
theorem d_X4_copyFrom_66 : decode cX4_copyFrom 66 = .ok (.putfield 38, 3) := by decide +kernel
theorem d_X4_copyFrom_69 : decode cX4_copyFrom 69 = .ok (.aload_n 1, 1) := by decide +kernel
theorem d_X4_copyFrom_70 : decode cX4_copyFrom 70 = .ok (.getfield 21, 3) := by decide +kernel
theorem d_X4_copyFrom_73 : decode cX4_copyFrom 73 = .ok (.iconst 0, 1) := by decide +kernel
theorem d_X4_copyFrom_74 : decode cX4_copyFrom 74 = .ok (.aload_n 0, 1) := by decide +kernel
theorem d_X4_copyFrom_75 : decode cX4_copyFrom 75 = .ok (.getfield 21, 3) := by decide +kernel
theorem d_X4_copyFrom_78 : decode cX4_copyFrom 78 = .ok (.iconst 0, 1) := by decide +kernel
theorem d_X4_copyFrom_79 : decode cX4_copyFrom 79 = .ok (.bipush 10, 2) := by decide +kernel
theorem d_X4_copyFrom_81 : decode cX4_copyFrom 81 = .ok (.invokestatic 25, 3) := by decide +kernel
theorem d_X4_copyFrom_84 : decode cX4_copyFrom 84 = .ok (.return_, 1) := by decide +kernel
noncomputable def F_X4_copyFrom (M : zMem) (t : Nat) (p0 : Nat) : Option (zMem) :=
  zl (zCI M (p0 + 1) 0 (t + 1) 0 64) fun M1 =>
  zl (zCI M1 (p0 + 2) 0 (t + 2) 0 64) fun M2 =>
  zl (zCI M2 (p0 + 3) 0 (t + 3) 0 64) fun M3 =>
  zl (zI M3 t 3 (M3.1 p0 3)) fun M4 =>
  zl (zI M4 t 4 (M4.1 p0 4)) fun M5 =>
  zl (zI M5 t 5 (M5.1 p0 5)) fun M6 =>
  zl (zCL M6 (p0 + 4) 0 (t + 4) 0 10) fun M7 =>
  some M7
def rm_X4_copyFrom : Room := { frames := 2, cells := 0, slots := 0, locals := 80 }
set_option maxHeartbeats 4000000 in
set_option maxRecDepth 100000 in
theorem c_X4_copyFrom (l : Launch) {G : zG} {ad : Nat → Nat} {n : Nat} (hA : zInj ad n) (M : zMem) (t : Nat) (p0 : Nat) (hT_t : zT shX n t 5) (hT_p0 : zT shX n p0 5) {M9 : zMem} (hF : F_X4_copyFrom M t p0 = some M9) : zM l yX4_copyFrom cX4_copyFrom 2 none rm_X4_copyFrom G shX ad n M [.ref (ad t), .ref (ad p0)] none M9 := by
  refine zM_of hA (by decide +kernel) (lv := [(0, .ref (ad t)), (1, .ref (ad p0))]) (Nat.le_of_ble_eq_true rfl) rfl (fun p e s m args below meth c A cx hr => ?_)
  unfold F_X4_copyFrom at hF
  refine z_aload_n cx d_X4_copyFrom_0 1 rfl ?_
  refine z_getR cx hT_p0 fg_Pans_9 (p0 + 1) rfl d_X4_copyFrom_1 ?_
  refine z_iconst (v := 0) cx d_X4_copyFrom_4 ki_0 ?_
  refine z_aload_n cx d_X4_copyFrom_5 0 rfl ?_
  refine z_getR cx hT_t fg_Pans_9 (t + 1) rfl d_X4_copyFrom_6 ?_
  refine z_iconst (v := 0) cx d_X4_copyFrom_9 ki_0 ?_
  refine z_bipush (v := 64) cx d_X4_copyFrom_10 kb_64 ?_
  refine z_copyI cx (tfX_5_1 hT_p0) za_16 (tfX_5_1 hT_t) za_16 ⟨wd_491, wd_493, wd_492, wd_121⟩ (by decide +kernel) (by decide +kernel) (by decide +kernel) (by decide +kernel) (by decide +kernel) ⟨Nat.le_of_ble_eq_true rfl, Nat.le_of_ble_eq_true rfl⟩ d_X4_copyFrom_12 ?_
  refine z_nmM hF (fun M1 hF => ?_)
  refine z_aload_n cx d_X4_copyFrom_15 1 rfl ?_
  refine z_getR cx hT_p0 fg_Pans_15 (p0 + 2) rfl d_X4_copyFrom_16 ?_
  refine z_iconst (v := 0) cx d_X4_copyFrom_19 ki_0 ?_
  refine z_aload_n cx d_X4_copyFrom_20 0 rfl ?_
  refine z_getR cx hT_t fg_Pans_15 (t + 2) rfl d_X4_copyFrom_21 ?_
  refine z_iconst (v := 0) cx d_X4_copyFrom_24 ki_0 ?_
  refine z_bipush (v := 64) cx d_X4_copyFrom_25 kb_64 ?_
  refine z_copyI cx (tfX_5_2 hT_p0) za_16 (tfX_5_2 hT_t) za_16 ⟨wd_491, wd_493, wd_492, wd_121⟩ (by decide +kernel) (by decide +kernel) (by decide +kernel) (by decide +kernel) (by decide +kernel) ⟨Nat.le_of_ble_eq_true rfl, Nat.le_of_ble_eq_true rfl⟩ d_X4_copyFrom_27 ?_
  refine z_nmM hF (fun M2 hF => ?_)
  refine z_aload_n cx d_X4_copyFrom_30 1 rfl ?_
  refine z_getR cx hT_p0 fg_Pans_18 (p0 + 3) rfl d_X4_copyFrom_31 ?_
  refine z_iconst (v := 0) cx d_X4_copyFrom_34 ki_0 ?_
  refine z_aload_n cx d_X4_copyFrom_35 0 rfl ?_
  refine z_getR cx hT_t fg_Pans_18 (t + 3) rfl d_X4_copyFrom_36 ?_
  refine z_iconst (v := 0) cx d_X4_copyFrom_39 ki_0 ?_
  refine z_bipush (v := 64) cx d_X4_copyFrom_40 kb_64 ?_
  refine z_copyI cx (tfX_5_3 hT_p0) za_16 (tfX_5_3 hT_t) za_16 ⟨wd_491, wd_493, wd_492, wd_121⟩ (by decide +kernel) (by decide +kernel) (by decide +kernel) (by decide +kernel) (by decide +kernel) ⟨Nat.le_of_ble_eq_true rfl, Nat.le_of_ble_eq_true rfl⟩ d_X4_copyFrom_42 ?_
  refine z_nmM hF (fun M3 hF => ?_)
  refine z_aload_n cx d_X4_copyFrom_45 0 rfl ?_
  refine z_aload_n cx d_X4_copyFrom_46 1 rfl ?_
  refine z_getI cx hT_p0 fg_Pans_31 d_X4_copyFrom_47 ?_
  refine z_putI cx hT_t fp_Pans_31 d_X4_copyFrom_50 ?_
  refine z_nmM hF (fun M4 hF => ?_)
  refine z_aload_n cx d_X4_copyFrom_53 0 rfl ?_
  refine z_aload_n cx d_X4_copyFrom_54 1 rfl ?_
  refine z_getI cx hT_p0 fg_Pans_35 d_X4_copyFrom_55 ?_
  refine z_putI cx hT_t fp_Pans_35 d_X4_copyFrom_58 ?_
  refine z_nmM hF (fun M5 hF => ?_)
  refine z_aload_n cx d_X4_copyFrom_61 0 rfl ?_
  refine z_aload_n cx d_X4_copyFrom_62 1 rfl ?_
  refine z_getI cx hT_p0 fg_Pans_38 d_X4_copyFrom_63 ?_
  refine z_putI cx hT_t fp_Pans_38 d_X4_copyFrom_66 ?_
  refine z_nmM hF (fun M6 hF => ?_)
  refine z_aload_n cx d_X4_copyFrom_69 1 rfl ?_
  refine z_getR cx hT_p0 fg_Pans_21 (p0 + 4) rfl d_X4_copyFrom_70 ?_
  refine z_iconst (v := 0) cx d_X4_copyFrom_73 ki_0 ?_
  refine z_aload_n cx d_X4_copyFrom_74 0 rfl ?_
  refine z_getR cx hT_t fg_Pans_21 (t + 4) rfl d_X4_copyFrom_75 ?_
  refine z_iconst (v := 0) cx d_X4_copyFrom_78 ki_0 ?_
  refine z_bipush (v := 10) cx d_X4_copyFrom_79 kb_10 ?_
  refine z_copyL cx (tfX_5_4 hT_p0) za_18 (tfX_5_4 hT_t) za_18 ⟨wd_491, wd_493, wd_492, wd_121⟩ (by decide +kernel) (by decide +kernel) (by decide +kernel) (by decide +kernel) (by decide +kernel) ⟨Nat.le_of_ble_eq_true rfl, Nat.le_of_ble_eq_true rfl⟩ d_X4_copyFrom_81 ?_
  refine z_nmM hF (fun M7 hF => ?_)
  exact z_vret cx hr hF d_X4_copyFrom_84
/-! SunnyPans.heightOf -/
theorem kb_50 : (Int8.ofInt (50)).toInt32 = (50 : Int32) := by decide +kernel
theorem d_X9_heightOf_0 : decode cX9_heightOf 0 = .ok (.iload_n 0, 1) := by decide +kernel
theorem d_X9_heightOf_1 : decode cX9_heightOf 1 = .ok (.ifCond .le 12, 3) := by decide +kernel
theorem d_X9_heightOf_4 : decode cX9_heightOf 4 = .ok (.iload_n 0, 1) := by decide +kernel
theorem d_X9_heightOf_5 : decode cX9_heightOf 5 = .ok (.bipush 50, 2) := by decide +kernel
theorem d_X9_heightOf_7 : decode cX9_heightOf 7 = .ok (.idiv, 1) := by decide +kernel
theorem d_X9_heightOf_8 : decode cX9_heightOf 8 = .ok (.iconst 1, 1) := by decide +kernel
theorem d_X9_heightOf_9 : decode cX9_heightOf 9 = .ok (.iadd, 1) := by decide +kernel
theorem d_X9_heightOf_10 : decode cX9_heightOf 10 = .ok (.goto 4, 3) := by decide +kernel
theorem d_X9_heightOf_13 : decode cX9_heightOf 13 = .ok (.iconst 0, 1) := by decide +kernel
theorem d_X9_heightOf_14 : decode cX9_heightOf 14 = .ok (.ireturn, 1) := by decide +kernel
noncomputable def F_X9_heightOf (M : zMem) (p0 : Int32) : Option (Int32 × zMem) :=
  if p0 ≤ 0 then
    some ((0 : Int32), M)
  else
    some (((p0 / (50 : Int32)) + (1 : Int32)), M)
def rm_X9_heightOf : Room := { frames := 2, cells := 0, slots := 0, locals := 80 }
set_option maxHeartbeats 4000000 in
set_option maxRecDepth 100000 in
theorem c_X9_heightOf (l : Launch) {G : zG} {ad : Nat → Nat} {n : Nat} (hA : zInj ad n) (M : zMem) (p0 : Int32) {r9 : Int32} {M9 : zMem} (hF : F_X9_heightOf M p0 = some (r9, M9)) : zM l yX9_heightOf cX9_heightOf 1 (some .int) rm_X9_heightOf G shX ad n M [.int p0] (some (.int r9)) M9 := by
  refine zM_of hA (by decide +kernel) (lv := [(0, .int p0)]) (Nat.le_of_ble_eq_true rfl) rfl (fun p e s m args below meth c A cx hr => ?_)
  unfold F_X9_heightOf at hF
  refine z_iload_n cx d_X9_heightOf_0 0 rfl ?_
  refine z_if_le cx 13 d_X9_heightOf_1 (by decide) hF (fun hF => ?_) (fun hF => ?_)
  · refine z_iconst (v := 0) cx d_X9_heightOf_13 ki_0 ?_
    exact z_iret cx hr rfl hF d_X9_heightOf_14
  refine z_iload_n cx d_X9_heightOf_4 0 rfl ?_
  refine z_bipush (v := 50) cx d_X9_heightOf_5 kb_50 ?_
  refine z_idiv cx d_X9_heightOf_7 (by decide) ?_
  refine z_iconst (v := 1) cx d_X9_heightOf_8 ki_1 ?_
  refine z_iadd cx d_X9_heightOf_9 ?_
  refine z_goto cx 14 d_X9_heightOf_10 (by decide) ?_
  exact z_iret cx hr rfl hF d_X9_heightOf_14
/-! SunnyPans$Plan.holds -/
set_option maxRecDepth 100000 in
theorem wd_315 : Cond.fieldLink "SunnyPans$Plan" 9 "SunnyPans$Plan" "wide" "I" ∈ tbG := tw1 215 rfl rfl
theorem fg_Plan_9 : zGetI "SunnyPans$Plan" 9 5 6 0 := ⟨RX5, TX5, 9, rfl, by decide, uw_5, wd_315, fun _ _ _ _ _ _ => ⟨_, rfl, rfl⟩⟩
set_option maxRecDepth 100000 in
theorem wd_319 : Cond.fieldLink "SunnyPans$Plan" 15 "SunnyPans$Plan" "high" "I" ∈ tbG := tw1 219 rfl rfl
theorem fg_Plan_15 : zGetI "SunnyPans$Plan" 15 5 6 1 := ⟨RX5, TX5, 9, rfl, by decide, uw_5, wd_319, fun _ _ _ _ _ _ => ⟨_, rfl, rfl⟩⟩
theorem d_X5_holds_0 : decode cX5_holds 0 = .ok (.iload_n 1, 1) := by decide +kernel
theorem d_X5_holds_1 : decode cX5_holds 1 = .ok (.ifCond .lt 27, 3) := by decide +kernel
theorem d_X5_holds_4 : decode cX5_holds 4 = .ok (.iload_n 1, 1) := by decide +kernel
theorem d_X5_holds_5 : decode cX5_holds 5 = .ok (.aload_n 0, 1) := by decide +kernel
theorem d_X5_holds_6 : decode cX5_holds 6 = .ok (.getfield 9, 3) := by decide +kernel
theorem d_X5_holds_9 : decode cX5_holds 9 = .ok (.if_icmp .ge 19, 3) := by decide +kernel
theorem d_X5_holds_12 : decode cX5_holds 12 = .ok (.iload_n 2, 1) := by decide +kernel
theorem d_X5_holds_13 : decode cX5_holds 13 = .ok (.ifCond .lt 15, 3) := by decide +kernel
theorem d_X5_holds_16 : decode cX5_holds 16 = .ok (.iload_n 2, 1) := by decide +kernel
theorem d_X5_holds_17 : decode cX5_holds 17 = .ok (.aload_n 0, 1) := by decide +kernel
theorem d_X5_holds_18 : decode cX5_holds 18 = .ok (.getfield 15, 3) := by decide +kernel
theorem d_X5_holds_21 : decode cX5_holds 21 = .ok (.if_icmp .ge 7, 3) := by decide +kernel
theorem d_X5_holds_24 : decode cX5_holds 24 = .ok (.iconst 1, 1) := by decide +kernel
theorem d_X5_holds_25 : decode cX5_holds 25 = .ok (.goto 4, 3) := by decide +kernel
theorem d_X5_holds_28 : decode cX5_holds 28 = .ok (.iconst 0, 1) := by decide +kernel
theorem d_X5_holds_29 : decode cX5_holds 29 = .ok (.ireturn, 1) := by decide +kernel
noncomputable def F_X5_holds (M : zMem) (t : Nat) (p0 : Int32) (p1 : Int32) : Option (Int32 × zMem) :=
  if p0 < 0 then
    some ((0 : Int32), M)
  else
    if (M.1 t 0) ≤ p0 then
      some ((0 : Int32), M)
    else
      if p1 < 0 then
        some ((0 : Int32), M)
      else
        if (M.1 t 1) ≤ p1 then
          some ((0 : Int32), M)
        else
          some ((1 : Int32), M)
def rm_X5_holds : Room := { frames := 2, cells := 0, slots := 0, locals := 80 }
set_option maxHeartbeats 4000000 in
set_option maxRecDepth 100000 in
theorem c_X5_holds (l : Launch) {G : zG} {ad : Nat → Nat} {n : Nat} (hA : zInj ad n) (M : zMem) (t : Nat) (p0 : Int32) (p1 : Int32) (hT_t : zT shX n t 6) {r9 : Int32} {M9 : zMem} (hF : F_X5_holds M t p0 p1 = some (r9, M9)) : zM l yX5_holds cX5_holds 3 (some .boolean) rm_X5_holds G shX ad n M [.ref (ad t), .int p0, .int p1] (some (.int r9)) M9 := by
  refine zM_of hA (by decide +kernel) (lv := [(0, .ref (ad t)), (1, .int p0), (2, .int p1)]) (Nat.le_of_ble_eq_true rfl) rfl (fun p e s m args below meth c A cx hr => ?_)
  unfold F_X5_holds at hF
  refine z_iload_n cx d_X5_holds_0 1 rfl ?_
  refine z_if_lt cx 28 d_X5_holds_1 (by decide) hF (fun hF => ?_) (fun hF => ?_)
  · refine z_iconst (v := 0) cx d_X5_holds_28 ki_0 ?_
    exact z_iret cx hr nb0 hF d_X5_holds_29
  refine z_iload_n cx d_X5_holds_4 1 rfl ?_
  refine z_aload_n cx d_X5_holds_5 0 rfl ?_
  refine z_getI cx hT_t fg_Plan_9 d_X5_holds_6 ?_
  refine z_icmp_ge cx 28 d_X5_holds_9 (by decide) hF (fun hF => ?_) (fun hF => ?_)
  · refine z_iconst (v := 0) cx d_X5_holds_28 ki_0 ?_
    exact z_iret cx hr nb0 hF d_X5_holds_29
  refine z_iload_n cx d_X5_holds_12 2 rfl ?_
  refine z_if_lt cx 28 d_X5_holds_13 (by decide) hF (fun hF => ?_) (fun hF => ?_)
  · refine z_iconst (v := 0) cx d_X5_holds_28 ki_0 ?_
    exact z_iret cx hr nb0 hF d_X5_holds_29
  refine z_iload_n cx d_X5_holds_16 2 rfl ?_
  refine z_aload_n cx d_X5_holds_17 0 rfl ?_
  refine z_getI cx hT_t fg_Plan_15 d_X5_holds_18 ?_
  refine z_icmp_ge cx 28 d_X5_holds_21 (by decide) hF (fun hF => ?_) (fun hF => ?_)
  · refine z_iconst (v := 0) cx d_X5_holds_28 ki_0 ?_
    exact z_iret cx hr nb0 hF d_X5_holds_29
  refine z_iconst (v := 1) cx d_X5_holds_24 ki_1 ?_
  refine z_goto cx 29 d_X5_holds_25 (by decide) ?_
  exact z_iret cx hr nb1 hF d_X5_holds_29
/-! SunnyPans$Plan.shadedBy -/
theorem tfX_6_2 {n k : Nat} (h : zT shX n k 6) : zT shX n (k + 2) 25 := zT_off h (shX_f (by decide) (by decide +kernel)) (by decide) (by decide)
theorem tfX_6_1 {n k : Nat} (h : zT shX n k 6) : zT shX n (k + 1) 25 := zT_off h (shX_f (by decide) (by decide +kernel)) (by decide) (by decide)
set_option maxRecDepth 100000 in
theorem wd_762 : Cond.fieldLinkNest "SunnyPans$Plan" 114 "SunnyPans" "EAST" "[I" "SunnyPans" ∈ tbN := twn3 182 rfl rfl
set_option maxRecDepth 100000 in
theorem wd_330 : Cond.fieldLink "SunnyPans$Plan" 26 "SunnyPans$Plan" "side" "[I" ∈ tbG := tw1 230 rfl rfl
theorem fg_Plan_26 : zGetR "SunnyPans$Plan" 26 5 6 4 1 := ⟨RX5, TX5, 9, rfl, by decide, uw_5, wd_330, fun _ _ _ _ _ _ => ⟨_, rfl, rfl⟩⟩
theorem za_25 : zArrI 25 10 := fun _ _ _ _ _ _ => rfl
set_option maxRecDepth 100000 in
theorem wd_764 : Cond.fieldLinkNest "SunnyPans$Plan" 117 "SunnyPans" "SOUTH" "[I" "SunnyPans" ∈ tbN := twn3 184 rfl rfl
set_option maxRecDepth 100000 in
theorem wd_769 : Cond.code yX5_holds cX5_holds 3 (some .boolean) ∈ tbG := tw3 189 rfl rfl
set_option maxRecDepth 100000 in
theorem wd_766 : Cond.methodLink "SunnyPans$Plan" 120 yX5_holds ∈ tbG := tw3 186 rfl rfl
set_option maxRecDepth 100000 in
theorem wd_767 : Cond.instanceMethod yX5_holds ∈ tbG := tw3 187 rfl rfl
set_option maxRecDepth 100000 in
theorem wd_768 : Cond.selects "SunnyPans$Plan" yX5_holds yX5_holds ∈ tbG := tw3 188 rfl rfl
set_option maxRecDepth 100000 in
theorem wd_108 : Cond.initialized "SunnyPans$Plan" ∈ tbG := tw1 8 rfl rfl
theorem cv_Plan_120 : zCV "SunnyPans$Plan" 120 "SunnyPans$Plan" yX5_holds cX5_holds 3 (some .boolean) 2 := zCV_of wd_766 wd_767 wd_768 wd_108 wd_769 (by decide +kernel)
theorem zo_6 : zObj "SunnyPans$Plan" 6 := ⟨5, (RX5, TX5, 9), rfl, rfl, fun _ _ _ _ _ _ => ⟨_, rfl⟩⟩
set_option maxRecDepth 100000 in
theorem wd_309 : Cond.methodLinkNest "SunnyPans$Plan" 103 yX9_placeOf "SunnyPans" ∈ tbN := twn1 209 rfl rfl
theorem cn_Plan_103 : zCN "SunnyPans$Plan" 103 yX9_placeOf cX9_placeOf 2 (some .int) 2 := ⟨wd_309, wd_101, wd_311, by decide +kernel⟩
set_option maxRecDepth 100000 in
theorem wd_312 : Cond.methodLinkNest "SunnyPans$Plan" 106 yX9_bit "SunnyPans" ∈ tbN := twn1 212 rfl rfl
theorem cn_Plan_106 : zCN "SunnyPans$Plan" 106 yX9_bit cX9_bit 1 (some .long) 1 := ⟨wd_312, wd_101, wd_314, by decide +kernel⟩
set_option maxRecDepth 100000 in
theorem wd_323 : Cond.fieldLink "SunnyPans$Plan" 42 "SunnyPans$Plan" "hours" "I" ∈ tbG := tw1 223 rfl rfl
theorem fg_Plan_42 : zGetI "SunnyPans$Plan" 42 5 6 2 := ⟨RX5, TX5, 9, rfl, by decide, uw_5, wd_323, fun _ _ _ _ _ _ => ⟨_, rfl, rfl⟩⟩
set_option maxRecDepth 100000 in
theorem wd_761 : Cond.code yX9_heightOf cX9_heightOf 1 (some .int) ∈ tbG := tw3 181 rfl rfl
set_option maxRecDepth 100000 in
theorem wd_759 : Cond.methodLinkNest "SunnyPans$Plan" 110 yX9_heightOf "SunnyPans" ∈ tbN := twn3 179 rfl rfl
theorem cn_Plan_110 : zCN "SunnyPans$Plan" 110 yX9_heightOf cX9_heightOf 1 (some .int) 1 := ⟨wd_759, wd_101, wd_761, by decide +kernel⟩
set_option maxRecDepth 100000 in
theorem wd_760 : Cond.static yX9_heightOf ∈ tbG := tw3 180 rfl rfl
set_option maxRecDepth 100000 in
theorem wd_332 : Cond.fieldLink "SunnyPans$Plan" 30 "SunnyPans$Plan" "reach" "[I" ∈ tbG := tw1 232 rfl rfl
theorem fg_Plan_30 : zGetR "SunnyPans$Plan" 30 5 6 5 2 := ⟨RX5, TX5, 9, rfl, by decide, uw_5, wd_332, fun _ _ _ _ _ _ => ⟨_, rfl, rfl⟩⟩
theorem d_X5_shadedBy_0 : decode cX5_shadedBy 0 = .ok (.iload_n 1, 1) := by decide +kernel
theorem d_X5_shadedBy_1 : decode cX5_shadedBy 1 = .ok (.invokestatic 106, 3) := by decide +kernel
theorem d_X5_shadedBy_4 : decode cX5_shadedBy 4 = .ok (.lstore 4, 2) := by decide +kernel
theorem d_X5_shadedBy_6 : decode cX5_shadedBy 6 = .ok (.iload_n 3, 1) := by decide +kernel
theorem d_X5_shadedBy_7 : decode cX5_shadedBy 7 = .ok (.ifCond .lt 11, 3) := by decide +kernel
theorem d_X5_shadedBy_10 : decode cX5_shadedBy 10 = .ok (.iload_n 3, 1) := by decide +kernel
theorem d_X5_shadedBy_11 : decode cX5_shadedBy 11 = .ok (.aload_n 0, 1) := by decide +kernel
theorem d_X5_shadedBy_12 : decode cX5_shadedBy 12 = .ok (.getfield 42, 3) := by decide +kernel
theorem d_X5_shadedBy_15 : decode cX5_shadedBy 15 = .ok (.if_icmp .lt 6, 3) := by decide +kernel
theorem d_X5_shadedBy_18 : decode cX5_shadedBy 18 = .ok (.lload 4, 2) := by decide +kernel
theorem d_X5_shadedBy_20 : decode cX5_shadedBy 20 = .ok (.lreturn, 1) := by decide +kernel
theorem d_X5_shadedBy_21 : decode cX5_shadedBy 21 = .ok (.iload_n 2, 1) := by decide +kernel
theorem d_X5_shadedBy_22 : decode cX5_shadedBy 22 = .ok (.invokestatic 110, 3) := by decide +kernel
theorem d_X5_shadedBy_25 : decode cX5_shadedBy 25 = .ok (.aload_n 0, 1) := by decide +kernel
theorem d_X5_shadedBy_26 : decode cX5_shadedBy 26 = .ok (.getfield 30, 3) := by decide +kernel
theorem d_X5_shadedBy_29 : decode cX5_shadedBy 29 = .ok (.iload_n 3, 1) := by decide +kernel
theorem d_X5_shadedBy_30 : decode cX5_shadedBy 30 = .ok (.iaload, 1) := by decide +kernel
theorem d_X5_shadedBy_31 : decode cX5_shadedBy 31 = .ok (.imul, 1) := by decide +kernel
theorem d_X5_shadedBy_32 : decode cX5_shadedBy 32 = .ok (.bipush 10, 2) := by decide +kernel
theorem d_X5_shadedBy_34 : decode cX5_shadedBy 34 = .ok (.idiv, 1) := by decide +kernel
theorem d_X5_shadedBy_35 : decode cX5_shadedBy 35 = .ok (.istore 6, 2) := by decide +kernel
theorem d_X5_shadedBy_37 : decode cX5_shadedBy 37 = .ok (.iload_n 1, 1) := by decide +kernel
theorem d_X5_shadedBy_38 : decode cX5_shadedBy 38 = .ok (.bipush 8, 2) := by decide +kernel
theorem d_X5_shadedBy_40 : decode cX5_shadedBy 40 = .ok (.irem, 1) := by decide +kernel
theorem d_X5_shadedBy_41 : decode cX5_shadedBy 41 = .ok (.istore 7, 2) := by decide +kernel
theorem d_X5_shadedBy_43 : decode cX5_shadedBy 43 = .ok (.iload_n 1, 1) := by decide +kernel
theorem d_X5_shadedBy_44 : decode cX5_shadedBy 44 = .ok (.bipush 8, 2) := by decide +kernel
theorem d_X5_shadedBy_46 : decode cX5_shadedBy 46 = .ok (.idiv, 1) := by decide +kernel
theorem d_X5_shadedBy_47 : decode cX5_shadedBy 47 = .ok (.istore 8, 2) := by decide +kernel
theorem d_X5_shadedBy_49 : decode cX5_shadedBy 49 = .ok (.iconst 1, 1) := by decide +kernel
theorem d_X5_shadedBy_50 : decode cX5_shadedBy 50 = .ok (.istore 9, 2) := by decide +kernel
theorem d_X5_shadedBy_52 : decode cX5_shadedBy 52 = .ok (.iload 9, 2) := by decide +kernel
theorem d_X5_shadedBy_54 : decode cX5_shadedBy 54 = .ok (.iload 6, 2) := by decide +kernel
theorem d_X5_shadedBy_56 : decode cX5_shadedBy 56 = .ok (.if_icmp .gt 75, 3) := by decide +kernel
theorem d_X5_shadedBy_59 : decode cX5_shadedBy 59 = .ok (.iload 9, 2) := by decide +kernel
theorem d_X5_shadedBy_61 : decode cX5_shadedBy 61 = .ok (.bipush 8, 2) := by decide +kernel
theorem d_X5_shadedBy_63 : decode cX5_shadedBy 63 = .ok (.if_icmp .ge 68, 3) := by decide +kernel
theorem d_X5_shadedBy_66 : decode cX5_shadedBy 66 = .ok (.iload 7, 2) := by decide +kernel
theorem d_X5_shadedBy_68 : decode cX5_shadedBy 68 = .ok (.getstatic 114, 3) := by decide +kernel
theorem d_X5_shadedBy_71 : decode cX5_shadedBy 71 = .ok (.aload_n 0, 1) := by decide +kernel
theorem d_X5_shadedBy_72 : decode cX5_shadedBy 72 = .ok (.getfield 26, 3) := by decide +kernel
theorem d_X5_shadedBy_75 : decode cX5_shadedBy 75 = .ok (.iload_n 3, 1) := by decide +kernel
theorem d_X5_shadedBy_76 : decode cX5_shadedBy 76 = .ok (.iaload, 1) := by decide +kernel
theorem d_X5_shadedBy_77 : decode cX5_shadedBy 77 = .ok (.iaload, 1) := by decide +kernel
theorem d_X5_shadedBy_78 : decode cX5_shadedBy 78 = .ok (.isub, 1) := by decide +kernel
theorem d_X5_shadedBy_79 : decode cX5_shadedBy 79 = .ok (.istore 7, 2) := by decide +kernel
theorem d_X5_shadedBy_81 : decode cX5_shadedBy 81 = .ok (.iload 8, 2) := by decide +kernel
theorem d_X5_shadedBy_83 : decode cX5_shadedBy 83 = .ok (.getstatic 117, 3) := by decide +kernel
theorem d_X5_shadedBy_86 : decode cX5_shadedBy 86 = .ok (.aload_n 0, 1) := by decide +kernel
theorem d_X5_shadedBy_87 : decode cX5_shadedBy 87 = .ok (.getfield 26, 3) := by decide +kernel
theorem d_X5_shadedBy_90 : decode cX5_shadedBy 90 = .ok (.iload_n 3, 1) := by decide +kernel
theorem d_X5_shadedBy_91 : decode cX5_shadedBy 91 = .ok (.iaload, 1) := by decide +kernel
theorem d_X5_shadedBy_92 : decode cX5_shadedBy 92 = .ok (.iaload, 1) := by decide +kernel
theorem d_X5_shadedBy_93 : decode cX5_shadedBy 93 = .ok (.isub, 1) := by decide +kernel
theorem d_X5_shadedBy_94 : decode cX5_shadedBy 94 = .ok (.istore 8, 2) := by decide +kernel
theorem d_X5_shadedBy_96 : decode cX5_shadedBy 96 = .ok (.aload_n 0, 1) := by decide +kernel
theorem d_X5_shadedBy_97 : decode cX5_shadedBy 97 = .ok (.iload 7, 2) := by decide +kernel
theorem d_X5_shadedBy_99 : decode cX5_shadedBy 99 = .ok (.iload 8, 2) := by decide +kernel
theorem d_X5_shadedBy_101 : decode cX5_shadedBy 101 = .ok (.invokevirtual 120, 3) := by decide +kernel
theorem d_X5_shadedBy_104 : decode cX5_shadedBy 104 = .ok (.ifCond .ne 6, 3) := by decide +kernel
theorem d_X5_shadedBy_107 : decode cX5_shadedBy 107 = .ok (.goto 24, 3) := by decide +kernel
theorem d_X5_shadedBy_110 : decode cX5_shadedBy 110 = .ok (.lload 4, 2) := by decide +kernel
theorem d_X5_shadedBy_112 : decode cX5_shadedBy 112 = .ok (.iload 7, 2) := by decide +kernel
theorem d_X5_shadedBy_114 : decode cX5_shadedBy 114 = .ok (.iload 8, 2) := by decide +kernel
theorem d_X5_shadedBy_116 : decode cX5_shadedBy 116 = .ok (.invokestatic 103, 3) := by decide +kernel
theorem d_X5_shadedBy_119 : decode cX5_shadedBy 119 = .ok (.invokestatic 106, 3) := by decide +kernel
theorem d_X5_shadedBy_122 : decode cX5_shadedBy 122 = .ok (.lor, 1) := by decide +kernel
theorem d_X5_shadedBy_123 : decode cX5_shadedBy 123 = .ok (.lstore 4, 2) := by decide +kernel
theorem d_X5_shadedBy_125 : decode cX5_shadedBy 125 = .ok (.iinc 9 1, 3) := by decide +kernel
theorem d_X5_shadedBy_128 : decode cX5_shadedBy 128 = .ok (.goto (-76), 3) := by decide +kernel
theorem d_X5_shadedBy_131 : decode cX5_shadedBy 131 = .ok (.lload 4, 2) := by decide +kernel
theorem d_X5_shadedBy_133 : decode cX5_shadedBy 133 = .ok (.lreturn, 1) := by decide +kernel
noncomputable def F_X5_shadedBy_52 (t : Nat) (p0 : Int32) (p1 : Int32) (p2 : Int32) (self52 : Int32 → Int64 → Int32 → Int32 → Int32 → Int32 → zMem → Option (Int64 × zMem)) (b52_L3 : Int32) (b52_L4 : Int64) (b52_L6 : Int32) (b52_L7 : Int32) (b52_L8 : Int32) (b52_L9 : Int32) (M : zMem) : Option (Int64 × zMem) :=
  if b52_L6 < b52_L9 then
    some (b52_L4, M)
  else
    if (8 : Int32) ≤ b52_L9 then
      some (b52_L4, M)
    else
      gin b52_L3 10 <|
      gin (M.1 (t + 1) b52_L3.toNatClampNeg) 8 <|
      zl (b52_L7 - (zEast (M.1 (t + 1) b52_L3.toNatClampNeg).toNatClampNeg)) fun v3 =>
      zl (b52_L8 - (zSouth (M.1 (t + 1) b52_L3.toNatClampNeg).toNatClampNeg)) fun v4 =>
      zb (F_X5_holds M t v3 v4) fun v6 M5 =>
      if v6 = 0 then
        some (b52_L4, M5)
      else
        zb (F_X9_placeOf M5 v3 v4) fun v8 M7 =>
        zb (F_X9_bit M7 v8) fun v10 M9 =>
        zl (b52_L4 ||| v10) fun v11 =>
        self52 b52_L3 v11 b52_L6 v3 v4 (b52_L9 + 1) M9
noncomputable def F_X5_shadedBy (M : zMem) (t : Nat) (p0 : Int32) (p1 : Int32) (p2 : Int32) : Option (Int64 × zMem) :=
  zb (F_X9_bit M p0) fun v13 M12 =>
  if p2 < 0 then
    some (v13, M12)
  else
    if p2 < (M12.1 t 2) then
      zb (F_X9_heightOf M12 p1) fun v15 M14 =>
      gin p2 10 <|
      zl ((v15 * (M14.1 (t + 2) p2.toNatClampNeg)) / (10 : Int32)) fun v17 =>
      zl (p0 - p0 / (8 : Int32) * (8 : Int32)) fun v18 =>
      zl (p0 / (8 : Int32)) fun v19 =>
      itF (fun _ _ _ _ _ _ _ => none) (F_X5_shadedBy_52 t p0 p1 p2) zFuel p2 v13 v17 v18 v19 (1 : Int32) M14
    else
      some (v13, M12)
def rm_X5_shadedBy : Room := { frames := 3, cells := 0, slots := 0, locals := 102 }
set_option maxHeartbeats 4000000 in
set_option maxRecDepth 100000 in
theorem c_X5_shadedBy (l : Launch) {G : zG} {ad : Nat → Nat} {n : Nat} (hA : zInj ad n) (M : zMem) (t : Nat) (p0 : Int32) (p1 : Int32) (p2 : Int32) (hT_t : zT shX n t 6) {r9 : Int64} {M9 : zMem} (hF : F_X5_shadedBy M t p0 p1 p2 = some (r9, M9)) : zM l yX5_shadedBy cX5_shadedBy 10 (some .long) rm_X5_shadedBy G shX ad n M [.ref (ad t), .int p0, .int p1, .int p2] (some (.long r9)) M9 := by
  refine zM_of hA (by decide +kernel) (lv := [(0, .ref (ad t)), (1, .int p0), (2, .int p1), (3, .int p2)]) (Nat.le_of_ble_eq_true rfl) rfl (fun p e s m args below meth c A cx hr => ?_)
  have hL52 : ∀ (fuel : Nat), ∀ (b52_L3 : Int32) (b52_L4 : Int64) (b52_L6 : Int32) (b52_L7 : Int32) (b52_L8 : Int32) (b52_L9 : Int32) (M : zMem), itF (fun _ _ _ _ _ _ _ => none) (F_X5_shadedBy_52 t p0 p1 p2) fuel b52_L3 b52_L4 b52_L6 b52_L7 b52_L8 b52_L9 M = some (r9, M9) → zJ p l e rm_X5_shadedBy s m args below meth c G shX ad n A 10 (MQ below (zQ G shX ad n M9 (some (.long r9)) A) args s 0 0 A) 0 0 M 52 [(0, .ref (ad t)), (3, .int b52_L3), (4, .long b52_L4), (6, .int b52_L6), (7, .int b52_L7), (8, .int b52_L8), (9, .int b52_L9)] [] := by
    intro fuel
    induction fuel with
    | zero => intro b52_L3 b52_L4 b52_L6 b52_L7 b52_L8 b52_L9 M hF; cases hF
    | succ fuel hs52 =>
      intro b52_L3 b52_L4 b52_L6 b52_L7 b52_L8 b52_L9 M hF
      have hF : F_X5_shadedBy_52 t p0 p1 p2 (itF (fun _ _ _ _ _ _ _ => none) (F_X5_shadedBy_52 t p0 p1 p2) fuel) b52_L3 b52_L4 b52_L6 b52_L7 b52_L8 b52_L9 M = some (r9, M9) := hF
      generalize itF (fun _ _ _ _ _ _ _ => none) (F_X5_shadedBy_52 t p0 p1 p2) fuel = self52 at hs52 hF
      unfold F_X5_shadedBy_52 at hF
      refine z_iload cx d_X5_shadedBy_52 6 rfl ?_
      refine z_iload cx d_X5_shadedBy_54 3 rfl ?_
      refine z_icmp_gt cx 131 d_X5_shadedBy_56 (by decide) hF (fun hF => ?_) (fun hF => ?_)
      · refine z_lload cx d_X5_shadedBy_131 2 rfl ?_
        exact z_lret cx hr hF d_X5_shadedBy_133
      refine z_iload cx d_X5_shadedBy_59 6 rfl ?_
      refine z_bipush (v := 8) cx d_X5_shadedBy_61 kb_8 ?_
      refine z_icmp_ge cx 131 d_X5_shadedBy_63 (by decide) hF (fun hF => ?_) (fun hF => ?_)
      · refine z_lload cx d_X5_shadedBy_131 2 rfl ?_
        exact z_lret cx hr hF d_X5_shadedBy_133
      refine z_iload cx d_X5_shadedBy_66 4 rfl ?_
      refine z_east cx wd_762 d_X5_shadedBy_68 ?_
      refine z_aload_n cx d_X5_shadedBy_71 0 rfl ?_
      refine z_getR cx hT_t fg_Plan_26 (t + 1) rfl d_X5_shadedBy_72 ?_
      refine z_iload_n cx d_X5_shadedBy_75 1 rfl ?_
      obtain ⟨hi1, hF⟩ := gin_inv hF
      refine z_iald cx (tfX_6_1 hT_t) za_25 hi1 b52_L3.toNatClampNeg rfl d_X5_shadedBy_76 ?_
      obtain ⟨hi2, hF⟩ := gin_inv hF
      refine z_eastAt cx hi2 d_X5_shadedBy_77 ?_
      refine z_isub cx d_X5_shadedBy_78 ?_
      refine z_nm hF (fun v3 hF => ?_)
      refine z_istore cx 7 [(7, .int v3), (0, .ref (ad t)), (3, .int b52_L3), (4, .long b52_L4), (6, .int b52_L6), (8, .int b52_L8), (9, .int b52_L9)] d_X5_shadedBy_79 (by decide) rfl ?_
      refine z_iload cx d_X5_shadedBy_81 5 rfl ?_
      refine z_south cx wd_764 d_X5_shadedBy_83 ?_
      refine z_aload_n cx d_X5_shadedBy_86 1 rfl ?_
      refine z_getR cx hT_t fg_Plan_26 (t + 1) rfl d_X5_shadedBy_87 ?_
      refine z_iload_n cx d_X5_shadedBy_90 2 rfl ?_
      refine z_iald cx (tfX_6_1 hT_t) za_25 hi1 b52_L3.toNatClampNeg rfl d_X5_shadedBy_91 ?_
      refine z_southAt cx hi2 d_X5_shadedBy_92 ?_
      refine z_isub cx d_X5_shadedBy_93 ?_
      refine z_nm hF (fun v4 hF => ?_)
      refine z_istore cx 8 [(8, .int v4), (7, .int v3), (0, .ref (ad t)), (3, .int b52_L3), (4, .long b52_L4), (6, .int b52_L6), (9, .int b52_L9)] d_X5_shadedBy_94 (by decide) rfl ?_
      refine z_aload_n cx d_X5_shadedBy_96 2 rfl ?_
      refine z_iload cx d_X5_shadedBy_97 1 rfl ?_
      refine z_iload cx d_X5_shadedBy_99 0 rfl ?_
      obtain ⟨v6, M5, hc, hF⟩ := zb_inv hF
      refine z_callV cx (As := [.int v3, .int v4]) (rest := []) (c_X5_holds l cx.2.2.2.1.1 M t v3 v4 hT_t hc) hT_t zo_6 cv_Plan_120 ⟨rfl, rfl, Nat.le_of_ble_eq_true rfl, Nat.le_of_ble_eq_true rfl⟩ rfl rfl ⟨Nat.zero_le _, Nat.zero_le _⟩ (Nat.le_of_ble_eq_true rfl) d_X5_shadedBy_101 ?_
      refine z_if_ne cx 110 d_X5_shadedBy_104 (by decide) hF (fun hF => ?_) (fun hF => ?_)
      · refine z_lload cx d_X5_shadedBy_110 4 rfl ?_
        refine z_iload cx d_X5_shadedBy_112 1 rfl ?_
        refine z_iload cx d_X5_shadedBy_114 0 rfl ?_
        obtain ⟨v8, M7, hc, hF⟩ := zb_inv hF
        refine z_callSN cx (As := [.int v3, .int v4]) (rest := [.long b52_L4]) (c_X9_placeOf l cx.2.2.2.1.1 M5 v3 v4  hc) cn_Plan_103 wd_310 ⟨rfl, rfl, Nat.le_of_ble_eq_true rfl, Nat.le_of_ble_eq_true rfl⟩ rfl rfl ⟨Nat.zero_le _, Nat.zero_le _⟩ (Nat.le_of_ble_eq_true rfl) d_X5_shadedBy_116 ?_
        obtain ⟨v10, M9, hc, hF⟩ := zb_inv hF
        refine z_callSN cx (As := [.int v8]) (rest := [.long b52_L4]) (c_X9_bit l cx.2.2.2.1.1 M7 v8  hc) cn_Plan_106 wd_313 ⟨rfl, rfl, Nat.le_of_ble_eq_true rfl, Nat.le_of_ble_eq_true rfl⟩ rfl rfl ⟨Nat.zero_le _, Nat.zero_le _⟩ (Nat.le_of_ble_eq_true rfl) d_X5_shadedBy_119 ?_
        refine z_lor cx d_X5_shadedBy_122 ?_
        refine z_nml hF (fun v11 hF => ?_)
        refine z_lstore cx 4 [(4, .long v11), (8, .int v4), (7, .int v3), (0, .ref (ad t)), (3, .int b52_L3), (6, .int b52_L6), (9, .int b52_L9)] d_X5_shadedBy_123 (by decide) rfl ?_
        refine z_iinc cx 9 1 [(9, .int (b52_L9 + 1)), (4, .long v11), (8, .int v4), (7, .int v3), (0, .ref (ad t)), (3, .int b52_L3), (6, .int b52_L6)] d_X5_shadedBy_125 6 rfl ki_1 (by decide) rfl ?_
        refine z_goto cx 52 d_X5_shadedBy_128 (by decide) ?_
        exact z_lv [4, 5, 1, 6, 3, 2, 0] _ rfl (hs52 b52_L3 v11 b52_L6 v3 v4 (b52_L9 + 1) M9 hF)
      refine z_goto cx 131 d_X5_shadedBy_107 (by decide) ?_
      refine z_lload cx d_X5_shadedBy_131 4 rfl ?_
      exact z_lret cx hr hF d_X5_shadedBy_133
  unfold F_X5_shadedBy at hF
  refine z_iload_n cx d_X5_shadedBy_0 1 rfl ?_
  obtain ⟨v13, M12, hc, hF⟩ := zb_inv hF
  refine z_callSN cx (As := [.int p0]) (rest := []) (c_X9_bit l cx.2.2.2.1.1 M p0  hc) cn_Plan_106 wd_313 ⟨rfl, rfl, Nat.le_of_ble_eq_true rfl, Nat.le_of_ble_eq_true rfl⟩ rfl rfl ⟨Nat.zero_le _, Nat.zero_le _⟩ (Nat.le_of_ble_eq_true rfl) d_X5_shadedBy_1 ?_
  refine z_lstore cx 4 [(4, .long v13), (0, .ref (ad t)), (1, .int p0), (2, .int p1), (3, .int p2)] d_X5_shadedBy_4 (by decide) rfl ?_
  refine z_iload_n cx d_X5_shadedBy_6 4 rfl ?_
  refine z_if_lt cx 18 d_X5_shadedBy_7 (by decide) hF (fun hF => ?_) (fun hF => ?_)
  · refine z_lload cx d_X5_shadedBy_18 0 rfl ?_
    exact z_lret cx hr hF d_X5_shadedBy_20
  refine z_iload_n cx d_X5_shadedBy_10 4 rfl ?_
  refine z_aload_n cx d_X5_shadedBy_11 1 rfl ?_
  refine z_getI cx hT_t fg_Plan_42 d_X5_shadedBy_12 ?_
  refine z_icmp_lt cx 21 d_X5_shadedBy_15 (by decide) hF (fun hF => ?_) (fun hF => ?_)
  · refine z_iload_n cx d_X5_shadedBy_21 3 rfl ?_
    obtain ⟨v15, M14, hc, hF⟩ := zb_inv hF
    refine z_callSN cx (As := [.int p1]) (rest := []) (c_X9_heightOf l cx.2.2.2.1.1 M12 p1  hc) cn_Plan_110 wd_760 ⟨rfl, rfl, Nat.le_of_ble_eq_true rfl, Nat.le_of_ble_eq_true rfl⟩ rfl rfl ⟨Nat.zero_le _, Nat.zero_le _⟩ (Nat.le_of_ble_eq_true rfl) d_X5_shadedBy_22 ?_
    refine z_aload_n cx d_X5_shadedBy_25 1 rfl ?_
    refine z_getR cx hT_t fg_Plan_30 (t + 2) rfl d_X5_shadedBy_26 ?_
    refine z_iload_n cx d_X5_shadedBy_29 4 rfl ?_
    obtain ⟨hi16, hF⟩ := gin_inv hF
    refine z_iald cx (tfX_6_2 hT_t) za_25 hi16 p2.toNatClampNeg rfl d_X5_shadedBy_30 ?_
    refine z_imul cx d_X5_shadedBy_31 ?_
    refine z_bipush (v := 10) cx d_X5_shadedBy_32 kb_10 ?_
    refine z_idiv cx d_X5_shadedBy_34 (by decide) ?_
    refine z_nm hF (fun v17 hF => ?_)
    refine z_istore cx 6 [(6, .int v17), (4, .long v13), (0, .ref (ad t)), (1, .int p0), (2, .int p1), (3, .int p2)] d_X5_shadedBy_35 (by decide) rfl ?_
    refine z_iload_n cx d_X5_shadedBy_37 3 rfl ?_
    refine z_bipush (v := 8) cx d_X5_shadedBy_38 kb_8 ?_
    refine z_irem cx d_X5_shadedBy_40 (by decide) ?_
    refine z_nm hF (fun v18 hF => ?_)
    refine z_istore cx 7 [(7, .int v18), (6, .int v17), (4, .long v13), (0, .ref (ad t)), (1, .int p0), (2, .int p1), (3, .int p2)] d_X5_shadedBy_41 (by decide) rfl ?_
    refine z_iload_n cx d_X5_shadedBy_43 4 rfl ?_
    refine z_bipush (v := 8) cx d_X5_shadedBy_44 kb_8 ?_
    refine z_idiv cx d_X5_shadedBy_46 (by decide) ?_
    refine z_nm hF (fun v19 hF => ?_)
    refine z_istore cx 8 [(8, .int v19), (7, .int v18), (6, .int v17), (4, .long v13), (0, .ref (ad t)), (1, .int p0), (2, .int p1), (3, .int p2)] d_X5_shadedBy_47 (by decide) rfl ?_
    refine z_iconst (v := 1) cx d_X5_shadedBy_49 ki_1 ?_
    refine z_istore cx 9 [(9, .int (1 : Int32)), (8, .int v19), (7, .int v18), (6, .int v17), (4, .long v13), (0, .ref (ad t)), (1, .int p0), (2, .int p1), (3, .int p2)] d_X5_shadedBy_50 (by decide) rfl ?_
    exact z_lv [5, 8, 4, 3, 2, 1, 0] _ rfl (hL52 zFuel p2 v13 v17 v18 v19 (1 : Int32) M14 hF)
  refine z_lload cx d_X5_shadedBy_18 0 rfl ?_
  exact z_lret cx hr hF d_X5_shadedBy_20
/-! SunnyPans$Pans.learnShades -/
set_option maxRecDepth 100000 in
theorem wd_326 : Cond.fieldLink "SunnyPans$Pans" 90 "SunnyPans$Plan" "hours" "I" ∈ tbG := tw1 226 rfl rfl
theorem fg_Pans_90 : zGetI "SunnyPans$Pans" 90 5 6 2 := ⟨RX5, TX5, 9, rfl, by decide, uw_5, wd_326, fun _ _ _ _ _ _ => ⟨_, rfl, rfl⟩⟩
set_option maxRecDepth 100000 in
theorem wd_758 : Cond.code yX5_shadedBy cX5_shadedBy 10 (some .long) ∈ tbG := tw3 178 rfl rfl
set_option maxRecDepth 100000 in
theorem wd_755 : Cond.methodLink "SunnyPans$Pans" 93 yX5_shadedBy ∈ tbG := tw3 175 rfl rfl
set_option maxRecDepth 100000 in
theorem wd_756 : Cond.instanceMethod yX5_shadedBy ∈ tbG := tw3 176 rfl rfl
set_option maxRecDepth 100000 in
theorem wd_757 : Cond.selects "SunnyPans$Plan" yX5_shadedBy yX5_shadedBy ∈ tbG := tw3 177 rfl rfl
theorem cv_Pans_93 : zCV "SunnyPans$Pans" 93 "SunnyPans$Plan" yX5_shadedBy cX5_shadedBy 10 (some .long) 3 := zCV_of wd_755 wd_756 wd_757 wd_108 wd_758 (by decide +kernel)
theorem d_X4_learnShades_0 : decode cX4_learnShades 0 = .ok (.iconst 0, 1) := by decide +kernel
theorem d_X4_learnShades_1 : decode cX4_learnShades 1 = .ok (.istore_n 2, 1) := by decide +kernel
theorem d_X4_learnShades_2 : decode cX4_learnShades 2 = .ok (.iload_n 2, 1) := by decide +kernel
theorem d_X4_learnShades_3 : decode cX4_learnShades 3 = .ok (.bipush 10, 2) := by decide +kernel
theorem d_X4_learnShades_5 : decode cX4_learnShades 5 = .ok (.if_icmp .ge 16, 3) := by decide +kernel
theorem d_X4_learnShades_8 : decode cX4_learnShades 8 = .ok (.aload_n 0, 1) := by decide +kernel
theorem d_X4_learnShades_9 : decode cX4_learnShades 9 = .ok (.getfield 21, 3) := by decide +kernel
theorem d_X4_learnShades_12 : decode cX4_learnShades 12 = .ok (.iload_n 2, 1) := by decide +kernel
theorem d_X4_learnShades_13 : decode cX4_learnShades 13 = .ok (.lconst 0, 1) := by decide +kernel
theorem d_X4_learnShades_14 : decode cX4_learnShades 14 = .ok (.lastore, 1) := by decide +kernel
theorem d_X4_learnShades_15 : decode cX4_learnShades 15 = .ok (.iinc 2 1, 3) := by decide +kernel
theorem d_X4_learnShades_18 : decode cX4_learnShades 18 = .ok (.goto (-16), 3) := by decide +kernel
theorem d_X4_learnShades_21 : decode cX4_learnShades 21 = .ok (.iconst 0, 1) := by decide +kernel
theorem d_X4_learnShades_22 : decode cX4_learnShades 22 = .ok (.istore_n 2, 1) := by decide +kernel
theorem d_X4_learnShades_23 : decode cX4_learnShades 23 = .ok (.iload_n 2, 1) := by decide +kernel
theorem d_X4_learnShades_24 : decode cX4_learnShades 24 = .ok (.bipush 64, 2) := by decide +kernel
theorem d_X4_learnShades_26 : decode cX4_learnShades 26 = .ok (.if_icmp .ge 55, 3) := by decide +kernel
theorem d_X4_learnShades_29 : decode cX4_learnShades 29 = .ok (.iconst 0, 1) := by decide +kernel
theorem d_X4_learnShades_30 : decode cX4_learnShades 30 = .ok (.istore_n 3, 1) := by decide +kernel
theorem d_X4_learnShades_31 : decode cX4_learnShades 31 = .ok (.iload_n 3, 1) := by decide +kernel
theorem d_X4_learnShades_32 : decode cX4_learnShades 32 = .ok (.aload_n 1, 1) := by decide +kernel
theorem d_X4_learnShades_33 : decode cX4_learnShades 33 = .ok (.getfield 90, 3) := by decide +kernel
theorem d_X4_learnShades_36 : decode cX4_learnShades 36 = .ok (.if_icmp .ge 39, 3) := by decide +kernel
theorem d_X4_learnShades_39 : decode cX4_learnShades 39 = .ok (.aload_n 0, 1) := by decide +kernel
theorem d_X4_learnShades_40 : decode cX4_learnShades 40 = .ok (.getfield 18, 3) := by decide +kernel
theorem d_X4_learnShades_43 : decode cX4_learnShades 43 = .ok (.iload_n 2, 1) := by decide +kernel
theorem d_X4_learnShades_44 : decode cX4_learnShades 44 = .ok (.iaload, 1) := by decide +kernel
theorem d_X4_learnShades_45 : decode cX4_learnShades 45 = .ok (.ifCond .le 30, 3) := by decide +kernel
theorem d_X4_learnShades_48 : decode cX4_learnShades 48 = .ok (.aload_n 0, 1) := by decide +kernel
theorem d_X4_learnShades_49 : decode cX4_learnShades 49 = .ok (.getfield 21, 3) := by decide +kernel
theorem d_X4_learnShades_52 : decode cX4_learnShades 52 = .ok (.iload_n 3, 1) := by decide +kernel
theorem d_X4_learnShades_53 : decode cX4_learnShades 53 = .ok (.dup2, 1) := by decide +kernel
theorem d_X4_learnShades_54 : decode cX4_learnShades 54 = .ok (.laload, 1) := by decide +kernel
theorem d_X4_learnShades_55 : decode cX4_learnShades 55 = .ok (.aload_n 1, 1) := by decide +kernel
theorem d_X4_learnShades_56 : decode cX4_learnShades 56 = .ok (.iload_n 2, 1) := by decide +kernel
theorem d_X4_learnShades_57 : decode cX4_learnShades 57 = .ok (.aload_n 0, 1) := by decide +kernel
theorem d_X4_learnShades_58 : decode cX4_learnShades 58 = .ok (.getfield 18, 3) := by decide +kernel
theorem d_X4_learnShades_61 : decode cX4_learnShades 61 = .ok (.iload_n 2, 1) := by decide +kernel
theorem d_X4_learnShades_62 : decode cX4_learnShades 62 = .ok (.iaload, 1) := by decide +kernel
theorem d_X4_learnShades_63 : decode cX4_learnShades 63 = .ok (.iload_n 3, 1) := by decide +kernel
theorem d_X4_learnShades_64 : decode cX4_learnShades 64 = .ok (.invokevirtual 93, 3) := by decide +kernel
theorem d_X4_learnShades_67 : decode cX4_learnShades 67 = .ok (.lor, 1) := by decide +kernel
theorem d_X4_learnShades_68 : decode cX4_learnShades 68 = .ok (.lastore, 1) := by decide +kernel
theorem d_X4_learnShades_69 : decode cX4_learnShades 69 = .ok (.iinc 3 1, 3) := by decide +kernel
theorem d_X4_learnShades_72 : decode cX4_learnShades 72 = .ok (.goto (-41), 3) := by decide +kernel
theorem d_X4_learnShades_75 : decode cX4_learnShades 75 = .ok (.iinc 2 1, 3) := by decide +kernel
theorem d_X4_learnShades_78 : decode cX4_learnShades 78 = .ok (.goto (-55), 3) := by decide +kernel
theorem d_X4_learnShades_81 : decode cX4_learnShades 81 = .ok (.return_, 1) := by decide +kernel
noncomputable def F_X4_learnShades_75 (t : Nat) (p0 : Nat) (self23 : Int32 → zMem → Option (zMem)) (b75_L2 : Int32) (M : zMem) : Option (zMem) :=
  self23 (b75_L2 + 1) M
noncomputable def F_X4_learnShades_31 (t : Nat) (p0 : Nat) (self23 : Int32 → zMem → Option (zMem)) (self31 : Int32 → Int32 → zMem → Option (zMem)) (b31_L2 : Int32) (b31_L3 : Int32) (M : zMem) : Option (zMem) :=
  if (M.1 p0 2) ≤ b31_L3 then
    F_X4_learnShades_75 t p0 self23 b31_L2 M
  else
    gin b31_L2 64 <|
    if (M.1 (t + 3) b31_L2.toNatClampNeg) ≤ 0 then
      F_X4_learnShades_75 t p0 self23 b31_L2 M
    else
      gin b31_L3 10 <|
      zb (F_X5_shadedBy M p0 b31_L2 (M.1 (t + 3) b31_L2.toNatClampNeg) b31_L3) fun v4 M3 =>
      zl (zL M3 (t + 4) b31_L3.toNatClampNeg ((M.2.1 (t + 4) b31_L3.toNatClampNeg) ||| v4)) fun M5 =>
      self31 b31_L2 (b31_L3 + 1) M5
noncomputable def F_X4_learnShades_23 (t : Nat) (p0 : Nat) (self23 : Int32 → zMem → Option (zMem)) (b23_L2 : Int32) (M : zMem) : Option (zMem) :=
  if (64 : Int32) ≤ b23_L2 then
    some M
  else
    itF (fun _ _ _ => none) (F_X4_learnShades_31 t p0 self23) zFuel b23_L2 (0 : Int32) M
noncomputable def F_X4_learnShades_2 (t : Nat) (p0 : Nat) (self2 : Int32 → zMem → Option (zMem)) (b2_L2 : Int32) (M : zMem) : Option (zMem) :=
  if (10 : Int32) ≤ b2_L2 then
    itF (fun _ _ => none) (F_X4_learnShades_23 t p0) zFuel (0 : Int32) M
  else
    gin b2_L2 10 <|
    zl (zL M (t + 4) b2_L2.toNatClampNeg (0 : Int64)) fun M7 =>
    self2 (b2_L2 + 1) M7
noncomputable def F_X4_learnShades (M : zMem) (t : Nat) (p0 : Nat) : Option (zMem) :=
  itF (fun _ _ => none) (F_X4_learnShades_2 t p0) zFuel (0 : Int32) M
def rm_X4_learnShades : Room := { frames := 4, cells := 0, slots := 0, locals := 131 }
set_option maxHeartbeats 4000000 in
set_option maxRecDepth 100000 in
theorem c_X4_learnShades (l : Launch) {G : zG} {ad : Nat → Nat} {n : Nat} (hA : zInj ad n) (M : zMem) (t : Nat) (p0 : Nat) (hT_t : zT shX n t 5) (hT_p0 : zT shX n p0 6) {M9 : zMem} (hF : F_X4_learnShades M t p0 = some M9) : zM l yX4_learnShades cX4_learnShades 4 none rm_X4_learnShades G shX ad n M [.ref (ad t), .ref (ad p0)] none M9 := by
  refine zM_of hA (by decide +kernel) (lv := [(0, .ref (ad t)), (1, .ref (ad p0))]) (Nat.le_of_ble_eq_true rfl) rfl (fun p e s m args below meth c A cx hr => ?_)
  have hb75 : ∀ (self23 : Int32 → zMem → Option (zMem)) (hs23 : ∀ (b23_L2 : Int32) (M : zMem), self23 b23_L2 M = some M9 → zJ p l e rm_X4_learnShades s m args below meth c G shX ad n A 4 (MQ below (zQ G shX ad n M9 none A) args s 0 0 A) 0 0 M 23 [(0, .ref (ad t)), (1, .ref (ad p0)), (2, .int b23_L2)] []), ∀ (b75_L2 : Int32) (M : zMem), F_X4_learnShades_75 t p0 self23 b75_L2 M = some M9 → zJ p l e rm_X4_learnShades s m args below meth c G shX ad n A 4 (MQ below (zQ G shX ad n M9 none A) args s 0 0 A) 0 0 M 75 [(0, .ref (ad t)), (1, .ref (ad p0)), (2, .int b75_L2)] [] := by
    intro self23 hs23 b75_L2 M hF
    unfold F_X4_learnShades_75 at hF
    refine z_iinc cx 2 1 [(2, .int (b75_L2 + 1)), (0, .ref (ad t)), (1, .ref (ad p0))] d_X4_learnShades_75 2 rfl ki_1 (by decide) rfl ?_
    refine z_goto cx 23 d_X4_learnShades_78 (by decide) ?_
    exact z_lv [1, 2, 0] _ rfl (hs23 (b75_L2 + 1) M hF)
  have hL31 : ∀ (self23 : Int32 → zMem → Option (zMem)) (hs23 : ∀ (b23_L2 : Int32) (M : zMem), self23 b23_L2 M = some M9 → zJ p l e rm_X4_learnShades s m args below meth c G shX ad n A 4 (MQ below (zQ G shX ad n M9 none A) args s 0 0 A) 0 0 M 23 [(0, .ref (ad t)), (1, .ref (ad p0)), (2, .int b23_L2)] []) (fuel : Nat), ∀ (b31_L2 : Int32) (b31_L3 : Int32) (M : zMem), itF (fun _ _ _ => none) (F_X4_learnShades_31 t p0 self23) fuel b31_L2 b31_L3 M = some M9 → zJ p l e rm_X4_learnShades s m args below meth c G shX ad n A 4 (MQ below (zQ G shX ad n M9 none A) args s 0 0 A) 0 0 M 31 [(0, .ref (ad t)), (1, .ref (ad p0)), (2, .int b31_L2), (3, .int b31_L3)] [] := by
    intro self23 hs23 fuel
    induction fuel with
    | zero => intro b31_L2 b31_L3 M hF; cases hF
    | succ fuel hs31 =>
      intro b31_L2 b31_L3 M hF
      have hF : F_X4_learnShades_31 t p0 self23 (itF (fun _ _ _ => none) (F_X4_learnShades_31 t p0 self23) fuel) b31_L2 b31_L3 M = some M9 := hF
      generalize itF (fun _ _ _ => none) (F_X4_learnShades_31 t p0 self23) fuel = self31 at hs31 hF
      unfold F_X4_learnShades_31 at hF
      refine z_iload_n cx d_X4_learnShades_31 3 rfl ?_
      refine z_aload_n cx d_X4_learnShades_32 1 rfl ?_
      refine z_getI cx hT_p0 fg_Pans_90 d_X4_learnShades_33 ?_
      refine z_icmp_ge cx 75 d_X4_learnShades_36 (by decide) hF (fun hF => ?_) (fun hF => ?_)
      · exact z_lv [0, 1, 2] _ rfl (hb75 self23 hs23 b31_L2 M hF)
      refine z_aload_n cx d_X4_learnShades_39 0 rfl ?_
      refine z_getR cx hT_t fg_Pans_18 (t + 3) rfl d_X4_learnShades_40 ?_
      refine z_iload_n cx d_X4_learnShades_43 2 rfl ?_
      obtain ⟨hi1, hF⟩ := gin_inv hF
      refine z_iald cx (tfX_5_3 hT_t) za_16 hi1 b31_L2.toNatClampNeg rfl d_X4_learnShades_44 ?_
      refine z_if_le cx 75 d_X4_learnShades_45 (by decide) hF (fun hF => ?_) (fun hF => ?_)
      · exact z_lv [0, 1, 2] _ rfl (hb75 self23 hs23 b31_L2 M hF)
      refine z_aload_n cx d_X4_learnShades_48 0 rfl ?_
      refine z_getR cx hT_t fg_Pans_21 (t + 4) rfl d_X4_learnShades_49 ?_
      refine z_iload_n cx d_X4_learnShades_52 3 rfl ?_
      refine z_dup2 cx d_X4_learnShades_53 rfl rfl ?_
      obtain ⟨hi2, hF⟩ := gin_inv hF
      refine z_lald cx (tfX_5_4 hT_t) za_18 hi2 b31_L3.toNatClampNeg rfl d_X4_learnShades_54 ?_
      refine z_aload_n cx d_X4_learnShades_55 1 rfl ?_
      refine z_iload_n cx d_X4_learnShades_56 2 rfl ?_
      refine z_aload_n cx d_X4_learnShades_57 0 rfl ?_
      refine z_getR cx hT_t fg_Pans_18 (t + 3) rfl d_X4_learnShades_58 ?_
      refine z_iload_n cx d_X4_learnShades_61 2 rfl ?_
      refine z_iald cx (tfX_5_3 hT_t) za_16 hi1 b31_L2.toNatClampNeg rfl d_X4_learnShades_62 ?_
      refine z_iload_n cx d_X4_learnShades_63 3 rfl ?_
      obtain ⟨v4, M3, hc, hF⟩ := zb_inv hF
      refine z_callV cx (As := [.int b31_L2, .int (M.1 (t + 3) b31_L2.toNatClampNeg), .int b31_L3]) (rest := [.long (M.2.1 (t + 4) b31_L3.toNatClampNeg), .int b31_L3, .ref (ad (t + 4))]) (c_X5_shadedBy l cx.2.2.2.1.1 M p0 b31_L2 (M.1 (t + 3) b31_L2.toNatClampNeg) b31_L3 hT_p0 hc) hT_p0 zo_6 cv_Pans_93 ⟨rfl, rfl, Nat.le_of_ble_eq_true rfl, Nat.le_of_ble_eq_true rfl⟩ rfl rfl ⟨Nat.zero_le _, Nat.zero_le _⟩ (Nat.le_of_ble_eq_true rfl) d_X4_learnShades_64 ?_
      refine z_lor cx d_X4_learnShades_67 ?_
      refine z_last cx (tfX_5_4 hT_t) za_18 hi2 b31_L3.toNatClampNeg rfl d_X4_learnShades_68 ?_
      refine z_nmM hF (fun M5 hF => ?_)
      refine z_iinc cx 3 1 [(3, .int (b31_L3 + 1)), (0, .ref (ad t)), (1, .ref (ad p0)), (2, .int b31_L2)] d_X4_learnShades_69 3 rfl ki_1 (by decide) rfl ?_
      refine z_goto cx 31 d_X4_learnShades_72 (by decide) ?_
      exact z_lv [1, 2, 3, 0] _ rfl (hs31 b31_L2 (b31_L3 + 1) M5 hF)
  have hL23 : ∀ (fuel : Nat), ∀ (b23_L2 : Int32) (M : zMem), itF (fun _ _ => none) (F_X4_learnShades_23 t p0) fuel b23_L2 M = some M9 → zJ p l e rm_X4_learnShades s m args below meth c G shX ad n A 4 (MQ below (zQ G shX ad n M9 none A) args s 0 0 A) 0 0 M 23 [(0, .ref (ad t)), (1, .ref (ad p0)), (2, .int b23_L2)] [] := by
    intro fuel
    induction fuel with
    | zero => intro b23_L2 M hF; cases hF
    | succ fuel hs23 =>
      intro b23_L2 M hF
      have hF : F_X4_learnShades_23 t p0 (itF (fun _ _ => none) (F_X4_learnShades_23 t p0) fuel) b23_L2 M = some M9 := hF
      generalize itF (fun _ _ => none) (F_X4_learnShades_23 t p0) fuel = self23 at hs23 hF
      unfold F_X4_learnShades_23 at hF
      refine z_iload_n cx d_X4_learnShades_23 2 rfl ?_
      refine z_bipush (v := 64) cx d_X4_learnShades_24 kb_64 ?_
      refine z_icmp_ge cx 81 d_X4_learnShades_26 (by decide) hF (fun hF => ?_) (fun hF => ?_)
      · exact z_vret cx hr hF d_X4_learnShades_81
      refine z_iconst (v := 0) cx d_X4_learnShades_29 ki_0 ?_
      refine z_istore_n cx 3 [(3, .int (0 : Int32)), (0, .ref (ad t)), (1, .ref (ad p0)), (2, .int b23_L2)] d_X4_learnShades_30 rfl (by decide) rfl ?_
      exact z_lv [1, 2, 3, 0] _ rfl (hL31 self23 hs23 zFuel b23_L2 (0 : Int32) M hF)
  have hL2 : ∀ (fuel : Nat), ∀ (b2_L2 : Int32) (M : zMem), itF (fun _ _ => none) (F_X4_learnShades_2 t p0) fuel b2_L2 M = some M9 → zJ p l e rm_X4_learnShades s m args below meth c G shX ad n A 4 (MQ below (zQ G shX ad n M9 none A) args s 0 0 A) 0 0 M 2 [(0, .ref (ad t)), (1, .ref (ad p0)), (2, .int b2_L2)] [] := by
    intro fuel
    induction fuel with
    | zero => intro b2_L2 M hF; cases hF
    | succ fuel hs2 =>
      intro b2_L2 M hF
      have hF : F_X4_learnShades_2 t p0 (itF (fun _ _ => none) (F_X4_learnShades_2 t p0) fuel) b2_L2 M = some M9 := hF
      generalize itF (fun _ _ => none) (F_X4_learnShades_2 t p0) fuel = self2 at hs2 hF
      unfold F_X4_learnShades_2 at hF
      refine z_iload_n cx d_X4_learnShades_2 2 rfl ?_
      refine z_bipush (v := 10) cx d_X4_learnShades_3 kb_10 ?_
      refine z_icmp_ge cx 21 d_X4_learnShades_5 (by decide) hF (fun hF => ?_) (fun hF => ?_)
      · refine z_iconst (v := 0) cx d_X4_learnShades_21 ki_0 ?_
        refine z_istore_n cx 2 [(2, .int (0 : Int32)), (0, .ref (ad t)), (1, .ref (ad p0))] d_X4_learnShades_22 rfl (by decide) rfl ?_
        exact z_lv [1, 2, 0] _ rfl (hL23 zFuel (0 : Int32) M hF)
      refine z_aload_n cx d_X4_learnShades_8 0 rfl ?_
      refine z_getR cx hT_t fg_Pans_21 (t + 4) rfl d_X4_learnShades_9 ?_
      refine z_iload_n cx d_X4_learnShades_12 2 rfl ?_
      refine z_lconst (v := 0) cx d_X4_learnShades_13 (by decide +kernel) ?_
      obtain ⟨hi6, hF⟩ := gin_inv hF
      refine z_last cx (tfX_5_4 hT_t) za_18 hi6 b2_L2.toNatClampNeg rfl d_X4_learnShades_14 ?_
      refine z_nmM hF (fun M7 hF => ?_)
      refine z_iinc cx 2 1 [(2, .int (b2_L2 + 1)), (0, .ref (ad t)), (1, .ref (ad p0))] d_X4_learnShades_15 2 rfl ki_1 (by decide) rfl ?_
      refine z_goto cx 2 d_X4_learnShades_18 (by decide) ?_
      exact z_lv [1, 2, 0] _ rfl (hs2 (b2_L2 + 1) M7 hF)
  unfold F_X4_learnShades at hF
  refine z_iconst (v := 0) cx d_X4_learnShades_0 ki_0 ?_
  refine z_istore_n cx 2 [(2, .int (0 : Int32)), (0, .ref (ad t)), (1, .ref (ad p0))] d_X4_learnShades_1 rfl (by decide) rfl ?_
  exact z_lv [1, 2, 0] _ rfl (hL2 zFuel (0 : Int32) M hF)
/-! SunnyPans$Pans.start -/
theorem tfX_6_3 {n k : Nat} (h : zT shX n k 6) : zT shX n (k + 3) 16 := zT_off h (shX_f (by decide) (by decide +kernel)) (by decide) (by decide)
theorem tfX_6_4 {n k : Nat} (h : zT shX n k 6) : zT shX n (k + 4) 16 := zT_off h (shX_f (by decide) (by decide +kernel)) (by decide) (by decide)
theorem tfX_6_5 {n k : Nat} (h : zT shX n k 6) : zT shX n (k + 5) 16 := zT_off h (shX_f (by decide) (by decide +kernel)) (by decide) (by decide)
set_option maxRecDepth 100000 in
theorem wd_335 : Cond.fieldLink "SunnyPans$Pans" 41 "SunnyPans$Plan" "brine" "[I" ∈ tbG := tw1 235 rfl rfl
theorem fg_Pans_41 : zGetR "SunnyPans$Pans" 41 5 6 6 3 := ⟨RX5, TX5, 9, rfl, by decide, uw_5, wd_335, fun _ _ _ _ _ _ => ⟨_, rfl, rfl⟩⟩
set_option maxRecDepth 100000 in
theorem wd_337 : Cond.fieldLink "SunnyPans$Pans" 44 "SunnyPans$Plan" "salt" "[I" ∈ tbG := tw1 237 rfl rfl
theorem fg_Pans_44 : zGetR "SunnyPans$Pans" 44 5 6 7 4 := ⟨RX5, TX5, 9, rfl, by decide, uw_5, wd_337, fun _ _ _ _ _ _ => ⟨_, rfl, rfl⟩⟩
set_option maxRecDepth 100000 in
theorem wd_339 : Cond.fieldLink "SunnyPans$Pans" 45 "SunnyPans$Plan" "grams" "[I" ∈ tbG := tw1 239 rfl rfl
theorem fg_Pans_45 : zGetR "SunnyPans$Pans" 45 5 6 8 5 := ⟨RX5, TX5, 9, rfl, by decide, uw_5, wd_339, fun _ _ _ _ _ _ => ⟨_, rfl, rfl⟩⟩
set_option maxRecDepth 100000 in
theorem wd_754 : Cond.code yX4_learnShades cX4_learnShades 4 none ∈ tbG := tw3 174 rfl rfl
set_option maxRecDepth 100000 in
theorem wd_751 : Cond.methodLink "SunnyPans$Pans" 46 yX4_learnShades ∈ tbG := tw3 171 rfl rfl
set_option maxRecDepth 100000 in
theorem wd_753 : Cond.instanceMethod yX4_learnShades ∈ tbG := tw3 173 rfl rfl
theorem wd_9 : Cond.selects "SunnyPans$Pans" yX4_learnShades yX4_learnShades ∈ tbG := tw 9 (by decide +kernel) rfl
set_option maxRecDepth 100000 in
theorem wd_104 : Cond.initialized "SunnyPans$Pans" ∈ tbG := tw1 4 rfl rfl
theorem cv_Pans_46 : zCV "SunnyPans$Pans" 46 "SunnyPans$Pans" yX4_learnShades cX4_learnShades 4 none 1 := zCV_of wd_751 wd_753 wd_9 wd_104 wd_754 (by decide +kernel)
theorem zo_5 : zObj "SunnyPans$Pans" 5 := ⟨4, (RX4, TX4, 7), rfl, rfl, fun _ _ _ _ _ _ => ⟨_, rfl⟩⟩
theorem d_X4_start_0 : decode cX4_start 0 = .ok (.aload_n 1, 1) := by decide +kernel
theorem d_X4_start_1 : decode cX4_start 1 = .ok (.getfield 41, 3) := by decide +kernel
theorem d_X4_start_4 : decode cX4_start 4 = .ok (.iconst 0, 1) := by decide +kernel
theorem d_X4_start_5 : decode cX4_start 5 = .ok (.aload_n 0, 1) := by decide +kernel
theorem d_X4_start_6 : decode cX4_start 6 = .ok (.getfield 9, 3) := by decide +kernel
theorem d_X4_start_9 : decode cX4_start 9 = .ok (.iconst 0, 1) := by decide +kernel
theorem d_X4_start_10 : decode cX4_start 10 = .ok (.bipush 64, 2) := by decide +kernel
theorem d_X4_start_12 : decode cX4_start 12 = .ok (.invokestatic 25, 3) := by decide +kernel
theorem d_X4_start_15 : decode cX4_start 15 = .ok (.aload_n 1, 1) := by decide +kernel
theorem d_X4_start_16 : decode cX4_start 16 = .ok (.getfield 44, 3) := by decide +kernel
theorem d_X4_start_19 : decode cX4_start 19 = .ok (.iconst 0, 1) := by decide +kernel
theorem d_X4_start_20 : decode cX4_start 20 = .ok (.aload_n 0, 1) := by decide +kernel
theorem d_X4_start_21 : decode cX4_start 21 = .ok (.getfield 15, 3) := by decide +kernel
theorem d_X4_start_24 : decode cX4_start 24 = .ok (.iconst 0, 1) := by decide +kernel
theorem d_X4_start_25 : decode cX4_start 25 = .ok (.bipush 64, 2) := by decide +kernel
theorem d_X4_start_27 : decode cX4_start 27 = .ok (.invokestatic 25, 3) := by decide +kernel
theorem d_X4_start_30 : decode cX4_start 30 = .ok (.aload_n 1, 1) := by decide +kernel
theorem d_X4_start_31 : decode cX4_start 31 = .ok (.getfield 45, 3) := by decide +kernel
theorem d_X4_start_34 : decode cX4_start 34 = .ok (.iconst 0, 1) := by decide +kernel
theorem d_X4_start_35 : decode cX4_start 35 = .ok (.aload_n 0, 1) := by decide +kernel
theorem d_X4_start_36 : decode cX4_start 36 = .ok (.getfield 18, 3) := by decide +kernel
theorem d_X4_start_39 : decode cX4_start 39 = .ok (.iconst 0, 1) := by decide +kernel
theorem d_X4_start_40 : decode cX4_start 40 = .ok (.bipush 64, 2) := by decide +kernel
theorem d_X4_start_42 : decode cX4_start 42 = .ok (.invokestatic 25, 3) := by decide +kernel
theorem d_X4_start_45 : decode cX4_start 45 = .ok (.aload_n 0, 1) := by decide +kernel
theorem d_X4_start_46 : decode cX4_start 46 = .ok (.iconst 0, 1) := by decide +kernel
theorem d_X4_start_47 : decode cX4_start 47 = .ok (.putfield 31, 3) := by decide +kernel
theorem d_X4_start_50 : decode cX4_start 50 = .ok (.aload_n 0, 1) := by decide +kernel
theorem d_X4_start_51 : decode cX4_start 51 = .ok (.iconst 0, 1) := by decide +kernel
theorem d_X4_start_52 : decode cX4_start 52 = .ok (.putfield 35, 3) := by decide +kernel
theorem d_X4_start_55 : decode cX4_start 55 = .ok (.aload_n 0, 1) := by decide +kernel
theorem d_X4_start_56 : decode cX4_start 56 = .ok (.iconst 0, 1) := by decide +kernel
theorem d_X4_start_57 : decode cX4_start 57 = .ok (.putfield 38, 3) := by decide +kernel
theorem d_X4_start_60 : decode cX4_start 60 = .ok (.aload_n 0, 1) := by decide +kernel
theorem d_X4_start_61 : decode cX4_start 61 = .ok (.aload_n 1, 1) := by decide +kernel
theorem d_X4_start_62 : decode cX4_start 62 = .ok (.invokevirtual 46, 3) := by decide +kernel
theorem d_X4_start_65 : decode cX4_start 65 = .ok (.return_, 1) := by decide +kernel
noncomputable def F_X4_start (M : zMem) (t : Nat) (p0 : Nat) : Option (zMem) :=
  zl (zCI M (p0 + 3) 0 (t + 1) 0 64) fun M1 =>
  zl (zCI M1 (p0 + 4) 0 (t + 2) 0 64) fun M2 =>
  zl (zCI M2 (p0 + 5) 0 (t + 3) 0 64) fun M3 =>
  zl (zI M3 t 3 (0 : Int32)) fun M4 =>
  zl (zI M4 t 4 (0 : Int32)) fun M5 =>
  zl (zI M5 t 5 (0 : Int32)) fun M6 =>
  zbv (F_X4_learnShades M6 t p0) fun M7 =>
  some M7
def rm_X4_start : Room := { frames := 5, cells := 0, slots := 0, locals := 154 }
set_option maxHeartbeats 4000000 in
set_option maxRecDepth 100000 in
theorem c_X4_start (l : Launch) {G : zG} {ad : Nat → Nat} {n : Nat} (hA : zInj ad n) (M : zMem) (t : Nat) (p0 : Nat) (hT_t : zT shX n t 5) (hT_p0 : zT shX n p0 6) {M9 : zMem} (hF : F_X4_start M t p0 = some M9) : zM l yX4_start cX4_start 2 none rm_X4_start G shX ad n M [.ref (ad t), .ref (ad p0)] none M9 := by
  refine zM_of hA (by decide +kernel) (lv := [(0, .ref (ad t)), (1, .ref (ad p0))]) (Nat.le_of_ble_eq_true rfl) rfl (fun p e s m args below meth c A cx hr => ?_)
  unfold F_X4_start at hF
  refine z_aload_n cx d_X4_start_0 1 rfl ?_
  refine z_getR cx hT_p0 fg_Pans_41 (p0 + 3) rfl d_X4_start_1 ?_
  refine z_iconst (v := 0) cx d_X4_start_4 ki_0 ?_
  refine z_aload_n cx d_X4_start_5 0 rfl ?_
  refine z_getR cx hT_t fg_Pans_9 (t + 1) rfl d_X4_start_6 ?_
  refine z_iconst (v := 0) cx d_X4_start_9 ki_0 ?_
  refine z_bipush (v := 64) cx d_X4_start_10 kb_64 ?_
  refine z_copyI cx (tfX_6_3 hT_p0) za_16 (tfX_5_1 hT_t) za_16 ⟨wd_491, wd_493, wd_492, wd_121⟩ (by decide +kernel) (by decide +kernel) (by decide +kernel) (by decide +kernel) (by decide +kernel) ⟨Nat.le_of_ble_eq_true rfl, Nat.le_of_ble_eq_true rfl⟩ d_X4_start_12 ?_
  refine z_nmM hF (fun M1 hF => ?_)
  refine z_aload_n cx d_X4_start_15 1 rfl ?_
  refine z_getR cx hT_p0 fg_Pans_44 (p0 + 4) rfl d_X4_start_16 ?_
  refine z_iconst (v := 0) cx d_X4_start_19 ki_0 ?_
  refine z_aload_n cx d_X4_start_20 0 rfl ?_
  refine z_getR cx hT_t fg_Pans_15 (t + 2) rfl d_X4_start_21 ?_
  refine z_iconst (v := 0) cx d_X4_start_24 ki_0 ?_
  refine z_bipush (v := 64) cx d_X4_start_25 kb_64 ?_
  refine z_copyI cx (tfX_6_4 hT_p0) za_16 (tfX_5_2 hT_t) za_16 ⟨wd_491, wd_493, wd_492, wd_121⟩ (by decide +kernel) (by decide +kernel) (by decide +kernel) (by decide +kernel) (by decide +kernel) ⟨Nat.le_of_ble_eq_true rfl, Nat.le_of_ble_eq_true rfl⟩ d_X4_start_27 ?_
  refine z_nmM hF (fun M2 hF => ?_)
  refine z_aload_n cx d_X4_start_30 1 rfl ?_
  refine z_getR cx hT_p0 fg_Pans_45 (p0 + 5) rfl d_X4_start_31 ?_
  refine z_iconst (v := 0) cx d_X4_start_34 ki_0 ?_
  refine z_aload_n cx d_X4_start_35 0 rfl ?_
  refine z_getR cx hT_t fg_Pans_18 (t + 3) rfl d_X4_start_36 ?_
  refine z_iconst (v := 0) cx d_X4_start_39 ki_0 ?_
  refine z_bipush (v := 64) cx d_X4_start_40 kb_64 ?_
  refine z_copyI cx (tfX_6_5 hT_p0) za_16 (tfX_5_3 hT_t) za_16 ⟨wd_491, wd_493, wd_492, wd_121⟩ (by decide +kernel) (by decide +kernel) (by decide +kernel) (by decide +kernel) (by decide +kernel) ⟨Nat.le_of_ble_eq_true rfl, Nat.le_of_ble_eq_true rfl⟩ d_X4_start_42 ?_
  refine z_nmM hF (fun M3 hF => ?_)
  refine z_aload_n cx d_X4_start_45 0 rfl ?_
  refine z_iconst (v := 0) cx d_X4_start_46 ki_0 ?_
  refine z_putI cx hT_t fp_Pans_31 d_X4_start_47 ?_
  refine z_nmM hF (fun M4 hF => ?_)
  refine z_aload_n cx d_X4_start_50 0 rfl ?_
  refine z_iconst (v := 0) cx d_X4_start_51 ki_0 ?_
  refine z_putI cx hT_t fp_Pans_35 d_X4_start_52 ?_
  refine z_nmM hF (fun M5 hF => ?_)
  refine z_aload_n cx d_X4_start_55 0 rfl ?_
  refine z_iconst (v := 0) cx d_X4_start_56 ki_0 ?_
  refine z_putI cx hT_t fp_Pans_38 d_X4_start_57 ?_
  refine z_nmM hF (fun M6 hF => ?_)
  refine z_aload_n cx d_X4_start_60 0 rfl ?_
  refine z_aload_n cx d_X4_start_61 1 rfl ?_
  obtain ⟨M7, hc, hF⟩ := zbv_inv hF
  refine z_callV cx (As := [.ref (ad p0)]) (rest := []) (c_X4_learnShades l cx.2.2.2.1.1 M6 t p0 hT_t hT_p0 hc) hT_t zo_5 cv_Pans_46 ⟨rfl, rfl, Nat.le_of_ble_eq_true rfl, Nat.le_of_ble_eq_true rfl⟩ rfl rfl ⟨Nat.zero_le _, Nat.zero_le _⟩ (Nat.le_of_ble_eq_true rfl) d_X4_start_62 ?_
  exact z_vret cx hr hF d_X4_start_65
/-! SunnyPans.placesOver0 -/
set_option maxRecDepth 100000 in
theorem wd_990 : Cond.methodLink "SunnyPans" 298 yX9_bit ∈ tbG := tw4 170 rfl rfl
theorem cs_SunnyPans_298 : zCS "SunnyPans" 298 yX9_bit cX9_bit 1 (some .long) 1 := zCS_of wd_990 wd_313 wd_101 wd_314 (by decide +kernel)
theorem d_X9_placesOver0_0 : decode cX9_placesOver0 0 = .ok (.lconst 0, 1) := by decide +kernel
theorem d_X9_placesOver0_1 : decode cX9_placesOver0 1 = .ok (.lstore_n 1, 1) := by decide +kernel
theorem d_X9_placesOver0_2 : decode cX9_placesOver0 2 = .ok (.iconst 0, 1) := by decide +kernel
theorem d_X9_placesOver0_3 : decode cX9_placesOver0 3 = .ok (.istore_n 3, 1) := by decide +kernel
theorem d_X9_placesOver0_4 : decode cX9_placesOver0 4 = .ok (.iload_n 3, 1) := by decide +kernel
theorem d_X9_placesOver0_5 : decode cX9_placesOver0 5 = .ok (.aload_n 0, 1) := by decide +kernel
theorem d_X9_placesOver0_6 : decode cX9_placesOver0 6 = .ok (.arraylength, 1) := by decide +kernel
theorem d_X9_placesOver0_7 : decode cX9_placesOver0 7 = .ok (.if_icmp .ge 28, 3) := by decide +kernel
theorem d_X9_placesOver0_10 : decode cX9_placesOver0 10 = .ok (.iload_n 3, 1) := by decide +kernel
theorem d_X9_placesOver0_11 : decode cX9_placesOver0 11 = .ok (.bipush 64, 2) := by decide +kernel
theorem d_X9_placesOver0_13 : decode cX9_placesOver0 13 = .ok (.if_icmp .ge 22, 3) := by decide +kernel
theorem d_X9_placesOver0_16 : decode cX9_placesOver0 16 = .ok (.aload_n 0, 1) := by decide +kernel
theorem d_X9_placesOver0_17 : decode cX9_placesOver0 17 = .ok (.iload_n 3, 1) := by decide +kernel
theorem d_X9_placesOver0_18 : decode cX9_placesOver0 18 = .ok (.iaload, 1) := by decide +kernel
theorem d_X9_placesOver0_19 : decode cX9_placesOver0 19 = .ok (.ifCond .le 10, 3) := by decide +kernel
theorem d_X9_placesOver0_22 : decode cX9_placesOver0 22 = .ok (.lload_n 1, 1) := by decide +kernel
theorem d_X9_placesOver0_23 : decode cX9_placesOver0 23 = .ok (.iload_n 3, 1) := by decide +kernel
theorem d_X9_placesOver0_24 : decode cX9_placesOver0 24 = .ok (.invokestatic 298, 3) := by decide +kernel
theorem d_X9_placesOver0_27 : decode cX9_placesOver0 27 = .ok (.lor, 1) := by decide +kernel
theorem d_X9_placesOver0_28 : decode cX9_placesOver0 28 = .ok (.lstore_n 1, 1) := by decide +kernel
theorem d_X9_placesOver0_29 : decode cX9_placesOver0 29 = .ok (.iinc 3 1, 3) := by decide +kernel
theorem d_X9_placesOver0_32 : decode cX9_placesOver0 32 = .ok (.goto (-28), 3) := by decide +kernel
theorem d_X9_placesOver0_35 : decode cX9_placesOver0 35 = .ok (.lload_n 1, 1) := by decide +kernel
theorem d_X9_placesOver0_36 : decode cX9_placesOver0 36 = .ok (.lreturn, 1) := by decide +kernel
noncomputable def F_X9_placesOver0_29 (p0 : Nat) (self4 : Int64 → Int32 → zMem → Option (Int64 × zMem)) (b29_L1 : Int64) (b29_L3 : Int32) (M : zMem) : Option (Int64 × zMem) :=
  self4 b29_L1 (b29_L3 + 1) M
noncomputable def F_X9_placesOver0_4 (p0 : Nat) (self4 : Int64 → Int32 → zMem → Option (Int64 × zMem)) (b4_L1 : Int64) (b4_L3 : Int32) (M : zMem) : Option (Int64 × zMem) :=
  if (nI 64) ≤ b4_L3 then
    some (b4_L1, M)
  else
    if (64 : Int32) ≤ b4_L3 then
      some (b4_L1, M)
    else
      gin b4_L3 64 <|
      if (M.1 p0 b4_L3.toNatClampNeg) ≤ 0 then
        F_X9_placesOver0_29 p0 self4 b4_L1 b4_L3 M
      else
        zb (F_X9_bit M b4_L3) fun v3 M2 =>
        zl (b4_L1 ||| v3) fun v4 =>
        F_X9_placesOver0_29 p0 self4 v4 b4_L3 M2
noncomputable def F_X9_placesOver0 (M : zMem) (p0 : Nat) : Option (Int64 × zMem) :=
  itF (fun _ _ _ => none) (F_X9_placesOver0_4 p0) zFuel (0 : Int64) (0 : Int32) M
def rm_X9_placesOver0 : Room := { frames := 3, cells := 0, slots := 0, locals := 100 }
set_option maxHeartbeats 4000000 in
set_option maxRecDepth 100000 in
theorem c_X9_placesOver0 (l : Launch) {G : zG} {ad : Nat → Nat} {n : Nat} (hA : zInj ad n) (M : zMem) (p0 : Nat) (hT_p0 : zT shX n p0 16) {r9 : Int64} {M9 : zMem} (hF : F_X9_placesOver0 M p0 = some (r9, M9)) : zM l yX9_placesOver0 cX9_placesOver0 4 (some .long) rm_X9_placesOver0 G shX ad n M [.ref (ad p0)] (some (.long r9)) M9 := by
  refine zM_of hA (by decide +kernel) (lv := [(0, .ref (ad p0))]) (Nat.le_of_ble_eq_true rfl) rfl (fun p e s m args below meth c A cx hr => ?_)
  have hb29 : ∀ (self4 : Int64 → Int32 → zMem → Option (Int64 × zMem)) (hs4 : ∀ (b4_L1 : Int64) (b4_L3 : Int32) (M : zMem), self4 b4_L1 b4_L3 M = some (r9, M9) → zJ p l e rm_X9_placesOver0 s m args below meth c G shX ad n A 4 (MQ below (zQ G shX ad n M9 (some (.long r9)) A) args s 0 0 A) 0 0 M 4 [(0, .ref (ad p0)), (1, .long b4_L1), (3, .int b4_L3)] []), ∀ (b29_L1 : Int64) (b29_L3 : Int32) (M : zMem), F_X9_placesOver0_29 p0 self4 b29_L1 b29_L3 M = some (r9, M9) → zJ p l e rm_X9_placesOver0 s m args below meth c G shX ad n A 4 (MQ below (zQ G shX ad n M9 (some (.long r9)) A) args s 0 0 A) 0 0 M 29 [(0, .ref (ad p0)), (1, .long b29_L1), (3, .int b29_L3)] [] := by
    intro self4 hs4 b29_L1 b29_L3 M hF
    unfold F_X9_placesOver0_29 at hF
    refine z_iinc cx 3 1 [(3, .int (b29_L3 + 1)), (0, .ref (ad p0)), (1, .long b29_L1)] d_X9_placesOver0_29 2 rfl ki_1 (by decide) rfl ?_
    refine z_goto cx 4 d_X9_placesOver0_32 (by decide) ?_
    exact z_lv [1, 2, 0] _ rfl (hs4 b29_L1 (b29_L3 + 1) M hF)
  have hL4 : ∀ (fuel : Nat), ∀ (b4_L1 : Int64) (b4_L3 : Int32) (M : zMem), itF (fun _ _ _ => none) (F_X9_placesOver0_4 p0) fuel b4_L1 b4_L3 M = some (r9, M9) → zJ p l e rm_X9_placesOver0 s m args below meth c G shX ad n A 4 (MQ below (zQ G shX ad n M9 (some (.long r9)) A) args s 0 0 A) 0 0 M 4 [(0, .ref (ad p0)), (1, .long b4_L1), (3, .int b4_L3)] [] := by
    intro fuel
    induction fuel with
    | zero => intro b4_L1 b4_L3 M hF; cases hF
    | succ fuel hs4 =>
      intro b4_L1 b4_L3 M hF
      have hF : F_X9_placesOver0_4 p0 (itF (fun _ _ _ => none) (F_X9_placesOver0_4 p0) fuel) b4_L1 b4_L3 M = some (r9, M9) := hF
      generalize itF (fun _ _ _ => none) (F_X9_placesOver0_4 p0) fuel = self4 at hs4 hF
      unfold F_X9_placesOver0_4 at hF
      refine z_iload_n cx d_X9_placesOver0_4 2 rfl ?_
      refine z_aload_n cx d_X9_placesOver0_5 0 rfl ?_
      refine z_alenI cx hT_p0 za_16 d_X9_placesOver0_6 ?_
      refine z_icmp_ge cx 35 d_X9_placesOver0_7 (by decide) hF (fun hF => ?_) (fun hF => ?_)
      · refine z_lload_n cx d_X9_placesOver0_35 1 rfl ?_
        exact z_lret cx hr hF d_X9_placesOver0_36
      refine z_iload_n cx d_X9_placesOver0_10 2 rfl ?_
      refine z_bipush (v := 64) cx d_X9_placesOver0_11 kb_64 ?_
      refine z_icmp_ge cx 35 d_X9_placesOver0_13 (by decide) hF (fun hF => ?_) (fun hF => ?_)
      · refine z_lload_n cx d_X9_placesOver0_35 1 rfl ?_
        exact z_lret cx hr hF d_X9_placesOver0_36
      refine z_aload_n cx d_X9_placesOver0_16 0 rfl ?_
      refine z_iload_n cx d_X9_placesOver0_17 2 rfl ?_
      obtain ⟨hi1, hF⟩ := gin_inv hF
      refine z_iald cx hT_p0 za_16 hi1 b4_L3.toNatClampNeg rfl d_X9_placesOver0_18 ?_
      refine z_if_le cx 29 d_X9_placesOver0_19 (by decide) hF (fun hF => ?_) (fun hF => ?_)
      · exact hb29 self4 hs4 b4_L1 b4_L3 M hF
      refine z_lload_n cx d_X9_placesOver0_22 1 rfl ?_
      refine z_iload_n cx d_X9_placesOver0_23 2 rfl ?_
      obtain ⟨v3, M2, hc, hF⟩ := zb_inv hF
      refine z_callS cx (As := [.int b4_L3]) (rest := [.long b4_L1]) (c_X9_bit l cx.2.2.2.1.1 M b4_L3  hc) cs_SunnyPans_298 ⟨rfl, rfl, Nat.le_of_ble_eq_true rfl, Nat.le_of_ble_eq_true rfl⟩ rfl rfl ⟨Nat.zero_le _, Nat.zero_le _⟩ (Nat.le_of_ble_eq_true rfl) d_X9_placesOver0_24 ?_
      refine z_lor cx d_X9_placesOver0_27 ?_
      refine z_nml hF (fun v4 hF => ?_)
      refine z_lstore_n cx 1 [(1, .long v4), (0, .ref (ad p0)), (3, .int b4_L3)] d_X9_placesOver0_28 rfl (by decide) rfl ?_
      exact z_lv [1, 0, 2] _ rfl (hb29 self4 hs4 v4 b4_L3 M2 hF)
  unfold F_X9_placesOver0 at hF
  refine z_lconst (v := 0) cx d_X9_placesOver0_0 (by decide +kernel) ?_
  refine z_lstore_n cx 1 [(1, .long (0 : Int64)), (0, .ref (ad p0))] d_X9_placesOver0_1 rfl (by decide) rfl ?_
  refine z_iconst (v := 0) cx d_X9_placesOver0_2 ki_0 ?_
  refine z_istore_n cx 3 [(3, .int (0 : Int32)), (1, .long (0 : Int64)), (0, .ref (ad p0))] d_X9_placesOver0_3 rfl (by decide) rfl ?_
  exact z_lv [2, 1, 0] _ rfl (hL4 zFuel (0 : Int64) (0 : Int32) M hF)
/-! SunnyPans$Pans.brinePlaces -/
set_option maxRecDepth 100000 in
theorem wd_989 : Cond.code yX9_placesOver0 cX9_placesOver0 4 (some .long) ∈ tbG := tw4 169 rfl rfl
set_option maxRecDepth 100000 in
theorem wd_987 : Cond.methodLinkNest "SunnyPans$Pans" 50 yX9_placesOver0 "SunnyPans" ∈ tbN := twn4 167 rfl rfl
theorem cn_Pans_50 : zCN "SunnyPans$Pans" 50 yX9_placesOver0 cX9_placesOver0 4 (some .long) 1 := ⟨wd_987, wd_101, wd_989, by decide +kernel⟩
set_option maxRecDepth 100000 in
theorem wd_988 : Cond.static yX9_placesOver0 ∈ tbG := tw4 168 rfl rfl
theorem d_X4_brinePlaces_0 : decode cX4_brinePlaces 0 = .ok (.aload_n 0, 1) := by decide +kernel
theorem d_X4_brinePlaces_1 : decode cX4_brinePlaces 1 = .ok (.getfield 9, 3) := by decide +kernel
theorem d_X4_brinePlaces_4 : decode cX4_brinePlaces 4 = .ok (.invokestatic 50, 3) := by decide +kernel
theorem d_X4_brinePlaces_7 : decode cX4_brinePlaces 7 = .ok (.lreturn, 1) := by decide +kernel
noncomputable def F_X4_brinePlaces (M : zMem) (t : Nat) : Option (Int64 × zMem) :=
  zb (F_X9_placesOver0 M (t + 1)) fun v2 M1 =>
  some (v2, M1)
def rm_X4_brinePlaces : Room := { frames := 4, cells := 0, slots := 0, locals := 123 }
set_option maxHeartbeats 4000000 in
set_option maxRecDepth 100000 in
theorem c_X4_brinePlaces (l : Launch) {G : zG} {ad : Nat → Nat} {n : Nat} (hA : zInj ad n) (M : zMem) (t : Nat) (hT_t : zT shX n t 5) {r9 : Int64} {M9 : zMem} (hF : F_X4_brinePlaces M t = some (r9, M9)) : zM l yX4_brinePlaces cX4_brinePlaces 1 (some .long) rm_X4_brinePlaces G shX ad n M [.ref (ad t)] (some (.long r9)) M9 := by
  refine zM_of hA (by decide +kernel) (lv := [(0, .ref (ad t))]) (Nat.le_of_ble_eq_true rfl) rfl (fun p e s m args below meth c A cx hr => ?_)
  unfold F_X4_brinePlaces at hF
  refine z_aload_n cx d_X4_brinePlaces_0 0 rfl ?_
  refine z_getR cx hT_t fg_Pans_9 (t + 1) rfl d_X4_brinePlaces_1 ?_
  obtain ⟨v2, M1, hc, hF⟩ := zb_inv hF
  refine z_callSN cx (As := [.ref (ad (t + 1))]) (rest := []) (c_X9_placesOver0 l cx.2.2.2.1.1 M (t + 1) (tfX_5_1 hT_t) hc) cn_Pans_50 wd_988 ⟨rfl, rfl, Nat.le_of_ble_eq_true rfl, Nat.le_of_ble_eq_true rfl⟩ rfl rfl ⟨Nat.zero_le _, Nat.zero_le _⟩ (Nat.le_of_ble_eq_true rfl) d_X4_brinePlaces_4 ?_
  exact z_lret cx hr hF d_X4_brinePlaces_7
/-! SunnyPans$Pans.saltPlaces -/
theorem d_X4_saltPlaces_0 : decode cX4_saltPlaces 0 = .ok (.aload_n 0, 1) := by decide +kernel
theorem d_X4_saltPlaces_1 : decode cX4_saltPlaces 1 = .ok (.getfield 15, 3) := by decide +kernel
theorem d_X4_saltPlaces_4 : decode cX4_saltPlaces 4 = .ok (.invokestatic 50, 3) := by decide +kernel
theorem d_X4_saltPlaces_7 : decode cX4_saltPlaces 7 = .ok (.lreturn, 1) := by decide +kernel
noncomputable def F_X4_saltPlaces (M : zMem) (t : Nat) : Option (Int64 × zMem) :=
  zb (F_X9_placesOver0 M (t + 2)) fun v2 M1 =>
  some (v2, M1)
def rm_X4_saltPlaces : Room := { frames := 4, cells := 0, slots := 0, locals := 123 }
set_option maxHeartbeats 4000000 in
set_option maxRecDepth 100000 in
theorem c_X4_saltPlaces (l : Launch) {G : zG} {ad : Nat → Nat} {n : Nat} (hA : zInj ad n) (M : zMem) (t : Nat) (hT_t : zT shX n t 5) {r9 : Int64} {M9 : zMem} (hF : F_X4_saltPlaces M t = some (r9, M9)) : zM l yX4_saltPlaces cX4_saltPlaces 1 (some .long) rm_X4_saltPlaces G shX ad n M [.ref (ad t)] (some (.long r9)) M9 := by
  refine zM_of hA (by decide +kernel) (lv := [(0, .ref (ad t))]) (Nat.le_of_ble_eq_true rfl) rfl (fun p e s m args below meth c A cx hr => ?_)
  unfold F_X4_saltPlaces at hF
  refine z_aload_n cx d_X4_saltPlaces_0 0 rfl ?_
  refine z_getR cx hT_t fg_Pans_15 (t + 2) rfl d_X4_saltPlaces_1 ?_
  obtain ⟨v2, M1, hc, hF⟩ := zb_inv hF
  refine z_callSN cx (As := [.ref (ad (t + 2))]) (rest := []) (c_X9_placesOver0 l cx.2.2.2.1.1 M (t + 2) (tfX_5_2 hT_t) hc) cn_Pans_50 wd_988 ⟨rfl, rfl, Nat.le_of_ble_eq_true rfl, Nat.le_of_ble_eq_true rfl⟩ rfl rfl ⟨Nat.zero_le _, Nat.zero_le _⟩ (Nat.le_of_ble_eq_true rfl) d_X4_saltPlaces_4 ?_
  exact z_lret cx hr hF d_X4_saltPlaces_7
/-! SunnyPans$Pans.heapPlaces -/
theorem d_X4_heapPlaces_0 : decode cX4_heapPlaces 0 = .ok (.aload_n 0, 1) := by decide +kernel
theorem d_X4_heapPlaces_1 : decode cX4_heapPlaces 1 = .ok (.getfield 18, 3) := by decide +kernel
theorem d_X4_heapPlaces_4 : decode cX4_heapPlaces 4 = .ok (.invokestatic 50, 3) := by decide +kernel
theorem d_X4_heapPlaces_7 : decode cX4_heapPlaces 7 = .ok (.lreturn, 1) := by decide +kernel
noncomputable def F_X4_heapPlaces (M : zMem) (t : Nat) : Option (Int64 × zMem) :=
  zb (F_X9_placesOver0 M (t + 3)) fun v2 M1 =>
  some (v2, M1)
def rm_X4_heapPlaces : Room := { frames := 4, cells := 0, slots := 0, locals := 123 }
set_option maxHeartbeats 4000000 in
set_option maxRecDepth 100000 in
theorem c_X4_heapPlaces (l : Launch) {G : zG} {ad : Nat → Nat} {n : Nat} (hA : zInj ad n) (M : zMem) (t : Nat) (hT_t : zT shX n t 5) {r9 : Int64} {M9 : zMem} (hF : F_X4_heapPlaces M t = some (r9, M9)) : zM l yX4_heapPlaces cX4_heapPlaces 1 (some .long) rm_X4_heapPlaces G shX ad n M [.ref (ad t)] (some (.long r9)) M9 := by
  refine zM_of hA (by decide +kernel) (lv := [(0, .ref (ad t))]) (Nat.le_of_ble_eq_true rfl) rfl (fun p e s m args below meth c A cx hr => ?_)
  unfold F_X4_heapPlaces at hF
  refine z_aload_n cx d_X4_heapPlaces_0 0 rfl ?_
  refine z_getR cx hT_t fg_Pans_18 (t + 3) rfl d_X4_heapPlaces_1 ?_
  obtain ⟨v2, M1, hc, hF⟩ := zb_inv hF
  refine z_callSN cx (As := [.ref (ad (t + 3))]) (rest := []) (c_X9_placesOver0 l cx.2.2.2.1.1 M (t + 3) (tfX_5_3 hT_t) hc) cn_Pans_50 wd_988 ⟨rfl, rfl, Nat.le_of_ble_eq_true rfl, Nat.le_of_ble_eq_true rfl⟩ rfl rfl ⟨Nat.zero_le _, Nat.zero_le _⟩ (Nat.le_of_ble_eq_true rfl) d_X4_heapPlaces_4 ?_
  exact z_lret cx hr hF d_X4_heapPlaces_7
/-! SunnyPans$Pans.dryPlaces -/
set_option maxRecDepth 100000 in
theorem wd_1004 : Cond.code yX4_brinePlaces cX4_brinePlaces 1 (some .long) ∈ tbG := tw4 184 rfl rfl
set_option maxRecDepth 100000 in
theorem wd_1001 : Cond.methodLink "SunnyPans$Pans" 54 yX4_brinePlaces ∈ tbG := tw4 181 rfl rfl
set_option maxRecDepth 100000 in
theorem wd_1002 : Cond.instanceMethod yX4_brinePlaces ∈ tbG := tw4 182 rfl rfl
set_option maxRecDepth 100000 in
theorem wd_1003 : Cond.selects "SunnyPans$Pans" yX4_brinePlaces yX4_brinePlaces ∈ tbG := tw4 183 rfl rfl
theorem cv_Pans_54 : zCV "SunnyPans$Pans" 54 "SunnyPans$Pans" yX4_brinePlaces cX4_brinePlaces 1 (some .long) 0 := zCV_of wd_1001 wd_1002 wd_1003 wd_104 wd_1004 (by decide +kernel)
set_option maxRecDepth 100000 in
theorem wd_986 : Cond.code yX4_heapPlaces cX4_heapPlaces 1 (some .long) ∈ tbG := tw4 166 rfl rfl
set_option maxRecDepth 100000 in
theorem wd_1005 : Cond.methodLink "SunnyPans$Pans" 58 yX4_heapPlaces ∈ tbG := tw4 185 rfl rfl
set_option maxRecDepth 100000 in
theorem wd_984 : Cond.instanceMethod yX4_heapPlaces ∈ tbG := tw4 164 rfl rfl
set_option maxRecDepth 100000 in
theorem wd_985 : Cond.selects "SunnyPans$Pans" yX4_heapPlaces yX4_heapPlaces ∈ tbG := tw4 165 rfl rfl
theorem cv_Pans_58 : zCV "SunnyPans$Pans" 58 "SunnyPans$Pans" yX4_heapPlaces cX4_heapPlaces 1 (some .long) 0 := zCV_of wd_1005 wd_984 wd_985 wd_104 wd_986 (by decide +kernel)
set_option maxRecDepth 100000 in
theorem wd_1006 : Cond.constantLong "SunnyPans$Pans" 61 (-1) ∈ tbG := tw4 186 rfl rfl
theorem d_X4_dryPlaces_0 : decode cX4_dryPlaces 0 = .ok (.aload_n 0, 1) := by decide +kernel
theorem d_X4_dryPlaces_1 : decode cX4_dryPlaces 1 = .ok (.invokevirtual 54, 3) := by decide +kernel
theorem d_X4_dryPlaces_4 : decode cX4_dryPlaces 4 = .ok (.aload_n 0, 1) := by decide +kernel
theorem d_X4_dryPlaces_5 : decode cX4_dryPlaces 5 = .ok (.invokevirtual 58, 3) := by decide +kernel
theorem d_X4_dryPlaces_8 : decode cX4_dryPlaces 8 = .ok (.lor, 1) := by decide +kernel
theorem d_X4_dryPlaces_9 : decode cX4_dryPlaces 9 = .ok (.ldc2_w 61, 3) := by decide +kernel
theorem d_X4_dryPlaces_12 : decode cX4_dryPlaces 12 = .ok (.lxor, 1) := by decide +kernel
theorem d_X4_dryPlaces_13 : decode cX4_dryPlaces 13 = .ok (.lreturn, 1) := by decide +kernel
noncomputable def F_X4_dryPlaces (M : zMem) (t : Nat) : Option (Int64 × zMem) :=
  zb (F_X4_brinePlaces M t) fun v2 M1 =>
  zb (F_X4_heapPlaces M1 t) fun v4 M3 =>
  some (((v2 ||| v4) ^^^ (-1 : Int64)), M3)
def rm_X4_dryPlaces : Room := { frames := 5, cells := 0, slots := 0, locals := 143 }
set_option maxHeartbeats 4000000 in
set_option maxRecDepth 100000 in
theorem c_X4_dryPlaces (l : Launch) {G : zG} {ad : Nat → Nat} {n : Nat} (hA : zInj ad n) (M : zMem) (t : Nat) (hT_t : zT shX n t 5) {r9 : Int64} {M9 : zMem} (hF : F_X4_dryPlaces M t = some (r9, M9)) : zM l yX4_dryPlaces cX4_dryPlaces 1 (some .long) rm_X4_dryPlaces G shX ad n M [.ref (ad t)] (some (.long r9)) M9 := by
  refine zM_of hA (by decide +kernel) (lv := [(0, .ref (ad t))]) (Nat.le_of_ble_eq_true rfl) rfl (fun p e s m args below meth c A cx hr => ?_)
  unfold F_X4_dryPlaces at hF
  refine z_aload_n cx d_X4_dryPlaces_0 0 rfl ?_
  obtain ⟨v2, M1, hc, hF⟩ := zb_inv hF
  refine z_callV cx (As := []) (rest := []) (c_X4_brinePlaces l cx.2.2.2.1.1 M t hT_t hc) hT_t zo_5 cv_Pans_54 ⟨rfl, rfl, Nat.le_of_ble_eq_true rfl, Nat.le_of_ble_eq_true rfl⟩ rfl rfl ⟨Nat.zero_le _, Nat.zero_le _⟩ (Nat.le_of_ble_eq_true rfl) d_X4_dryPlaces_1 ?_
  refine z_aload_n cx d_X4_dryPlaces_4 0 rfl ?_
  obtain ⟨v4, M3, hc, hF⟩ := zb_inv hF
  refine z_callV cx (As := []) (rest := [.long v2]) (c_X4_heapPlaces l cx.2.2.2.1.1 M1 t hT_t hc) hT_t zo_5 cv_Pans_58 ⟨rfl, rfl, Nat.le_of_ble_eq_true rfl, Nat.le_of_ble_eq_true rfl⟩ rfl rfl ⟨Nat.zero_le _, Nat.zero_le _⟩ (Nat.le_of_ble_eq_true rfl) d_X4_dryPlaces_5 ?_
  refine z_lor cx d_X4_dryPlaces_8 ?_
  refine z_ldc2 cx wd_1006 d_X4_dryPlaces_9 ?_
  refine z_lxor cx d_X4_dryPlaces_12 ?_
  exact z_lret cx hr hF d_X4_dryPlaces_13
/-! SunnyPans$Pans.freePlaces -/
set_option maxRecDepth 100000 in
theorem wd_1010 : Cond.code yX4_saltPlaces cX4_saltPlaces 1 (some .long) ∈ tbG := tw4 190 rfl rfl
set_option maxRecDepth 100000 in
theorem wd_1154 : Cond.methodLink "SunnyPans$Pans" 63 yX4_saltPlaces ∈ tbG := tw5 94 rfl rfl
set_option maxRecDepth 100000 in
theorem wd_1008 : Cond.instanceMethod yX4_saltPlaces ∈ tbG := tw4 188 rfl rfl
set_option maxRecDepth 100000 in
theorem wd_1009 : Cond.selects "SunnyPans$Pans" yX4_saltPlaces yX4_saltPlaces ∈ tbG := tw4 189 rfl rfl
theorem cv_Pans_63 : zCV "SunnyPans$Pans" 63 "SunnyPans$Pans" yX4_saltPlaces cX4_saltPlaces 1 (some .long) 0 := zCV_of wd_1154 wd_1008 wd_1009 wd_104 wd_1010 (by decide +kernel)
theorem d_X4_freePlaces_0 : decode cX4_freePlaces 0 = .ok (.aload_n 0, 1) := by decide +kernel
theorem d_X4_freePlaces_1 : decode cX4_freePlaces 1 = .ok (.invokevirtual 54, 3) := by decide +kernel
theorem d_X4_freePlaces_4 : decode cX4_freePlaces 4 = .ok (.aload_n 0, 1) := by decide +kernel
theorem d_X4_freePlaces_5 : decode cX4_freePlaces 5 = .ok (.invokevirtual 63, 3) := by decide +kernel
theorem d_X4_freePlaces_8 : decode cX4_freePlaces 8 = .ok (.lor, 1) := by decide +kernel
theorem d_X4_freePlaces_9 : decode cX4_freePlaces 9 = .ok (.aload_n 0, 1) := by decide +kernel
theorem d_X4_freePlaces_10 : decode cX4_freePlaces 10 = .ok (.invokevirtual 58, 3) := by decide +kernel
theorem d_X4_freePlaces_13 : decode cX4_freePlaces 13 = .ok (.lor, 1) := by decide +kernel
theorem d_X4_freePlaces_14 : decode cX4_freePlaces 14 = .ok (.ldc2_w 61, 3) := by decide +kernel
theorem d_X4_freePlaces_17 : decode cX4_freePlaces 17 = .ok (.lxor, 1) := by decide +kernel
theorem d_X4_freePlaces_18 : decode cX4_freePlaces 18 = .ok (.lreturn, 1) := by decide +kernel
noncomputable def F_X4_freePlaces (M : zMem) (t : Nat) : Option (Int64 × zMem) :=
  zb (F_X4_brinePlaces M t) fun v2 M1 =>
  zb (F_X4_saltPlaces M1 t) fun v4 M3 =>
  zb (F_X4_heapPlaces M3 t) fun v6 M5 =>
  some ((((v2 ||| v4) ||| v6) ^^^ (-1 : Int64)), M5)
def rm_X4_freePlaces : Room := { frames := 5, cells := 0, slots := 0, locals := 143 }
set_option maxHeartbeats 4000000 in
set_option maxRecDepth 100000 in
theorem c_X4_freePlaces (l : Launch) {G : zG} {ad : Nat → Nat} {n : Nat} (hA : zInj ad n) (M : zMem) (t : Nat) (hT_t : zT shX n t 5) {r9 : Int64} {M9 : zMem} (hF : F_X4_freePlaces M t = some (r9, M9)) : zM l yX4_freePlaces cX4_freePlaces 1 (some .long) rm_X4_freePlaces G shX ad n M [.ref (ad t)] (some (.long r9)) M9 := by
  refine zM_of hA (by decide +kernel) (lv := [(0, .ref (ad t))]) (Nat.le_of_ble_eq_true rfl) rfl (fun p e s m args below meth c A cx hr => ?_)
  unfold F_X4_freePlaces at hF
  refine z_aload_n cx d_X4_freePlaces_0 0 rfl ?_
  obtain ⟨v2, M1, hc, hF⟩ := zb_inv hF
  refine z_callV cx (As := []) (rest := []) (c_X4_brinePlaces l cx.2.2.2.1.1 M t hT_t hc) hT_t zo_5 cv_Pans_54 ⟨rfl, rfl, Nat.le_of_ble_eq_true rfl, Nat.le_of_ble_eq_true rfl⟩ rfl rfl ⟨Nat.zero_le _, Nat.zero_le _⟩ (Nat.le_of_ble_eq_true rfl) d_X4_freePlaces_1 ?_
  refine z_aload_n cx d_X4_freePlaces_4 0 rfl ?_
  obtain ⟨v4, M3, hc, hF⟩ := zb_inv hF
  refine z_callV cx (As := []) (rest := [.long v2]) (c_X4_saltPlaces l cx.2.2.2.1.1 M1 t hT_t hc) hT_t zo_5 cv_Pans_63 ⟨rfl, rfl, Nat.le_of_ble_eq_true rfl, Nat.le_of_ble_eq_true rfl⟩ rfl rfl ⟨Nat.zero_le _, Nat.zero_le _⟩ (Nat.le_of_ble_eq_true rfl) d_X4_freePlaces_5 ?_
  refine z_lor cx d_X4_freePlaces_8 ?_
  refine z_aload_n cx d_X4_freePlaces_9 0 rfl ?_
  obtain ⟨v6, M5, hc, hF⟩ := zb_inv hF
  refine z_callV cx (As := []) (rest := [.long (v2 ||| v4)]) (c_X4_heapPlaces l cx.2.2.2.1.1 M3 t hT_t hc) hT_t zo_5 cv_Pans_58 ⟨rfl, rfl, Nat.le_of_ble_eq_true rfl, Nat.le_of_ble_eq_true rfl⟩ rfl rfl ⟨Nat.zero_le _, Nat.zero_le _⟩ (Nat.le_of_ble_eq_true rfl) d_X4_freePlaces_10 ?_
  refine z_lor cx d_X4_freePlaces_13 ?_
  refine z_ldc2 cx wd_1006 d_X4_freePlaces_14 ?_
  refine z_lxor cx d_X4_freePlaces_17 ?_
  exact z_lret cx hr hF d_X4_freePlaces_18
/-! SunnyPans$Pans.canPour -/
theorem d_X4_canPour_0 : decode cX4_canPour 0 = .ok (.aload_n 0, 1) := by decide +kernel
theorem d_X4_canPour_1 : decode cX4_canPour 1 = .ok (.getfield 18, 3) := by decide +kernel
theorem d_X4_canPour_4 : decode cX4_canPour 4 = .ok (.iload_n 1, 1) := by decide +kernel
theorem d_X4_canPour_5 : decode cX4_canPour 5 = .ok (.iaload, 1) := by decide +kernel
theorem d_X4_canPour_6 : decode cX4_canPour 6 = .ok (.ifCond .ne 38, 3) := by decide +kernel
theorem d_X4_canPour_9 : decode cX4_canPour 9 = .ok (.aload_n 0, 1) := by decide +kernel
theorem d_X4_canPour_10 : decode cX4_canPour 10 = .ok (.getfield 9, 3) := by decide +kernel
theorem d_X4_canPour_13 : decode cX4_canPour 13 = .ok (.iload_n 1, 1) := by decide +kernel
theorem d_X4_canPour_14 : decode cX4_canPour 14 = .ok (.iaload, 1) := by decide +kernel
theorem d_X4_canPour_15 : decode cX4_canPour 15 = .ok (.iload_n 2, 1) := by decide +kernel
theorem d_X4_canPour_16 : decode cX4_canPour 16 = .ok (.iadd, 1) := by decide +kernel
theorem d_X4_canPour_17 : decode cX4_canPour 17 = .ok (.sipush 9999, 3) := by decide +kernel
theorem d_X4_canPour_20 : decode cX4_canPour 20 = .ok (.if_icmp .gt 24, 3) := by decide +kernel
theorem d_X4_canPour_23 : decode cX4_canPour 23 = .ok (.aload_n 0, 1) := by decide +kernel
theorem d_X4_canPour_24 : decode cX4_canPour 24 = .ok (.getfield 15, 3) := by decide +kernel
theorem d_X4_canPour_27 : decode cX4_canPour 27 = .ok (.iload_n 1, 1) := by decide +kernel
theorem d_X4_canPour_28 : decode cX4_canPour 28 = .ok (.iaload, 1) := by decide +kernel
theorem d_X4_canPour_29 : decode cX4_canPour 29 = .ok (.iload_n 2, 1) := by decide +kernel
theorem d_X4_canPour_30 : decode cX4_canPour 30 = .ok (.bipush 8, 2) := by decide +kernel
theorem d_X4_canPour_32 : decode cX4_canPour 32 = .ok (.idiv, 1) := by decide +kernel
theorem d_X4_canPour_33 : decode cX4_canPour 33 = .ok (.iadd, 1) := by decide +kernel
theorem d_X4_canPour_34 : decode cX4_canPour 34 = .ok (.sipush 9999, 3) := by decide +kernel
theorem d_X4_canPour_37 : decode cX4_canPour 37 = .ok (.if_icmp .gt 7, 3) := by decide +kernel
theorem d_X4_canPour_40 : decode cX4_canPour 40 = .ok (.iconst 1, 1) := by decide +kernel
theorem d_X4_canPour_41 : decode cX4_canPour 41 = .ok (.goto 4, 3) := by decide +kernel
theorem d_X4_canPour_44 : decode cX4_canPour 44 = .ok (.iconst 0, 1) := by decide +kernel
theorem d_X4_canPour_45 : decode cX4_canPour 45 = .ok (.ireturn, 1) := by decide +kernel
noncomputable def F_X4_canPour (M : zMem) (t : Nat) (p0 : Int32) (p1 : Int32) : Option (Int32 × zMem) :=
  gin p0 64 <|
  if (M.1 (t + 3) p0.toNatClampNeg) = 0 then
    if (9999 : Int32) < ((M.1 (t + 1) p0.toNatClampNeg) + p1) then
      some ((0 : Int32), M)
    else
      if (9999 : Int32) < ((M.1 (t + 2) p0.toNatClampNeg) + (p1 / (8 : Int32))) then
        some ((0 : Int32), M)
      else
        some ((1 : Int32), M)
  else
    some ((0 : Int32), M)
def rm_X4_canPour : Room := { frames := 2, cells := 0, slots := 0, locals := 80 }
set_option maxHeartbeats 4000000 in
set_option maxRecDepth 100000 in
theorem c_X4_canPour (l : Launch) {G : zG} {ad : Nat → Nat} {n : Nat} (hA : zInj ad n) (M : zMem) (t : Nat) (p0 : Int32) (p1 : Int32) (hT_t : zT shX n t 5) {r9 : Int32} {M9 : zMem} (hF : F_X4_canPour M t p0 p1 = some (r9, M9)) : zM l yX4_canPour cX4_canPour 3 (some .boolean) rm_X4_canPour G shX ad n M [.ref (ad t), .int p0, .int p1] (some (.int r9)) M9 := by
  refine zM_of hA (by decide +kernel) (lv := [(0, .ref (ad t)), (1, .int p0), (2, .int p1)]) (Nat.le_of_ble_eq_true rfl) rfl (fun p e s m args below meth c A cx hr => ?_)
  unfold F_X4_canPour at hF
  refine z_aload_n cx d_X4_canPour_0 0 rfl ?_
  refine z_getR cx hT_t fg_Pans_18 (t + 3) rfl d_X4_canPour_1 ?_
  refine z_iload_n cx d_X4_canPour_4 1 rfl ?_
  obtain ⟨hi1, hF⟩ := gin_inv hF
  refine z_iald cx (tfX_5_3 hT_t) za_16 hi1 p0.toNatClampNeg rfl d_X4_canPour_5 ?_
  refine z_if_ne cx 44 d_X4_canPour_6 (by decide) hF (fun hF => ?_) (fun hF => ?_)
  · refine z_iconst (v := 0) cx d_X4_canPour_44 ki_0 ?_
    exact z_iret cx hr nb0 hF d_X4_canPour_45
  refine z_aload_n cx d_X4_canPour_9 0 rfl ?_
  refine z_getR cx hT_t fg_Pans_9 (t + 1) rfl d_X4_canPour_10 ?_
  refine z_iload_n cx d_X4_canPour_13 1 rfl ?_
  refine z_iald cx (tfX_5_1 hT_t) za_16 hi1 p0.toNatClampNeg rfl d_X4_canPour_14 ?_
  refine z_iload_n cx d_X4_canPour_15 2 rfl ?_
  refine z_iadd cx d_X4_canPour_16 ?_
  refine z_sipush (v := 9999) cx d_X4_canPour_17 ks_9999 ?_
  refine z_icmp_gt cx 44 d_X4_canPour_20 (by decide) hF (fun hF => ?_) (fun hF => ?_)
  · refine z_iconst (v := 0) cx d_X4_canPour_44 ki_0 ?_
    exact z_iret cx hr nb0 hF d_X4_canPour_45
  refine z_aload_n cx d_X4_canPour_23 0 rfl ?_
  refine z_getR cx hT_t fg_Pans_15 (t + 2) rfl d_X4_canPour_24 ?_
  refine z_iload_n cx d_X4_canPour_27 1 rfl ?_
  refine z_iald cx (tfX_5_2 hT_t) za_16 hi1 p0.toNatClampNeg rfl d_X4_canPour_28 ?_
  refine z_iload_n cx d_X4_canPour_29 2 rfl ?_
  refine z_bipush (v := 8) cx d_X4_canPour_30 kb_8 ?_
  refine z_idiv cx d_X4_canPour_32 (by decide) ?_
  refine z_iadd cx d_X4_canPour_33 ?_
  refine z_sipush (v := 9999) cx d_X4_canPour_34 ks_9999 ?_
  refine z_icmp_gt cx 44 d_X4_canPour_37 (by decide) hF (fun hF => ?_) (fun hF => ?_)
  · refine z_iconst (v := 0) cx d_X4_canPour_44 ki_0 ?_
    exact z_iret cx hr nb0 hF d_X4_canPour_45
  refine z_iconst (v := 1) cx d_X4_canPour_40 ki_1 ?_
  refine z_goto cx 45 d_X4_canPour_41 (by decide) ?_
  exact z_iret cx hr nb1 hF d_X4_canPour_45
/-! SunnyPans$Pans.pour -/
set_option maxRecDepth 100000 in
theorem wd_907 : Cond.code yX4_canPour cX4_canPour 3 (some .boolean) ∈ tbG := tw4 87 rfl rfl
set_option maxRecDepth 100000 in
theorem wd_904 : Cond.methodLink "SunnyPans$Pans" 66 yX4_canPour ∈ tbG := tw4 84 rfl rfl
set_option maxRecDepth 100000 in
theorem wd_905 : Cond.instanceMethod yX4_canPour ∈ tbG := tw4 85 rfl rfl
set_option maxRecDepth 100000 in
theorem wd_906 : Cond.selects "SunnyPans$Pans" yX4_canPour yX4_canPour ∈ tbG := tw4 86 rfl rfl
theorem cv_Pans_66 : zCV "SunnyPans$Pans" 66 "SunnyPans$Pans" yX4_canPour cX4_canPour 3 (some .boolean) 2 := zCV_of wd_904 wd_905 wd_906 wd_104 wd_907 (by decide +kernel)
theorem d_X4_pour_0 : decode cX4_pour 0 = .ok (.aload_n 0, 1) := by decide +kernel
theorem d_X4_pour_1 : decode cX4_pour 1 = .ok (.iload_n 1, 1) := by decide +kernel
theorem d_X4_pour_2 : decode cX4_pour 2 = .ok (.iload_n 2, 1) := by decide +kernel
theorem d_X4_pour_3 : decode cX4_pour 3 = .ok (.invokevirtual 66, 3) := by decide +kernel
theorem d_X4_pour_6 : decode cX4_pour 6 = .ok (.ifCond .ne 5, 3) := by decide +kernel
theorem d_X4_pour_9 : decode cX4_pour 9 = .ok (.iconst 0, 1) := by decide +kernel
theorem d_X4_pour_10 : decode cX4_pour 10 = .ok (.ireturn, 1) := by decide +kernel
theorem d_X4_pour_11 : decode cX4_pour 11 = .ok (.aload_n 0, 1) := by decide +kernel
theorem d_X4_pour_12 : decode cX4_pour 12 = .ok (.getfield 9, 3) := by decide +kernel
theorem d_X4_pour_15 : decode cX4_pour 15 = .ok (.iload_n 1, 1) := by decide +kernel
theorem d_X4_pour_16 : decode cX4_pour 16 = .ok (.dup2, 1) := by decide +kernel
theorem d_X4_pour_17 : decode cX4_pour 17 = .ok (.iaload, 1) := by decide +kernel
theorem d_X4_pour_18 : decode cX4_pour 18 = .ok (.iload_n 2, 1) := by decide +kernel
theorem d_X4_pour_19 : decode cX4_pour 19 = .ok (.iadd, 1) := by decide +kernel
theorem d_X4_pour_20 : decode cX4_pour 20 = .ok (.iastore, 1) := by decide +kernel
theorem d_X4_pour_21 : decode cX4_pour 21 = .ok (.aload_n 0, 1) := by decide +kernel
theorem d_X4_pour_22 : decode cX4_pour 22 = .ok (.getfield 15, 3) := by decide +kernel
theorem d_X4_pour_25 : decode cX4_pour 25 = .ok (.iload_n 1, 1) := by decide +kernel
theorem d_X4_pour_26 : decode cX4_pour 26 = .ok (.dup2, 1) := by decide +kernel
theorem d_X4_pour_27 : decode cX4_pour 27 = .ok (.iaload, 1) := by decide +kernel
theorem d_X4_pour_28 : decode cX4_pour 28 = .ok (.iload_n 2, 1) := by decide +kernel
theorem d_X4_pour_29 : decode cX4_pour 29 = .ok (.bipush 8, 2) := by decide +kernel
theorem d_X4_pour_31 : decode cX4_pour 31 = .ok (.idiv, 1) := by decide +kernel
theorem d_X4_pour_32 : decode cX4_pour 32 = .ok (.iadd, 1) := by decide +kernel
theorem d_X4_pour_33 : decode cX4_pour 33 = .ok (.iastore, 1) := by decide +kernel
theorem d_X4_pour_34 : decode cX4_pour 34 = .ok (.iconst 1, 1) := by decide +kernel
theorem d_X4_pour_35 : decode cX4_pour 35 = .ok (.ireturn, 1) := by decide +kernel
noncomputable def F_X4_pour (M : zMem) (t : Nat) (p0 : Int32) (p1 : Int32) : Option (Int32 × zMem) :=
  zb (F_X4_canPour M t p0 p1) fun v2 M1 =>
  if v2 = 0 then
    some ((0 : Int32), M1)
  else
    gin p0 64 <|
    zl (zI M1 (t + 1) p0.toNatClampNeg ((M1.1 (t + 1) p0.toNatClampNeg) + p1)) fun M4 =>
    zl (zI M4 (t + 2) p0.toNatClampNeg ((M4.1 (t + 2) p0.toNatClampNeg) + (p1 / (8 : Int32)))) fun M5 =>
    some ((1 : Int32), M5)
def rm_X4_pour : Room := { frames := 3, cells := 0, slots := 0, locals := 102 }
set_option maxHeartbeats 4000000 in
set_option maxRecDepth 100000 in
theorem c_X4_pour (l : Launch) {G : zG} {ad : Nat → Nat} {n : Nat} (hA : zInj ad n) (M : zMem) (t : Nat) (p0 : Int32) (p1 : Int32) (hT_t : zT shX n t 5) {r9 : Int32} {M9 : zMem} (hF : F_X4_pour M t p0 p1 = some (r9, M9)) : zM l yX4_pour cX4_pour 3 (some .boolean) rm_X4_pour G shX ad n M [.ref (ad t), .int p0, .int p1] (some (.int r9)) M9 := by
  refine zM_of hA (by decide +kernel) (lv := [(0, .ref (ad t)), (1, .int p0), (2, .int p1)]) (Nat.le_of_ble_eq_true rfl) rfl (fun p e s m args below meth c A cx hr => ?_)
  unfold F_X4_pour at hF
  refine z_aload_n cx d_X4_pour_0 0 rfl ?_
  refine z_iload_n cx d_X4_pour_1 1 rfl ?_
  refine z_iload_n cx d_X4_pour_2 2 rfl ?_
  obtain ⟨v2, M1, hc, hF⟩ := zb_inv hF
  refine z_callV cx (As := [.int p0, .int p1]) (rest := []) (c_X4_canPour l cx.2.2.2.1.1 M t p0 p1 hT_t hc) hT_t zo_5 cv_Pans_66 ⟨rfl, rfl, Nat.le_of_ble_eq_true rfl, Nat.le_of_ble_eq_true rfl⟩ rfl rfl ⟨Nat.zero_le _, Nat.zero_le _⟩ (Nat.le_of_ble_eq_true rfl) d_X4_pour_3 ?_
  refine z_if_ne cx 11 d_X4_pour_6 (by decide) hF (fun hF => ?_) (fun hF => ?_)
  · refine z_aload_n cx d_X4_pour_11 0 rfl ?_
    refine z_getR cx hT_t fg_Pans_9 (t + 1) rfl d_X4_pour_12 ?_
    refine z_iload_n cx d_X4_pour_15 1 rfl ?_
    refine z_dup2 cx d_X4_pour_16 rfl rfl ?_
    obtain ⟨hi3, hF⟩ := gin_inv hF
    refine z_iald cx (tfX_5_1 hT_t) za_16 hi3 p0.toNatClampNeg rfl d_X4_pour_17 ?_
    refine z_iload_n cx d_X4_pour_18 2 rfl ?_
    refine z_iadd cx d_X4_pour_19 ?_
    refine z_iast cx (tfX_5_1 hT_t) za_16 hi3 p0.toNatClampNeg rfl d_X4_pour_20 ?_
    refine z_nmM hF (fun M4 hF => ?_)
    refine z_aload_n cx d_X4_pour_21 0 rfl ?_
    refine z_getR cx hT_t fg_Pans_15 (t + 2) rfl d_X4_pour_22 ?_
    refine z_iload_n cx d_X4_pour_25 1 rfl ?_
    refine z_dup2 cx d_X4_pour_26 rfl rfl ?_
    refine z_iald cx (tfX_5_2 hT_t) za_16 hi3 p0.toNatClampNeg rfl d_X4_pour_27 ?_
    refine z_iload_n cx d_X4_pour_28 2 rfl ?_
    refine z_bipush (v := 8) cx d_X4_pour_29 kb_8 ?_
    refine z_idiv cx d_X4_pour_31 (by decide) ?_
    refine z_iadd cx d_X4_pour_32 ?_
    refine z_iast cx (tfX_5_2 hT_t) za_16 hi3 p0.toNatClampNeg rfl d_X4_pour_33 ?_
    refine z_nmM hF (fun M5 hF => ?_)
    refine z_iconst (v := 1) cx d_X4_pour_34 ki_1 ?_
    exact z_iret cx hr nb1 hF d_X4_pour_35
  refine z_iconst (v := 0) cx d_X4_pour_9 ki_0 ?_
  exact z_iret cx hr nb0 hF d_X4_pour_10
/-! SunnyPans$Pans.canScrape -/
theorem d_X4_canScrape_0 : decode cX4_canScrape 0 = .ok (.iload_n 1, 1) := by decide +kernel
theorem d_X4_canScrape_1 : decode cX4_canScrape 1 = .ok (.iload_n 2, 1) := by decide +kernel
theorem d_X4_canScrape_2 : decode cX4_canScrape 2 = .ok (.if_icmp .eq 71, 3) := by decide +kernel
theorem d_X4_canScrape_5 : decode cX4_canScrape 5 = .ok (.aload_n 0, 1) := by decide +kernel
theorem d_X4_canScrape_6 : decode cX4_canScrape 6 = .ok (.getfield 9, 3) := by decide +kernel
theorem d_X4_canScrape_9 : decode cX4_canScrape 9 = .ok (.iload_n 1, 1) := by decide +kernel
theorem d_X4_canScrape_10 : decode cX4_canScrape 10 = .ok (.iaload, 1) := by decide +kernel
theorem d_X4_canScrape_11 : decode cX4_canScrape 11 = .ok (.ifCond .ne 62, 3) := by decide +kernel
theorem d_X4_canScrape_14 : decode cX4_canScrape 14 = .ok (.aload_n 0, 1) := by decide +kernel
theorem d_X4_canScrape_15 : decode cX4_canScrape 15 = .ok (.getfield 18, 3) := by decide +kernel
theorem d_X4_canScrape_18 : decode cX4_canScrape 18 = .ok (.iload_n 1, 1) := by decide +kernel
theorem d_X4_canScrape_19 : decode cX4_canScrape 19 = .ok (.iaload, 1) := by decide +kernel
theorem d_X4_canScrape_20 : decode cX4_canScrape 20 = .ok (.ifCond .ne 53, 3) := by decide +kernel
theorem d_X4_canScrape_23 : decode cX4_canScrape 23 = .ok (.aload_n 0, 1) := by decide +kernel
theorem d_X4_canScrape_24 : decode cX4_canScrape 24 = .ok (.getfield 15, 3) := by decide +kernel
theorem d_X4_canScrape_27 : decode cX4_canScrape 27 = .ok (.iload_n 1, 1) := by decide +kernel
theorem d_X4_canScrape_28 : decode cX4_canScrape 28 = .ok (.iaload, 1) := by decide +kernel
theorem d_X4_canScrape_29 : decode cX4_canScrape 29 = .ok (.ifCond .le 44, 3) := by decide +kernel
theorem d_X4_canScrape_32 : decode cX4_canScrape 32 = .ok (.aload_n 0, 1) := by decide +kernel
theorem d_X4_canScrape_33 : decode cX4_canScrape 33 = .ok (.getfield 9, 3) := by decide +kernel
theorem d_X4_canScrape_36 : decode cX4_canScrape 36 = .ok (.iload_n 2, 1) := by decide +kernel
theorem d_X4_canScrape_37 : decode cX4_canScrape 37 = .ok (.iaload, 1) := by decide +kernel
theorem d_X4_canScrape_38 : decode cX4_canScrape 38 = .ok (.ifCond .ne 35, 3) := by decide +kernel
theorem d_X4_canScrape_41 : decode cX4_canScrape 41 = .ok (.aload_n 0, 1) := by decide +kernel
theorem d_X4_canScrape_42 : decode cX4_canScrape 42 = .ok (.getfield 15, 3) := by decide +kernel
theorem d_X4_canScrape_45 : decode cX4_canScrape 45 = .ok (.iload_n 2, 1) := by decide +kernel
theorem d_X4_canScrape_46 : decode cX4_canScrape 46 = .ok (.iaload, 1) := by decide +kernel
theorem d_X4_canScrape_47 : decode cX4_canScrape 47 = .ok (.ifCond .ne 26, 3) := by decide +kernel
theorem d_X4_canScrape_50 : decode cX4_canScrape 50 = .ok (.aload_n 0, 1) := by decide +kernel
theorem d_X4_canScrape_51 : decode cX4_canScrape 51 = .ok (.getfield 18, 3) := by decide +kernel
theorem d_X4_canScrape_54 : decode cX4_canScrape 54 = .ok (.iload_n 2, 1) := by decide +kernel
theorem d_X4_canScrape_55 : decode cX4_canScrape 55 = .ok (.iaload, 1) := by decide +kernel
theorem d_X4_canScrape_56 : decode cX4_canScrape 56 = .ok (.aload_n 0, 1) := by decide +kernel
theorem d_X4_canScrape_57 : decode cX4_canScrape 57 = .ok (.getfield 15, 3) := by decide +kernel
theorem d_X4_canScrape_60 : decode cX4_canScrape 60 = .ok (.iload_n 1, 1) := by decide +kernel
theorem d_X4_canScrape_61 : decode cX4_canScrape 61 = .ok (.iaload, 1) := by decide +kernel
theorem d_X4_canScrape_62 : decode cX4_canScrape 62 = .ok (.iadd, 1) := by decide +kernel
theorem d_X4_canScrape_63 : decode cX4_canScrape 63 = .ok (.sipush 9999, 3) := by decide +kernel
theorem d_X4_canScrape_66 : decode cX4_canScrape 66 = .ok (.if_icmp .gt 7, 3) := by decide +kernel
theorem d_X4_canScrape_69 : decode cX4_canScrape 69 = .ok (.iconst 1, 1) := by decide +kernel
theorem d_X4_canScrape_70 : decode cX4_canScrape 70 = .ok (.goto 4, 3) := by decide +kernel
theorem d_X4_canScrape_73 : decode cX4_canScrape 73 = .ok (.iconst 0, 1) := by decide +kernel
theorem d_X4_canScrape_74 : decode cX4_canScrape 74 = .ok (.ireturn, 1) := by decide +kernel
noncomputable def F_X4_canScrape (M : zMem) (t : Nat) (p0 : Int32) (p1 : Int32) : Option (Int32 × zMem) :=
  if p0 = p1 then
    some ((0 : Int32), M)
  else
    gin p0 64 <|
    if (M.1 (t + 1) p0.toNatClampNeg) = 0 then
      if (M.1 (t + 3) p0.toNatClampNeg) = 0 then
        if (M.1 (t + 2) p0.toNatClampNeg) ≤ 0 then
          some ((0 : Int32), M)
        else
          gin p1 64 <|
          if (M.1 (t + 1) p1.toNatClampNeg) = 0 then
            if (M.1 (t + 2) p1.toNatClampNeg) = 0 then
              if (9999 : Int32) < ((M.1 (t + 3) p1.toNatClampNeg) + (M.1 (t + 2) p0.toNatClampNeg)) then
                some ((0 : Int32), M)
              else
                some ((1 : Int32), M)
            else
              some ((0 : Int32), M)
          else
            some ((0 : Int32), M)
      else
        some ((0 : Int32), M)
    else
      some ((0 : Int32), M)
def rm_X4_canScrape : Room := { frames := 2, cells := 0, slots := 0, locals := 80 }
set_option maxHeartbeats 4000000 in
set_option maxRecDepth 100000 in
theorem c_X4_canScrape (l : Launch) {G : zG} {ad : Nat → Nat} {n : Nat} (hA : zInj ad n) (M : zMem) (t : Nat) (p0 : Int32) (p1 : Int32) (hT_t : zT shX n t 5) {r9 : Int32} {M9 : zMem} (hF : F_X4_canScrape M t p0 p1 = some (r9, M9)) : zM l yX4_canScrape cX4_canScrape 3 (some .boolean) rm_X4_canScrape G shX ad n M [.ref (ad t), .int p0, .int p1] (some (.int r9)) M9 := by
  refine zM_of hA (by decide +kernel) (lv := [(0, .ref (ad t)), (1, .int p0), (2, .int p1)]) (Nat.le_of_ble_eq_true rfl) rfl (fun p e s m args below meth c A cx hr => ?_)
  unfold F_X4_canScrape at hF
  refine z_iload_n cx d_X4_canScrape_0 1 rfl ?_
  refine z_iload_n cx d_X4_canScrape_1 2 rfl ?_
  refine z_icmp_eq cx 73 d_X4_canScrape_2 (by decide) hF (fun hF => ?_) (fun hF => ?_)
  · refine z_iconst (v := 0) cx d_X4_canScrape_73 ki_0 ?_
    exact z_iret cx hr nb0 hF d_X4_canScrape_74
  refine z_aload_n cx d_X4_canScrape_5 0 rfl ?_
  refine z_getR cx hT_t fg_Pans_9 (t + 1) rfl d_X4_canScrape_6 ?_
  refine z_iload_n cx d_X4_canScrape_9 1 rfl ?_
  obtain ⟨hi1, hF⟩ := gin_inv hF
  refine z_iald cx (tfX_5_1 hT_t) za_16 hi1 p0.toNatClampNeg rfl d_X4_canScrape_10 ?_
  refine z_if_ne cx 73 d_X4_canScrape_11 (by decide) hF (fun hF => ?_) (fun hF => ?_)
  · refine z_iconst (v := 0) cx d_X4_canScrape_73 ki_0 ?_
    exact z_iret cx hr nb0 hF d_X4_canScrape_74
  refine z_aload_n cx d_X4_canScrape_14 0 rfl ?_
  refine z_getR cx hT_t fg_Pans_18 (t + 3) rfl d_X4_canScrape_15 ?_
  refine z_iload_n cx d_X4_canScrape_18 1 rfl ?_
  refine z_iald cx (tfX_5_3 hT_t) za_16 hi1 p0.toNatClampNeg rfl d_X4_canScrape_19 ?_
  refine z_if_ne cx 73 d_X4_canScrape_20 (by decide) hF (fun hF => ?_) (fun hF => ?_)
  · refine z_iconst (v := 0) cx d_X4_canScrape_73 ki_0 ?_
    exact z_iret cx hr nb0 hF d_X4_canScrape_74
  refine z_aload_n cx d_X4_canScrape_23 0 rfl ?_
  refine z_getR cx hT_t fg_Pans_15 (t + 2) rfl d_X4_canScrape_24 ?_
  refine z_iload_n cx d_X4_canScrape_27 1 rfl ?_
  refine z_iald cx (tfX_5_2 hT_t) za_16 hi1 p0.toNatClampNeg rfl d_X4_canScrape_28 ?_
  refine z_if_le cx 73 d_X4_canScrape_29 (by decide) hF (fun hF => ?_) (fun hF => ?_)
  · refine z_iconst (v := 0) cx d_X4_canScrape_73 ki_0 ?_
    exact z_iret cx hr nb0 hF d_X4_canScrape_74
  refine z_aload_n cx d_X4_canScrape_32 0 rfl ?_
  refine z_getR cx hT_t fg_Pans_9 (t + 1) rfl d_X4_canScrape_33 ?_
  refine z_iload_n cx d_X4_canScrape_36 2 rfl ?_
  obtain ⟨hi2, hF⟩ := gin_inv hF
  refine z_iald cx (tfX_5_1 hT_t) za_16 hi2 p1.toNatClampNeg rfl d_X4_canScrape_37 ?_
  refine z_if_ne cx 73 d_X4_canScrape_38 (by decide) hF (fun hF => ?_) (fun hF => ?_)
  · refine z_iconst (v := 0) cx d_X4_canScrape_73 ki_0 ?_
    exact z_iret cx hr nb0 hF d_X4_canScrape_74
  refine z_aload_n cx d_X4_canScrape_41 0 rfl ?_
  refine z_getR cx hT_t fg_Pans_15 (t + 2) rfl d_X4_canScrape_42 ?_
  refine z_iload_n cx d_X4_canScrape_45 2 rfl ?_
  refine z_iald cx (tfX_5_2 hT_t) za_16 hi2 p1.toNatClampNeg rfl d_X4_canScrape_46 ?_
  refine z_if_ne cx 73 d_X4_canScrape_47 (by decide) hF (fun hF => ?_) (fun hF => ?_)
  · refine z_iconst (v := 0) cx d_X4_canScrape_73 ki_0 ?_
    exact z_iret cx hr nb0 hF d_X4_canScrape_74
  refine z_aload_n cx d_X4_canScrape_50 0 rfl ?_
  refine z_getR cx hT_t fg_Pans_18 (t + 3) rfl d_X4_canScrape_51 ?_
  refine z_iload_n cx d_X4_canScrape_54 2 rfl ?_
  refine z_iald cx (tfX_5_3 hT_t) za_16 hi2 p1.toNatClampNeg rfl d_X4_canScrape_55 ?_
  refine z_aload_n cx d_X4_canScrape_56 0 rfl ?_
  refine z_getR cx hT_t fg_Pans_15 (t + 2) rfl d_X4_canScrape_57 ?_
  refine z_iload_n cx d_X4_canScrape_60 1 rfl ?_
  refine z_iald cx (tfX_5_2 hT_t) za_16 hi1 p0.toNatClampNeg rfl d_X4_canScrape_61 ?_
  refine z_iadd cx d_X4_canScrape_62 ?_
  refine z_sipush (v := 9999) cx d_X4_canScrape_63 ks_9999 ?_
  refine z_icmp_gt cx 73 d_X4_canScrape_66 (by decide) hF (fun hF => ?_) (fun hF => ?_)
  · refine z_iconst (v := 0) cx d_X4_canScrape_73 ki_0 ?_
    exact z_iret cx hr nb0 hF d_X4_canScrape_74
  refine z_iconst (v := 1) cx d_X4_canScrape_69 ki_1 ?_
  refine z_goto cx 74 d_X4_canScrape_70 (by decide) ?_
  exact z_iret cx hr nb1 hF d_X4_canScrape_74
/-! SunnyPans$Pans.scrape -/
set_option maxRecDepth 100000 in
theorem wd_915 : Cond.code yX4_canScrape cX4_canScrape 3 (some .boolean) ∈ tbG := tw4 95 rfl rfl
set_option maxRecDepth 100000 in
theorem wd_912 : Cond.methodLink "SunnyPans$Pans" 70 yX4_canScrape ∈ tbG := tw4 92 rfl rfl
set_option maxRecDepth 100000 in
theorem wd_913 : Cond.instanceMethod yX4_canScrape ∈ tbG := tw4 93 rfl rfl
set_option maxRecDepth 100000 in
theorem wd_914 : Cond.selects "SunnyPans$Pans" yX4_canScrape yX4_canScrape ∈ tbG := tw4 94 rfl rfl
theorem cv_Pans_70 : zCV "SunnyPans$Pans" 70 "SunnyPans$Pans" yX4_canScrape cX4_canScrape 3 (some .boolean) 2 := zCV_of wd_912 wd_913 wd_914 wd_104 wd_915 (by decide +kernel)
theorem d_X4_scrape_0 : decode cX4_scrape 0 = .ok (.aload_n 0, 1) := by decide +kernel
theorem d_X4_scrape_1 : decode cX4_scrape 1 = .ok (.iload_n 2, 1) := by decide +kernel
theorem d_X4_scrape_2 : decode cX4_scrape 2 = .ok (.iload_n 3, 1) := by decide +kernel
theorem d_X4_scrape_3 : decode cX4_scrape 3 = .ok (.invokevirtual 70, 3) := by decide +kernel
theorem d_X4_scrape_6 : decode cX4_scrape 6 = .ok (.ifCond .ne 5, 3) := by decide +kernel
theorem d_X4_scrape_9 : decode cX4_scrape 9 = .ok (.iconst 0, 1) := by decide +kernel
theorem d_X4_scrape_10 : decode cX4_scrape 10 = .ok (.ireturn, 1) := by decide +kernel
theorem d_X4_scrape_11 : decode cX4_scrape 11 = .ok (.aload_n 0, 1) := by decide +kernel
theorem d_X4_scrape_12 : decode cX4_scrape 12 = .ok (.getfield 18, 3) := by decide +kernel
theorem d_X4_scrape_15 : decode cX4_scrape 15 = .ok (.iload_n 3, 1) := by decide +kernel
theorem d_X4_scrape_16 : decode cX4_scrape 16 = .ok (.dup2, 1) := by decide +kernel
theorem d_X4_scrape_17 : decode cX4_scrape 17 = .ok (.iaload, 1) := by decide +kernel
theorem d_X4_scrape_18 : decode cX4_scrape 18 = .ok (.aload_n 0, 1) := by decide +kernel
theorem d_X4_scrape_19 : decode cX4_scrape 19 = .ok (.getfield 15, 3) := by decide +kernel
theorem d_X4_scrape_22 : decode cX4_scrape 22 = .ok (.iload_n 2, 1) := by decide +kernel
theorem d_X4_scrape_23 : decode cX4_scrape 23 = .ok (.iaload, 1) := by decide +kernel
theorem d_X4_scrape_24 : decode cX4_scrape 24 = .ok (.iadd, 1) := by decide +kernel
theorem d_X4_scrape_25 : decode cX4_scrape 25 = .ok (.iastore, 1) := by decide +kernel
theorem d_X4_scrape_26 : decode cX4_scrape 26 = .ok (.aload_n 0, 1) := by decide +kernel
theorem d_X4_scrape_27 : decode cX4_scrape 27 = .ok (.getfield 15, 3) := by decide +kernel
theorem d_X4_scrape_30 : decode cX4_scrape 30 = .ok (.iload_n 2, 1) := by decide +kernel
theorem d_X4_scrape_31 : decode cX4_scrape 31 = .ok (.iconst 0, 1) := by decide +kernel
theorem d_X4_scrape_32 : decode cX4_scrape 32 = .ok (.iastore, 1) := by decide +kernel
theorem d_X4_scrape_33 : decode cX4_scrape 33 = .ok (.aload_n 0, 1) := by decide +kernel
theorem d_X4_scrape_34 : decode cX4_scrape 34 = .ok (.aload_n 1, 1) := by decide +kernel
theorem d_X4_scrape_35 : decode cX4_scrape 35 = .ok (.invokevirtual 46, 3) := by decide +kernel
theorem d_X4_scrape_38 : decode cX4_scrape 38 = .ok (.iconst 1, 1) := by decide +kernel
theorem d_X4_scrape_39 : decode cX4_scrape 39 = .ok (.ireturn, 1) := by decide +kernel
noncomputable def F_X4_scrape (M : zMem) (t : Nat) (p0 : Nat) (p1 : Int32) (p2 : Int32) : Option (Int32 × zMem) :=
  zb (F_X4_canScrape M t p1 p2) fun v2 M1 =>
  if v2 = 0 then
    some ((0 : Int32), M1)
  else
    gin p2 64 <|
    gin p1 64 <|
    zl (zI M1 (t + 3) p2.toNatClampNeg ((M1.1 (t + 3) p2.toNatClampNeg) + (M1.1 (t + 2) p1.toNatClampNeg))) fun M5 =>
    zl (zI M5 (t + 2) p1.toNatClampNeg (0 : Int32)) fun M6 =>
    zbv (F_X4_learnShades M6 t p0) fun M7 =>
    some ((1 : Int32), M7)
def rm_X4_scrape : Room := { frames := 5, cells := 0, slots := 0, locals := 154 }
set_option maxHeartbeats 4000000 in
set_option maxRecDepth 100000 in
theorem c_X4_scrape (l : Launch) {G : zG} {ad : Nat → Nat} {n : Nat} (hA : zInj ad n) (M : zMem) (t : Nat) (p0 : Nat) (p1 : Int32) (p2 : Int32) (hT_t : zT shX n t 5) (hT_p0 : zT shX n p0 6) {r9 : Int32} {M9 : zMem} (hF : F_X4_scrape M t p0 p1 p2 = some (r9, M9)) : zM l yX4_scrape cX4_scrape 4 (some .boolean) rm_X4_scrape G shX ad n M [.ref (ad t), .ref (ad p0), .int p1, .int p2] (some (.int r9)) M9 := by
  refine zM_of hA (by decide +kernel) (lv := [(0, .ref (ad t)), (1, .ref (ad p0)), (2, .int p1), (3, .int p2)]) (Nat.le_of_ble_eq_true rfl) rfl (fun p e s m args below meth c A cx hr => ?_)
  unfold F_X4_scrape at hF
  refine z_aload_n cx d_X4_scrape_0 0 rfl ?_
  refine z_iload_n cx d_X4_scrape_1 2 rfl ?_
  refine z_iload_n cx d_X4_scrape_2 3 rfl ?_
  obtain ⟨v2, M1, hc, hF⟩ := zb_inv hF
  refine z_callV cx (As := [.int p1, .int p2]) (rest := []) (c_X4_canScrape l cx.2.2.2.1.1 M t p1 p2 hT_t hc) hT_t zo_5 cv_Pans_70 ⟨rfl, rfl, Nat.le_of_ble_eq_true rfl, Nat.le_of_ble_eq_true rfl⟩ rfl rfl ⟨Nat.zero_le _, Nat.zero_le _⟩ (Nat.le_of_ble_eq_true rfl) d_X4_scrape_3 ?_
  refine z_if_ne cx 11 d_X4_scrape_6 (by decide) hF (fun hF => ?_) (fun hF => ?_)
  · refine z_aload_n cx d_X4_scrape_11 0 rfl ?_
    refine z_getR cx hT_t fg_Pans_18 (t + 3) rfl d_X4_scrape_12 ?_
    refine z_iload_n cx d_X4_scrape_15 3 rfl ?_
    refine z_dup2 cx d_X4_scrape_16 rfl rfl ?_
    obtain ⟨hi3, hF⟩ := gin_inv hF
    refine z_iald cx (tfX_5_3 hT_t) za_16 hi3 p2.toNatClampNeg rfl d_X4_scrape_17 ?_
    refine z_aload_n cx d_X4_scrape_18 0 rfl ?_
    refine z_getR cx hT_t fg_Pans_15 (t + 2) rfl d_X4_scrape_19 ?_
    refine z_iload_n cx d_X4_scrape_22 2 rfl ?_
    obtain ⟨hi4, hF⟩ := gin_inv hF
    refine z_iald cx (tfX_5_2 hT_t) za_16 hi4 p1.toNatClampNeg rfl d_X4_scrape_23 ?_
    refine z_iadd cx d_X4_scrape_24 ?_
    refine z_iast cx (tfX_5_3 hT_t) za_16 hi3 p2.toNatClampNeg rfl d_X4_scrape_25 ?_
    refine z_nmM hF (fun M5 hF => ?_)
    refine z_aload_n cx d_X4_scrape_26 0 rfl ?_
    refine z_getR cx hT_t fg_Pans_15 (t + 2) rfl d_X4_scrape_27 ?_
    refine z_iload_n cx d_X4_scrape_30 2 rfl ?_
    refine z_iconst (v := 0) cx d_X4_scrape_31 ki_0 ?_
    refine z_iast cx (tfX_5_2 hT_t) za_16 hi4 p1.toNatClampNeg rfl d_X4_scrape_32 ?_
    refine z_nmM hF (fun M6 hF => ?_)
    refine z_aload_n cx d_X4_scrape_33 0 rfl ?_
    refine z_aload_n cx d_X4_scrape_34 1 rfl ?_
    obtain ⟨M7, hc, hF⟩ := zbv_inv hF
    refine z_callV cx (As := [.ref (ad p0)]) (rest := []) (c_X4_learnShades l cx.2.2.2.1.1 M6 t p0 hT_t hT_p0 hc) hT_t zo_5 cv_Pans_46 ⟨rfl, rfl, Nat.le_of_ble_eq_true rfl, Nat.le_of_ble_eq_true rfl⟩ rfl rfl ⟨Nat.zero_le _, Nat.zero_le _⟩ (Nat.le_of_ble_eq_true rfl) d_X4_scrape_35 ?_
    refine z_iconst (v := 1) cx d_X4_scrape_38 ki_1 ?_
    exact z_iret cx hr nb1 hF d_X4_scrape_39
  refine z_iconst (v := 0) cx d_X4_scrape_9 ki_0 ?_
  exact z_iret cx hr nb0 hF d_X4_scrape_10
/-! SunnyPans$Pans.haul -/
theorem d_X4_haul_0 : decode cX4_haul 0 = .ok (.aload_n 0, 1) := by decide +kernel
theorem d_X4_haul_1 : decode cX4_haul 1 = .ok (.getfield 18, 3) := by decide +kernel
theorem d_X4_haul_4 : decode cX4_haul 4 = .ok (.iload_n 2, 1) := by decide +kernel
theorem d_X4_haul_5 : decode cX4_haul 5 = .ok (.iaload, 1) := by decide +kernel
theorem d_X4_haul_6 : decode cX4_haul 6 = .ok (.ifCond .ne 5, 3) := by decide +kernel
theorem d_X4_haul_9 : decode cX4_haul 9 = .ok (.iconst 0, 1) := by decide +kernel
theorem d_X4_haul_10 : decode cX4_haul 10 = .ok (.ireturn, 1) := by decide +kernel
theorem d_X4_haul_11 : decode cX4_haul 11 = .ok (.aload_n 0, 1) := by decide +kernel
theorem d_X4_haul_12 : decode cX4_haul 12 = .ok (.dup, 1) := by decide +kernel
theorem d_X4_haul_13 : decode cX4_haul 13 = .ok (.getfield 31, 3) := by decide +kernel
theorem d_X4_haul_16 : decode cX4_haul 16 = .ok (.aload_n 0, 1) := by decide +kernel
theorem d_X4_haul_17 : decode cX4_haul 17 = .ok (.getfield 18, 3) := by decide +kernel
theorem d_X4_haul_20 : decode cX4_haul 20 = .ok (.iload_n 2, 1) := by decide +kernel
theorem d_X4_haul_21 : decode cX4_haul 21 = .ok (.iaload, 1) := by decide +kernel
theorem d_X4_haul_22 : decode cX4_haul 22 = .ok (.iadd, 1) := by decide +kernel
theorem d_X4_haul_23 : decode cX4_haul 23 = .ok (.putfield 31, 3) := by decide +kernel
theorem d_X4_haul_26 : decode cX4_haul 26 = .ok (.aload_n 0, 1) := by decide +kernel
theorem d_X4_haul_27 : decode cX4_haul 27 = .ok (.getfield 18, 3) := by decide +kernel
theorem d_X4_haul_30 : decode cX4_haul 30 = .ok (.iload_n 2, 1) := by decide +kernel
theorem d_X4_haul_31 : decode cX4_haul 31 = .ok (.iconst 0, 1) := by decide +kernel
theorem d_X4_haul_32 : decode cX4_haul 32 = .ok (.iastore, 1) := by decide +kernel
theorem d_X4_haul_33 : decode cX4_haul 33 = .ok (.aload_n 0, 1) := by decide +kernel
theorem d_X4_haul_34 : decode cX4_haul 34 = .ok (.aload_n 1, 1) := by decide +kernel
theorem d_X4_haul_35 : decode cX4_haul 35 = .ok (.invokevirtual 46, 3) := by decide +kernel
theorem d_X4_haul_38 : decode cX4_haul 38 = .ok (.iconst 1, 1) := by decide +kernel
theorem d_X4_haul_39 : decode cX4_haul 39 = .ok (.ireturn, 1) := by decide +kernel
noncomputable def F_X4_haul (M : zMem) (t : Nat) (p0 : Nat) (p1 : Int32) : Option (Int32 × zMem) :=
  gin p1 64 <|
  if (M.1 (t + 3) p1.toNatClampNeg) = 0 then
    some ((0 : Int32), M)
  else
    zl (zI M t 3 ((M.1 t 3) + (M.1 (t + 3) p1.toNatClampNeg))) fun M2 =>
    zl (zI M2 (t + 3) p1.toNatClampNeg (0 : Int32)) fun M3 =>
    zbv (F_X4_learnShades M3 t p0) fun M4 =>
    some ((1 : Int32), M4)
def rm_X4_haul : Room := { frames := 5, cells := 0, slots := 0, locals := 154 }
set_option maxHeartbeats 4000000 in
set_option maxRecDepth 100000 in
theorem c_X4_haul (l : Launch) {G : zG} {ad : Nat → Nat} {n : Nat} (hA : zInj ad n) (M : zMem) (t : Nat) (p0 : Nat) (p1 : Int32) (hT_t : zT shX n t 5) (hT_p0 : zT shX n p0 6) {r9 : Int32} {M9 : zMem} (hF : F_X4_haul M t p0 p1 = some (r9, M9)) : zM l yX4_haul cX4_haul 3 (some .boolean) rm_X4_haul G shX ad n M [.ref (ad t), .ref (ad p0), .int p1] (some (.int r9)) M9 := by
  refine zM_of hA (by decide +kernel) (lv := [(0, .ref (ad t)), (1, .ref (ad p0)), (2, .int p1)]) (Nat.le_of_ble_eq_true rfl) rfl (fun p e s m args below meth c A cx hr => ?_)
  unfold F_X4_haul at hF
  refine z_aload_n cx d_X4_haul_0 0 rfl ?_
  refine z_getR cx hT_t fg_Pans_18 (t + 3) rfl d_X4_haul_1 ?_
  refine z_iload_n cx d_X4_haul_4 2 rfl ?_
  obtain ⟨hi1, hF⟩ := gin_inv hF
  refine z_iald cx (tfX_5_3 hT_t) za_16 hi1 p1.toNatClampNeg rfl d_X4_haul_5 ?_
  refine z_if_ne cx 11 d_X4_haul_6 (by decide) hF (fun hF => ?_) (fun hF => ?_)
  · refine z_aload_n cx d_X4_haul_11 0 rfl ?_
    refine z_dup cx d_X4_haul_12 rfl ?_
    refine z_getI cx hT_t fg_Pans_31 d_X4_haul_13 ?_
    refine z_aload_n cx d_X4_haul_16 0 rfl ?_
    refine z_getR cx hT_t fg_Pans_18 (t + 3) rfl d_X4_haul_17 ?_
    refine z_iload_n cx d_X4_haul_20 2 rfl ?_
    refine z_iald cx (tfX_5_3 hT_t) za_16 hi1 p1.toNatClampNeg rfl d_X4_haul_21 ?_
    refine z_iadd cx d_X4_haul_22 ?_
    refine z_putI cx hT_t fp_Pans_31 d_X4_haul_23 ?_
    refine z_nmM hF (fun M2 hF => ?_)
    refine z_aload_n cx d_X4_haul_26 0 rfl ?_
    refine z_getR cx hT_t fg_Pans_18 (t + 3) rfl d_X4_haul_27 ?_
    refine z_iload_n cx d_X4_haul_30 2 rfl ?_
    refine z_iconst (v := 0) cx d_X4_haul_31 ki_0 ?_
    refine z_iast cx (tfX_5_3 hT_t) za_16 hi1 p1.toNatClampNeg rfl d_X4_haul_32 ?_
    refine z_nmM hF (fun M3 hF => ?_)
    refine z_aload_n cx d_X4_haul_33 0 rfl ?_
    refine z_aload_n cx d_X4_haul_34 1 rfl ?_
    obtain ⟨M4, hc, hF⟩ := zbv_inv hF
    refine z_callV cx (As := [.ref (ad p0)]) (rest := []) (c_X4_learnShades l cx.2.2.2.1.1 M3 t p0 hT_t hT_p0 hc) hT_t zo_5 cv_Pans_46 ⟨rfl, rfl, Nat.le_of_ble_eq_true rfl, Nat.le_of_ble_eq_true rfl⟩ rfl rfl ⟨Nat.zero_le _, Nat.zero_le _⟩ (Nat.le_of_ble_eq_true rfl) d_X4_haul_35 ?_
    refine z_iconst (v := 1) cx d_X4_haul_38 ki_1 ?_
    exact z_iret cx hr nb1 hF d_X4_haul_39
  refine z_iconst (v := 0) cx d_X4_haul_9 ki_0 ?_
  exact z_iret cx hr nb0 hF d_X4_haul_10
/-! SunnyPans$Pans.wet -/
set_option maxRecDepth 100000 in
theorem wd_329 : Cond.fieldLink "SunnyPans$Pans" 79 "SunnyPans$Plan" "places" "J" ∈ tbG := tw1 229 rfl rfl
theorem fg_Pans_79 : zGetL "SunnyPans$Pans" 79 5 6 3 := ⟨RX5, TX5, 9, rfl, by decide, uw_5, wd_329, fun _ _ _ _ _ _ => ⟨_, rfl, rfl⟩⟩
set_option maxRecDepth 100000 in
theorem wd_925 : Cond.methodLinkNest "SunnyPans$Pans" 83 yX9_has "SunnyPans" ∈ tbN := twn4 105 rfl rfl
theorem cn_Pans_83 : zCN "SunnyPans$Pans" 83 yX9_has cX9_has 3 (some .boolean) 2 := ⟨wd_925, wd_101, wd_737, by decide +kernel⟩
set_option maxRecDepth 100000 in
theorem wd_926 : Cond.methodLink "SunnyPans$Pans" 87 Lib.Math.min.name ∈ tbG := tw4 106 rfl rfl
set_option maxRecDepth 100000 in
theorem wd_924 : Cond.methodLink "SunnyPans$Pans" 73 Lib.Math.max.name ∈ tbG := tw4 104 rfl rfl
theorem d_X4_wet_0 : decode cX4_wet 0 = .ok (.iconst 0, 1) := by decide +kernel
theorem d_X4_wet_1 : decode cX4_wet 1 = .ok (.istore_n 3, 1) := by decide +kernel
theorem d_X4_wet_2 : decode cX4_wet 2 = .ok (.iload_n 3, 1) := by decide +kernel
theorem d_X4_wet_3 : decode cX4_wet 3 = .ok (.bipush 64, 2) := by decide +kernel
theorem d_X4_wet_5 : decode cX4_wet 5 = .ok (.if_icmp .ge 70, 3) := by decide +kernel
theorem d_X4_wet_8 : decode cX4_wet 8 = .ok (.aload_n 0, 1) := by decide +kernel
theorem d_X4_wet_9 : decode cX4_wet 9 = .ok (.getfield 18, 3) := by decide +kernel
theorem d_X4_wet_12 : decode cX4_wet 12 = .ok (.iload_n 3, 1) := by decide +kernel
theorem d_X4_wet_13 : decode cX4_wet 13 = .ok (.iaload, 1) := by decide +kernel
theorem d_X4_wet_14 : decode cX4_wet 14 = .ok (.ifCond .le 24, 3) := by decide +kernel
theorem d_X4_wet_17 : decode cX4_wet 17 = .ok (.aload_n 0, 1) := by decide +kernel
theorem d_X4_wet_18 : decode cX4_wet 18 = .ok (.getfield 18, 3) := by decide +kernel
theorem d_X4_wet_21 : decode cX4_wet 21 = .ok (.iload_n 3, 1) := by decide +kernel
theorem d_X4_wet_22 : decode cX4_wet 22 = .ok (.iconst 0, 1) := by decide +kernel
theorem d_X4_wet_23 : decode cX4_wet 23 = .ok (.aload_n 0, 1) := by decide +kernel
theorem d_X4_wet_24 : decode cX4_wet 24 = .ok (.getfield 18, 3) := by decide +kernel
theorem d_X4_wet_27 : decode cX4_wet 27 = .ok (.iload_n 3, 1) := by decide +kernel
theorem d_X4_wet_28 : decode cX4_wet 28 = .ok (.iaload, 1) := by decide +kernel
theorem d_X4_wet_29 : decode cX4_wet 29 = .ok (.iload_n 2, 1) := by decide +kernel
theorem d_X4_wet_30 : decode cX4_wet 30 = .ok (.isub, 1) := by decide +kernel
theorem d_X4_wet_31 : decode cX4_wet 31 = .ok (.invokestatic 73, 3) := by decide +kernel
theorem d_X4_wet_34 : decode cX4_wet 34 = .ok (.iastore, 1) := by decide +kernel
theorem d_X4_wet_35 : decode cX4_wet 35 = .ok (.goto 34, 3) := by decide +kernel
theorem d_X4_wet_38 : decode cX4_wet 38 = .ok (.aload_n 1, 1) := by decide +kernel
theorem d_X4_wet_39 : decode cX4_wet 39 = .ok (.getfield 79, 3) := by decide +kernel
theorem d_X4_wet_42 : decode cX4_wet 42 = .ok (.iload_n 3, 1) := by decide +kernel
theorem d_X4_wet_43 : decode cX4_wet 43 = .ok (.invokestatic 83, 3) := by decide +kernel
theorem d_X4_wet_46 : decode cX4_wet 46 = .ok (.ifCond .eq 23, 3) := by decide +kernel
theorem d_X4_wet_49 : decode cX4_wet 49 = .ok (.aload_n 0, 1) := by decide +kernel
theorem d_X4_wet_50 : decode cX4_wet 50 = .ok (.getfield 9, 3) := by decide +kernel
theorem d_X4_wet_53 : decode cX4_wet 53 = .ok (.iload_n 3, 1) := by decide +kernel
theorem d_X4_wet_54 : decode cX4_wet 54 = .ok (.sipush 9999, 3) := by decide +kernel
theorem d_X4_wet_57 : decode cX4_wet 57 = .ok (.aload_n 0, 1) := by decide +kernel
theorem d_X4_wet_58 : decode cX4_wet 58 = .ok (.getfield 9, 3) := by decide +kernel
theorem d_X4_wet_61 : decode cX4_wet 61 = .ok (.iload_n 3, 1) := by decide +kernel
theorem d_X4_wet_62 : decode cX4_wet 62 = .ok (.iaload, 1) := by decide +kernel
theorem d_X4_wet_63 : decode cX4_wet 63 = .ok (.iload_n 2, 1) := by decide +kernel
theorem d_X4_wet_64 : decode cX4_wet 64 = .ok (.iadd, 1) := by decide +kernel
theorem d_X4_wet_65 : decode cX4_wet 65 = .ok (.invokestatic 87, 3) := by decide +kernel
theorem d_X4_wet_68 : decode cX4_wet 68 = .ok (.iastore, 1) := by decide +kernel
theorem d_X4_wet_69 : decode cX4_wet 69 = .ok (.iinc 3 1, 3) := by decide +kernel
theorem d_X4_wet_72 : decode cX4_wet 72 = .ok (.goto (-70), 3) := by decide +kernel
theorem d_X4_wet_75 : decode cX4_wet 75 = .ok (.aload_n 0, 1) := by decide +kernel
theorem d_X4_wet_76 : decode cX4_wet 76 = .ok (.aload_n 1, 1) := by decide +kernel
theorem d_X4_wet_77 : decode cX4_wet 77 = .ok (.invokevirtual 46, 3) := by decide +kernel
theorem d_X4_wet_80 : decode cX4_wet 80 = .ok (.return_, 1) := by decide +kernel
noncomputable def F_X4_wet_69 (t : Nat) (p0 : Nat) (p1 : Int32) (self2 : Int32 → Int32 → zMem → Option (zMem)) (b69_L2 : Int32) (b69_L3 : Int32) (M : zMem) : Option (zMem) :=
  self2 b69_L2 (b69_L3 + 1) M
noncomputable def F_X4_wet_2 (t : Nat) (p0 : Nat) (p1 : Int32) (self2 : Int32 → Int32 → zMem → Option (zMem)) (b2_L2 : Int32) (b2_L3 : Int32) (M : zMem) : Option (zMem) :=
  if (64 : Int32) ≤ b2_L3 then
    zbv (F_X4_learnShades M t p0) fun M1 =>
    some M1
  else
    gin b2_L3 64 <|
    if (M.1 (t + 3) b2_L3.toNatClampNeg) ≤ 0 then
      zb (F_X9_has M (M.2.1 p0 3) b2_L3) fun v4 M3 =>
      if v4 = 0 then
        F_X4_wet_69 t p0 p1 self2 b2_L2 b2_L3 M3
      else
        zl (zI M3 (t + 1) b2_L3.toNatClampNeg (zmin (9999 : Int32) ((M3.1 (t + 1) b2_L3.toNatClampNeg) + b2_L2))) fun M5 =>
        F_X4_wet_69 t p0 p1 self2 b2_L2 b2_L3 M5
    else
      zl (zI M (t + 3) b2_L3.toNatClampNeg (zmax (0 : Int32) ((M.1 (t + 3) b2_L3.toNatClampNeg) - b2_L2))) fun M6 =>
      F_X4_wet_69 t p0 p1 self2 b2_L2 b2_L3 M6
noncomputable def F_X4_wet (M : zMem) (t : Nat) (p0 : Nat) (p1 : Int32) : Option (zMem) :=
  itF (fun _ _ _ => none) (F_X4_wet_2 t p0 p1) zFuel p1 (0 : Int32) M
def rm_X4_wet : Room := { frames := 5, cells := 0, slots := 0, locals := 154 }
set_option maxHeartbeats 4000000 in
set_option maxRecDepth 100000 in
theorem c_X4_wet (l : Launch) {G : zG} {ad : Nat → Nat} {n : Nat} (hA : zInj ad n) (M : zMem) (t : Nat) (p0 : Nat) (p1 : Int32) (hT_t : zT shX n t 5) (hT_p0 : zT shX n p0 6) {M9 : zMem} (hF : F_X4_wet M t p0 p1 = some M9) : zM l yX4_wet cX4_wet 4 none rm_X4_wet G shX ad n M [.ref (ad t), .ref (ad p0), .int p1] none M9 := by
  refine zM_of hA (by decide +kernel) (lv := [(0, .ref (ad t)), (1, .ref (ad p0)), (2, .int p1)]) (Nat.le_of_ble_eq_true rfl) rfl (fun p e s m args below meth c A cx hr => ?_)
  have hb69 : ∀ (self2 : Int32 → Int32 → zMem → Option (zMem)) (hs2 : ∀ (b2_L2 : Int32) (b2_L3 : Int32) (M : zMem), self2 b2_L2 b2_L3 M = some M9 → zJ p l e rm_X4_wet s m args below meth c G shX ad n A 4 (MQ below (zQ G shX ad n M9 none A) args s 0 0 A) 0 0 M 2 [(0, .ref (ad t)), (1, .ref (ad p0)), (2, .int b2_L2), (3, .int b2_L3)] []), ∀ (b69_L2 : Int32) (b69_L3 : Int32) (M : zMem), F_X4_wet_69 t p0 p1 self2 b69_L2 b69_L3 M = some M9 → zJ p l e rm_X4_wet s m args below meth c G shX ad n A 4 (MQ below (zQ G shX ad n M9 none A) args s 0 0 A) 0 0 M 69 [(0, .ref (ad t)), (1, .ref (ad p0)), (2, .int b69_L2), (3, .int b69_L3)] [] := by
    intro self2 hs2 b69_L2 b69_L3 M hF
    unfold F_X4_wet_69 at hF
    refine z_iinc cx 3 1 [(3, .int (b69_L3 + 1)), (0, .ref (ad t)), (1, .ref (ad p0)), (2, .int b69_L2)] d_X4_wet_69 3 rfl ki_1 (by decide) rfl ?_
    refine z_goto cx 2 d_X4_wet_72 (by decide) ?_
    exact z_lv [1, 2, 3, 0] _ rfl (hs2 b69_L2 (b69_L3 + 1) M hF)
  have hL2 : ∀ (fuel : Nat), ∀ (b2_L2 : Int32) (b2_L3 : Int32) (M : zMem), itF (fun _ _ _ => none) (F_X4_wet_2 t p0 p1) fuel b2_L2 b2_L3 M = some M9 → zJ p l e rm_X4_wet s m args below meth c G shX ad n A 4 (MQ below (zQ G shX ad n M9 none A) args s 0 0 A) 0 0 M 2 [(0, .ref (ad t)), (1, .ref (ad p0)), (2, .int b2_L2), (3, .int b2_L3)] [] := by
    intro fuel
    induction fuel with
    | zero => intro b2_L2 b2_L3 M hF; cases hF
    | succ fuel hs2 =>
      intro b2_L2 b2_L3 M hF
      have hF : F_X4_wet_2 t p0 p1 (itF (fun _ _ _ => none) (F_X4_wet_2 t p0 p1) fuel) b2_L2 b2_L3 M = some M9 := hF
      generalize itF (fun _ _ _ => none) (F_X4_wet_2 t p0 p1) fuel = self2 at hs2 hF
      unfold F_X4_wet_2 at hF
      refine z_iload_n cx d_X4_wet_2 3 rfl ?_
      refine z_bipush (v := 64) cx d_X4_wet_3 kb_64 ?_
      refine z_icmp_ge cx 75 d_X4_wet_5 (by decide) hF (fun hF => ?_) (fun hF => ?_)
      · refine z_aload_n cx d_X4_wet_75 0 rfl ?_
        refine z_aload_n cx d_X4_wet_76 1 rfl ?_
        obtain ⟨M1, hc, hF⟩ := zbv_inv hF
        refine z_callV cx (As := [.ref (ad p0)]) (rest := []) (c_X4_learnShades l cx.2.2.2.1.1 M t p0 hT_t hT_p0 hc) hT_t zo_5 cv_Pans_46 ⟨rfl, rfl, Nat.le_of_ble_eq_true rfl, Nat.le_of_ble_eq_true rfl⟩ rfl rfl ⟨Nat.zero_le _, Nat.zero_le _⟩ (Nat.le_of_ble_eq_true rfl) d_X4_wet_77 ?_
        exact z_vret cx hr hF d_X4_wet_80
      refine z_aload_n cx d_X4_wet_8 0 rfl ?_
      refine z_getR cx hT_t fg_Pans_18 (t + 3) rfl d_X4_wet_9 ?_
      refine z_iload_n cx d_X4_wet_12 3 rfl ?_
      obtain ⟨hi2, hF⟩ := gin_inv hF
      refine z_iald cx (tfX_5_3 hT_t) za_16 hi2 b2_L3.toNatClampNeg rfl d_X4_wet_13 ?_
      refine z_if_le cx 38 d_X4_wet_14 (by decide) hF (fun hF => ?_) (fun hF => ?_)
      · refine z_aload_n cx d_X4_wet_38 1 rfl ?_
        refine z_getL cx hT_p0 fg_Pans_79 d_X4_wet_39 ?_
        refine z_iload_n cx d_X4_wet_42 3 rfl ?_
        obtain ⟨v4, M3, hc, hF⟩ := zb_inv hF
        refine z_callSN cx (As := [.long (M.2.1 p0 3), .int b2_L3]) (rest := []) (c_X9_has l cx.2.2.2.1.1 M (M.2.1 p0 3) b2_L3  hc) cn_Pans_83 wd_736 ⟨rfl, rfl, Nat.le_of_ble_eq_true rfl, Nat.le_of_ble_eq_true rfl⟩ rfl rfl ⟨Nat.zero_le _, Nat.zero_le _⟩ (Nat.le_of_ble_eq_true rfl) d_X4_wet_43 ?_
        refine z_if_eq cx 69 d_X4_wet_46 (by decide) hF (fun hF => ?_) (fun hF => ?_)
        · exact hb69 self2 hs2 b2_L2 b2_L3 M3 hF
        refine z_aload_n cx d_X4_wet_49 0 rfl ?_
        refine z_getR cx hT_t fg_Pans_9 (t + 1) rfl d_X4_wet_50 ?_
        refine z_iload_n cx d_X4_wet_53 3 rfl ?_
        refine z_sipush (v := 9999) cx d_X4_wet_54 ks_9999 ?_
        refine z_aload_n cx d_X4_wet_57 0 rfl ?_
        refine z_getR cx hT_t fg_Pans_9 (t + 1) rfl d_X4_wet_58 ?_
        refine z_iload_n cx d_X4_wet_61 3 rfl ?_
        refine z_iald cx (tfX_5_1 hT_t) za_16 hi2 b2_L3.toNatClampNeg rfl d_X4_wet_62 ?_
        refine z_iload_n cx d_X4_wet_63 2 rfl ?_
        refine z_iadd cx d_X4_wet_64 ?_
        refine z_mmin cx ⟨wd_926, wd_602, wd_116, wd_603⟩ ⟨Nat.le_of_ble_eq_true rfl, Nat.le_of_ble_eq_true rfl, Nat.le_of_ble_eq_true rfl, Nat.le_of_ble_eq_true rfl⟩ d_X4_wet_65 ?_
        refine z_iast cx (tfX_5_1 hT_t) za_16 hi2 b2_L3.toNatClampNeg rfl d_X4_wet_68 ?_
        refine z_nmM hF (fun M5 hF => ?_)
        exact hb69 self2 hs2 b2_L2 b2_L3 M5 hF
      refine z_aload_n cx d_X4_wet_17 0 rfl ?_
      refine z_getR cx hT_t fg_Pans_18 (t + 3) rfl d_X4_wet_18 ?_
      refine z_iload_n cx d_X4_wet_21 3 rfl ?_
      refine z_iconst (v := 0) cx d_X4_wet_22 ki_0 ?_
      refine z_aload_n cx d_X4_wet_23 0 rfl ?_
      refine z_getR cx hT_t fg_Pans_18 (t + 3) rfl d_X4_wet_24 ?_
      refine z_iload_n cx d_X4_wet_27 3 rfl ?_
      refine z_iald cx (tfX_5_3 hT_t) za_16 hi2 b2_L3.toNatClampNeg rfl d_X4_wet_28 ?_
      refine z_iload_n cx d_X4_wet_29 2 rfl ?_
      refine z_isub cx d_X4_wet_30 ?_
      refine z_mmax cx ⟨wd_924, wd_605, wd_116, wd_606⟩ ⟨Nat.le_of_ble_eq_true rfl, Nat.le_of_ble_eq_true rfl, Nat.le_of_ble_eq_true rfl, Nat.le_of_ble_eq_true rfl⟩ d_X4_wet_31 ?_
      refine z_iast cx (tfX_5_3 hT_t) za_16 hi2 b2_L3.toNatClampNeg rfl d_X4_wet_34 ?_
      refine z_nmM hF (fun M6 hF => ?_)
      refine z_goto cx 69 d_X4_wet_35 (by decide) ?_
      exact hb69 self2 hs2 b2_L2 b2_L3 M6 hF
  unfold F_X4_wet at hF
  refine z_iconst (v := 0) cx d_X4_wet_0 ki_0 ?_
  refine z_istore_n cx 3 [(3, .int (0 : Int32)), (0, .ref (ad t)), (1, .ref (ad p0)), (2, .int p1)] d_X4_wet_1 rfl (by decide) rfl ?_
  exact z_lv [1, 2, 3, 0] _ rfl (hL2 zFuel p1 (0 : Int32) M hF)
/-! SunnyPans$Pans.shadeAt -/
theorem d_X4_shadeAt_0 : decode cX4_shadeAt 0 = .ok (.iload_n 1, 1) := by decide +kernel
theorem d_X4_shadeAt_1 : decode cX4_shadeAt 1 = .ok (.ifCond .lt 18, 3) := by decide +kernel
theorem d_X4_shadeAt_4 : decode cX4_shadeAt 4 = .ok (.iload_n 1, 1) := by decide +kernel
theorem d_X4_shadeAt_5 : decode cX4_shadeAt 5 = .ok (.bipush 10, 2) := by decide +kernel
theorem d_X4_shadeAt_7 : decode cX4_shadeAt 7 = .ok (.if_icmp .ge 12, 3) := by decide +kernel
theorem d_X4_shadeAt_10 : decode cX4_shadeAt 10 = .ok (.aload_n 0, 1) := by decide +kernel
theorem d_X4_shadeAt_11 : decode cX4_shadeAt 11 = .ok (.getfield 21, 3) := by decide +kernel
theorem d_X4_shadeAt_14 : decode cX4_shadeAt 14 = .ok (.iload_n 1, 1) := by decide +kernel
theorem d_X4_shadeAt_15 : decode cX4_shadeAt 15 = .ok (.laload, 1) := by decide +kernel
theorem d_X4_shadeAt_16 : decode cX4_shadeAt 16 = .ok (.goto 4, 3) := by decide +kernel
theorem d_X4_shadeAt_19 : decode cX4_shadeAt 19 = .ok (.lconst 0, 1) := by decide +kernel
theorem d_X4_shadeAt_20 : decode cX4_shadeAt 20 = .ok (.lreturn, 1) := by decide +kernel
noncomputable def F_X4_shadeAt (M : zMem) (t : Nat) (p0 : Int32) : Option (Int64 × zMem) :=
  if p0 < 0 then
    some ((0 : Int64), M)
  else
    if (10 : Int32) ≤ p0 then
      some ((0 : Int64), M)
    else
      gin p0 10 <|
      some ((M.2.1 (t + 4) p0.toNatClampNeg), M)
def rm_X4_shadeAt : Room := { frames := 2, cells := 0, slots := 0, locals := 80 }
set_option maxHeartbeats 4000000 in
set_option maxRecDepth 100000 in
theorem c_X4_shadeAt (l : Launch) {G : zG} {ad : Nat → Nat} {n : Nat} (hA : zInj ad n) (M : zMem) (t : Nat) (p0 : Int32) (hT_t : zT shX n t 5) {r9 : Int64} {M9 : zMem} (hF : F_X4_shadeAt M t p0 = some (r9, M9)) : zM l yX4_shadeAt cX4_shadeAt 2 (some .long) rm_X4_shadeAt G shX ad n M [.ref (ad t), .int p0] (some (.long r9)) M9 := by
  refine zM_of hA (by decide +kernel) (lv := [(0, .ref (ad t)), (1, .int p0)]) (Nat.le_of_ble_eq_true rfl) rfl (fun p e s m args below meth c A cx hr => ?_)
  unfold F_X4_shadeAt at hF
  refine z_iload_n cx d_X4_shadeAt_0 1 rfl ?_
  refine z_if_lt cx 19 d_X4_shadeAt_1 (by decide) hF (fun hF => ?_) (fun hF => ?_)
  · refine z_lconst (v := 0) cx d_X4_shadeAt_19 (by decide +kernel) ?_
    exact z_lret cx hr hF d_X4_shadeAt_20
  refine z_iload_n cx d_X4_shadeAt_4 1 rfl ?_
  refine z_bipush (v := 10) cx d_X4_shadeAt_5 kb_10 ?_
  refine z_icmp_ge cx 19 d_X4_shadeAt_7 (by decide) hF (fun hF => ?_) (fun hF => ?_)
  · refine z_lconst (v := 0) cx d_X4_shadeAt_19 (by decide +kernel) ?_
    exact z_lret cx hr hF d_X4_shadeAt_20
  refine z_aload_n cx d_X4_shadeAt_10 0 rfl ?_
  refine z_getR cx hT_t fg_Pans_21 (t + 4) rfl d_X4_shadeAt_11 ?_
  refine z_iload_n cx d_X4_shadeAt_14 1 rfl ?_
  obtain ⟨hi1, hF⟩ := gin_inv hF
  refine z_lald cx (tfX_5_4 hT_t) za_18 hi1 p0.toNatClampNeg rfl d_X4_shadeAt_15 ?_
  refine z_goto cx 20 d_X4_shadeAt_16 (by decide) ?_
  exact z_lret cx hr hF d_X4_shadeAt_20
/-! SunnyPans$Plan.square -/
theorem d_X5_square_0 : decode cX5_square 0 = .ok (.lconst 0, 1) := by decide +kernel
theorem d_X5_square_1 : decode cX5_square 1 = .ok (.lstore_n 2, 1) := by decide +kernel
theorem d_X5_square_2 : decode cX5_square 2 = .ok (.iconst 0, 1) := by decide +kernel
theorem d_X5_square_3 : decode cX5_square 3 = .ok (.istore 4, 2) := by decide +kernel
theorem d_X5_square_5 : decode cX5_square 5 = .ok (.iload 4, 2) := by decide +kernel
theorem d_X5_square_7 : decode cX5_square 7 = .ok (.iload_n 1, 1) := by decide +kernel
theorem d_X5_square_8 : decode cX5_square 8 = .ok (.if_icmp .ge 37, 3) := by decide +kernel
theorem d_X5_square_11 : decode cX5_square 11 = .ok (.iconst 0, 1) := by decide +kernel
theorem d_X5_square_12 : decode cX5_square 12 = .ok (.istore 5, 2) := by decide +kernel
theorem d_X5_square_14 : decode cX5_square 14 = .ok (.iload 5, 2) := by decide +kernel
theorem d_X5_square_16 : decode cX5_square 16 = .ok (.iload_n 0, 1) := by decide +kernel
theorem d_X5_square_17 : decode cX5_square 17 = .ok (.if_icmp .ge 22, 3) := by decide +kernel
theorem d_X5_square_20 : decode cX5_square 20 = .ok (.lload_n 2, 1) := by decide +kernel
theorem d_X5_square_21 : decode cX5_square 21 = .ok (.iload 5, 2) := by decide +kernel
theorem d_X5_square_23 : decode cX5_square 23 = .ok (.iload 4, 2) := by decide +kernel
theorem d_X5_square_25 : decode cX5_square 25 = .ok (.invokestatic 103, 3) := by decide +kernel
theorem d_X5_square_28 : decode cX5_square 28 = .ok (.invokestatic 106, 3) := by decide +kernel
theorem d_X5_square_31 : decode cX5_square 31 = .ok (.lor, 1) := by decide +kernel
theorem d_X5_square_32 : decode cX5_square 32 = .ok (.lstore_n 2, 1) := by decide +kernel
theorem d_X5_square_33 : decode cX5_square 33 = .ok (.iinc 5 1, 3) := by decide +kernel
theorem d_X5_square_36 : decode cX5_square 36 = .ok (.goto (-22), 3) := by decide +kernel
theorem d_X5_square_39 : decode cX5_square 39 = .ok (.iinc 4 1, 3) := by decide +kernel
theorem d_X5_square_42 : decode cX5_square 42 = .ok (.goto (-37), 3) := by decide +kernel
theorem d_X5_square_45 : decode cX5_square 45 = .ok (.lload_n 2, 1) := by decide +kernel
theorem d_X5_square_46 : decode cX5_square 46 = .ok (.lreturn, 1) := by decide +kernel
noncomputable def F_X5_square_14 (p0 : Int32) (p1 : Int32) (self5 : Int32 → Int32 → Int64 → Int32 → zMem → Option (Int64 × zMem)) (self14 : Int32 → Int32 → Int64 → Int32 → Int32 → zMem → Option (Int64 × zMem)) (b14_L0 : Int32) (b14_L1 : Int32) (b14_L2 : Int64) (b14_L4 : Int32) (b14_L5 : Int32) (M : zMem) : Option (Int64 × zMem) :=
  if b14_L0 ≤ b14_L5 then
    self5 b14_L0 b14_L1 b14_L2 (b14_L4 + 1) M
  else
    zb (F_X9_placeOf M b14_L5 b14_L4) fun v2 M1 =>
    zb (F_X9_bit M1 v2) fun v4 M3 =>
    zl (b14_L2 ||| v4) fun v5 =>
    self14 b14_L0 b14_L1 v5 b14_L4 (b14_L5 + 1) M3
noncomputable def F_X5_square_5 (p0 : Int32) (p1 : Int32) (self5 : Int32 → Int32 → Int64 → Int32 → zMem → Option (Int64 × zMem)) (b5_L0 : Int32) (b5_L1 : Int32) (b5_L2 : Int64) (b5_L4 : Int32) (M : zMem) : Option (Int64 × zMem) :=
  if b5_L1 ≤ b5_L4 then
    some (b5_L2, M)
  else
    itF (fun _ _ _ _ _ _ => none) (F_X5_square_14 p0 p1 self5) zFuel b5_L0 b5_L1 b5_L2 b5_L4 (0 : Int32) M
noncomputable def F_X5_square (M : zMem) (p0 : Int32) (p1 : Int32) : Option (Int64 × zMem) :=
  itF (fun _ _ _ _ _ => none) (F_X5_square_5 p0 p1) zFuel p0 p1 (0 : Int64) (0 : Int32) M
def rm_X5_square : Room := { frames := 3, cells := 0, slots := 0, locals := 101 }
set_option maxHeartbeats 4000000 in
set_option maxRecDepth 100000 in
theorem c_X5_square (l : Launch) {G : zG} {ad : Nat → Nat} {n : Nat} (hA : zInj ad n) (M : zMem) (p0 : Int32) (p1 : Int32) {r9 : Int64} {M9 : zMem} (hF : F_X5_square M p0 p1 = some (r9, M9)) : zM l yX5_square cX5_square 6 (some .long) rm_X5_square G shX ad n M [.int p0, .int p1] (some (.long r9)) M9 := by
  refine zM_of hA (by decide +kernel) (lv := [(0, .int p0), (1, .int p1)]) (Nat.le_of_ble_eq_true rfl) rfl (fun p e s m args below meth c A cx hr => ?_)
  have hL14 : ∀ (self5 : Int32 → Int32 → Int64 → Int32 → zMem → Option (Int64 × zMem)) (hs5 : ∀ (b5_L0 : Int32) (b5_L1 : Int32) (b5_L2 : Int64) (b5_L4 : Int32) (M : zMem), self5 b5_L0 b5_L1 b5_L2 b5_L4 M = some (r9, M9) → zJ p l e rm_X5_square s m args below meth c G shX ad n A 6 (MQ below (zQ G shX ad n M9 (some (.long r9)) A) args s 0 0 A) 0 0 M 5 [(0, .int b5_L0), (1, .int b5_L1), (2, .long b5_L2), (4, .int b5_L4)] []) (fuel : Nat), ∀ (b14_L0 : Int32) (b14_L1 : Int32) (b14_L2 : Int64) (b14_L4 : Int32) (b14_L5 : Int32) (M : zMem), itF (fun _ _ _ _ _ _ => none) (F_X5_square_14 p0 p1 self5) fuel b14_L0 b14_L1 b14_L2 b14_L4 b14_L5 M = some (r9, M9) → zJ p l e rm_X5_square s m args below meth c G shX ad n A 6 (MQ below (zQ G shX ad n M9 (some (.long r9)) A) args s 0 0 A) 0 0 M 14 [(0, .int b14_L0), (1, .int b14_L1), (2, .long b14_L2), (4, .int b14_L4), (5, .int b14_L5)] [] := by
    intro self5 hs5 fuel
    induction fuel with
    | zero => intro b14_L0 b14_L1 b14_L2 b14_L4 b14_L5 M hF; cases hF
    | succ fuel hs14 =>
      intro b14_L0 b14_L1 b14_L2 b14_L4 b14_L5 M hF
      have hF : F_X5_square_14 p0 p1 self5 (itF (fun _ _ _ _ _ _ => none) (F_X5_square_14 p0 p1 self5) fuel) b14_L0 b14_L1 b14_L2 b14_L4 b14_L5 M = some (r9, M9) := hF
      generalize itF (fun _ _ _ _ _ _ => none) (F_X5_square_14 p0 p1 self5) fuel = self14 at hs14 hF
      unfold F_X5_square_14 at hF
      refine z_iload cx d_X5_square_14 4 rfl ?_
      refine z_iload_n cx d_X5_square_16 0 rfl ?_
      refine z_icmp_ge cx 39 d_X5_square_17 (by decide) hF (fun hF => ?_) (fun hF => ?_)
      · refine z_iinc cx 4 1 [(4, .int (b14_L4 + 1)), (0, .int b14_L0), (1, .int b14_L1), (2, .long b14_L2), (5, .int b14_L5)] d_X5_square_39 3 rfl ki_1 (by decide) rfl ?_
        refine z_goto cx 5 d_X5_square_42 (by decide) ?_
        exact z_lv [1, 2, 3, 0] _ rfl (hs5 b14_L0 b14_L1 b14_L2 (b14_L4 + 1) M hF)
      refine z_lload_n cx d_X5_square_20 2 rfl ?_
      refine z_iload cx d_X5_square_21 4 rfl ?_
      refine z_iload cx d_X5_square_23 3 rfl ?_
      obtain ⟨v2, M1, hc, hF⟩ := zb_inv hF
      refine z_callSN cx (As := [.int b14_L5, .int b14_L4]) (rest := [.long b14_L2]) (c_X9_placeOf l cx.2.2.2.1.1 M b14_L5 b14_L4  hc) cn_Plan_103 wd_310 ⟨rfl, rfl, Nat.le_of_ble_eq_true rfl, Nat.le_of_ble_eq_true rfl⟩ rfl rfl ⟨Nat.zero_le _, Nat.zero_le _⟩ (Nat.le_of_ble_eq_true rfl) d_X5_square_25 ?_
      obtain ⟨v4, M3, hc, hF⟩ := zb_inv hF
      refine z_callSN cx (As := [.int v2]) (rest := [.long b14_L2]) (c_X9_bit l cx.2.2.2.1.1 M1 v2  hc) cn_Plan_106 wd_313 ⟨rfl, rfl, Nat.le_of_ble_eq_true rfl, Nat.le_of_ble_eq_true rfl⟩ rfl rfl ⟨Nat.zero_le _, Nat.zero_le _⟩ (Nat.le_of_ble_eq_true rfl) d_X5_square_28 ?_
      refine z_lor cx d_X5_square_31 ?_
      refine z_nml hF (fun v5 hF => ?_)
      refine z_lstore_n cx 2 [(2, .long v5), (0, .int b14_L0), (1, .int b14_L1), (4, .int b14_L4), (5, .int b14_L5)] d_X5_square_32 rfl (by decide) rfl ?_
      refine z_iinc cx 5 1 [(5, .int (b14_L5 + 1)), (2, .long v5), (0, .int b14_L0), (1, .int b14_L1), (4, .int b14_L4)] d_X5_square_33 4 rfl ki_1 (by decide) rfl ?_
      refine z_goto cx 14 d_X5_square_36 (by decide) ?_
      exact z_lv [2, 3, 1, 4, 0] _ rfl (hs14 b14_L0 b14_L1 v5 b14_L4 (b14_L5 + 1) M3 hF)
  have hL5 : ∀ (fuel : Nat), ∀ (b5_L0 : Int32) (b5_L1 : Int32) (b5_L2 : Int64) (b5_L4 : Int32) (M : zMem), itF (fun _ _ _ _ _ => none) (F_X5_square_5 p0 p1) fuel b5_L0 b5_L1 b5_L2 b5_L4 M = some (r9, M9) → zJ p l e rm_X5_square s m args below meth c G shX ad n A 6 (MQ below (zQ G shX ad n M9 (some (.long r9)) A) args s 0 0 A) 0 0 M 5 [(0, .int b5_L0), (1, .int b5_L1), (2, .long b5_L2), (4, .int b5_L4)] [] := by
    intro fuel
    induction fuel with
    | zero => intro b5_L0 b5_L1 b5_L2 b5_L4 M hF; cases hF
    | succ fuel hs5 =>
      intro b5_L0 b5_L1 b5_L2 b5_L4 M hF
      have hF : F_X5_square_5 p0 p1 (itF (fun _ _ _ _ _ => none) (F_X5_square_5 p0 p1) fuel) b5_L0 b5_L1 b5_L2 b5_L4 M = some (r9, M9) := hF
      generalize itF (fun _ _ _ _ _ => none) (F_X5_square_5 p0 p1) fuel = self5 at hs5 hF
      unfold F_X5_square_5 at hF
      refine z_iload cx d_X5_square_5 3 rfl ?_
      refine z_iload_n cx d_X5_square_7 1 rfl ?_
      refine z_icmp_ge cx 45 d_X5_square_8 (by decide) hF (fun hF => ?_) (fun hF => ?_)
      · refine z_lload_n cx d_X5_square_45 2 rfl ?_
        exact z_lret cx hr hF d_X5_square_46
      refine z_iconst (v := 0) cx d_X5_square_11 ki_0 ?_
      refine z_istore cx 5 [(5, .int (0 : Int32)), (0, .int b5_L0), (1, .int b5_L1), (2, .long b5_L2), (4, .int b5_L4)] d_X5_square_12 (by decide) rfl ?_
      exact z_lv [1, 2, 3, 4, 0] _ rfl (hL14 self5 hs5 zFuel b5_L0 b5_L1 b5_L2 b5_L4 (0 : Int32) M hF)
  unfold F_X5_square at hF
  refine z_lconst (v := 0) cx d_X5_square_0 (by decide +kernel) ?_
  refine z_lstore_n cx 2 [(2, .long (0 : Int64)), (0, .int p0), (1, .int p1)] d_X5_square_1 rfl (by decide) rfl ?_
  refine z_iconst (v := 0) cx d_X5_square_2 ki_0 ?_
  refine z_istore cx 4 [(4, .int (0 : Int32)), (2, .long (0 : Int64)), (0, .int p0), (1, .int p1)] d_X5_square_3 (by decide) rfl ?_
  exact z_lv [2, 3, 1, 0] _ rfl (hL5 zFuel p0 p1 (0 : Int64) (0 : Int32) M hF)
/-! SunnyPans$Plan.refuseOver -/
set_option maxRecDepth 100000 in
theorem wd_145 : Cond.fieldLink "SunnyPans$Plan" 88 "SunnyPans$Text" "wordFrom" "I" ∈ tbG := tw1 45 rfl rfl
theorem fg_Plan_88 : zGetI "SunnyPans$Plan" 88 8 9 4 := ⟨RX8, TX8, 8, rfl, by decide, uw_8, wd_145, fun _ _ _ _ _ _ => ⟨_, rfl, rfl⟩⟩
set_option maxRecDepth 100000 in
theorem wd_690 : Cond.methodLink "SunnyPans$Plan" 91 yX8_fail ∈ tbG := tw3 110 rfl rfl
theorem cv_Plan_91 : zCV "SunnyPans$Plan" 91 "SunnyPans$Text" yX8_fail cX8_fail 3 none 2 := zCV_of wd_690 wd_691 wd_692 wd_102 wd_693 (by decide +kernel)
theorem d_X5_refuseOver_0 : decode cX5_refuseOver 0 = .ok (.iload_n 1, 1) := by decide +kernel
theorem d_X5_refuseOver_1 : decode cX5_refuseOver 1 = .ok (.iload_n 2, 1) := by decide +kernel
theorem d_X5_refuseOver_2 : decode cX5_refuseOver 2 = .ok (.if_icmp .lt 12, 3) := by decide +kernel
theorem d_X5_refuseOver_5 : decode cX5_refuseOver 5 = .ok (.aload_n 0, 1) := by decide +kernel
theorem d_X5_refuseOver_6 : decode cX5_refuseOver 6 = .ok (.iconst 3, 1) := by decide +kernel
theorem d_X5_refuseOver_7 : decode cX5_refuseOver 7 = .ok (.aload_n 0, 1) := by decide +kernel
theorem d_X5_refuseOver_8 : decode cX5_refuseOver 8 = .ok (.getfield 88, 3) := by decide +kernel
theorem d_X5_refuseOver_11 : decode cX5_refuseOver 11 = .ok (.invokevirtual 91, 3) := by decide +kernel
theorem d_X5_refuseOver_14 : decode cX5_refuseOver 14 = .ok (.return_, 1) := by decide +kernel
noncomputable def F_X5_refuseOver (M : zMem) (p0 : Nat) (p1 : Int32) (p2 : Int32) : Option (zMem) :=
  if p1 < p2 then
    some M
  else
    zbv (F_X8_fail M p0 (3 : Int32) (M.1 p0 4)) fun M1 =>
    some M1
def rm_X5_refuseOver : Room := { frames := 3, cells := 0, slots := 0, locals := 102 }
set_option maxHeartbeats 4000000 in
set_option maxRecDepth 100000 in
theorem c_X5_refuseOver (l : Launch) {G : zG} {ad : Nat → Nat} {n : Nat} (hA : zInj ad n) (M : zMem) (p0 : Nat) (p1 : Int32) (p2 : Int32) (hT_p0 : zT shX n p0 9) {M9 : zMem} (hF : F_X5_refuseOver M p0 p1 p2 = some M9) : zM l yX5_refuseOver cX5_refuseOver 3 none rm_X5_refuseOver G shX ad n M [.ref (ad p0), .int p1, .int p2] none M9 := by
  refine zM_of hA (by decide +kernel) (lv := [(0, .ref (ad p0)), (1, .int p1), (2, .int p2)]) (Nat.le_of_ble_eq_true rfl) rfl (fun p e s m args below meth c A cx hr => ?_)
  unfold F_X5_refuseOver at hF
  refine z_iload_n cx d_X5_refuseOver_0 1 rfl ?_
  refine z_iload_n cx d_X5_refuseOver_1 2 rfl ?_
  refine z_icmp_lt cx 14 d_X5_refuseOver_2 (by decide) hF (fun hF => ?_) (fun hF => ?_)
  · exact z_vret cx hr hF d_X5_refuseOver_14
  refine z_aload_n cx d_X5_refuseOver_5 0 rfl ?_
  refine z_iconst (v := 3) cx d_X5_refuseOver_6 ki_3 ?_
  refine z_aload_n cx d_X5_refuseOver_7 0 rfl ?_
  refine z_getI cx hT_p0 fg_Plan_88 d_X5_refuseOver_8 ?_
  obtain ⟨M1, hc, hF⟩ := zbv_inv hF
  refine z_callV cx (As := [.int (3 : Int32), .int (M.1 p0 4)]) (rest := []) (c_X8_fail l cx.2.2.2.1.1 M p0 (3 : Int32) (M.1 p0 4) hT_p0 hc) hT_p0 zo_9 cv_Plan_91 ⟨rfl, rfl, Nat.le_of_ble_eq_true rfl, Nat.le_of_ble_eq_true rfl⟩ rfl rfl ⟨Nat.zero_le _, Nat.zero_le _⟩ (Nat.le_of_ble_eq_true rfl) d_X5_refuseOver_11 ?_
  exact z_vret cx hr hF d_X5_refuseOver_14
/-! SunnyPans$Plan.readHour -/
set_option maxRecDepth 100000 in
theorem wd_694 : Cond.methodLink "SunnyPans$Plan" 71 yX8_number ∈ tbG := tw3 114 rfl rfl
theorem cv_Plan_71 : zCV "SunnyPans$Plan" 71 "SunnyPans$Text" yX8_number cX8_number 4 (some .int) 2 := zCV_of wd_694 wd_695 wd_696 wd_102 wd_697 (by decide +kernel)
theorem zc_5 : zCls 5 := ⟨RX5, TX5, 9, tyX5, rfl, tyX5_ok, nmX5⟩
theorem fp_Plan_42 : zPutI "SunnyPans$Plan" 42 5 6 2 := ⟨zc_5, fg_Plan_42, ⟨RX5, TX5, 9, rfl, rfl, by decide +kernel⟩, fun _ _ _ _ _ _ _ => ⟨_, rfl, Nat.le_of_ble_eq_true rfl, rfl⟩⟩
theorem d_X5_readHour_0 : decode cX5_readHour 0 = .ok (.aload_n 1, 1) := by decide +kernel
theorem d_X5_readHour_1 : decode cX5_readHour 1 = .ok (.iconst 0, 1) := by decide +kernel
theorem d_X5_readHour_2 : decode cX5_readHour 2 = .ok (.bipush 7, 2) := by decide +kernel
theorem d_X5_readHour_4 : decode cX5_readHour 4 = .ok (.invokevirtual 71, 3) := by decide +kernel
theorem d_X5_readHour_7 : decode cX5_readHour 7 = .ok (.istore_n 2, 1) := by decide +kernel
theorem d_X5_readHour_8 : decode cX5_readHour 8 = .ok (.aload_n 1, 1) := by decide +kernel
theorem d_X5_readHour_9 : decode cX5_readHour 9 = .ok (.iconst 0, 1) := by decide +kernel
theorem d_X5_readHour_10 : decode cX5_readHour 10 = .ok (.bipush 40, 2) := by decide +kernel
theorem d_X5_readHour_12 : decode cX5_readHour 12 = .ok (.invokevirtual 71, 3) := by decide +kernel
theorem d_X5_readHour_15 : decode cX5_readHour 15 = .ok (.istore_n 3, 1) := by decide +kernel
theorem d_X5_readHour_16 : decode cX5_readHour 16 = .ok (.aload_n 0, 1) := by decide +kernel
theorem d_X5_readHour_17 : decode cX5_readHour 17 = .ok (.getfield 42, 3) := by decide +kernel
theorem d_X5_readHour_20 : decode cX5_readHour 20 = .ok (.bipush 10, 2) := by decide +kernel
theorem d_X5_readHour_22 : decode cX5_readHour 22 = .ok (.if_icmp .ge 33, 3) := by decide +kernel
theorem d_X5_readHour_25 : decode cX5_readHour 25 = .ok (.aload_n 0, 1) := by decide +kernel
theorem d_X5_readHour_26 : decode cX5_readHour 26 = .ok (.getfield 26, 3) := by decide +kernel
theorem d_X5_readHour_29 : decode cX5_readHour 29 = .ok (.aload_n 0, 1) := by decide +kernel
theorem d_X5_readHour_30 : decode cX5_readHour 30 = .ok (.getfield 42, 3) := by decide +kernel
theorem d_X5_readHour_33 : decode cX5_readHour 33 = .ok (.iload_n 2, 1) := by decide +kernel
theorem d_X5_readHour_34 : decode cX5_readHour 34 = .ok (.iastore, 1) := by decide +kernel
theorem d_X5_readHour_35 : decode cX5_readHour 35 = .ok (.aload_n 0, 1) := by decide +kernel
theorem d_X5_readHour_36 : decode cX5_readHour 36 = .ok (.getfield 30, 3) := by decide +kernel
theorem d_X5_readHour_39 : decode cX5_readHour 39 = .ok (.aload_n 0, 1) := by decide +kernel
theorem d_X5_readHour_40 : decode cX5_readHour 40 = .ok (.getfield 42, 3) := by decide +kernel
theorem d_X5_readHour_43 : decode cX5_readHour 43 = .ok (.iload_n 3, 1) := by decide +kernel
theorem d_X5_readHour_44 : decode cX5_readHour 44 = .ok (.iastore, 1) := by decide +kernel
theorem d_X5_readHour_45 : decode cX5_readHour 45 = .ok (.aload_n 0, 1) := by decide +kernel
theorem d_X5_readHour_46 : decode cX5_readHour 46 = .ok (.dup, 1) := by decide +kernel
theorem d_X5_readHour_47 : decode cX5_readHour 47 = .ok (.getfield 42, 3) := by decide +kernel
theorem d_X5_readHour_50 : decode cX5_readHour 50 = .ok (.iconst 1, 1) := by decide +kernel
theorem d_X5_readHour_51 : decode cX5_readHour 51 = .ok (.iadd, 1) := by decide +kernel
theorem d_X5_readHour_52 : decode cX5_readHour 52 = .ok (.putfield 42, 3) := by decide +kernel
theorem d_X5_readHour_55 : decode cX5_readHour 55 = .ok (.return_, 1) := by decide +kernel
noncomputable def F_X5_readHour (M : zMem) (t : Nat) (p0 : Nat) : Option (zMem) :=
  zb (F_X8_number M p0 (0 : Int32) (7 : Int32)) fun v2 M1 =>
  zb (F_X8_number M1 p0 (0 : Int32) (40 : Int32)) fun v4 M3 =>
  if (10 : Int32) ≤ (M3.1 t 2) then
    some M3
  else
    gin (M3.1 t 2) 10 <|
    zl (zI M3 (t + 1) ((M3.1 t 2).toNatClampNeg) v2) fun M6 =>
    gin (M6.1 t 2) 10 <|
    zl (zI M6 (t + 2) ((M6.1 t 2).toNatClampNeg) v4) fun M8 =>
    zl (zI M8 t 2 ((M8.1 t 2) + (1 : Int32))) fun M9 =>
    some M9
def rm_X5_readHour : Room := { frames := 5, cells := 0, slots := 0, locals := 143 }
set_option maxHeartbeats 4000000 in
set_option maxRecDepth 100000 in
theorem c_X5_readHour (l : Launch) {G : zG} {ad : Nat → Nat} {n : Nat} (hA : zInj ad n) (M : zMem) (t : Nat) (p0 : Nat) (hT_t : zT shX n t 6) (hT_p0 : zT shX n p0 9) {M9 : zMem} (hF : F_X5_readHour M t p0 = some M9) : zM l yX5_readHour cX5_readHour 4 none rm_X5_readHour G shX ad n M [.ref (ad t), .ref (ad p0)] none M9 := by
  refine zM_of hA (by decide +kernel) (lv := [(0, .ref (ad t)), (1, .ref (ad p0))]) (Nat.le_of_ble_eq_true rfl) rfl (fun p e s m args below meth c A cx hr => ?_)
  unfold F_X5_readHour at hF
  refine z_aload_n cx d_X5_readHour_0 1 rfl ?_
  refine z_iconst (v := 0) cx d_X5_readHour_1 ki_0 ?_
  refine z_bipush (v := 7) cx d_X5_readHour_2 kb_7 ?_
  obtain ⟨v2, M1, hc, hF⟩ := zb_inv hF
  refine z_callV cx (As := [.int (0 : Int32), .int (7 : Int32)]) (rest := []) (c_X8_number l cx.2.2.2.1.1 M p0 (0 : Int32) (7 : Int32) hT_p0 hc) hT_p0 zo_9 cv_Plan_71 ⟨rfl, rfl, Nat.le_of_ble_eq_true rfl, Nat.le_of_ble_eq_true rfl⟩ rfl rfl ⟨Nat.zero_le _, Nat.zero_le _⟩ (Nat.le_of_ble_eq_true rfl) d_X5_readHour_4 ?_
  refine z_istore_n cx 2 [(2, .int v2), (0, .ref (ad t)), (1, .ref (ad p0))] d_X5_readHour_7 rfl (by decide) rfl ?_
  refine z_aload_n cx d_X5_readHour_8 2 rfl ?_
  refine z_iconst (v := 0) cx d_X5_readHour_9 ki_0 ?_
  refine z_bipush (v := 40) cx d_X5_readHour_10 kb_40 ?_
  obtain ⟨v4, M3, hc, hF⟩ := zb_inv hF
  refine z_callV cx (As := [.int (0 : Int32), .int (40 : Int32)]) (rest := []) (c_X8_number l cx.2.2.2.1.1 M1 p0 (0 : Int32) (40 : Int32) hT_p0 hc) hT_p0 zo_9 cv_Plan_71 ⟨rfl, rfl, Nat.le_of_ble_eq_true rfl, Nat.le_of_ble_eq_true rfl⟩ rfl rfl ⟨Nat.zero_le _, Nat.zero_le _⟩ (Nat.le_of_ble_eq_true rfl) d_X5_readHour_12 ?_
  refine z_istore_n cx 3 [(3, .int v4), (2, .int v2), (0, .ref (ad t)), (1, .ref (ad p0))] d_X5_readHour_15 rfl (by decide) rfl ?_
  refine z_aload_n cx d_X5_readHour_16 2 rfl ?_
  refine z_getI cx hT_t fg_Plan_42 d_X5_readHour_17 ?_
  refine z_bipush (v := 10) cx d_X5_readHour_20 kb_10 ?_
  refine z_icmp_ge cx 55 d_X5_readHour_22 (by decide) hF (fun hF => ?_) (fun hF => ?_)
  · exact z_vret cx hr hF d_X5_readHour_55
  refine z_aload_n cx d_X5_readHour_25 2 rfl ?_
  refine z_getR cx hT_t fg_Plan_26 (t + 1) rfl d_X5_readHour_26 ?_
  refine z_aload_n cx d_X5_readHour_29 2 rfl ?_
  refine z_getI cx hT_t fg_Plan_42 d_X5_readHour_30 ?_
  refine z_iload_n cx d_X5_readHour_33 1 rfl ?_
  obtain ⟨hi5, hF⟩ := gin_inv hF
  refine z_iast cx (tfX_6_1 hT_t) za_25 hi5 ((M3.1 t 2).toNatClampNeg) rfl d_X5_readHour_34 ?_
  refine z_nmM hF (fun M6 hF => ?_)
  refine z_aload_n cx d_X5_readHour_35 2 rfl ?_
  refine z_getR cx hT_t fg_Plan_30 (t + 2) rfl d_X5_readHour_36 ?_
  refine z_aload_n cx d_X5_readHour_39 2 rfl ?_
  refine z_getI cx hT_t fg_Plan_42 d_X5_readHour_40 ?_
  refine z_iload_n cx d_X5_readHour_43 0 rfl ?_
  obtain ⟨hi7, hF⟩ := gin_inv hF
  refine z_iast cx (tfX_6_2 hT_t) za_25 hi7 ((M6.1 t 2).toNatClampNeg) rfl d_X5_readHour_44 ?_
  refine z_nmM hF (fun M8 hF => ?_)
  refine z_aload_n cx d_X5_readHour_45 2 rfl ?_
  refine z_dup cx d_X5_readHour_46 rfl ?_
  refine z_getI cx hT_t fg_Plan_42 d_X5_readHour_47 ?_
  refine z_iconst (v := 1) cx d_X5_readHour_50 ki_1 ?_
  refine z_iadd cx d_X5_readHour_51 ?_
  refine z_putI cx hT_t fp_Plan_42 d_X5_readHour_52 ?_
  refine z_nmM hF (fun M9 hF => ?_)
  exact z_vret cx hr hF d_X5_readHour_55
/-! SunnyPans$Plan.readClause -/
set_option maxRecDepth 100000 in
theorem wd_723 : Cond.methodLink "SunnyPans$Plan" 95 yX8_sign ∈ tbG := tw3 143 rfl rfl
theorem cv_Plan_95 : zCV "SunnyPans$Plan" 95 "SunnyPans$Text" yX8_sign cX8_sign 2 none 1 := zCV_of wd_723 wd_724 wd_725 wd_102 wd_726 (by decide +kernel)
set_option maxRecDepth 100000 in
theorem wd_623 : Cond.methodLink "SunnyPans$Plan" 58 yX8_word ∈ tbG := tw3 43 rfl rfl
theorem cv_Plan_58 : zCV "SunnyPans$Plan" 58 "SunnyPans$Text" yX8_word cX8_word 1 none 0 := zCV_of wd_623 wd_624 wd_625 wd_102 wd_626 (by decide +kernel)
set_option maxRecDepth 100000 in
theorem wd_635 : Cond.methodLink "SunnyPans$Plan" 63 yX8_wordIs ∈ tbG := tw3 55 rfl rfl
theorem cv_Plan_63 : zCV "SunnyPans$Plan" 63 "SunnyPans$Text" yX8_wordIs cX8_wordIs 4 (some .boolean) 1 := zCV_of wd_635 wd_636 wd_637 wd_102 wd_638 (by decide +kernel)
set_option maxRecDepth 100000 in
theorem wd_689 : Cond.code yX5_refuseOver cX5_refuseOver 3 none ∈ tbG := tw3 109 rfl rfl
set_option maxRecDepth 100000 in
theorem wd_687 : Cond.methodLink "SunnyPans$Plan" 67 yX5_refuseOver ∈ tbG := tw3 107 rfl rfl
set_option maxRecDepth 100000 in
theorem wd_688 : Cond.static yX5_refuseOver ∈ tbG := tw3 108 rfl rfl
theorem cs_Plan_67 : zCS "SunnyPans$Plan" 67 yX5_refuseOver cX5_refuseOver 3 none 3 := zCS_of wd_687 wd_688 wd_108 wd_689 (by decide +kernel)
set_option maxRecDepth 100000 in
theorem wd_716 : Cond.methodLink "SunnyPans$Plan" 83 yX8_place ∈ tbG := tw3 136 rfl rfl
theorem cv_Plan_83 : zCV "SunnyPans$Plan" 83 "SunnyPans$Text" yX8_place cX8_place 5 (some .int) 2 := zCV_of wd_716 wd_717 wd_718 wd_102 wd_719 (by decide +kernel)
set_option maxRecDepth 100000 in
theorem wd_338 : Cond.fieldLink "SunnyPans$Plan" 39 "SunnyPans$Plan" "grams" "[I" ∈ tbG := tw1 238 rfl rfl
theorem fg_Plan_39 : zGetR "SunnyPans$Plan" 39 5 6 8 5 := ⟨RX5, TX5, 9, rfl, by decide, uw_5, wd_338, fun _ _ _ _ _ _ => ⟨_, rfl, rfl⟩⟩
set_option maxRecDepth 100000 in
theorem wd_334 : Cond.fieldLink "SunnyPans$Plan" 33 "SunnyPans$Plan" "brine" "[I" ∈ tbG := tw1 234 rfl rfl
theorem fg_Plan_33 : zGetR "SunnyPans$Plan" 33 5 6 6 3 := ⟨RX5, TX5, 9, rfl, by decide, uw_5, wd_334, fun _ _ _ _ _ _ => ⟨_, rfl, rfl⟩⟩
set_option maxRecDepth 100000 in
theorem wd_336 : Cond.fieldLink "SunnyPans$Plan" 36 "SunnyPans$Plan" "salt" "[I" ∈ tbG := tw1 236 rfl rfl
theorem fg_Plan_36 : zGetR "SunnyPans$Plan" 36 5 6 7 4 := ⟨RX5, TX5, 9, rfl, by decide, uw_5, wd_336, fun _ _ _ _ _ _ => ⟨_, rfl, rfl⟩⟩
set_option maxRecDepth 100000 in
theorem wd_714 : Cond.code yX5_readHour cX5_readHour 4 none ∈ tbG := tw3 134 rfl rfl
set_option maxRecDepth 100000 in
theorem wd_711 : Cond.methodLink "SunnyPans$Plan" 77 yX5_readHour ∈ tbG := tw3 131 rfl rfl
set_option maxRecDepth 100000 in
theorem wd_713 : Cond.instanceMethod yX5_readHour ∈ tbG := tw3 133 rfl rfl
theorem wd_7 : Cond.selects "SunnyPans$Plan" yX5_readHour yX5_readHour ∈ tbG := tw 7 (by decide +kernel) rfl
theorem cv_Plan_77 : zCV "SunnyPans$Plan" 77 "SunnyPans$Plan" yX5_readHour cX5_readHour 4 none 1 := zCV_of wd_711 wd_713 wd_7 wd_108 wd_714 (by decide +kernel)
theorem fp_Plan_9 : zPutI "SunnyPans$Plan" 9 5 6 0 := ⟨zc_5, fg_Plan_9, ⟨RX5, TX5, 9, rfl, rfl, by decide +kernel⟩, fun _ _ _ _ _ _ _ => ⟨_, rfl, Nat.le_of_ble_eq_true rfl, rfl⟩⟩
theorem fp_Plan_15 : zPutI "SunnyPans$Plan" 15 5 6 1 := ⟨zc_5, fg_Plan_15, ⟨RX5, TX5, 9, rfl, rfl, by decide +kernel⟩, fun _ _ _ _ _ _ _ => ⟨_, rfl, Nat.le_of_ble_eq_true rfl, rfl⟩⟩
theorem d_X5_readClause_0 : decode cX5_readClause 0 = .ok (.aload_n 1, 1) := by decide +kernel
theorem d_X5_readClause_1 : decode cX5_readClause 1 = .ok (.invokevirtual 58, 3) := by decide +kernel
theorem d_X5_readClause_4 : decode cX5_readClause 4 = .ok (.aload_n 1, 1) := by decide +kernel
theorem d_X5_readClause_5 : decode cX5_readClause 5 = .ok (.ldc 61, 2) := by decide +kernel
theorem d_X5_readClause_7 : decode cX5_readClause 7 = .ok (.invokevirtual 63, 3) := by decide +kernel
theorem d_X5_readClause_10 : decode cX5_readClause 10 = .ok (.ifCond .eq 35, 3) := by decide +kernel
theorem d_X5_readClause_13 : decode cX5_readClause 13 = .ok (.aload_n 1, 1) := by decide +kernel
theorem d_X5_readClause_14 : decode cX5_readClause 14 = .ok (.iload_n 2, 1) := by decide +kernel
theorem d_X5_readClause_15 : decode cX5_readClause 15 = .ok (.bipush 60, 2) := by decide +kernel
theorem d_X5_readClause_17 : decode cX5_readClause 17 = .ok (.invokestatic 67, 3) := by decide +kernel
theorem d_X5_readClause_20 : decode cX5_readClause 20 = .ok (.aload_n 0, 1) := by decide +kernel
theorem d_X5_readClause_21 : decode cX5_readClause 21 = .ok (.aload_n 1, 1) := by decide +kernel
theorem d_X5_readClause_22 : decode cX5_readClause 22 = .ok (.iconst 1, 1) := by decide +kernel
theorem d_X5_readClause_23 : decode cX5_readClause 23 = .ok (.bipush 8, 2) := by decide +kernel
theorem d_X5_readClause_25 : decode cX5_readClause 25 = .ok (.invokevirtual 71, 3) := by decide +kernel
theorem d_X5_readClause_28 : decode cX5_readClause 28 = .ok (.putfield 9, 3) := by decide +kernel
theorem d_X5_readClause_31 : decode cX5_readClause 31 = .ok (.aload_n 0, 1) := by decide +kernel
theorem d_X5_readClause_32 : decode cX5_readClause 32 = .ok (.aload_n 1, 1) := by decide +kernel
theorem d_X5_readClause_33 : decode cX5_readClause 33 = .ok (.iconst 1, 1) := by decide +kernel
theorem d_X5_readClause_34 : decode cX5_readClause 34 = .ok (.bipush 8, 2) := by decide +kernel
theorem d_X5_readClause_36 : decode cX5_readClause 36 = .ok (.invokevirtual 71, 3) := by decide +kernel
theorem d_X5_readClause_39 : decode cX5_readClause 39 = .ok (.putfield 15, 3) := by decide +kernel
theorem d_X5_readClause_42 : decode cX5_readClause 42 = .ok (.goto 144, 3) := by decide +kernel
theorem d_X5_readClause_45 : decode cX5_readClause 45 = .ok (.aload_n 1, 1) := by decide +kernel
theorem d_X5_readClause_46 : decode cX5_readClause 46 = .ok (.ldc 75, 2) := by decide +kernel
theorem d_X5_readClause_48 : decode cX5_readClause 48 = .ok (.invokevirtual 63, 3) := by decide +kernel
theorem d_X5_readClause_51 : decode cX5_readClause 51 = .ok (.ifCond .eq 28, 3) := by decide +kernel
theorem d_X5_readClause_54 : decode cX5_readClause 54 = .ok (.aload_n 1, 1) := by decide +kernel
theorem d_X5_readClause_55 : decode cX5_readClause 55 = .ok (.iload_n 2, 1) := by decide +kernel
theorem d_X5_readClause_56 : decode cX5_readClause 56 = .ok (.bipush 60, 2) := by decide +kernel
theorem d_X5_readClause_58 : decode cX5_readClause 58 = .ok (.invokestatic 67, 3) := by decide +kernel
theorem d_X5_readClause_61 : decode cX5_readClause 61 = .ok (.aload_n 1, 1) := by decide +kernel
theorem d_X5_readClause_62 : decode cX5_readClause 62 = .ok (.aload_n 0, 1) := by decide +kernel
theorem d_X5_readClause_63 : decode cX5_readClause 63 = .ok (.getfield 42, 3) := by decide +kernel
theorem d_X5_readClause_66 : decode cX5_readClause 66 = .ok (.bipush 10, 2) := by decide +kernel
theorem d_X5_readClause_68 : decode cX5_readClause 68 = .ok (.invokestatic 67, 3) := by decide +kernel
theorem d_X5_readClause_71 : decode cX5_readClause 71 = .ok (.aload_n 0, 1) := by decide +kernel
theorem d_X5_readClause_72 : decode cX5_readClause 72 = .ok (.aload_n 1, 1) := by decide +kernel
theorem d_X5_readClause_73 : decode cX5_readClause 73 = .ok (.invokevirtual 77, 3) := by decide +kernel
theorem d_X5_readClause_76 : decode cX5_readClause 76 = .ok (.goto 110, 3) := by decide +kernel
theorem d_X5_readClause_79 : decode cX5_readClause 79 = .ok (.aload_n 1, 1) := by decide +kernel
theorem d_X5_readClause_80 : decode cX5_readClause 80 = .ok (.ldc 81, 2) := by decide +kernel
theorem d_X5_readClause_82 : decode cX5_readClause 82 = .ok (.invokevirtual 63, 3) := by decide +kernel
theorem d_X5_readClause_85 : decode cX5_readClause 85 = .ok (.ifCond .eq 50, 3) := by decide +kernel
theorem d_X5_readClause_88 : decode cX5_readClause 88 = .ok (.aload_n 1, 1) := by decide +kernel
theorem d_X5_readClause_89 : decode cX5_readClause 89 = .ok (.iload_n 2, 1) := by decide +kernel
theorem d_X5_readClause_90 : decode cX5_readClause 90 = .ok (.bipush 60, 2) := by decide +kernel
theorem d_X5_readClause_92 : decode cX5_readClause 92 = .ok (.invokestatic 67, 3) := by decide +kernel
theorem d_X5_readClause_95 : decode cX5_readClause 95 = .ok (.aload_n 1, 1) := by decide +kernel
theorem d_X5_readClause_96 : decode cX5_readClause 96 = .ok (.bipush 8, 2) := by decide +kernel
theorem d_X5_readClause_98 : decode cX5_readClause 98 = .ok (.bipush 8, 2) := by decide +kernel
theorem d_X5_readClause_100 : decode cX5_readClause 100 = .ok (.invokevirtual 83, 3) := by decide +kernel
theorem d_X5_readClause_103 : decode cX5_readClause 103 = .ok (.istore_n 3, 1) := by decide +kernel
theorem d_X5_readClause_104 : decode cX5_readClause 104 = .ok (.aload_n 0, 1) := by decide +kernel
theorem d_X5_readClause_105 : decode cX5_readClause 105 = .ok (.getfield 33, 3) := by decide +kernel
theorem d_X5_readClause_108 : decode cX5_readClause 108 = .ok (.iload_n 3, 1) := by decide +kernel
theorem d_X5_readClause_109 : decode cX5_readClause 109 = .ok (.aload_n 1, 1) := by decide +kernel
theorem d_X5_readClause_110 : decode cX5_readClause 110 = .ok (.iconst 0, 1) := by decide +kernel
theorem d_X5_readClause_111 : decode cX5_readClause 111 = .ok (.sipush 999, 3) := by decide +kernel
theorem d_X5_readClause_114 : decode cX5_readClause 114 = .ok (.invokevirtual 71, 3) := by decide +kernel
theorem d_X5_readClause_117 : decode cX5_readClause 117 = .ok (.iastore, 1) := by decide +kernel
theorem d_X5_readClause_118 : decode cX5_readClause 118 = .ok (.aload_n 0, 1) := by decide +kernel
theorem d_X5_readClause_119 : decode cX5_readClause 119 = .ok (.getfield 36, 3) := by decide +kernel
theorem d_X5_readClause_122 : decode cX5_readClause 122 = .ok (.iload_n 3, 1) := by decide +kernel
theorem d_X5_readClause_123 : decode cX5_readClause 123 = .ok (.aload_n 1, 1) := by decide +kernel
theorem d_X5_readClause_124 : decode cX5_readClause 124 = .ok (.iconst 0, 1) := by decide +kernel
theorem d_X5_readClause_125 : decode cX5_readClause 125 = .ok (.sipush 999, 3) := by decide +kernel
theorem d_X5_readClause_128 : decode cX5_readClause 128 = .ok (.invokevirtual 71, 3) := by decide +kernel
theorem d_X5_readClause_131 : decode cX5_readClause 131 = .ok (.iastore, 1) := by decide +kernel
theorem d_X5_readClause_132 : decode cX5_readClause 132 = .ok (.goto 54, 3) := by decide +kernel
theorem d_X5_readClause_135 : decode cX5_readClause 135 = .ok (.aload_n 1, 1) := by decide +kernel
theorem d_X5_readClause_136 : decode cX5_readClause 136 = .ok (.ldc 86, 2) := by decide +kernel
theorem d_X5_readClause_138 : decode cX5_readClause 138 = .ok (.invokevirtual 63, 3) := by decide +kernel
theorem d_X5_readClause_141 : decode cX5_readClause 141 = .ok (.ifCond .eq 36, 3) := by decide +kernel
theorem d_X5_readClause_144 : decode cX5_readClause 144 = .ok (.aload_n 1, 1) := by decide +kernel
theorem d_X5_readClause_145 : decode cX5_readClause 145 = .ok (.iload_n 2, 1) := by decide +kernel
theorem d_X5_readClause_146 : decode cX5_readClause 146 = .ok (.bipush 60, 2) := by decide +kernel
theorem d_X5_readClause_148 : decode cX5_readClause 148 = .ok (.invokestatic 67, 3) := by decide +kernel
theorem d_X5_readClause_151 : decode cX5_readClause 151 = .ok (.aload_n 1, 1) := by decide +kernel
theorem d_X5_readClause_152 : decode cX5_readClause 152 = .ok (.bipush 8, 2) := by decide +kernel
theorem d_X5_readClause_154 : decode cX5_readClause 154 = .ok (.bipush 8, 2) := by decide +kernel
theorem d_X5_readClause_156 : decode cX5_readClause 156 = .ok (.invokevirtual 83, 3) := by decide +kernel
theorem d_X5_readClause_159 : decode cX5_readClause 159 = .ok (.istore_n 3, 1) := by decide +kernel
theorem d_X5_readClause_160 : decode cX5_readClause 160 = .ok (.aload_n 0, 1) := by decide +kernel
theorem d_X5_readClause_161 : decode cX5_readClause 161 = .ok (.getfield 39, 3) := by decide +kernel
theorem d_X5_readClause_164 : decode cX5_readClause 164 = .ok (.iload_n 3, 1) := by decide +kernel
theorem d_X5_readClause_165 : decode cX5_readClause 165 = .ok (.aload_n 1, 1) := by decide +kernel
theorem d_X5_readClause_166 : decode cX5_readClause 166 = .ok (.iconst 1, 1) := by decide +kernel
theorem d_X5_readClause_167 : decode cX5_readClause 167 = .ok (.sipush 999, 3) := by decide +kernel
theorem d_X5_readClause_170 : decode cX5_readClause 170 = .ok (.invokevirtual 71, 3) := by decide +kernel
theorem d_X5_readClause_173 : decode cX5_readClause 173 = .ok (.iastore, 1) := by decide +kernel
theorem d_X5_readClause_174 : decode cX5_readClause 174 = .ok (.goto 12, 3) := by decide +kernel
theorem d_X5_readClause_177 : decode cX5_readClause 177 = .ok (.aload_n 1, 1) := by decide +kernel
theorem d_X5_readClause_178 : decode cX5_readClause 178 = .ok (.iconst 1, 1) := by decide +kernel
theorem d_X5_readClause_179 : decode cX5_readClause 179 = .ok (.aload_n 1, 1) := by decide +kernel
theorem d_X5_readClause_180 : decode cX5_readClause 180 = .ok (.getfield 88, 3) := by decide +kernel
theorem d_X5_readClause_183 : decode cX5_readClause 183 = .ok (.invokevirtual 91, 3) := by decide +kernel
theorem d_X5_readClause_186 : decode cX5_readClause 186 = .ok (.aload_n 1, 1) := by decide +kernel
theorem d_X5_readClause_187 : decode cX5_readClause 187 = .ok (.bipush 59, 2) := by decide +kernel
theorem d_X5_readClause_189 : decode cX5_readClause 189 = .ok (.invokevirtual 95, 3) := by decide +kernel
theorem d_X5_readClause_192 : decode cX5_readClause 192 = .ok (.return_, 1) := by decide +kernel
noncomputable def F_X5_readClause_186 (t : Nat) (p0 : Nat) (p1 : Int32) (M : zMem) : Option (zMem) :=
  zbv (F_X8_sign M p0 (59 : Int32)) fun M1 =>
  some M1
noncomputable def F_X5_readClause (M : zMem) (t : Nat) (p0 : Nat) (p1 : Int32) : Option (zMem) :=
  zbv (F_X8_word M p0) fun M2 =>
  zb (F_X8_wordIs M2 p0 1) fun v4 M3 =>
  if v4 = 0 then
    zb (F_X8_wordIs M3 p0 2) fun v6 M5 =>
    if v6 = 0 then
      zb (F_X8_wordIs M5 p0 3) fun v8 M7 =>
      if v8 = 0 then
        zb (F_X8_wordIs M7 p0 4) fun v10 M9 =>
        if v10 = 0 then
          zbv (F_X8_fail M9 p0 (1 : Int32) (M9.1 p0 4)) fun M11 =>
          F_X5_readClause_186 t p0 p1 M11
        else
          zbv (F_X5_refuseOver M9 p0 p1 (60 : Int32)) fun M12 =>
          zb (F_X8_place M12 p0 (8 : Int32) (8 : Int32)) fun v14 M13 =>
          zb (F_X8_number M13 p0 (1 : Int32) (999 : Int32)) fun v16 M15 =>
          gin v14 64 <|
          zl (zI M15 (t + 5) v14.toNatClampNeg v16) fun M18 =>
          F_X5_readClause_186 t p0 p1 M18
      else
        zbv (F_X5_refuseOver M7 p0 p1 (60 : Int32)) fun M19 =>
        zb (F_X8_place M19 p0 (8 : Int32) (8 : Int32)) fun v21 M20 =>
        zb (F_X8_number M20 p0 (0 : Int32) (999 : Int32)) fun v23 M22 =>
        gin v21 64 <|
        zl (zI M22 (t + 3) v21.toNatClampNeg v23) fun M25 =>
        zb (F_X8_number M25 p0 (0 : Int32) (999 : Int32)) fun v27 M26 =>
        zl (zI M26 (t + 4) v21.toNatClampNeg v27) fun M28 =>
        F_X5_readClause_186 t p0 p1 M28
    else
      zbv (F_X5_refuseOver M5 p0 p1 (60 : Int32)) fun M29 =>
      zbv (F_X5_refuseOver M29 p0 (M29.1 t 2) (10 : Int32)) fun M30 =>
      zbv (F_X5_readHour M30 t p0) fun M31 =>
      F_X5_readClause_186 t p0 p1 M31
  else
    zbv (F_X5_refuseOver M3 p0 p1 (60 : Int32)) fun M32 =>
    zb (F_X8_number M32 p0 (1 : Int32) (8 : Int32)) fun v34 M33 =>
    zl (zI M33 t 0 v34) fun M35 =>
    zb (F_X8_number M35 p0 (1 : Int32) (8 : Int32)) fun v37 M36 =>
    zl (zI M36 t 1 v37) fun M38 =>
    F_X5_readClause_186 t p0 p1 M38
def rm_X5_readClause : Room := { frames := 9, cells := 0, slots := 0, locals := 283 }
set_option maxHeartbeats 4000000 in
set_option maxRecDepth 100000 in
theorem c_X5_readClause (l : Launch) {G : zG} {ad : Nat → Nat} {n : Nat} (hA : zInj ad n) (M : zMem) (t : Nat) (p0 : Nat) (p1 : Int32) (hT_t : zT shX n t 6) (hT_p0 : zT shX n p0 9) {M9 : zMem} (hF : F_X5_readClause M t p0 p1 = some M9) : zM l yX5_readClause cX5_readClause 4 none rm_X5_readClause G shX ad n M [.ref (ad t), .ref (ad p0), .int p1] none M9 := by
  refine zM_of hA (by decide +kernel) (lv := [(0, .ref (ad t)), (1, .ref (ad p0)), (2, .int p1)]) (Nat.le_of_ble_eq_true rfl) rfl (fun p e s m args below meth c A cx hr => ?_)
  have hb186 : ∀ (M : zMem), F_X5_readClause_186 t p0 p1 M = some M9 → zJ p l e rm_X5_readClause s m args below meth c G shX ad n A 4 (MQ below (zQ G shX ad n M9 none A) args s 0 0 A) 0 0 M 186 [(1, .ref (ad p0))] [] := by
    intro M hF
    unfold F_X5_readClause_186 at hF
    refine z_aload_n cx d_X5_readClause_186 0 rfl ?_
    refine z_bipush (v := 59) cx d_X5_readClause_187 kb_59 ?_
    obtain ⟨M1, hc, hF⟩ := zbv_inv hF
    refine z_callV cx (As := [.int (59 : Int32)]) (rest := []) (c_X8_sign l cx.2.2.2.1.1 M p0 (59 : Int32) hT_p0 hc) hT_p0 zo_9 cv_Plan_95 ⟨rfl, rfl, Nat.le_of_ble_eq_true rfl, Nat.le_of_ble_eq_true rfl⟩ rfl rfl ⟨Nat.zero_le _, Nat.zero_le _⟩ (Nat.le_of_ble_eq_true rfl) d_X5_readClause_189 ?_
    exact z_vret cx hr hF d_X5_readClause_192
  unfold F_X5_readClause at hF
  refine z_aload_n cx d_X5_readClause_0 1 rfl ?_
  obtain ⟨M2, hc, hF⟩ := zbv_inv hF
  refine z_callV cx (As := []) (rest := []) (c_X8_word l cx.2.2.2.1.1 M p0 hT_p0 hc) hT_p0 zo_9 cv_Plan_58 ⟨rfl, rfl, Nat.le_of_ble_eq_true rfl, Nat.le_of_ble_eq_true rfl⟩ rfl rfl ⟨Nat.zero_le _, Nat.zero_le _⟩ (Nat.le_of_ble_eq_true rfl) d_X5_readClause_1 ?_
  refine z_aload_n cx d_X5_readClause_4 1 rfl ?_
  refine z_ldcS cx 1 (by decide) d_X5_readClause_5 ?_
  obtain ⟨v4, M3, hc, hF⟩ := zb_inv hF
  refine z_callV cx (As := [.ref (zSK G 1)]) (rest := []) (c_X8_wordIs l cx.2.2.2.1.1 M2 p0 1 hT_p0 (by decide) hc) hT_p0 zo_9 cv_Plan_63 ⟨rfl, rfl, Nat.le_of_ble_eq_true rfl, Nat.le_of_ble_eq_true rfl⟩ rfl rfl ⟨Nat.zero_le _, Nat.zero_le _⟩ (Nat.le_of_ble_eq_true rfl) d_X5_readClause_7 ?_
  refine z_if_eq cx 45 d_X5_readClause_10 (by decide) hF (fun hF => ?_) (fun hF => ?_)
  · refine z_aload_n cx d_X5_readClause_45 1 rfl ?_
    refine z_ldcS cx 2 (by decide) d_X5_readClause_46 ?_
    obtain ⟨v6, M5, hc, hF⟩ := zb_inv hF
    refine z_callV cx (As := [.ref (zSK G 2)]) (rest := []) (c_X8_wordIs l cx.2.2.2.1.1 M3 p0 2 hT_p0 (by decide) hc) hT_p0 zo_9 cv_Plan_63 ⟨rfl, rfl, Nat.le_of_ble_eq_true rfl, Nat.le_of_ble_eq_true rfl⟩ rfl rfl ⟨Nat.zero_le _, Nat.zero_le _⟩ (Nat.le_of_ble_eq_true rfl) d_X5_readClause_48 ?_
    refine z_if_eq cx 79 d_X5_readClause_51 (by decide) hF (fun hF => ?_) (fun hF => ?_)
    · refine z_aload_n cx d_X5_readClause_79 1 rfl ?_
      refine z_ldcS cx 3 (by decide) d_X5_readClause_80 ?_
      obtain ⟨v8, M7, hc, hF⟩ := zb_inv hF
      refine z_callV cx (As := [.ref (zSK G 3)]) (rest := []) (c_X8_wordIs l cx.2.2.2.1.1 M5 p0 3 hT_p0 (by decide) hc) hT_p0 zo_9 cv_Plan_63 ⟨rfl, rfl, Nat.le_of_ble_eq_true rfl, Nat.le_of_ble_eq_true rfl⟩ rfl rfl ⟨Nat.zero_le _, Nat.zero_le _⟩ (Nat.le_of_ble_eq_true rfl) d_X5_readClause_82 ?_
      refine z_if_eq cx 135 d_X5_readClause_85 (by decide) hF (fun hF => ?_) (fun hF => ?_)
      · refine z_aload_n cx d_X5_readClause_135 1 rfl ?_
        refine z_ldcS cx 4 (by decide) d_X5_readClause_136 ?_
        obtain ⟨v10, M9, hc, hF⟩ := zb_inv hF
        refine z_callV cx (As := [.ref (zSK G 4)]) (rest := []) (c_X8_wordIs l cx.2.2.2.1.1 M7 p0 4 hT_p0 (by decide) hc) hT_p0 zo_9 cv_Plan_63 ⟨rfl, rfl, Nat.le_of_ble_eq_true rfl, Nat.le_of_ble_eq_true rfl⟩ rfl rfl ⟨Nat.zero_le _, Nat.zero_le _⟩ (Nat.le_of_ble_eq_true rfl) d_X5_readClause_138 ?_
        refine z_if_eq cx 177 d_X5_readClause_141 (by decide) hF (fun hF => ?_) (fun hF => ?_)
        · refine z_aload_n cx d_X5_readClause_177 1 rfl ?_
          refine z_iconst (v := 1) cx d_X5_readClause_178 ki_1 ?_
          refine z_aload_n cx d_X5_readClause_179 1 rfl ?_
          refine z_getI cx hT_p0 fg_Plan_88 d_X5_readClause_180 ?_
          obtain ⟨M11, hc, hF⟩ := zbv_inv hF
          refine z_callV cx (As := [.int (1 : Int32), .int (M9.1 p0 4)]) (rest := []) (c_X8_fail l cx.2.2.2.1.1 M9 p0 (1 : Int32) (M9.1 p0 4) hT_p0 hc) hT_p0 zo_9 cv_Plan_91 ⟨rfl, rfl, Nat.le_of_ble_eq_true rfl, Nat.le_of_ble_eq_true rfl⟩ rfl rfl ⟨Nat.zero_le _, Nat.zero_le _⟩ (Nat.le_of_ble_eq_true rfl) d_X5_readClause_183 ?_
          exact z_lv [1] _ rfl (hb186 M11 hF)
        refine z_aload_n cx d_X5_readClause_144 1 rfl ?_
        refine z_iload_n cx d_X5_readClause_145 2 rfl ?_
        refine z_bipush (v := 60) cx d_X5_readClause_146 kb_60 ?_
        obtain ⟨M12, hc, hF⟩ := zbv_inv hF
        refine z_callS cx (As := [.ref (ad p0), .int p1, .int (60 : Int32)]) (rest := []) (c_X5_refuseOver l cx.2.2.2.1.1 M9 p0 p1 (60 : Int32) hT_p0 hc) cs_Plan_67 ⟨rfl, rfl, Nat.le_of_ble_eq_true rfl, Nat.le_of_ble_eq_true rfl⟩ rfl rfl ⟨Nat.zero_le _, Nat.zero_le _⟩ (Nat.le_of_ble_eq_true rfl) d_X5_readClause_148 ?_
        refine z_aload_n cx d_X5_readClause_151 1 rfl ?_
        refine z_bipush (v := 8) cx d_X5_readClause_152 kb_8 ?_
        refine z_bipush (v := 8) cx d_X5_readClause_154 kb_8 ?_
        obtain ⟨v14, M13, hc, hF⟩ := zb_inv hF
        refine z_callV cx (As := [.int (8 : Int32), .int (8 : Int32)]) (rest := []) (c_X8_place l cx.2.2.2.1.1 M12 p0 (8 : Int32) (8 : Int32) hT_p0 hc) hT_p0 zo_9 cv_Plan_83 ⟨rfl, rfl, Nat.le_of_ble_eq_true rfl, Nat.le_of_ble_eq_true rfl⟩ rfl rfl ⟨Nat.zero_le _, Nat.zero_le _⟩ (Nat.le_of_ble_eq_true rfl) d_X5_readClause_156 ?_
        refine z_istore_n cx 3 [(3, .int v14), (0, .ref (ad t)), (1, .ref (ad p0)), (2, .int p1)] d_X5_readClause_159 rfl (by decide) rfl ?_
        refine z_aload_n cx d_X5_readClause_160 1 rfl ?_
        refine z_getR cx hT_t fg_Plan_39 (t + 5) rfl d_X5_readClause_161 ?_
        refine z_iload_n cx d_X5_readClause_164 0 rfl ?_
        refine z_aload_n cx d_X5_readClause_165 2 rfl ?_
        refine z_iconst (v := 1) cx d_X5_readClause_166 ki_1 ?_
        refine z_sipush (v := 999) cx d_X5_readClause_167 ks_999 ?_
        obtain ⟨v16, M15, hc, hF⟩ := zb_inv hF
        refine z_callV cx (As := [.int (1 : Int32), .int (999 : Int32)]) (rest := [.int v14, .ref (ad (t + 5))]) (c_X8_number l cx.2.2.2.1.1 M13 p0 (1 : Int32) (999 : Int32) hT_p0 hc) hT_p0 zo_9 cv_Plan_71 ⟨rfl, rfl, Nat.le_of_ble_eq_true rfl, Nat.le_of_ble_eq_true rfl⟩ rfl rfl ⟨Nat.zero_le _, Nat.zero_le _⟩ (Nat.le_of_ble_eq_true rfl) d_X5_readClause_170 ?_
        obtain ⟨hi17, hF⟩ := gin_inv hF
        refine z_iast cx (tfX_6_5 hT_t) za_16 hi17 v14.toNatClampNeg rfl d_X5_readClause_173 ?_
        refine z_nmM hF (fun M18 hF => ?_)
        refine z_goto cx 186 d_X5_readClause_174 (by decide) ?_
        exact z_lv [2] _ rfl (hb186 M18 hF)
      refine z_aload_n cx d_X5_readClause_88 1 rfl ?_
      refine z_iload_n cx d_X5_readClause_89 2 rfl ?_
      refine z_bipush (v := 60) cx d_X5_readClause_90 kb_60 ?_
      obtain ⟨M19, hc, hF⟩ := zbv_inv hF
      refine z_callS cx (As := [.ref (ad p0), .int p1, .int (60 : Int32)]) (rest := []) (c_X5_refuseOver l cx.2.2.2.1.1 M7 p0 p1 (60 : Int32) hT_p0 hc) cs_Plan_67 ⟨rfl, rfl, Nat.le_of_ble_eq_true rfl, Nat.le_of_ble_eq_true rfl⟩ rfl rfl ⟨Nat.zero_le _, Nat.zero_le _⟩ (Nat.le_of_ble_eq_true rfl) d_X5_readClause_92 ?_
      refine z_aload_n cx d_X5_readClause_95 1 rfl ?_
      refine z_bipush (v := 8) cx d_X5_readClause_96 kb_8 ?_
      refine z_bipush (v := 8) cx d_X5_readClause_98 kb_8 ?_
      obtain ⟨v21, M20, hc, hF⟩ := zb_inv hF
      refine z_callV cx (As := [.int (8 : Int32), .int (8 : Int32)]) (rest := []) (c_X8_place l cx.2.2.2.1.1 M19 p0 (8 : Int32) (8 : Int32) hT_p0 hc) hT_p0 zo_9 cv_Plan_83 ⟨rfl, rfl, Nat.le_of_ble_eq_true rfl, Nat.le_of_ble_eq_true rfl⟩ rfl rfl ⟨Nat.zero_le _, Nat.zero_le _⟩ (Nat.le_of_ble_eq_true rfl) d_X5_readClause_100 ?_
      refine z_istore_n cx 3 [(3, .int v21), (0, .ref (ad t)), (1, .ref (ad p0)), (2, .int p1)] d_X5_readClause_103 rfl (by decide) rfl ?_
      refine z_aload_n cx d_X5_readClause_104 1 rfl ?_
      refine z_getR cx hT_t fg_Plan_33 (t + 3) rfl d_X5_readClause_105 ?_
      refine z_iload_n cx d_X5_readClause_108 0 rfl ?_
      refine z_aload_n cx d_X5_readClause_109 2 rfl ?_
      refine z_iconst (v := 0) cx d_X5_readClause_110 ki_0 ?_
      refine z_sipush (v := 999) cx d_X5_readClause_111 ks_999 ?_
      obtain ⟨v23, M22, hc, hF⟩ := zb_inv hF
      refine z_callV cx (As := [.int (0 : Int32), .int (999 : Int32)]) (rest := [.int v21, .ref (ad (t + 3))]) (c_X8_number l cx.2.2.2.1.1 M20 p0 (0 : Int32) (999 : Int32) hT_p0 hc) hT_p0 zo_9 cv_Plan_71 ⟨rfl, rfl, Nat.le_of_ble_eq_true rfl, Nat.le_of_ble_eq_true rfl⟩ rfl rfl ⟨Nat.zero_le _, Nat.zero_le _⟩ (Nat.le_of_ble_eq_true rfl) d_X5_readClause_114 ?_
      obtain ⟨hi24, hF⟩ := gin_inv hF
      refine z_iast cx (tfX_6_3 hT_t) za_16 hi24 v21.toNatClampNeg rfl d_X5_readClause_117 ?_
      refine z_nmM hF (fun M25 hF => ?_)
      refine z_aload_n cx d_X5_readClause_118 1 rfl ?_
      refine z_getR cx hT_t fg_Plan_36 (t + 4) rfl d_X5_readClause_119 ?_
      refine z_iload_n cx d_X5_readClause_122 0 rfl ?_
      refine z_aload_n cx d_X5_readClause_123 2 rfl ?_
      refine z_iconst (v := 0) cx d_X5_readClause_124 ki_0 ?_
      refine z_sipush (v := 999) cx d_X5_readClause_125 ks_999 ?_
      obtain ⟨v27, M26, hc, hF⟩ := zb_inv hF
      refine z_callV cx (As := [.int (0 : Int32), .int (999 : Int32)]) (rest := [.int v21, .ref (ad (t + 4))]) (c_X8_number l cx.2.2.2.1.1 M25 p0 (0 : Int32) (999 : Int32) hT_p0 hc) hT_p0 zo_9 cv_Plan_71 ⟨rfl, rfl, Nat.le_of_ble_eq_true rfl, Nat.le_of_ble_eq_true rfl⟩ rfl rfl ⟨Nat.zero_le _, Nat.zero_le _⟩ (Nat.le_of_ble_eq_true rfl) d_X5_readClause_128 ?_
      refine z_iast cx (tfX_6_4 hT_t) za_16 hi24 v21.toNatClampNeg rfl d_X5_readClause_131 ?_
      refine z_nmM hF (fun M28 hF => ?_)
      refine z_goto cx 186 d_X5_readClause_132 (by decide) ?_
      exact z_lv [2] _ rfl (hb186 M28 hF)
    refine z_aload_n cx d_X5_readClause_54 1 rfl ?_
    refine z_iload_n cx d_X5_readClause_55 2 rfl ?_
    refine z_bipush (v := 60) cx d_X5_readClause_56 kb_60 ?_
    obtain ⟨M29, hc, hF⟩ := zbv_inv hF
    refine z_callS cx (As := [.ref (ad p0), .int p1, .int (60 : Int32)]) (rest := []) (c_X5_refuseOver l cx.2.2.2.1.1 M5 p0 p1 (60 : Int32) hT_p0 hc) cs_Plan_67 ⟨rfl, rfl, Nat.le_of_ble_eq_true rfl, Nat.le_of_ble_eq_true rfl⟩ rfl rfl ⟨Nat.zero_le _, Nat.zero_le _⟩ (Nat.le_of_ble_eq_true rfl) d_X5_readClause_58 ?_
    refine z_aload_n cx d_X5_readClause_61 1 rfl ?_
    refine z_aload_n cx d_X5_readClause_62 0 rfl ?_
    refine z_getI cx hT_t fg_Plan_42 d_X5_readClause_63 ?_
    refine z_bipush (v := 10) cx d_X5_readClause_66 kb_10 ?_
    obtain ⟨M30, hc, hF⟩ := zbv_inv hF
    refine z_callS cx (As := [.ref (ad p0), .int (M29.1 t 2), .int (10 : Int32)]) (rest := []) (c_X5_refuseOver l cx.2.2.2.1.1 M29 p0 (M29.1 t 2) (10 : Int32) hT_p0 hc) cs_Plan_67 ⟨rfl, rfl, Nat.le_of_ble_eq_true rfl, Nat.le_of_ble_eq_true rfl⟩ rfl rfl ⟨Nat.zero_le _, Nat.zero_le _⟩ (Nat.le_of_ble_eq_true rfl) d_X5_readClause_68 ?_
    refine z_aload_n cx d_X5_readClause_71 0 rfl ?_
    refine z_aload_n cx d_X5_readClause_72 1 rfl ?_
    obtain ⟨M31, hc, hF⟩ := zbv_inv hF
    refine z_callV cx (As := [.ref (ad p0)]) (rest := []) (c_X5_readHour l cx.2.2.2.1.1 M30 t p0 hT_t hT_p0 hc) hT_t zo_6 cv_Plan_77 ⟨rfl, rfl, Nat.le_of_ble_eq_true rfl, Nat.le_of_ble_eq_true rfl⟩ rfl rfl ⟨Nat.zero_le _, Nat.zero_le _⟩ (Nat.le_of_ble_eq_true rfl) d_X5_readClause_73 ?_
    refine z_goto cx 186 d_X5_readClause_76 (by decide) ?_
    exact z_lv [1] _ rfl (hb186 M31 hF)
  refine z_aload_n cx d_X5_readClause_13 1 rfl ?_
  refine z_iload_n cx d_X5_readClause_14 2 rfl ?_
  refine z_bipush (v := 60) cx d_X5_readClause_15 kb_60 ?_
  obtain ⟨M32, hc, hF⟩ := zbv_inv hF
  refine z_callS cx (As := [.ref (ad p0), .int p1, .int (60 : Int32)]) (rest := []) (c_X5_refuseOver l cx.2.2.2.1.1 M3 p0 p1 (60 : Int32) hT_p0 hc) cs_Plan_67 ⟨rfl, rfl, Nat.le_of_ble_eq_true rfl, Nat.le_of_ble_eq_true rfl⟩ rfl rfl ⟨Nat.zero_le _, Nat.zero_le _⟩ (Nat.le_of_ble_eq_true rfl) d_X5_readClause_17 ?_
  refine z_aload_n cx d_X5_readClause_20 0 rfl ?_
  refine z_aload_n cx d_X5_readClause_21 1 rfl ?_
  refine z_iconst (v := 1) cx d_X5_readClause_22 ki_1 ?_
  refine z_bipush (v := 8) cx d_X5_readClause_23 kb_8 ?_
  obtain ⟨v34, M33, hc, hF⟩ := zb_inv hF
  refine z_callV cx (As := [.int (1 : Int32), .int (8 : Int32)]) (rest := [.ref (ad t)]) (c_X8_number l cx.2.2.2.1.1 M32 p0 (1 : Int32) (8 : Int32) hT_p0 hc) hT_p0 zo_9 cv_Plan_71 ⟨rfl, rfl, Nat.le_of_ble_eq_true rfl, Nat.le_of_ble_eq_true rfl⟩ rfl rfl ⟨Nat.zero_le _, Nat.zero_le _⟩ (Nat.le_of_ble_eq_true rfl) d_X5_readClause_25 ?_
  refine z_putI cx hT_t fp_Plan_9 d_X5_readClause_28 ?_
  refine z_nmM hF (fun M35 hF => ?_)
  refine z_aload_n cx d_X5_readClause_31 0 rfl ?_
  refine z_aload_n cx d_X5_readClause_32 1 rfl ?_
  refine z_iconst (v := 1) cx d_X5_readClause_33 ki_1 ?_
  refine z_bipush (v := 8) cx d_X5_readClause_34 kb_8 ?_
  obtain ⟨v37, M36, hc, hF⟩ := zb_inv hF
  refine z_callV cx (As := [.int (1 : Int32), .int (8 : Int32)]) (rest := [.ref (ad t)]) (c_X8_number l cx.2.2.2.1.1 M35 p0 (1 : Int32) (8 : Int32) hT_p0 hc) hT_p0 zo_9 cv_Plan_71 ⟨rfl, rfl, Nat.le_of_ble_eq_true rfl, Nat.le_of_ble_eq_true rfl⟩ rfl rfl ⟨Nat.zero_le _, Nat.zero_le _⟩ (Nat.le_of_ble_eq_true rfl) d_X5_readClause_36 ?_
  refine z_putI cx hT_t fp_Plan_15 d_X5_readClause_39 ?_
  refine z_nmM hF (fun M38 hF => ?_)
  refine z_goto cx 186 d_X5_readClause_42 (by decide) ?_
  exact z_lv [1] _ rfl (hb186 M38 hF)
/-! SunnyPans$Plan.leaveOut -/
set_option maxRecDepth 100000 in
theorem wd_327 : Cond.fieldLink "SunnyPans$Plan" 22 "SunnyPans$Plan" "places" "J" ∈ tbG := tw1 227 rfl rfl
theorem fg_Plan_22 : zGetL "SunnyPans$Plan" 22 5 6 3 := ⟨RX5, TX5, 9, rfl, by decide, uw_5, wd_327, fun _ _ _ _ _ _ => ⟨_, rfl, rfl⟩⟩
set_option maxRecDepth 100000 in
theorem wd_735 : Cond.methodLinkNest "SunnyPans$Plan" 99 yX9_has "SunnyPans" ∈ tbN := twn3 155 rfl rfl
theorem cn_Plan_99 : zCN "SunnyPans$Plan" 99 yX9_has cX9_has 3 (some .boolean) 2 := ⟨wd_735, wd_101, wd_737, by decide +kernel⟩
theorem d_X5_leaveOut_0 : decode cX5_leaveOut 0 = .ok (.iconst 0, 1) := by decide +kernel
theorem d_X5_leaveOut_1 : decode cX5_leaveOut 1 = .ok (.istore_n 1, 1) := by decide +kernel
theorem d_X5_leaveOut_2 : decode cX5_leaveOut 2 = .ok (.iload_n 1, 1) := by decide +kernel
theorem d_X5_leaveOut_3 : decode cX5_leaveOut 3 = .ok (.bipush 64, 2) := by decide +kernel
theorem d_X5_leaveOut_5 : decode cX5_leaveOut 5 = .ok (.if_icmp .ge 61, 3) := by decide +kernel
theorem d_X5_leaveOut_8 : decode cX5_leaveOut 8 = .ok (.aload_n 0, 1) := by decide +kernel
theorem d_X5_leaveOut_9 : decode cX5_leaveOut 9 = .ok (.getfield 22, 3) := by decide +kernel
theorem d_X5_leaveOut_12 : decode cX5_leaveOut 12 = .ok (.iload_n 1, 1) := by decide +kernel
theorem d_X5_leaveOut_13 : decode cX5_leaveOut 13 = .ok (.invokestatic 99, 3) := by decide +kernel
theorem d_X5_leaveOut_16 : decode cX5_leaveOut 16 = .ok (.ifCond .ne 10, 3) := by decide +kernel
theorem d_X5_leaveOut_19 : decode cX5_leaveOut 19 = .ok (.aload_n 0, 1) := by decide +kernel
theorem d_X5_leaveOut_20 : decode cX5_leaveOut 20 = .ok (.getfield 39, 3) := by decide +kernel
theorem d_X5_leaveOut_23 : decode cX5_leaveOut 23 = .ok (.iload_n 1, 1) := by decide +kernel
theorem d_X5_leaveOut_24 : decode cX5_leaveOut 24 = .ok (.iconst 0, 1) := by decide +kernel
theorem d_X5_leaveOut_25 : decode cX5_leaveOut 25 = .ok (.iastore, 1) := by decide +kernel
theorem d_X5_leaveOut_26 : decode cX5_leaveOut 26 = .ok (.aload_n 0, 1) := by decide +kernel
theorem d_X5_leaveOut_27 : decode cX5_leaveOut 27 = .ok (.getfield 22, 3) := by decide +kernel
theorem d_X5_leaveOut_30 : decode cX5_leaveOut 30 = .ok (.iload_n 1, 1) := by decide +kernel
theorem d_X5_leaveOut_31 : decode cX5_leaveOut 31 = .ok (.invokestatic 99, 3) := by decide +kernel
theorem d_X5_leaveOut_34 : decode cX5_leaveOut 34 = .ok (.ifCond .eq 12, 3) := by decide +kernel
theorem d_X5_leaveOut_37 : decode cX5_leaveOut 37 = .ok (.aload_n 0, 1) := by decide +kernel
theorem d_X5_leaveOut_38 : decode cX5_leaveOut 38 = .ok (.getfield 39, 3) := by decide +kernel
theorem d_X5_leaveOut_41 : decode cX5_leaveOut 41 = .ok (.iload_n 1, 1) := by decide +kernel
theorem d_X5_leaveOut_42 : decode cX5_leaveOut 42 = .ok (.iaload, 1) := by decide +kernel
theorem d_X5_leaveOut_43 : decode cX5_leaveOut 43 = .ok (.ifCond .le 17, 3) := by decide +kernel
theorem d_X5_leaveOut_46 : decode cX5_leaveOut 46 = .ok (.aload_n 0, 1) := by decide +kernel
theorem d_X5_leaveOut_47 : decode cX5_leaveOut 47 = .ok (.getfield 33, 3) := by decide +kernel
theorem d_X5_leaveOut_50 : decode cX5_leaveOut 50 = .ok (.iload_n 1, 1) := by decide +kernel
theorem d_X5_leaveOut_51 : decode cX5_leaveOut 51 = .ok (.iconst 0, 1) := by decide +kernel
theorem d_X5_leaveOut_52 : decode cX5_leaveOut 52 = .ok (.iastore, 1) := by decide +kernel
theorem d_X5_leaveOut_53 : decode cX5_leaveOut 53 = .ok (.aload_n 0, 1) := by decide +kernel
theorem d_X5_leaveOut_54 : decode cX5_leaveOut 54 = .ok (.getfield 36, 3) := by decide +kernel
theorem d_X5_leaveOut_57 : decode cX5_leaveOut 57 = .ok (.iload_n 1, 1) := by decide +kernel
theorem d_X5_leaveOut_58 : decode cX5_leaveOut 58 = .ok (.iconst 0, 1) := by decide +kernel
theorem d_X5_leaveOut_59 : decode cX5_leaveOut 59 = .ok (.iastore, 1) := by decide +kernel
theorem d_X5_leaveOut_60 : decode cX5_leaveOut 60 = .ok (.iinc 1 1, 3) := by decide +kernel
theorem d_X5_leaveOut_63 : decode cX5_leaveOut 63 = .ok (.goto (-61), 3) := by decide +kernel
theorem d_X5_leaveOut_66 : decode cX5_leaveOut 66 = .ok (.return_, 1) := by decide +kernel
noncomputable def F_X5_leaveOut_60 (t : Nat) (self2 : Int32 → zMem → Option (zMem)) (b60_L1 : Int32) (M : zMem) : Option (zMem) :=
  self2 (b60_L1 + 1) M
noncomputable def F_X5_leaveOut_46 (t : Nat) (self2 : Int32 → zMem → Option (zMem)) (b46_L1 : Int32) (M : zMem) : Option (zMem) :=
  gin b46_L1 64 <|
  zl (zI M (t + 3) b46_L1.toNatClampNeg (0 : Int32)) fun M2 =>
  zl (zI M2 (t + 4) b46_L1.toNatClampNeg (0 : Int32)) fun M3 =>
  F_X5_leaveOut_60 t self2 b46_L1 M3
noncomputable def F_X5_leaveOut_26 (t : Nat) (self2 : Int32 → zMem → Option (zMem)) (b26_L1 : Int32) (M : zMem) : Option (zMem) :=
  zb (F_X9_has M (M.2.1 t 3) b26_L1) fun v5 M4 =>
  if v5 = 0 then
    F_X5_leaveOut_46 t self2 b26_L1 M4
  else
    gin b26_L1 64 <|
    if (M4.1 (t + 5) b26_L1.toNatClampNeg) ≤ 0 then
      F_X5_leaveOut_60 t self2 b26_L1 M4
    else
      F_X5_leaveOut_46 t self2 b26_L1 M4
noncomputable def F_X5_leaveOut_2 (t : Nat) (self2 : Int32 → zMem → Option (zMem)) (b2_L1 : Int32) (M : zMem) : Option (zMem) :=
  if (64 : Int32) ≤ b2_L1 then
    some M
  else
    zb (F_X9_has M (M.2.1 t 3) b2_L1) fun v8 M7 =>
    if v8 = 0 then
      gin b2_L1 64 <|
      zl (zI M7 (t + 5) b2_L1.toNatClampNeg (0 : Int32)) fun M10 =>
      F_X5_leaveOut_26 t self2 b2_L1 M10
    else
      F_X5_leaveOut_26 t self2 b2_L1 M7
noncomputable def F_X5_leaveOut (M : zMem) (t : Nat) : Option (zMem) :=
  itF (fun _ _ => none) (F_X5_leaveOut_2 t) zFuel (0 : Int32) M
def rm_X5_leaveOut : Room := { frames := 3, cells := 0, slots := 0, locals := 102 }
set_option maxHeartbeats 4000000 in
set_option maxRecDepth 100000 in
theorem c_X5_leaveOut (l : Launch) {G : zG} {ad : Nat → Nat} {n : Nat} (hA : zInj ad n) (M : zMem) (t : Nat) (hT_t : zT shX n t 6) {M9 : zMem} (hF : F_X5_leaveOut M t = some M9) : zM l yX5_leaveOut cX5_leaveOut 2 none rm_X5_leaveOut G shX ad n M [.ref (ad t)] none M9 := by
  refine zM_of hA (by decide +kernel) (lv := [(0, .ref (ad t))]) (Nat.le_of_ble_eq_true rfl) rfl (fun p e s m args below meth c A cx hr => ?_)
  have hb60 : ∀ (self2 : Int32 → zMem → Option (zMem)) (hs2 : ∀ (b2_L1 : Int32) (M : zMem), self2 b2_L1 M = some M9 → zJ p l e rm_X5_leaveOut s m args below meth c G shX ad n A 2 (MQ below (zQ G shX ad n M9 none A) args s 0 0 A) 0 0 M 2 [(0, .ref (ad t)), (1, .int b2_L1)] []), ∀ (b60_L1 : Int32) (M : zMem), F_X5_leaveOut_60 t self2 b60_L1 M = some M9 → zJ p l e rm_X5_leaveOut s m args below meth c G shX ad n A 2 (MQ below (zQ G shX ad n M9 none A) args s 0 0 A) 0 0 M 60 [(0, .ref (ad t)), (1, .int b60_L1)] [] := by
    intro self2 hs2 b60_L1 M hF
    unfold F_X5_leaveOut_60 at hF
    refine z_iinc cx 1 1 [(1, .int (b60_L1 + 1)), (0, .ref (ad t))] d_X5_leaveOut_60 1 rfl ki_1 (by decide) rfl ?_
    refine z_goto cx 2 d_X5_leaveOut_63 (by decide) ?_
    exact z_lv [1, 0] _ rfl (hs2 (b60_L1 + 1) M hF)
  have hb46 : ∀ (self2 : Int32 → zMem → Option (zMem)) (hs2 : ∀ (b2_L1 : Int32) (M : zMem), self2 b2_L1 M = some M9 → zJ p l e rm_X5_leaveOut s m args below meth c G shX ad n A 2 (MQ below (zQ G shX ad n M9 none A) args s 0 0 A) 0 0 M 2 [(0, .ref (ad t)), (1, .int b2_L1)] []), ∀ (b46_L1 : Int32) (M : zMem), F_X5_leaveOut_46 t self2 b46_L1 M = some M9 → zJ p l e rm_X5_leaveOut s m args below meth c G shX ad n A 2 (MQ below (zQ G shX ad n M9 none A) args s 0 0 A) 0 0 M 46 [(0, .ref (ad t)), (1, .int b46_L1)] [] := by
    intro self2 hs2 b46_L1 M hF
    unfold F_X5_leaveOut_46 at hF
    refine z_aload_n cx d_X5_leaveOut_46 0 rfl ?_
    refine z_getR cx hT_t fg_Plan_33 (t + 3) rfl d_X5_leaveOut_47 ?_
    refine z_iload_n cx d_X5_leaveOut_50 1 rfl ?_
    refine z_iconst (v := 0) cx d_X5_leaveOut_51 ki_0 ?_
    obtain ⟨hi1, hF⟩ := gin_inv hF
    refine z_iast cx (tfX_6_3 hT_t) za_16 hi1 b46_L1.toNatClampNeg rfl d_X5_leaveOut_52 ?_
    refine z_nmM hF (fun M2 hF => ?_)
    refine z_aload_n cx d_X5_leaveOut_53 0 rfl ?_
    refine z_getR cx hT_t fg_Plan_36 (t + 4) rfl d_X5_leaveOut_54 ?_
    refine z_iload_n cx d_X5_leaveOut_57 1 rfl ?_
    refine z_iconst (v := 0) cx d_X5_leaveOut_58 ki_0 ?_
    refine z_iast cx (tfX_6_4 hT_t) za_16 hi1 b46_L1.toNatClampNeg rfl d_X5_leaveOut_59 ?_
    refine z_nmM hF (fun M3 hF => ?_)
    exact hb60 self2 hs2 b46_L1 M3 hF
  have hb26 : ∀ (self2 : Int32 → zMem → Option (zMem)) (hs2 : ∀ (b2_L1 : Int32) (M : zMem), self2 b2_L1 M = some M9 → zJ p l e rm_X5_leaveOut s m args below meth c G shX ad n A 2 (MQ below (zQ G shX ad n M9 none A) args s 0 0 A) 0 0 M 2 [(0, .ref (ad t)), (1, .int b2_L1)] []), ∀ (b26_L1 : Int32) (M : zMem), F_X5_leaveOut_26 t self2 b26_L1 M = some M9 → zJ p l e rm_X5_leaveOut s m args below meth c G shX ad n A 2 (MQ below (zQ G shX ad n M9 none A) args s 0 0 A) 0 0 M 26 [(0, .ref (ad t)), (1, .int b26_L1)] [] := by
    intro self2 hs2 b26_L1 M hF
    unfold F_X5_leaveOut_26 at hF
    refine z_aload_n cx d_X5_leaveOut_26 0 rfl ?_
    refine z_getL cx hT_t fg_Plan_22 d_X5_leaveOut_27 ?_
    refine z_iload_n cx d_X5_leaveOut_30 1 rfl ?_
    obtain ⟨v5, M4, hc, hF⟩ := zb_inv hF
    refine z_callSN cx (As := [.long (M.2.1 t 3), .int b26_L1]) (rest := []) (c_X9_has l cx.2.2.2.1.1 M (M.2.1 t 3) b26_L1  hc) cn_Plan_99 wd_736 ⟨rfl, rfl, Nat.le_of_ble_eq_true rfl, Nat.le_of_ble_eq_true rfl⟩ rfl rfl ⟨Nat.zero_le _, Nat.zero_le _⟩ (Nat.le_of_ble_eq_true rfl) d_X5_leaveOut_31 ?_
    refine z_if_eq cx 46 d_X5_leaveOut_34 (by decide) hF (fun hF => ?_) (fun hF => ?_)
    · exact hb46 self2 hs2 b26_L1 M4 hF
    refine z_aload_n cx d_X5_leaveOut_37 0 rfl ?_
    refine z_getR cx hT_t fg_Plan_39 (t + 5) rfl d_X5_leaveOut_38 ?_
    refine z_iload_n cx d_X5_leaveOut_41 1 rfl ?_
    obtain ⟨hi6, hF⟩ := gin_inv hF
    refine z_iald cx (tfX_6_5 hT_t) za_16 hi6 b26_L1.toNatClampNeg rfl d_X5_leaveOut_42 ?_
    refine z_if_le cx 60 d_X5_leaveOut_43 (by decide) hF (fun hF => ?_) (fun hF => ?_)
    · exact hb60 self2 hs2 b26_L1 M4 hF
    exact hb46 self2 hs2 b26_L1 M4 hF
  have hL2 : ∀ (fuel : Nat), ∀ (b2_L1 : Int32) (M : zMem), itF (fun _ _ => none) (F_X5_leaveOut_2 t) fuel b2_L1 M = some M9 → zJ p l e rm_X5_leaveOut s m args below meth c G shX ad n A 2 (MQ below (zQ G shX ad n M9 none A) args s 0 0 A) 0 0 M 2 [(0, .ref (ad t)), (1, .int b2_L1)] [] := by
    intro fuel
    induction fuel with
    | zero => intro b2_L1 M hF; cases hF
    | succ fuel hs2 =>
      intro b2_L1 M hF
      have hF : F_X5_leaveOut_2 t (itF (fun _ _ => none) (F_X5_leaveOut_2 t) fuel) b2_L1 M = some M9 := hF
      generalize itF (fun _ _ => none) (F_X5_leaveOut_2 t) fuel = self2 at hs2 hF
      unfold F_X5_leaveOut_2 at hF
      refine z_iload_n cx d_X5_leaveOut_2 1 rfl ?_
      refine z_bipush (v := 64) cx d_X5_leaveOut_3 kb_64 ?_
      refine z_icmp_ge cx 66 d_X5_leaveOut_5 (by decide) hF (fun hF => ?_) (fun hF => ?_)
      · exact z_vret cx hr hF d_X5_leaveOut_66
      refine z_aload_n cx d_X5_leaveOut_8 0 rfl ?_
      refine z_getL cx hT_t fg_Plan_22 d_X5_leaveOut_9 ?_
      refine z_iload_n cx d_X5_leaveOut_12 1 rfl ?_
      obtain ⟨v8, M7, hc, hF⟩ := zb_inv hF
      refine z_callSN cx (As := [.long (M.2.1 t 3), .int b2_L1]) (rest := []) (c_X9_has l cx.2.2.2.1.1 M (M.2.1 t 3) b2_L1  hc) cn_Plan_99 wd_736 ⟨rfl, rfl, Nat.le_of_ble_eq_true rfl, Nat.le_of_ble_eq_true rfl⟩ rfl rfl ⟨Nat.zero_le _, Nat.zero_le _⟩ (Nat.le_of_ble_eq_true rfl) d_X5_leaveOut_13 ?_
      refine z_if_ne cx 26 d_X5_leaveOut_16 (by decide) hF (fun hF => ?_) (fun hF => ?_)
      · exact hb26 self2 hs2 b2_L1 M7 hF
      refine z_aload_n cx d_X5_leaveOut_19 0 rfl ?_
      refine z_getR cx hT_t fg_Plan_39 (t + 5) rfl d_X5_leaveOut_20 ?_
      refine z_iload_n cx d_X5_leaveOut_23 1 rfl ?_
      refine z_iconst (v := 0) cx d_X5_leaveOut_24 ki_0 ?_
      obtain ⟨hi9, hF⟩ := gin_inv hF
      refine z_iast cx (tfX_6_5 hT_t) za_16 hi9 b2_L1.toNatClampNeg rfl d_X5_leaveOut_25 ?_
      refine z_nmM hF (fun M10 hF => ?_)
      exact hb26 self2 hs2 b2_L1 M10 hF
  unfold F_X5_leaveOut at hF
  refine z_iconst (v := 0) cx d_X5_leaveOut_0 ki_0 ?_
  refine z_istore_n cx 1 [(1, .int (0 : Int32)), (0, .ref (ad t))] d_X5_leaveOut_1 rfl (by decide) rfl ?_
  exact z_lv [1, 0] _ rfl (hL2 zFuel (0 : Int32) M hF)
/-! SunnyPans$Plan.read -/
set_option maxRecDepth 100000 in
theorem wd_308 : Cond.code yX5_square cX5_square 6 (some .long) ∈ tbG := tw1 208 rfl rfl
set_option maxRecDepth 100000 in
theorem wd_306 : Cond.methodLink "SunnyPans$Plan" 18 yX5_square ∈ tbG := tw1 206 rfl rfl
set_option maxRecDepth 100000 in
theorem wd_307 : Cond.static yX5_square ∈ tbG := tw1 207 rfl rfl
theorem cs_Plan_18 : zCS "SunnyPans$Plan" 18 yX5_square cX5_square 6 (some .long) 2 := zCS_of wd_306 wd_307 wd_108 wd_308 (by decide +kernel)
theorem fp_Plan_22 : zPutL "SunnyPans$Plan" 22 5 6 3 := ⟨zc_5, fg_Plan_22, ⟨RX5, TX5, 9, rfl, rfl, by decide +kernel⟩, fun _ _ _ _ _ _ _ => ⟨_, rfl, Nat.le_of_ble_eq_true rfl, rfl⟩⟩
set_option maxRecDepth 100000 in
theorem wd_734 : Cond.code yX5_leaveOut cX5_leaveOut 2 none ∈ tbG := tw3 154 rfl rfl
set_option maxRecDepth 100000 in
theorem wd_731 : Cond.methodLink "SunnyPans$Plan" 55 yX5_leaveOut ∈ tbG := tw3 151 rfl rfl
set_option maxRecDepth 100000 in
theorem wd_733 : Cond.instanceMethod yX5_leaveOut ∈ tbG := tw3 153 rfl rfl
theorem wd_8 : Cond.selects "SunnyPans$Plan" yX5_leaveOut yX5_leaveOut ∈ tbG := tw 8 (by decide +kernel) rfl
theorem cv_Plan_55 : zCV "SunnyPans$Plan" 55 "SunnyPans$Plan" yX5_leaveOut cX5_leaveOut 2 none 0 := zCV_of wd_731 wd_733 wd_8 wd_108 wd_734 (by decide +kernel)
set_option maxRecDepth 100000 in
theorem wd_611 : Cond.methodLink "SunnyPans$Plan" 45 yX8_goesOn ∈ tbG := tw3 31 rfl rfl
theorem cv_Plan_45 : zCV "SunnyPans$Plan" 45 "SunnyPans$Text" yX8_goesOn cX8_goesOn 1 (some .boolean) 0 := zCV_of wd_611 wd_612 wd_613 wd_102 wd_614 (by decide +kernel)
set_option maxRecDepth 100000 in
theorem wd_622 : Cond.code yX5_readClause cX5_readClause 4 none ∈ tbG := tw3 42 rfl rfl
set_option maxRecDepth 100000 in
theorem wd_619 : Cond.methodLink "SunnyPans$Plan" 51 yX5_readClause ∈ tbG := tw3 39 rfl rfl
set_option maxRecDepth 100000 in
theorem wd_621 : Cond.instanceMethod yX5_readClause ∈ tbG := tw3 41 rfl rfl
theorem wd_5 : Cond.selects "SunnyPans$Plan" yX5_readClause yX5_readClause ∈ tbG := tw 5 (by decide +kernel) rfl
theorem cv_Plan_51 : zCV "SunnyPans$Plan" 51 "SunnyPans$Plan" yX5_readClause cX5_readClause 4 none 2 := zCV_of wd_619 wd_621 wd_5 wd_108 wd_622 (by decide +kernel)
theorem d_X5_read_0 : decode cX5_read 0 = .ok (.aload_n 0, 1) := by decide +kernel
theorem d_X5_read_1 : decode cX5_read 1 = .ok (.iconst 4, 1) := by decide +kernel
theorem d_X5_read_2 : decode cX5_read 2 = .ok (.putfield 9, 3) := by decide +kernel
theorem d_X5_read_5 : decode cX5_read 5 = .ok (.aload_n 0, 1) := by decide +kernel
theorem d_X5_read_6 : decode cX5_read 6 = .ok (.iconst 4, 1) := by decide +kernel
theorem d_X5_read_7 : decode cX5_read 7 = .ok (.putfield 15, 3) := by decide +kernel
theorem d_X5_read_10 : decode cX5_read 10 = .ok (.aload_n 0, 1) := by decide +kernel
theorem d_X5_read_11 : decode cX5_read 11 = .ok (.iconst 0, 1) := by decide +kernel
theorem d_X5_read_12 : decode cX5_read 12 = .ok (.putfield 42, 3) := by decide +kernel
theorem d_X5_read_15 : decode cX5_read 15 = .ok (.iconst 0, 1) := by decide +kernel
theorem d_X5_read_16 : decode cX5_read 16 = .ok (.istore_n 2, 1) := by decide +kernel
theorem d_X5_read_17 : decode cX5_read 17 = .ok (.iload_n 2, 1) := by decide +kernel
theorem d_X5_read_18 : decode cX5_read 18 = .ok (.bipush 64, 2) := by decide +kernel
theorem d_X5_read_20 : decode cX5_read 20 = .ok (.if_icmp .ge 30, 3) := by decide +kernel
theorem d_X5_read_23 : decode cX5_read 23 = .ok (.aload_n 0, 1) := by decide +kernel
theorem d_X5_read_24 : decode cX5_read 24 = .ok (.getfield 33, 3) := by decide +kernel
theorem d_X5_read_27 : decode cX5_read 27 = .ok (.iload_n 2, 1) := by decide +kernel
theorem d_X5_read_28 : decode cX5_read 28 = .ok (.iconst 0, 1) := by decide +kernel
theorem d_X5_read_29 : decode cX5_read 29 = .ok (.iastore, 1) := by decide +kernel
theorem d_X5_read_30 : decode cX5_read 30 = .ok (.aload_n 0, 1) := by decide +kernel
theorem d_X5_read_31 : decode cX5_read 31 = .ok (.getfield 36, 3) := by decide +kernel
theorem d_X5_read_34 : decode cX5_read 34 = .ok (.iload_n 2, 1) := by decide +kernel
theorem d_X5_read_35 : decode cX5_read 35 = .ok (.iconst 0, 1) := by decide +kernel
theorem d_X5_read_36 : decode cX5_read 36 = .ok (.iastore, 1) := by decide +kernel
theorem d_X5_read_37 : decode cX5_read 37 = .ok (.aload_n 0, 1) := by decide +kernel
theorem d_X5_read_38 : decode cX5_read 38 = .ok (.getfield 39, 3) := by decide +kernel
theorem d_X5_read_41 : decode cX5_read 41 = .ok (.iload_n 2, 1) := by decide +kernel
theorem d_X5_read_42 : decode cX5_read 42 = .ok (.iconst 0, 1) := by decide +kernel
theorem d_X5_read_43 : decode cX5_read 43 = .ok (.iastore, 1) := by decide +kernel
theorem d_X5_read_44 : decode cX5_read 44 = .ok (.iinc 2 1, 3) := by decide +kernel
theorem d_X5_read_47 : decode cX5_read 47 = .ok (.goto (-30), 3) := by decide +kernel
theorem d_X5_read_50 : decode cX5_read 50 = .ok (.iconst 0, 1) := by decide +kernel
theorem d_X5_read_51 : decode cX5_read 51 = .ok (.istore_n 2, 1) := by decide +kernel
theorem d_X5_read_52 : decode cX5_read 52 = .ok (.iload_n 2, 1) := by decide +kernel
theorem d_X5_read_53 : decode cX5_read 53 = .ok (.bipush 60, 2) := by decide +kernel
theorem d_X5_read_55 : decode cX5_read 55 = .ok (.if_icmp .gt 22, 3) := by decide +kernel
theorem d_X5_read_58 : decode cX5_read 58 = .ok (.aload_n 1, 1) := by decide +kernel
theorem d_X5_read_59 : decode cX5_read 59 = .ok (.invokevirtual 45, 3) := by decide +kernel
theorem d_X5_read_62 : decode cX5_read 62 = .ok (.ifCond .eq 15, 3) := by decide +kernel
theorem d_X5_read_65 : decode cX5_read 65 = .ok (.aload_n 0, 1) := by decide +kernel
theorem d_X5_read_66 : decode cX5_read 66 = .ok (.aload_n 1, 1) := by decide +kernel
theorem d_X5_read_67 : decode cX5_read 67 = .ok (.iload_n 2, 1) := by decide +kernel
theorem d_X5_read_68 : decode cX5_read 68 = .ok (.invokevirtual 51, 3) := by decide +kernel
theorem d_X5_read_71 : decode cX5_read 71 = .ok (.iinc 2 1, 3) := by decide +kernel
theorem d_X5_read_74 : decode cX5_read 74 = .ok (.goto (-22), 3) := by decide +kernel
theorem d_X5_read_77 : decode cX5_read 77 = .ok (.aload_n 0, 1) := by decide +kernel
theorem d_X5_read_78 : decode cX5_read 78 = .ok (.aload_n 0, 1) := by decide +kernel
theorem d_X5_read_79 : decode cX5_read 79 = .ok (.getfield 9, 3) := by decide +kernel
theorem d_X5_read_82 : decode cX5_read 82 = .ok (.aload_n 0, 1) := by decide +kernel
theorem d_X5_read_83 : decode cX5_read 83 = .ok (.getfield 15, 3) := by decide +kernel
theorem d_X5_read_86 : decode cX5_read 86 = .ok (.invokestatic 18, 3) := by decide +kernel
theorem d_X5_read_89 : decode cX5_read 89 = .ok (.putfield 22, 3) := by decide +kernel
theorem d_X5_read_92 : decode cX5_read 92 = .ok (.aload_n 0, 1) := by decide +kernel
theorem d_X5_read_93 : decode cX5_read 93 = .ok (.invokevirtual 55, 3) := by decide +kernel
theorem d_X5_read_96 : decode cX5_read 96 = .ok (.return_, 1) := by decide +kernel
noncomputable def F_X5_read_77 (t : Nat) (p0 : Nat) (M : zMem) : Option (zMem) :=
  zb (F_X5_square M (M.1 t 0) (M.1 t 1)) fun v2 M1 =>
  zl (zL M1 t 3 v2) fun M3 =>
  zbv (F_X5_leaveOut M3 t) fun M4 =>
  some M4
noncomputable def F_X5_read_52 (t : Nat) (p0 : Nat) (self52 : Int32 → zMem → Option (zMem)) (b52_L2 : Int32) (M : zMem) : Option (zMem) :=
  if (60 : Int32) < b52_L2 then
    F_X5_read_77 t p0 M
  else
    zb (F_X8_goesOn M p0) fun v6 M5 =>
    if v6 = 0 then
      F_X5_read_77 t p0 M5
    else
      zbv (F_X5_readClause M5 t p0 b52_L2) fun M7 =>
      self52 (b52_L2 + 1) M7
noncomputable def F_X5_read_17 (t : Nat) (p0 : Nat) (self17 : Int32 → zMem → Option (zMem)) (b17_L2 : Int32) (M : zMem) : Option (zMem) :=
  if (64 : Int32) ≤ b17_L2 then
    itF (fun _ _ => none) (F_X5_read_52 t p0) zFuel (0 : Int32) M
  else
    gin b17_L2 64 <|
    zl (zI M (t + 3) b17_L2.toNatClampNeg (0 : Int32)) fun M9 =>
    zl (zI M9 (t + 4) b17_L2.toNatClampNeg (0 : Int32)) fun M10 =>
    zl (zI M10 (t + 5) b17_L2.toNatClampNeg (0 : Int32)) fun M11 =>
    self17 (b17_L2 + 1) M11
noncomputable def F_X5_read (M : zMem) (t : Nat) (p0 : Nat) : Option (zMem) :=
  zl (zI M t 0 (4 : Int32)) fun M12 =>
  zl (zI M12 t 1 (4 : Int32)) fun M13 =>
  zl (zI M13 t 2 (0 : Int32)) fun M14 =>
  itF (fun _ _ => none) (F_X5_read_17 t p0) zFuel (0 : Int32) M14
def rm_X5_read : Room := { frames := 10, cells := 0, slots := 0, locals := 306 }
set_option maxHeartbeats 4000000 in
set_option maxRecDepth 100000 in
theorem c_X5_read (l : Launch) {G : zG} {ad : Nat → Nat} {n : Nat} (hA : zInj ad n) (M : zMem) (t : Nat) (p0 : Nat) (hT_t : zT shX n t 6) (hT_p0 : zT shX n p0 9) {M9 : zMem} (hF : F_X5_read M t p0 = some M9) : zM l yX5_read cX5_read 3 none rm_X5_read G shX ad n M [.ref (ad t), .ref (ad p0)] none M9 := by
  refine zM_of hA (by decide +kernel) (lv := [(0, .ref (ad t)), (1, .ref (ad p0))]) (Nat.le_of_ble_eq_true rfl) rfl (fun p e s m args below meth c A cx hr => ?_)
  have hb77 : ∀ (M : zMem), F_X5_read_77 t p0 M = some M9 → zJ p l e rm_X5_read s m args below meth c G shX ad n A 3 (MQ below (zQ G shX ad n M9 none A) args s 0 0 A) 0 0 M 77 [(0, .ref (ad t))] [] := by
    intro M hF
    unfold F_X5_read_77 at hF
    refine z_aload_n cx d_X5_read_77 0 rfl ?_
    refine z_aload_n cx d_X5_read_78 0 rfl ?_
    refine z_getI cx hT_t fg_Plan_9 d_X5_read_79 ?_
    refine z_aload_n cx d_X5_read_82 0 rfl ?_
    refine z_getI cx hT_t fg_Plan_15 d_X5_read_83 ?_
    obtain ⟨v2, M1, hc, hF⟩ := zb_inv hF
    refine z_callS cx (As := [.int (M.1 t 0), .int (M.1 t 1)]) (rest := [.ref (ad t)]) (c_X5_square l cx.2.2.2.1.1 M (M.1 t 0) (M.1 t 1)  hc) cs_Plan_18 ⟨rfl, rfl, Nat.le_of_ble_eq_true rfl, Nat.le_of_ble_eq_true rfl⟩ rfl rfl ⟨Nat.zero_le _, Nat.zero_le _⟩ (Nat.le_of_ble_eq_true rfl) d_X5_read_86 ?_
    refine z_putL cx hT_t fp_Plan_22 d_X5_read_89 ?_
    refine z_nmM hF (fun M3 hF => ?_)
    refine z_aload_n cx d_X5_read_92 0 rfl ?_
    obtain ⟨M4, hc, hF⟩ := zbv_inv hF
    refine z_callV cx (As := []) (rest := []) (c_X5_leaveOut l cx.2.2.2.1.1 M3 t hT_t hc) hT_t zo_6 cv_Plan_55 ⟨rfl, rfl, Nat.le_of_ble_eq_true rfl, Nat.le_of_ble_eq_true rfl⟩ rfl rfl ⟨Nat.zero_le _, Nat.zero_le _⟩ (Nat.le_of_ble_eq_true rfl) d_X5_read_93 ?_
    exact z_vret cx hr hF d_X5_read_96
  have hL52 : ∀ (fuel : Nat), ∀ (b52_L2 : Int32) (M : zMem), itF (fun _ _ => none) (F_X5_read_52 t p0) fuel b52_L2 M = some M9 → zJ p l e rm_X5_read s m args below meth c G shX ad n A 3 (MQ below (zQ G shX ad n M9 none A) args s 0 0 A) 0 0 M 52 [(0, .ref (ad t)), (1, .ref (ad p0)), (2, .int b52_L2)] [] := by
    intro fuel
    induction fuel with
    | zero => intro b52_L2 M hF; cases hF
    | succ fuel hs52 =>
      intro b52_L2 M hF
      have hF : F_X5_read_52 t p0 (itF (fun _ _ => none) (F_X5_read_52 t p0) fuel) b52_L2 M = some M9 := hF
      generalize itF (fun _ _ => none) (F_X5_read_52 t p0) fuel = self52 at hs52 hF
      unfold F_X5_read_52 at hF
      refine z_iload_n cx d_X5_read_52 2 rfl ?_
      refine z_bipush (v := 60) cx d_X5_read_53 kb_60 ?_
      refine z_icmp_gt cx 77 d_X5_read_55 (by decide) hF (fun hF => ?_) (fun hF => ?_)
      · exact z_lv [0] _ rfl (hb77 M hF)
      refine z_aload_n cx d_X5_read_58 1 rfl ?_
      obtain ⟨v6, M5, hc, hF⟩ := zb_inv hF
      refine z_callV cx (As := []) (rest := []) (c_X8_goesOn l cx.2.2.2.1.1 M p0 hT_p0 hc) hT_p0 zo_9 cv_Plan_45 ⟨rfl, rfl, Nat.le_of_ble_eq_true rfl, Nat.le_of_ble_eq_true rfl⟩ rfl rfl ⟨Nat.zero_le _, Nat.zero_le _⟩ (Nat.le_of_ble_eq_true rfl) d_X5_read_59 ?_
      refine z_if_eq cx 77 d_X5_read_62 (by decide) hF (fun hF => ?_) (fun hF => ?_)
      · exact z_lv [0] _ rfl (hb77 M5 hF)
      refine z_aload_n cx d_X5_read_65 0 rfl ?_
      refine z_aload_n cx d_X5_read_66 1 rfl ?_
      refine z_iload_n cx d_X5_read_67 2 rfl ?_
      obtain ⟨M7, hc, hF⟩ := zbv_inv hF
      refine z_callV cx (As := [.ref (ad p0), .int b52_L2]) (rest := []) (c_X5_readClause l cx.2.2.2.1.1 M5 t p0 b52_L2 hT_t hT_p0 hc) hT_t zo_6 cv_Plan_51 ⟨rfl, rfl, Nat.le_of_ble_eq_true rfl, Nat.le_of_ble_eq_true rfl⟩ rfl rfl ⟨Nat.zero_le _, Nat.zero_le _⟩ (Nat.le_of_ble_eq_true rfl) d_X5_read_68 ?_
      refine z_iinc cx 2 1 [(2, .int (b52_L2 + 1)), (0, .ref (ad t)), (1, .ref (ad p0))] d_X5_read_71 2 rfl ki_1 (by decide) rfl ?_
      refine z_goto cx 52 d_X5_read_74 (by decide) ?_
      exact z_lv [1, 2, 0] _ rfl (hs52 (b52_L2 + 1) M7 hF)
  have hL17 : ∀ (fuel : Nat), ∀ (b17_L2 : Int32) (M : zMem), itF (fun _ _ => none) (F_X5_read_17 t p0) fuel b17_L2 M = some M9 → zJ p l e rm_X5_read s m args below meth c G shX ad n A 3 (MQ below (zQ G shX ad n M9 none A) args s 0 0 A) 0 0 M 17 [(0, .ref (ad t)), (1, .ref (ad p0)), (2, .int b17_L2)] [] := by
    intro fuel
    induction fuel with
    | zero => intro b17_L2 M hF; cases hF
    | succ fuel hs17 =>
      intro b17_L2 M hF
      have hF : F_X5_read_17 t p0 (itF (fun _ _ => none) (F_X5_read_17 t p0) fuel) b17_L2 M = some M9 := hF
      generalize itF (fun _ _ => none) (F_X5_read_17 t p0) fuel = self17 at hs17 hF
      unfold F_X5_read_17 at hF
      refine z_iload_n cx d_X5_read_17 2 rfl ?_
      refine z_bipush (v := 64) cx d_X5_read_18 kb_64 ?_
      refine z_icmp_ge cx 50 d_X5_read_20 (by decide) hF (fun hF => ?_) (fun hF => ?_)
      · refine z_iconst (v := 0) cx d_X5_read_50 ki_0 ?_
        refine z_istore_n cx 2 [(2, .int (0 : Int32)), (0, .ref (ad t)), (1, .ref (ad p0))] d_X5_read_51 rfl (by decide) rfl ?_
        exact z_lv [1, 2, 0] _ rfl (hL52 zFuel (0 : Int32) M hF)
      refine z_aload_n cx d_X5_read_23 0 rfl ?_
      refine z_getR cx hT_t fg_Plan_33 (t + 3) rfl d_X5_read_24 ?_
      refine z_iload_n cx d_X5_read_27 2 rfl ?_
      refine z_iconst (v := 0) cx d_X5_read_28 ki_0 ?_
      obtain ⟨hi8, hF⟩ := gin_inv hF
      refine z_iast cx (tfX_6_3 hT_t) za_16 hi8 b17_L2.toNatClampNeg rfl d_X5_read_29 ?_
      refine z_nmM hF (fun M9 hF => ?_)
      refine z_aload_n cx d_X5_read_30 0 rfl ?_
      refine z_getR cx hT_t fg_Plan_36 (t + 4) rfl d_X5_read_31 ?_
      refine z_iload_n cx d_X5_read_34 2 rfl ?_
      refine z_iconst (v := 0) cx d_X5_read_35 ki_0 ?_
      refine z_iast cx (tfX_6_4 hT_t) za_16 hi8 b17_L2.toNatClampNeg rfl d_X5_read_36 ?_
      refine z_nmM hF (fun M10 hF => ?_)
      refine z_aload_n cx d_X5_read_37 0 rfl ?_
      refine z_getR cx hT_t fg_Plan_39 (t + 5) rfl d_X5_read_38 ?_
      refine z_iload_n cx d_X5_read_41 2 rfl ?_
      refine z_iconst (v := 0) cx d_X5_read_42 ki_0 ?_
      refine z_iast cx (tfX_6_5 hT_t) za_16 hi8 b17_L2.toNatClampNeg rfl d_X5_read_43 ?_
      refine z_nmM hF (fun M11 hF => ?_)
      refine z_iinc cx 2 1 [(2, .int (b17_L2 + 1)), (0, .ref (ad t)), (1, .ref (ad p0))] d_X5_read_44 2 rfl ki_1 (by decide) rfl ?_
      refine z_goto cx 17 d_X5_read_47 (by decide) ?_
      exact z_lv [1, 2, 0] _ rfl (hs17 (b17_L2 + 1) M11 hF)
  unfold F_X5_read at hF
  refine z_aload_n cx d_X5_read_0 0 rfl ?_
  refine z_iconst (v := 4) cx d_X5_read_1 ki_4 ?_
  refine z_putI cx hT_t fp_Plan_9 d_X5_read_2 ?_
  refine z_nmM hF (fun M12 hF => ?_)
  refine z_aload_n cx d_X5_read_5 0 rfl ?_
  refine z_iconst (v := 4) cx d_X5_read_6 ki_4 ?_
  refine z_putI cx hT_t fp_Plan_15 d_X5_read_7 ?_
  refine z_nmM hF (fun M13 hF => ?_)
  refine z_aload_n cx d_X5_read_10 0 rfl ?_
  refine z_iconst (v := 0) cx d_X5_read_11 ki_0 ?_
  refine z_putI cx hT_t fp_Plan_42 d_X5_read_12 ?_
  refine z_nmM hF (fun M14 hF => ?_)
  refine z_iconst (v := 0) cx d_X5_read_15 ki_0 ?_
  refine z_istore_n cx 2 [(2, .int (0 : Int32)), (0, .ref (ad t)), (1, .ref (ad p0))] d_X5_read_16 rfl (by decide) rfl ?_
  exact z_lv [1, 2, 0] _ rfl (hL17 zFuel (0 : Int32) M14 hF)
