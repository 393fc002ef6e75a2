theorem d_J0_coder_7d493_0 : decode cJ0_coder_7d493 0 = .ok (.getstatic 38, 3) := by decide +kernel
theorem d_J0_coder_7d493_3 : decode cJ0_coder_7d493 3 = .ok (.ifCond .eq 10, 3) := by decide +kernel
theorem d_J0_coder_7d493_6 : decode cJ0_coder_7d493 6 = .ok (.aload_n 0, 1) := by decide +kernel
theorem d_J0_coder_7d493_7 : decode cJ0_coder_7d493 7 = .ok (.getfield 15, 3) := by decide +kernel
theorem d_J0_coder_7d493_10 : decode cJ0_coder_7d493 10 = .ok (.goto 4, 3) := by decide +kernel
theorem d_J0_coder_7d493_13 : decode cJ0_coder_7d493 13 = .ok (.iconst 1, 1) := by decide +kernel
theorem d_J0_coder_7d493_14 : decode cJ0_coder_7d493 14 = .ok (.ireturn, 1) := by decide +kernel
theorem d_J0_isLatin1_aae02_0 : decode cJ0_isLatin1_aae02 0 = .ok (.getstatic 38, 3) := by decide +kernel
theorem d_J0_isLatin1_aae02_3 : decode cJ0_isLatin1_aae02 3 = .ok (.ifCond .eq 14, 3) := by decide +kernel
theorem d_J0_isLatin1_aae02_6 : decode cJ0_isLatin1_aae02 6 = .ok (.aload_n 0, 1) := by decide +kernel
theorem d_J0_isLatin1_aae02_7 : decode cJ0_isLatin1_aae02 7 = .ok (.getfield 15, 3) := by decide +kernel
theorem d_J0_isLatin1_aae02_10 : decode cJ0_isLatin1_aae02 10 = .ok (.ifCond .ne 7, 3) := by decide +kernel
theorem d_J0_isLatin1_aae02_13 : decode cJ0_isLatin1_aae02 13 = .ok (.iconst 1, 1) := by decide +kernel
theorem d_J0_isLatin1_aae02_14 : decode cJ0_isLatin1_aae02 14 = .ok (.goto 4, 3) := by decide +kernel
theorem d_J0_isLatin1_aae02_17 : decode cJ0_isLatin1_aae02 17 = .ok (.iconst 0, 1) := by decide +kernel
theorem d_J0_isLatin1_aae02_18 : decode cJ0_isLatin1_aae02 18 = .ok (.ireturn, 1) := by decide +kernel
theorem d_J3_checkIndex_8e157_0 : decode cJ3_checkIndex_8e157 0 = .ok (.iload_n 0, 1) := by decide +kernel
theorem d_J3_checkIndex_8e157_1 : decode cJ3_checkIndex_8e157 1 = .ok (.ifCond .lt 8, 3) := by decide +kernel
theorem d_J3_checkIndex_8e157_4 : decode cJ3_checkIndex_8e157 4 = .ok (.iload_n 0, 1) := by decide +kernel
theorem d_J3_checkIndex_8e157_5 : decode cJ3_checkIndex_8e157 5 = .ok (.iload_n 1, 1) := by decide +kernel
theorem d_J3_checkIndex_8e157_6 : decode cJ3_checkIndex_8e157 6 = .ok (.if_icmp .lt 10, 3) := by decide +kernel
theorem d_J3_checkIndex_8e157_9 : decode cJ3_checkIndex_8e157 9 = .ok (.aload_n 2, 1) := by decide +kernel
theorem d_J3_checkIndex_8e157_10 : decode cJ3_checkIndex_8e157 10 = .ok (.iload_n 0, 1) := by decide +kernel
theorem d_J3_checkIndex_8e157_11 : decode cJ3_checkIndex_8e157 11 = .ok (.iload_n 1, 1) := by decide +kernel
theorem d_J3_checkIndex_8e157_12 : decode cJ3_checkIndex_8e157 12 = .ok (.invokestatic 95, 3) := by decide +kernel
theorem d_J3_checkIndex_8e157_15 : decode cJ3_checkIndex_8e157 15 = .ok (.athrow, 1) := by decide +kernel
theorem d_J3_checkIndex_8e157_16 : decode cJ3_checkIndex_8e157 16 = .ok (.iload_n 0, 1) := by decide +kernel
theorem d_J3_checkIndex_8e157_17 : decode cJ3_checkIndex_8e157 17 = .ok (.ireturn, 1) := by decide +kernel
theorem d_J0_checkIndex_df160_0 : decode cJ0_checkIndex_df160 0 = .ok (.iload_n 0, 1) := by decide +kernel
theorem d_J0_checkIndex_df160_1 : decode cJ0_checkIndex_df160 1 = .ok (.iload_n 1, 1) := by decide +kernel
theorem d_J0_checkIndex_df160_2 : decode cJ0_checkIndex_df160 2 = .ok (.getstatic 1053, 3) := by decide +kernel
theorem d_J0_checkIndex_df160_5 : decode cJ0_checkIndex_df160 5 = .ok (.invokestatic 1059, 3) := by decide +kernel
theorem d_J0_checkIndex_df160_8 : decode cJ0_checkIndex_df160 8 = .ok (.pop, 1) := by decide +kernel
theorem d_J0_checkIndex_df160_9 : decode cJ0_checkIndex_df160 9 = .ok (.return_, 1) := by decide +kernel
theorem d_J1_charAt_3b067_0 : decode cJ1_charAt_3b067 0 = .ok (.iload_n 1, 1) := by decide +kernel
theorem d_J1_charAt_3b067_1 : decode cJ1_charAt_3b067 1 = .ok (.aload_n 0, 1) := by decide +kernel
theorem d_J1_charAt_3b067_2 : decode cJ1_charAt_3b067 2 = .ok (.arraylength, 1) := by decide +kernel
theorem d_J1_charAt_3b067_3 : decode cJ1_charAt_3b067 3 = .ok (.invokestatic 9, 3) := by decide +kernel
theorem d_J1_charAt_3b067_6 : decode cJ1_charAt_3b067 6 = .ok (.aload_n 0, 1) := by decide +kernel
theorem d_J1_charAt_3b067_7 : decode cJ1_charAt_3b067 7 = .ok (.iload_n 1, 1) := by decide +kernel
theorem d_J1_charAt_3b067_8 : decode cJ1_charAt_3b067 8 = .ok (.baload, 1) := by decide +kernel
theorem d_J1_charAt_3b067_9 : decode cJ1_charAt_3b067 9 = .ok (.sipush 255, 3) := by decide +kernel
theorem d_J1_charAt_3b067_12 : decode cJ1_charAt_3b067 12 = .ok (.iand, 1) := by decide +kernel
theorem d_J1_charAt_3b067_13 : decode cJ1_charAt_3b067 13 = .ok (.i2c, 1) := by decide +kernel
theorem d_J1_charAt_3b067_14 : decode cJ1_charAt_3b067 14 = .ok (.ireturn, 1) := by decide +kernel
theorem d_J0_length_8abf5_0 : decode cJ0_length_8abf5 0 = .ok (.aload_n 0, 1) := by decide +kernel
theorem d_J0_length_8abf5_1 : decode cJ0_length_8abf5 1 = .ok (.getfield 9, 3) := by decide +kernel
theorem d_J0_length_8abf5_4 : decode cJ0_length_8abf5 4 = .ok (.arraylength, 1) := by decide +kernel
theorem d_J0_length_8abf5_5 : decode cJ0_length_8abf5 5 = .ok (.aload_n 0, 1) := by decide +kernel
theorem d_J0_length_8abf5_6 : decode cJ0_length_8abf5 6 = .ok (.invokevirtual 335, 3) := by decide +kernel
theorem d_J0_length_8abf5_9 : decode cJ0_length_8abf5 9 = .ok (.ishr, 1) := by decide +kernel
theorem d_J0_length_8abf5_10 : decode cJ0_length_8abf5 10 = .ok (.ireturn, 1) := by decide +kernel
theorem d_J0_charAt_5068e_0 : decode cJ0_charAt_5068e 0 = .ok (.aload_n 0, 1) := by decide +kernel
theorem d_J0_charAt_5068e_1 : decode cJ0_charAt_5068e 1 = .ok (.invokevirtual 492, 3) := by decide +kernel
theorem d_J0_charAt_5068e_4 : decode cJ0_charAt_5068e 4 = .ok (.ifCond .eq 12, 3) := by decide +kernel
theorem d_J0_charAt_5068e_7 : decode cJ0_charAt_5068e 7 = .ok (.aload_n 0, 1) := by decide +kernel
theorem d_J0_charAt_5068e_8 : decode cJ0_charAt_5068e 8 = .ok (.getfield 9, 3) := by decide +kernel
theorem d_J0_charAt_5068e_11 : decode cJ0_charAt_5068e 11 = .ok (.iload_n 1, 1) := by decide +kernel
theorem d_J0_charAt_5068e_12 : decode cJ0_charAt_5068e 12 = .ok (.invokestatic 495, 3) := by decide +kernel
theorem d_J0_charAt_5068e_15 : decode cJ0_charAt_5068e 15 = .ok (.ireturn, 1) := by decide +kernel
theorem d_J0_charAt_5068e_16 : decode cJ0_charAt_5068e 16 = .ok (.aload_n 0, 1) := by decide +kernel
theorem d_J0_charAt_5068e_17 : decode cJ0_charAt_5068e 17 = .ok (.getfield 9, 3) := by decide +kernel
theorem d_J0_charAt_5068e_20 : decode cJ0_charAt_5068e 20 = .ok (.iload_n 1, 1) := by decide +kernel
theorem d_J0_charAt_5068e_21 : decode cJ0_charAt_5068e 21 = .ok (.invokestatic 498, 3) := by decide +kernel
theorem d_J0_charAt_5068e_24 : decode cJ0_charAt_5068e 24 = .ok (.ireturn, 1) := by decide +kernel
set_option maxRecDepth 100000 in
theorem wd_1984 : Cond.fieldLink "java/lang/String" 9 "java/lang/String" "value" "[B" ∈ tbG := tw8 204 rfl rfl
set_option maxRecDepth 100000 in
theorem wd_1985 : Cond.fieldLink "java/lang/String" 15 "java/lang/String" "coder" "B" ∈ tbG := tw8 205 rfl rfl
set_option maxRecDepth 100000 in
theorem wd_647 : Cond.fieldLink "java/lang/String" 38 "java/lang/String" "COMPACT_STRINGS" "Z" ∈ tbG := tw3 67 rfl rfl
set_option maxRecDepth 100000 in
theorem wd_663 : Cond.fieldLink "java/lang/String" 1053 "jdk/internal/util/Preconditions" "SIOOBE_FORMATTER" "Ljava/util/function/BiFunction;" ∈ tbG := tw3 83 rfl rfl
theorem ki_0 : Int32.ofInt (0) = (0 : Int32) := by decide +kernel
theorem ki_1 : Int32.ofInt (1) = (1 : Int32) := by decide +kernel
theorem ks_255 : (Int16.ofInt (255)).toInt32 = (255 : Int32) := by decide +kernel
set_option maxRecDepth 100000 in
theorem wd_665 : Cond.methodLink "java/lang/String" 1059 yJ3_checkIndex_8e157 ∈ tbG := tw3 85 rfl rfl
set_option maxRecDepth 100000 in
theorem wd_666 : Cond.static yJ3_checkIndex_8e157 ∈ tbG := tw3 86 rfl rfl
set_option maxRecDepth 100000 in
theorem wd_119 : Cond.initialized "jdk/internal/util/Preconditions" ∈ tbG := tw1 19 rfl rfl
set_option maxRecDepth 100000 in
theorem wd_667 : Cond.code yJ3_checkIndex_8e157 cJ3_checkIndex_8e157 3 (some .int) ∈ tbG := tw3 87 rfl rfl
set_option maxRecDepth 100000 in
theorem wd_660 : Cond.methodLink "java/lang/StringLatin1" 9 yJ0_checkIndex_df160 ∈ tbG := tw3 80 rfl rfl
set_option maxRecDepth 100000 in
theorem wd_661 : Cond.static yJ0_checkIndex_df160 ∈ tbG := tw3 81 rfl rfl
set_option maxRecDepth 100000 in
theorem wd_117 : Cond.initialized "java/lang/String" ∈ tbG := tw1 17 rfl rfl
set_option maxRecDepth 100000 in
theorem wd_662 : Cond.code yJ0_checkIndex_df160 cJ0_checkIndex_df160 2 none ∈ tbG := tw3 82 rfl rfl
set_option maxRecDepth 100000 in
theorem wd_643 : Cond.methodLink "java/lang/String" 335 yJ0_coder_7d493 ∈ tbG := tw3 63 rfl rfl
set_option maxRecDepth 100000 in
theorem wd_644 : Cond.instanceMethod yJ0_coder_7d493 ∈ tbG := tw3 64 rfl rfl
set_option maxRecDepth 100000 in
theorem wd_645 : Cond.selects "java/lang/String" yJ0_coder_7d493 yJ0_coder_7d493 ∈ tbG := tw3 65 rfl rfl
set_option maxRecDepth 100000 in
theorem wd_646 : Cond.code yJ0_coder_7d493 cJ0_coder_7d493 1 (some .byte) ∈ tbG := tw3 66 rfl rfl
set_option maxRecDepth 100000 in
theorem wd_653 : Cond.methodLink "java/lang/String" 492 yJ0_isLatin1_aae02 ∈ tbG := tw3 73 rfl rfl
set_option maxRecDepth 100000 in
theorem wd_654 : Cond.instanceMethod yJ0_isLatin1_aae02 ∈ tbG := tw3 74 rfl rfl
set_option maxRecDepth 100000 in
theorem wd_655 : Cond.selects "java/lang/String" yJ0_isLatin1_aae02 yJ0_isLatin1_aae02 ∈ tbG := tw3 75 rfl rfl
set_option maxRecDepth 100000 in
theorem wd_656 : Cond.code yJ0_isLatin1_aae02 cJ0_isLatin1_aae02 1 (some .boolean) ∈ tbG := tw3 76 rfl rfl
set_option maxRecDepth 100000 in
theorem wd_657 : Cond.methodLink "java/lang/String" 495 yJ1_charAt_3b067 ∈ tbG := tw3 77 rfl rfl
set_option maxRecDepth 100000 in
theorem wd_658 : Cond.static yJ1_charAt_3b067 ∈ tbG := tw3 78 rfl rfl
set_option maxRecDepth 100000 in
theorem wd_118 : Cond.initialized "java/lang/StringLatin1" ∈ tbG := tw1 18 rfl rfl
set_option maxRecDepth 100000 in
theorem wd_659 : Cond.code yJ1_charAt_3b067 cJ1_charAt_3b067 2 (some .char) ∈ tbG := tw3 79 rfl rfl
def rms (k : Nat) : Room := { frames := k, cells := 0, slots := 0, locals := 40 * k }
set_option maxHeartbeats 4000000 in
set_option maxRecDepth 100000 in
theorem c_str_coder (l : Launch) {G : zG} {sh ad : Nat → Nat} {n : Nat} (hA : zInj ad n) (M : zMem) (i : Nat) (hi : i < 20) : zM l yJ0_coder_7d493 cJ0_coder_7d493 1 (some .byte) (rms 2) G sh ad n M [.ref (zSK G i)] (some (.int 0)) M := by
  refine zM_of hA (by decide +kernel) (lv := [(0, .ref (zSK G i))]) (Nat.le_of_ble_eq_true rfl) rfl (fun p e s m args below meth c A cx hr => ?_)
  refine z_compact cx wd_647 d_J0_coder_7d493_0 ?_
  refine z_if_eq (F1 := none) (F2 := some ()) (res := ()) cx 13 d_J0_coder_7d493_3 (by decide) (by rw [if_neg (by decide)]) (fun h => by cases h) (fun _ => ?_)
  refine z_aload_n cx d_J0_coder_7d493_6 0 rfl ?_
  refine z_scoder cx hi wd_1985 d_J0_coder_7d493_7 ?_
  refine z_goto cx 14 d_J0_coder_7d493_10 (by decide) ?_
  exact z_iret cx hr (by decide +kernel) rfl d_J0_coder_7d493_14
set_option maxHeartbeats 4000000 in
set_option maxRecDepth 100000 in
theorem c_str_isLatin1 (l : Launch) {G : zG} {sh ad : Nat → Nat} {n : Nat} (hA : zInj ad n) (M : zMem) (i : Nat) (hi : i < 20) : zM l yJ0_isLatin1_aae02 cJ0_isLatin1_aae02 1 (some .boolean) (rms 2) G sh ad n M [.ref (zSK G i)] (some (.int 1)) M := by
  refine zM_of hA (by decide +kernel) (lv := [(0, .ref (zSK G i))]) (Nat.le_of_ble_eq_true rfl) rfl (fun p e s m args below meth c A cx hr => ?_)
  refine z_compact cx wd_647 d_J0_isLatin1_aae02_0 ?_
  refine z_if_eq (F1 := none) (F2 := some ()) (res := ()) cx 17 d_J0_isLatin1_aae02_3 (by decide) (by rw [if_neg (by decide)]) (fun h => by cases h) (fun _ => ?_)
  refine z_aload_n cx d_J0_isLatin1_aae02_6 0 rfl ?_
  refine z_scoder cx hi wd_1985 d_J0_isLatin1_aae02_7 ?_
  refine z_if_ne (F1 := none) (F2 := some ()) (res := ()) cx 17 d_J0_isLatin1_aae02_10 (by decide) (by rw [if_pos rfl]) (fun h => by cases h) (fun _ => ?_)
  refine z_iconst (v := 1) cx d_J0_isLatin1_aae02_13 ki_1 ?_
  refine z_goto cx 18 d_J0_isLatin1_aae02_14 (by decide) ?_
  exact z_iret cx hr nb1 rfl d_J0_isLatin1_aae02_18
set_option maxHeartbeats 4000000 in
set_option maxRecDepth 100000 in
theorem c_pre_checkIndex (l : Launch) {G : zG} {sh ad : Nat → Nat} {n : Nat} (hA : zInj ad n) (M : zMem) (a b : Int32) (v : Value) (hv : v.category = 1) (h0 : ¬ a < 0) (h1 : a < b) : zM l yJ3_checkIndex_8e157 cJ3_checkIndex_8e157 3 (some .int) (rms 2) G sh ad n M [.int a, .int b, v] (some (.int a)) M := by
  refine zM_of hA (by decide +kernel) (lv := [(0, .int a), (1, .int b), (2, v)]) (by unfold lg_sl; rw [List.flatMap_cons, List.flatMap_cons, List.flatMap_cons, List.flatMap_nil, if_neg (show ¬ v.category = 2 by omega)]; exact Nat.le_refl 3) (by simp [lv_args, Value.category]) (fun p e s m args below meth c A cx hr => ?_)
  refine z_iload_n cx d_J3_checkIndex_8e157_0 0 rfl ?_
  refine z_if_lt (F1 := none) (F2 := some ()) (res := ()) cx 9 d_J3_checkIndex_8e157_1 (by decide) (by rw [if_neg h0]) (fun h => by cases h) (fun _ => ?_)
  refine z_iload_n cx d_J3_checkIndex_8e157_4 0 rfl ?_
  refine z_iload_n cx d_J3_checkIndex_8e157_5 1 rfl ?_
  refine z_icmp_lt (F1 := some ()) (F2 := none) (res := ()) cx 16 d_J3_checkIndex_8e157_6 (by decide) (by rw [if_pos h1]) (fun _ => ?_) (fun h => by cases h)
  refine z_iload_n cx d_J3_checkIndex_8e157_16 0 rfl ?_
  exact z_iret cx hr rfl rfl d_J3_checkIndex_8e157_17
set_option maxHeartbeats 4000000 in
set_option maxRecDepth 100000 in
theorem c_str_checkIndex (l : Launch) {G : zG} {sh ad : Nat → Nat} {n : Nat} (hA : zInj ad n) (M : zMem) (a b : Int32) (h0 : ¬ a < 0) (h1 : a < b) : zM l yJ0_checkIndex_df160 cJ0_checkIndex_df160 2 none (rms 3) G sh ad n M [.int a, .int b] none M := by
  refine zM_of hA (by decide +kernel) (lv := [(0, .int a), (1, .int b)]) (Nat.le_of_ble_eq_true rfl) rfl (fun p e s m args below meth c A cx hr => ?_)
  refine z_iload_n cx d_J0_checkIndex_df160_0 0 rfl ?_
  refine z_iload_n cx d_J0_checkIndex_df160_1 1 rfl ?_
  refine z_fmt cx wd_663 d_J0_checkIndex_df160_2 (fun v hv => ?_)
  refine z_callS cx (As := [.int a, .int b, v]) (rest := []) (c_pre_checkIndex l cx.2.2.2.1.1 M a b v hv h0 h1) (zCS_of (na := 3) wd_665 wd_666 wd_119 wd_667 (by decide +kernel)) ⟨rfl, rfl, Nat.le_of_ble_eq_true rfl, Nat.le_of_ble_eq_true rfl⟩ rfl rfl ⟨Nat.zero_le _, Nat.zero_le _⟩ (Nat.le_of_ble_eq_true rfl) d_J0_checkIndex_df160_5 ?_
  refine z_pop cx d_J0_checkIndex_df160_8 rfl ?_
  exact z_vret cx hr rfl d_J0_checkIndex_df160_9
/-- the char at a place of a text -/
def zCh (i j : Nat) : Int32 := (((zByt.getD i []).getD j 0 &&& 255).toUInt32 % 65536).toInt32
theorem zCh_nar : ∀ x : Int32, narrow .char (.int (x.toUInt32 % 65536).toInt32) = .int (x.toUInt32 % 65536).toInt32 := pk_nc
theorem zLen31 : ∀ i, i < 20 → zLen.getD i 0 < 2 ^ 31 := by decide +kernel
theorem zlt_of {a : Int32} {N : Nat} (h : vp_in a N) (hN : N < 2 ^ 31) : ¬ a < 0 ∧ a < nI N := by
  obtain ⟨j, hj, rfl⟩ := vp_in_of h hN
  exact ⟨nI_pos (by omega), nI_lt hj hN⟩
set_option maxHeartbeats 4000000 in
set_option maxRecDepth 100000 in
theorem c_lat_charAt (l : Launch) {G : zG} {sh ad : Nat → Nat} {n : Nat} (hA : zInj ad n) (M : zMem) (i : Nat) (hi : i < 20) (a : Int32) (ha : vp_in a (zLen.getD i 0)) : zM l yJ1_charAt_3b067 cJ1_charAt_3b067 2 (some .char) (rms 4) G sh ad n M [.ref (zSV G i), .int a] (some (.int (zCh i a.toNatClampNeg))) M := by
  refine zM_of hA (by decide +kernel) (lv := [(0, .ref (zSV G i)), (1, .int a)]) (Nat.le_of_ble_eq_true rfl) rfl (fun p e s m args below meth c A cx hr => ?_)
  obtain ⟨h0, h1⟩ := zlt_of ha (zLen31 i hi)
  refine z_iload_n cx d_J1_charAt_3b067_0 1 rfl ?_
  refine z_aload_n cx d_J1_charAt_3b067_1 0 rfl ?_
  refine z_slen cx hi d_J1_charAt_3b067_2 ?_
  refine z_callS cx (As := [.int a, .int (nI (zLen.getD i 0))]) (rest := []) (c_str_checkIndex l cx.2.2.2.1.1 M a _ h0 h1) (zCS_of (na := 2) wd_660 wd_661 wd_117 wd_662 (by decide +kernel)) ⟨rfl, rfl, Nat.le_of_ble_eq_true rfl, Nat.le_of_ble_eq_true rfl⟩ rfl rfl ⟨Nat.zero_le _, Nat.zero_le _⟩ (Nat.le_of_ble_eq_true rfl) d_J1_charAt_3b067_3 ?_
  refine z_aload_n cx d_J1_charAt_3b067_6 0 rfl ?_
  refine z_iload_n cx d_J1_charAt_3b067_7 1 rfl ?_
  refine z_sbyte cx hi ha d_J1_charAt_3b067_8 ?_
  refine z_sipush (v := 255) cx d_J1_charAt_3b067_9 ks_255 ?_
  refine z_iand cx d_J1_charAt_3b067_12 ?_
  refine z_i2c cx d_J1_charAt_3b067_13 ?_
  exact z_iret cx hr (zCh_nar _) rfl d_J1_charAt_3b067_14
theorem zshr0 : ∀ i, i < 20 → nI (zLen.getD i 0) >>> ((0 : Int32) &&& 31) = nI (zLen.getD i 0) := by decide +kernel
set_option maxHeartbeats 4000000 in
set_option maxRecDepth 100000 in
theorem c_str_length (l : Launch) {G : zG} {sh ad : Nat → Nat} {n : Nat} (hA : zInj ad n) (M : zMem) (i : Nat) (hi : i < 20) : zM l yJ0_length_8abf5 cJ0_length_8abf5 1 (some .int) (rms 3) G sh ad n M [.ref (zSK G i)] (some (.int (nI (zLen.getD i 0)))) M := by
  refine zM_of hA (by decide +kernel) (lv := [(0, .ref (zSK G i))]) (Nat.le_of_ble_eq_true rfl) rfl (fun p e s m args below meth c A cx hr => ?_)
  refine z_aload_n cx d_J0_length_8abf5_0 0 rfl ?_
  refine z_sval cx hi wd_1984 d_J0_length_8abf5_1 ?_
  refine z_slen cx hi d_J0_length_8abf5_4 ?_
  refine z_aload_n cx d_J0_length_8abf5_5 0 rfl ?_
  refine z_callK cx (As := []) (rest := [.int (nI (zLen.getD i 0))]) (c_str_coder l cx.2.2.2.1.1 M i hi) hi (zCV_of (na := 0) wd_643 wd_644 wd_645 wd_117 wd_646 (by decide +kernel)) ⟨rfl, rfl, Nat.le_of_ble_eq_true rfl, Nat.le_of_ble_eq_true rfl⟩ rfl rfl ⟨Nat.zero_le _, Nat.zero_le _⟩ (Nat.le_of_ble_eq_true rfl) d_J0_length_8abf5_6 ?_
  refine z_ishr cx d_J0_length_8abf5_9 ?_
  exact z_iret cx hr rfl (by rw [show nI (zLen.getD i 0) >>> ((0 : Int32) &&& 31) = nI (zLen.getD i 0) from zshr0 i hi]) d_J0_length_8abf5_10
set_option maxHeartbeats 4000000 in
set_option maxRecDepth 100000 in
theorem c_str_charAt (l : Launch) {G : zG} {sh ad : Nat → Nat} {n : Nat} (hA : zInj ad n) (M : zMem) (i : Nat) (hi : i < 20) (a : Int32) (ha : vp_in a (zLen.getD i 0)) : zM l yJ0_charAt_5068e cJ0_charAt_5068e 2 (some .char) (rms 5) G sh ad n M [.ref (zSK G i), .int a] (some (.int (zCh i a.toNatClampNeg))) M := by
  refine zM_of hA (by decide +kernel) (lv := [(0, .ref (zSK G i)), (1, .int a)]) (Nat.le_of_ble_eq_true rfl) rfl (fun p e s m args below meth c A cx hr => ?_)
  refine z_aload_n cx d_J0_charAt_5068e_0 0 rfl ?_
  refine z_callK cx (As := []) (rest := []) (c_str_isLatin1 l cx.2.2.2.1.1 M i hi) hi (zCV_of (na := 0) wd_653 wd_654 wd_655 wd_117 wd_656 (by decide +kernel)) ⟨rfl, rfl, Nat.le_of_ble_eq_true rfl, Nat.le_of_ble_eq_true rfl⟩ rfl rfl ⟨Nat.zero_le _, Nat.zero_le _⟩ (Nat.le_of_ble_eq_true rfl) d_J0_charAt_5068e_1 ?_
  refine z_if_eq (F1 := none) (F2 := some ()) (res := ()) cx 16 d_J0_charAt_5068e_4 (by decide) (by rw [if_neg (by decide)]) (fun h => by cases h) (fun _ => ?_)
  refine z_aload_n cx d_J0_charAt_5068e_7 0 rfl ?_
  refine z_sval cx hi wd_1984 d_J0_charAt_5068e_8 ?_
  refine z_iload_n cx d_J0_charAt_5068e_11 1 rfl ?_
  refine z_callS cx (As := [.ref (zSV G i), .int a]) (rest := []) (c_lat_charAt l cx.2.2.2.1.1 M i hi a ha) (zCS_of (na := 2) wd_657 wd_658 wd_118 wd_659 (by decide +kernel)) ⟨rfl, rfl, Nat.le_of_ble_eq_true rfl, Nat.le_of_ble_eq_true rfl⟩ rfl rfl ⟨Nat.zero_le _, Nat.zero_le _⟩ (Nat.le_of_ble_eq_true rfl) d_J0_charAt_5068e_12 ?_
  exact z_iret cx hr (zCh_nar _) rfl d_J0_charAt_5068e_15
