/-! THE LAW: its loop -/
theorem dL_law__23 : decode code 23 = .ok (.iload 4, 2) := by decide +kernel
theorem dL_law__25 : decode code 25 = .ok (.aload_n 0, 1) := by decide +kernel
theorem dL_law__26 : decode code 26 = .ok (.arraylength, 1) := by decide +kernel
theorem dL_law__27 : decode code 27 = .ok (.bipush 9, 2) := by decide +kernel
theorem dL_law__29 : decode code 29 = .ok (.isub, 1) := by decide +kernel
theorem dL_law__30 : decode code 30 = .ok (.if_icmp .gt 2741, 3) := by decide +kernel
theorem dL_law__33 : decode code 33 = .ok (.aload_n 0, 1) := by decide +kernel
theorem dL_law__34 : decode code 34 = .ok (.iload 4, 2) := by decide +kernel
theorem dL_law__36 : decode code 36 = .ok (.iaload, 1) := by decide +kernel
theorem dL_law__37 : decode code 37 = .ok (.bipush 63, 2) := by decide +kernel
theorem dL_law__39 : decode code 39 = .ok (.iand, 1) := by decide +kernel
theorem dL_law__40 : decode code 40 = .ok (.tableswitch 2725 0 39 #[176, 249, 305, 361, 417, 473, 486, 499, 555, 635, 703, 771, 851, 997, 1065, 1133, 1189, 1257, 1325, 1381, 1473, 1541, 1609, 1701, 1757, 1813, 1893, 1973, 2041, 2109, 2165, 2221, 2289, 2369, 2425, 2517, 2649, 2662, 2675, 2700], 176) := by decide +kernel
theorem dL_law__2765 : decode code 2765 = .ok (.iinc 4 9, 3) := by decide +kernel
theorem dL_law__2768 : decode code 2768 = .ok (.goto (-2745), 3) := by decide +kernel
theorem dL_law__2771 : decode code 2771 = .ok (.iconst 1, 1) := by decide +kernel
theorem dL_law__2772 : decode code 2772 = .ok (.ireturn, 1) := by decide +kernel
def lwT (k : Nat) : Nat := [216, 289, 345, 401, 457, 513, 526, 539, 595, 675, 743, 811, 891, 1037, 1105, 1173, 1229, 1297, 1365, 1421, 1513, 1581, 1649, 1741, 1797, 1853, 1933, 2013, 2081, 2149, 2205, 2261, 2329, 2409, 2465, 2557, 2689, 2702, 2715, 2740].getD k 0
set_option maxRecDepth 100000 in
theorem lc_all {p : Program} {l : Launch} {e : Env} {s : State} {m : MethodId} {below : List Frame} {meth : Method} {c : Code} {G : zG} {b L i cells slots : Nat} {xs : Nat → Int32} {Q : State → Prop} (C : LW9 p l s m meth c G b L xs) (hi : i + 9 ≤ L) (hcell : cells + 4 ≤ room_1.cells ∧ slots + 24 ≤ room_1.slots) (kk : LK9 p l e s m below meth c G b i Q cells slots) : ∀ k, k < 40 → LC9 p l e s m below meth c G b i Q cells slots (lwT k) := fun k hk => match k, hk with
  | 0, _ => lc_feed C hi hcell kk
  | 1, _ => lc_works C hi hcell kk
  | 2, _ => lc_law C hi hcell kk
  | 3, _ => lc_work C hi hcell kk
  | 4, _ => lc_book C hi hcell kk
  | 5, _ => lc_fault C hi hcell kk
  | 6, _ => lc_undo C hi hcell kk
  | 7, _ => lc_told C hi hcell kk
  | 8, _ => lc_pan C hi hcell kk
  | 9, _ => lc_hour C hi hcell kk
  | 10, _ => lc_shade C hi hcell kk
  | 11, _ => lc_dries C hi hcell kk
  | 12, _ => lc_would C hi hcell kk
  | 13, _ => lc_ahead C hi hcell kk
  | 14, _ => lc_drying C hi hcell kk
  | 15, _ => lc_first C hi hcell kk
  | 16, _ => lc_site C hi hcell kk
  | 17, _ => lc_pair C hi hcell kk
  | 18, _ => lc_relief C hi hcell kk
  | 19, _ => lc_way C hi hcell kk
  | 20, _ => lc_fits C hi hcell kk
  | 21, _ => lc_look C hi hcell kk
  | 22, _ => lc_water C hi hcell kk
  | 23, _ => lc_strongest C hi hcell kk
  | 24, _ => lc_greatest C hi hcell kk
  | 25, _ => lc_cast C hi hcell kk
  | 26, _ => lc_ready C hi hcell kk
  | 27, _ => lc_line C hi hcell kk
  | 28, _ => lc_dryland C hi hcell kk
  | 29, _ => lc_mounds C hi hcell kk
  | 30, _ => lc_loss C hi hcell kk
  | 31, _ => lc_nearest C hi hcell kk
  | 32, _ => lc_poured C hi hcell kk
  | 33, _ => lc_noon C hi hcell kk
  | 34, _ => lc_summer C hi hcell kk
  | 35, _ => lc_span C hi hcell kk
  | 36, _ => lc_image C hi hcell kk
  | 37, _ => lc_restore C hi hcell kk
  | 38, _ => lc_status C hi hcell kk
  | 39, _ => lc_count C hi hcell kk
  | k + 40, h => absurd h (by omega)
theorem lwOff : ∀ k, k < 40 → (#[176, 249, 305, 361, 417, 473, 486, 499, 555, 635, 703, 771, 851, 997, 1065, 1133, 1189, 1257, 1325, 1381, 1473, 1541, 1609, 1701, 1757, 1813, 1893, 1973, 2041, 2109, 2165, 2221, 2289, 2369, 2425, 2517, 2649, 2662, 2675, 2700] : Array Int)[((nI k).toInt - 0).toNat]? = some ((lwT k : Int) - 40) := by decide +kernel
theorem and63 (a : Int32) : (a &&& (63 : Int32)) = nI (a.toBitVec.toNat % 64) := by
  apply Int32.toBitVec_inj.mp
  rw [Int32.toBitVec_and]
  apply BitVec.eq_of_toNat_eq
  have h1 : a.toBitVec.toNat % 64 < 64 := Nat.mod_lt _ (by decide)
  show (a.toBitVec &&& 63#32).toNat = (BitVec.ofNat 32 (a.toBitVec.toNat % 64)).toNat
  rw [BitVec.toNat_and, BitVec.toNat_ofNat, BitVec.toNat_ofNat, Nat.mod_eq_of_lt (show a.toBitVec.toNat % 64 < 2 ^ 32 by omega), Nat.mod_eq_of_lt (show 63 < 2 ^ 32 by decide), show (63 : Nat) = 2 ^ 6 - 1 from rfl, Nat.and_two_pow_sub_one_eq_mod]
theorem lwMinus {L i : Nat} (hL : L ≤ 4608) (hi : i ≤ 4608) (h : L < i + 9) : nI L - nI 9 < nI i := by
  by_cases c : 9 ≤ L
  · rw [pk_sub c]
    exact (nI_ltI (by omega) (by omega)).mpr (by omega)
  · have h1 : ∀ L, L < 9 → (nI L - nI 9).toInt < 0 := by decide +kernel
    rw [fa_lt, nI_toInt (by omega)]
    have := h1 L (by omega)
    omega
set_option maxRecDepth 100000 in
/-- the law's loop, from its head -/
theorem law_loop {p : Program} {l : Launch} {e : Env} {s : State} {m : MethodId} {below : List Frame} {meth : Method} {c : Code} {G : zG} {b L : Nat} {xs : Nat → Int32} {Q : State → Prop} (C : LW9 p l s m meth c G b L xs) (fin : ∀ (H : Heap) (locs : List Loc) (ls : Array Slot), va_S (fun q => s.heap.size ≤ q) s.heap H locs → W p l e room_1 s m #[Value.ref b] below meth c H locs 601024 7293034 Q (F0 m 2772 ls [.int 1])) :
    ∀ (n t : Nat), L < 9 * (t + n) → t ≤ 512 → ∀ Mx Mm v S, RXo Mx S → RMn Mm S → okS S → lJ (LPw G s.heap.size Mx Mm v) p l e room_1 s m #[Value.ref b] below meth c (fun q => s.heap.size ≤ q) 7 Q (1002 + 4 * t) (38173 + 24 * t) 23 (lvL b s.heap.size (9 * t)) [] := by
  intro n
  induction n with
  | zero =>
    intro t hn ht Mx Mm v S hXo hMn ok
    have C2 := C
    obtain ⟨cx, hX, hbl, hL, hl, hN⟩ := C2
    have hbA : ¬ (fun q => s.heap.size ≤ q) b := Nat.not_le.mpr hbl
    refine l_iload cx dL_law__23 4 rfl ?_
    refine l_aload_n cx dL_law__25 0 rfl ?_
    refine l_slen cx hX hbl hbA dL_law__26 ?_
    refine l_bipush (v := nI 9) cx dL_law__27 (by decide) ?_
    refine l_isub cx dL_law__29 ?_
    refine l_icmp_gt cx 2771 dL_law__30 (by decide) (fun _ => ?_) (fun h => absurd (lwMinus hL (by omega) (by omega)) h)
    refine l_iconst (v := 1) cx dL_law__2771 (by decide) ?_
    exact fun H locs ls hP hS hl2 => W.widen (show 1002 + 4 * t ≤ 601024 by omega) (show 38173 + 24 * t ≤ 7293034 by omega) (fin H locs ls hS)
  | succ n ih =>
    intro t hn ht Mx Mm v S hXo hMn ok
    have C2 := C
    obtain ⟨cx, hX, hbl, hL, hl, hN⟩ := C2
    have hbA : ¬ (fun q => s.heap.size ≤ q) b := Nat.not_le.mpr hbl
    have hroom : room_1.cells = 601024 ∧ room_1.slots = 7293034 := ⟨rfl, rfl⟩
    refine l_iload cx dL_law__23 4 rfl ?_
    refine l_aload_n cx dL_law__25 0 rfl ?_
    refine l_slen cx hX hbl hbA dL_law__26 ?_
    refine l_bipush (v := nI 9) cx dL_law__27 (by decide) ?_
    refine l_isub cx dL_law__29 ?_
    refine l_icmp_gt cx 2771 dL_law__30 (by decide) (fun _ => ?_) (fun h => ?_)
    · refine l_iconst (v := 1) cx dL_law__2771 (by decide) ?_
      exact fun H locs ls hP hS hl2 => W.widen (show 1002 + 4 * t ≤ 601024 by omega) (show 38173 + 24 * t ≤ 7293034 by omega) (fin H locs ls hS)
    · have hi : 9 * t + 9 ≤ L := by
        refine Classical.byContradiction (fun w => h ?_)
        exact lwMinus hL (by omega) (by omega)
      have kk : LK9 p l e s m below meth c G b (9 * t) Q (1002 + 4 * t) (38173 + 24 * t) := by
        intro Mx1 Mm1 v1 S1 h1 h2 h3
        refine l_iinc cx 4 (nI 9) [(4, .int (nI (9 * t) + nI 9)), (0, .ref b), (1, .ref (adX s.heap.size 0)), (2, .ref (adM s.heap.size 0)), (3, .ref (aoL s.heap.size))] dL_law__2765 4 rfl (by decide) (by decide) rfl ?_
        refine l_goto cx 23 dL_law__2768 (by decide) ?_
        rw [nI_add]
        refine l_sub [1, 2, 3, 4, 0] rfl ?_
        have hnext := ih (t + 1) (by omega) (by omega) Mx1 Mm1 v1 S1 h1 h2 h3
        exact hnext
      have hcell : 1002 + 4 * t + 4 ≤ room_1.cells ∧ 38173 + 24 * t + 24 ≤ room_1.slots := by rw [hroom.1, hroom.2]; omega
      refine l_aload_n cx dL_law__33 0 rfl ?_
      refine l_iload cx dL_law__34 4 rfl ?_
      refine l_sld cx hX hbl hbA (zvp ?_) dL_law__36 ?_
      · rw [nI_clamp (by omega)]
        exact decide_eq_true ⟨nI_pos' (by omega), by omega⟩
      · rw [nI_clamp (by omega)]
        refine l_bipush (v := 63) cx dL_law__37 (by decide) ?_
        refine l_iand cx dL_law__39 ?_
        rw [and63]
        have hk64 : (xs (9 * t)).toBitVec.toNat % 64 < 64 := Nat.mod_lt _ (by decide)
        generalize (xs (9 * t)).toBitVec.toNat % 64 = k at hk64 ⊢
        have ek : (nI k).toInt = (k : Int) := nI_toInt (by omega)
        by_cases hk : k < 40
        · refine l_tableIn cx (lwT k) dL_law__40 (by rw [ek]; omega) (by rw [ek]; omega) (lwOff k hk) (by omega) ?_
          exact lc_all C hi hcell kk k hk Mx Mm v S hXo hMn ok
        · refine l_tableOut cx 2765 dL_law__40 (Or.inr (by rw [ek]; omega)) (by decide) ?_
          exact l_widen (Nat.le_add_right _ 4) (Nat.le_add_right _ 24) (kk Mx Mm v S hXo hMn ok)
