/-! facts of this claim: shapes, words by their places, fields, calls -/
theorem zUW (ws : List Cond) (ps : List Nat) (hp : ws = ps.filterMap (fun i => lw_tbl[i]?)) (h : ws.all goodWord = true) : ∀ w ∈ ws, w ∈ tbG := by
  intro w hw
  obtain ⟨h1, -⟩ := goodIn_r (big := lw_tbl) ws ps hp h w hw
  exact List.mem_filter.mpr ⟨h1, List.all_eq_true.mp h w hw⟩
theorem zne {x : Int32} (h : (!(x == 0)) = true) : ¬ x = 0 := by
  intro q
  subst q
  exact absurd h (by decide)
theorem shX_out {k : Nat} (h : 462 ≤ k) : shX k = 0 := by
  unfold shX
  rw [List.getD_eq_getElem?_getD, List.getElem?_eq_none (show shXl.length ≤ k from Nat.le_trans (by decide +kernel) h)]
  rfl
theorem shM_out {k : Nat} (h : 540 ≤ k) : shM k = 0 := by
  unfold shM
  rw [List.getD_eq_getElem?_getD, List.getElem?_eq_none (show shMl.length ≤ k from Nat.le_trans (by decide +kernel) h)]
  rfl
def zChk (c : Nat) (p : List Nat → Bool) : List Nat → Bool
  | [] => true
  | a :: t => (a != c || p (a :: t)) && zChk c p t
theorem zChk_at {c : Nat} {p : List Nat → Bool} : ∀ (L : List Nat), zChk c p L = true → ∀ k, k < L.length → L.getD k 0 = c → p (L.drop k) = true
  | [], _, k, hk, _ => absurd hk (Nat.not_lt_zero k)
  | a :: t, h, 0, _, hc => by
    have h1 := (Bool.and_eq_true _ _).mp h
    have hc2 : a = c := hc
    have h2 := h1.1
    rw [hc2] at h2 ⊢
    simpa using h2
  | a :: t, h, k + 1, hk, hc => by
    have h1 := (Bool.and_eq_true _ _).mp h
    exact zChk_at t h1.2 k (Nat.lt_of_succ_lt_succ hk) hc
theorem zDropD (L : List Nat) (k o : Nat) : (L.drop k).getD o 0 = L.getD (k + o) 0 := by
  rw [List.getD_eq_getElem?_getD, List.getD_eq_getElem?_getD, List.getElem?_drop]
theorem shX_p {c : Nat} {p : List Nat → Bool} (hc : ¬ c = 0) (h : zChk c p shXl = true) (k : Nat) (hk : shX k = c) : p (shXl.drop k) = true := by
  by_cases hl : k < 462
  · exact zChk_at shXl h k (Nat.lt_of_lt_of_le hl (Nat.le_of_eq (by decide +kernel))) hk
  · exact absurd (hk.symm.trans (shX_out (by omega))) hc
theorem shM_p {c : Nat} {p : List Nat → Bool} (hc : ¬ c = 0) (h : zChk c p shMl = true) (k : Nat) (hk : shM k = c) : p (shMl.drop k) = true := by
  by_cases hl : k < 540
  · exact zChk_at shMl h k (Nat.lt_of_lt_of_le hl (Nat.le_of_eq (by decide +kernel))) hk
  · exact absurd (hk.symm.trans (shM_out (by omega))) hc
theorem shX_f {c o d : Nat} (hc : ¬ c = 0) (h : zChk c (fun L => L.getD o 0 == d) shXl = true) : ∀ k, shX k = c → shX (k + o) = d := fun k hk => (zDropD shXl k o).symm.trans (eq_of_beq (shX_p hc h k hk))
theorem shM_f {c o d : Nat} (hc : ¬ c = 0) (h : zChk c (fun L => L.getD o 0 == d) shMl = true) : ∀ k, shM k = c → shM (k + o) = d := fun k hk => (zDropD shMl k o).symm.trans (eq_of_beq (shM_p hc h k hk))
theorem shX_e {c o t d len : Nat} (hc : ¬ c = 0) (h : zChk c (fun L => (List.range len).all (fun j => L.getD (o + t * j) 0 == d)) shXl = true) : ∀ k, shX k = c → ∀ j, j < len → shX (k + (o + t * j)) = d := fun k hk j hj => (zDropD shXl k _).symm.trans (eq_of_beq (List.all_eq_true.mp (shX_p hc h k hk) j (List.mem_range.mpr hj)))
theorem shM_e {c o t d len : Nat} (hc : ¬ c = 0) (h : zChk c (fun L => (List.range len).all (fun j => L.getD (o + t * j) 0 == d)) shMl = true) : ∀ k, shM k = c → ∀ j, j < len → shM (k + (o + t * j)) = d := fun k hk j hj => (zDropD shMl k _).symm.trans (eq_of_beq (List.all_eq_true.mp (shM_p hc h k hk) j (List.mem_range.mpr hj)))
theorem shX_b {c n : Nat} (hc : ¬ c = 0) (h : zChk c (fun L => decide (zB c + 1 ≤ L.length)) shXl = true) (hz : 0 < zB c) (hn : 0 + zB 10 ≤ n) : ∀ k, shX k = c → k + zB c ≤ n := by
  intro k hk
  have hn2 : 461 ≤ n := by
    have e : zB 10 = 461 := rfl
    omega
  have h2 := of_decide_eq_true (shX_p hc h k hk)
  rw [List.length_drop] at h2
  have e : shXl.length = 462 := by decide +kernel
  omega
theorem tw1 {w : Cond} (i : Nat) (h : tables_1_1[i]? = some w) (hg : goodWord w = true) : w ∈ tbG := List.mem_filter.mpr ⟨List.mem_append_right _ (List.mem_append_left _ (List.mem_of_getElem? h)), hg⟩
theorem twn1 {w : Cond} (i : Nat) (h : tables_1_1[i]? = some w) (hg : zNW w = true) : w ∈ tbN := List.mem_filter.mpr ⟨List.mem_append_right _ (List.mem_append_left _ (List.mem_of_getElem? h)), hg⟩
theorem tw2 {w : Cond} (i : Nat) (h : tables_1_2[i]? = some w) (hg : goodWord w = true) : w ∈ tbG := List.mem_filter.mpr ⟨List.mem_append_right _ (List.mem_append_right _ (List.mem_append_left _ (List.mem_of_getElem? h))), hg⟩
theorem twn2 {w : Cond} (i : Nat) (h : tables_1_2[i]? = some w) (hg : zNW w = true) : w ∈ tbN := List.mem_filter.mpr ⟨List.mem_append_right _ (List.mem_append_right _ (List.mem_append_left _ (List.mem_of_getElem? h))), hg⟩
theorem tw3 {w : Cond} (i : Nat) (h : tables_1_3[i]? = some w) (hg : goodWord w = true) : w ∈ tbG := List.mem_filter.mpr ⟨List.mem_append_right _ (List.mem_append_right _ (List.mem_append_right _ (List.mem_append_left _ (List.mem_of_getElem? h)))), hg⟩
theorem twn3 {w : Cond} (i : Nat) (h : tables_1_3[i]? = some w) (hg : zNW w = true) : w ∈ tbN := List.mem_filter.mpr ⟨List.mem_append_right _ (List.mem_append_right _ (List.mem_append_right _ (List.mem_append_left _ (List.mem_of_getElem? h)))), hg⟩
theorem tw4 {w : Cond} (i : Nat) (h : tables_1_4[i]? = some w) (hg : goodWord w = true) : w ∈ tbG := List.mem_filter.mpr ⟨List.mem_append_right _ (List.mem_append_right _ (List.mem_append_right _ (List.mem_append_right _ (List.mem_append_left _ (List.mem_of_getElem? h))))), hg⟩
theorem twn4 {w : Cond} (i : Nat) (h : tables_1_4[i]? = some w) (hg : zNW w = true) : w ∈ tbN := List.mem_filter.mpr ⟨List.mem_append_right _ (List.mem_append_right _ (List.mem_append_right _ (List.mem_append_right _ (List.mem_append_left _ (List.mem_of_getElem? h))))), hg⟩
theorem tw5 {w : Cond} (i : Nat) (h : tables_1_5[i]? = some w) (hg : goodWord w = true) : w ∈ tbG := List.mem_filter.mpr ⟨List.mem_append_right _ (List.mem_append_right _ (List.mem_append_right _ (List.mem_append_right _ (List.mem_append_right _ (List.mem_append_left _ (List.mem_of_getElem? h)))))), hg⟩
theorem twn5 {w : Cond} (i : Nat) (h : tables_1_5[i]? = some w) (hg : zNW w = true) : w ∈ tbN := List.mem_filter.mpr ⟨List.mem_append_right _ (List.mem_append_right _ (List.mem_append_right _ (List.mem_append_right _ (List.mem_append_right _ (List.mem_append_left _ (List.mem_of_getElem? h)))))), hg⟩
theorem tw6 {w : Cond} (i : Nat) (h : tables_1_6[i]? = some w) (hg : goodWord w = true) : w ∈ tbG := List.mem_filter.mpr ⟨List.mem_append_right _ (List.mem_append_right _ (List.mem_append_right _ (List.mem_append_right _ (List.mem_append_right _ (List.mem_append_right _ (List.mem_append_left _ (List.mem_of_getElem? h))))))), hg⟩
theorem twn6 {w : Cond} (i : Nat) (h : tables_1_6[i]? = some w) (hg : zNW w = true) : w ∈ tbN := List.mem_filter.mpr ⟨List.mem_append_right _ (List.mem_append_right _ (List.mem_append_right _ (List.mem_append_right _ (List.mem_append_right _ (List.mem_append_right _ (List.mem_append_left _ (List.mem_of_getElem? h))))))), hg⟩
theorem tw7 {w : Cond} (i : Nat) (h : tables_1_7[i]? = some w) (hg : goodWord w = true) : w ∈ tbG := List.mem_filter.mpr ⟨List.mem_append_right _ (List.mem_append_right _ (List.mem_append_right _ (List.mem_append_right _ (List.mem_append_right _ (List.mem_append_right _ (List.mem_append_right _ (List.mem_append_left _ (List.mem_of_getElem? h)))))))), hg⟩
theorem twn7 {w : Cond} (i : Nat) (h : tables_1_7[i]? = some w) (hg : zNW w = true) : w ∈ tbN := List.mem_filter.mpr ⟨List.mem_append_right _ (List.mem_append_right _ (List.mem_append_right _ (List.mem_append_right _ (List.mem_append_right _ (List.mem_append_right _ (List.mem_append_right _ (List.mem_append_left _ (List.mem_of_getElem? h)))))))), hg⟩
theorem tw8 {w : Cond} (i : Nat) (h : tables_1_8[i]? = some w) (hg : goodWord w = true) : w ∈ tbG := List.mem_filter.mpr ⟨List.mem_append_right _ (List.mem_append_right _ (List.mem_append_right _ (List.mem_append_right _ (List.mem_append_right _ (List.mem_append_right _ (List.mem_append_right _ (List.mem_append_right _ ((List.mem_of_getElem? h))))))))), hg⟩
theorem twn8 {w : Cond} (i : Nat) (h : tables_1_8[i]? = some w) (hg : zNW w = true) : w ∈ tbN := List.mem_filter.mpr ⟨List.mem_append_right _ (List.mem_append_right _ (List.mem_append_right _ (List.mem_append_right _ (List.mem_append_right _ (List.mem_append_right _ (List.mem_append_right _ (List.mem_append_right _ ((List.mem_of_getElem? h))))))))), hg⟩
/-! the words of the two throws -/
def zThW (ik ic : Nat) (E : String) : List Cond := Cond.classLink "SunnyPans" ik E :: Cond.initialized E :: vx_atS "SunnyPans" ic E ["java/lang/RuntimeException", "java/lang/Exception"]
theorem zTh_of {L : List Cond} (h : (L.all fun w => decide (w ∈ lw_tbl) && (goodWord w || zNW w)) = true) : ∀ w ∈ L, (goodWord w = true ∧ w ∈ tbG) ∨ (w ∈ tbN ∧ w.onTables = true) := by
  intro w hw
  have h1 := List.all_eq_true.mp h w hw
  simp only [Bool.and_eq_true, decide_eq_true_eq, Bool.or_eq_true] at h1
  rcases h1.2 with q | q
  · exact Or.inl ⟨q, List.mem_filter.mpr ⟨h1.1, q⟩⟩
  · exact Or.inr ⟨List.mem_filter.mpr ⟨h1.1, q⟩, by cases w <;> first | rfl | exact absurd q (by simp [zNW])⟩
theorem zThI : ∀ w ∈ zThW 416 420 (zEx 1), (goodWord w = true ∧ w ∈ tbG) ∨ (w ∈ tbN ∧ w.onTables = true) := zTh_of (by decide +kernel)
def zThX : List Cond := Cond.classLink "SunnyPans" 429 (zEx 2) :: Cond.initialized (zEx 2) :: zAtX "SunnyPans" 433 (zEx 2) 13 prog_28_method_4_code ["java/lang/RuntimeException", "java/lang/Exception"]
theorem zThN : ∀ w ∈ zThX, (goodWord w = true ∧ w ∈ tbG) ∨ (w ∈ tbN ∧ w.onTables = true) := zTh_of (by decide +kernel)
theorem zThI2 : ∀ w ∈ zThW 416 420 (zEx 1), vx_ot w = true := List.all_eq_true.mp (by decide +kernel)
theorem zThN2 : ∀ w ∈ zThX, vx_ot w = true := List.all_eq_true.mp (by decide +kernel)
/-! rooms of recursive methods; throws that go on -/
def zRmS (rr : Room) : Room := { frames := rr.frames + 20, cells := 0, slots := 0, locals := rr.locals + 500 }
def zRmG : Nat → Room
  | 0 => { frames := 0, cells := 0, slots := 0, locals := 0 }
  | d + 1 => zRmS (zRmG d)
theorem zRmG_0 : ∀ d, (zRmG d).cells = 0 ∧ (zRmG d).slots = 0
  | 0 => ⟨rfl, rfl⟩
  | _ + 1 => ⟨rfl, rfl⟩
theorem zRmS_r {rr : Room} {maxL : Nat} (h : rr.cells = 0 ∧ rr.slots = 0) (hm : maxL ≤ 100) : zRm rr (zRmS rr) maxL := ⟨h.1, h.2, by show rr.frames + 1 ≤ rr.frames + 20; omega, by show 8 + (maxL + 11) + rr.locals ≤ rr.locals + 500; omega⟩
theorem zRmS_c {rm rr : Room} {maxL : Nat} (h1 : rm.cells = 0) (h2 : rm.slots = 0) (h3 : rm.frames + 1 ≤ 20) (h4 : 8 + (maxL + 11) + rm.locals ≤ 500) : zRm rm (zRmS rr) maxL := ⟨h1, h2, by show rm.frames + 1 ≤ rr.frames + 20; omega, by show 8 + (maxL + 11) + rm.locals ≤ rr.locals + 500; omega⟩
theorem zxp_inv {k k9 : Nat} {M M9 : zMem} {r9 : Int32} (h : zxp k M = some (k9, r9, M9)) : k = k9 ∧ M = M9 := by
  unfold zxp at h
  cases h
  exact ⟨rfl, rfl⟩

