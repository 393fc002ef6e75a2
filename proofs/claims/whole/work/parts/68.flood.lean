/-! the dry land about a place: way, dryland -/
def adjJ (p j q : Nat) : Bool := if j = 0 then decide (q = p + 8) else if j = 1 then decide (0 < p % 8 ∧ q + 1 = p) else if j = 2 then decide (q + 8 = p) else decide (p % 8 < 7 ∧ q = p + 1)
def adj (p q : Nat) : Bool := anyN (fun j => adjJ p j q) 4
def opP (e : PL) (u : Nat → Nat) (q : Nat) : Bool := inW e q && decide (u q = 0)
def stR (o R : Nat → Bool) (q : Nat) : Bool := o q && (R q || ((decide (q % 8 < 7) && R (q + 1)) || ((decide (0 < q % 8) && R (q - 1)) || ((decide (q < 56) && R (q + 8)) || (decide (8 ≤ q) && R (q - 8))))))
def RR (o : Nat → Bool) (s : Nat) : Nat → Nat → Bool
  | 0 => fun q => decide (q = s) && o q
  | k + 1 => stR o (RR o s k)
theorem adj_iff {p q : Nat} : adj p q = true ↔ q = p + 8 ∨ (0 < p % 8 ∧ q + 1 = p) ∨ q + 8 = p ∨ (p % 8 < 7 ∧ q = p + 1) := by
  show (((((false || adjJ p 0 q) || adjJ p 1 q) || adjJ p 2 q) || adjJ p 3 q)) = true ↔ _
  rw [Bool.false_or, show adjJ p 0 q = decide (q = p + 8) from rfl, show adjJ p 1 q = decide (0 < p % 8 ∧ q + 1 = p) from rfl, show adjJ p 2 q = decide (q + 8 = p) from rfl, show adjJ p 3 q = decide (p % 8 < 7 ∧ q = p + 1) from rfl]
  simp only [Bool.or_eq_true, decide_eq_true_eq, or_assoc]
theorem stR_iff {o R : Nat → Bool} {q : Nat} (hq : q < 64) : stR o R q = true ↔ o q = true ∧ (R q = true ∨ ∃ p, p < 64 ∧ adj p q = true ∧ R p = true) := by
  unfold stR
  simp only [Bool.and_eq_true, Bool.or_eq_true, decide_eq_true_eq]
  constructor
  · rintro ⟨h1, h2 | h2 | h2 | h2 | h2⟩
    · exact ⟨h1, Or.inl h2⟩
    · exact ⟨h1, Or.inr ⟨q + 1, by omega, adj_iff.mpr (by omega), h2.2⟩⟩
    · exact ⟨h1, Or.inr ⟨q - 1, by omega, adj_iff.mpr (by omega), h2.2⟩⟩
    · exact ⟨h1, Or.inr ⟨q + 8, by omega, adj_iff.mpr (by omega), h2.2⟩⟩
    · exact ⟨h1, Or.inr ⟨q - 8, by omega, adj_iff.mpr (by omega), h2.2⟩⟩
  · rintro ⟨h1, h2 | ⟨p, h2, h3, h4⟩⟩
    · exact ⟨h1, Or.inl h2⟩
    · refine ⟨h1, Or.inr ?_⟩
      rcases adj_iff.mp h3 with h5 | h5 | h5 | h5
      · exact Or.inr (Or.inr (Or.inr ⟨by omega, by rw [show q - 8 = p by omega]; exact h4⟩))
      · exact Or.inl ⟨by omega, by rw [show q + 1 = p by omega]; exact h4⟩
      · exact Or.inr (Or.inr (Or.inl ⟨by omega, by rw [show q + 8 = p by omega]; exact h4⟩))
      · exact Or.inr (Or.inl ⟨by omega, by rw [show q - 1 = p by omega]; exact h4⟩)
theorem RR_o {o : Nat → Bool} {s q : Nat} : ∀ k, RR o s k q = true → o q = true
  | 0, h => by
    have h' : (decide (q = s) && o q) = true := h
    rw [Bool.and_eq_true] at h'
    exact h'.2
  | k + 1, h => by
    have h' : stR o (RR o s k) q = true := h
    unfold stR at h'
    rw [Bool.and_eq_true] at h'
    exact h'.1
theorem RR_m {o : Nat → Bool} {s q k : Nat} (hq : q < 64) (h : RR o s k q = true) : ∀ j, k ≤ j → RR o s j q = true
  | 0, hj => by
    have c : k = 0 := by omega
    rw [c] at h
    exact h
  | j + 1, hj => by
    by_cases c : k = j + 1
    · rw [← c]; exact h
    · exact (stR_iff hq).mpr ⟨RR_o k h, Or.inl (RR_m hq h j (by omega))⟩
theorem cnt_lt {p q : Nat → Bool} : ∀ {n k}, k < n → (∀ j, j < n → p j = true → q j = true) → p k = false → q k = true → cnt p n < cnt q n
  | 0, _, h, _, _, _ => absurd h (Nat.not_lt_zero _)
  | n + 1, k, h, hm, h1, h2 => by
    rw [cnt_succ, cnt_succ]
    by_cases c : k = n
    · have := cnt_mono (p := p) (q := q) (n := n) (fun j hj => hm j (by omega))
      rw [← c, h1, h2, if_neg (by decide), if_pos rfl]
      rw [← c] at this
      omega
    · have := cnt_lt (n := n) (k := k) (by omega) (fun j hj => hm j (by omega)) h1 h2
      have hn := hm n (by omega)
      cases hp : p n
      · rw [if_neg (by decide)]; split <;> omega
      · rw [hn hp]; omega
theorem cnt_pos {p : Nat → Bool} {n k : Nat} (h : k < n) (hp : p k = true) : 0 < cnt p n := by
  have := cnt_lt (p := fun _ => false) (q := p) h (fun j _ z => by cases z) rfl hp
  omega
/-- it stands still before 64 -/
theorem RR_fix {o : Nat → Bool} {s : Nat} : ∃ j, j ≤ 63 ∧ ∀ q, q < 64 → RR o s (j + 1) q = RR o s j q := by
  refine Classical.byContradiction (fun hno => ?_)
  have step : ∀ j, j ≤ 63 → ∃ q, q < 64 ∧ RR o s j q = false ∧ RR o s (j + 1) q = true := fun j hj => by
    refine Classical.byContradiction (fun hn => hno ⟨j, hj, fun q hq => ?_⟩)
    cases h1 : RR o s j q
    · cases h2 : RR o s (j + 1) q
      · rfl
      · exact absurd ⟨q, hq, h1, h2⟩ hn
    · exact RR_m hq h1 (j + 1) (by omega)
  have h0 : ∃ q, q < 64 ∧ RR o s 0 q = true := by
    refine Classical.byContradiction (fun hn => ?_)
    obtain ⟨q, hq, _, h2⟩ := step 0 (by omega)
    obtain ⟨h3, h4 | ⟨p, h4, _, h5⟩⟩ := (stR_iff (o := o) (R := RR o s 0) hq).mp h2
    · exact hn ⟨q, hq, h4⟩
    · exact hn ⟨p, h4, h5⟩
  have grow : ∀ k, k ≤ 64 → k < cnt (RR o s k) 64 := fun k => by
    induction k with
    | zero =>
      intro _
      obtain ⟨q, hq, h1⟩ := h0
      exact cnt_pos hq h1
    | succ k ih =>
      intro hk
      have h1 := ih (by omega)
      obtain ⟨q, hq, h2, h3⟩ := step k (by omega)
      have h4 := cnt_lt (p := RR o s k) (q := RR o s (k + 1)) hq (fun j hj z => RR_m hj z (k + 1) (by omega)) h2 h3
      omega
  have h1 := grow 64 (Nat.le_refl _)
  have h2 := cnt_le (RR o s 64) 64
  omega
theorem RR_end {o : Nat → Bool} {s : Nat} : ∀ k q, q < 64 → RR o s k q = true → RR o s 63 q = true := by
  obtain ⟨j, hj, hfix⟩ := RR_fix (o := o) (s := s)
  have hst : ∀ d q, q < 64 → RR o s (j + d) q = RR o s j q := fun d => by
    induction d with
    | zero => exact fun _ _ => rfl
    | succ d ih =>
      intro q hq
      rw [← hfix q hq, Bool.eq_iff_iff]
      show stR o (RR o s (j + d)) q = true ↔ stR o (RR o s j) q = true
      rw [stR_iff hq, stR_iff hq, ih q hq]
      constructor
      · rintro ⟨h1, h2 | ⟨p, h3, h4, h5⟩⟩
        · exact ⟨h1, Or.inl h2⟩
        · exact ⟨h1, Or.inr ⟨p, h3, h4, by rw [← ih p h3]; exact h5⟩⟩
      · rintro ⟨h1, h2 | ⟨p, h3, h4, h5⟩⟩
        · exact ⟨h1, Or.inl h2⟩
        · exact ⟨h1, Or.inr ⟨p, h3, h4, by rw [ih p h3]; exact h5⟩⟩
  intro k q hq h
  by_cases c : k ≤ 63
  · exact RR_m hq h 63 c
  · have h1 := hst (k - j) q hq
    rw [show j + (k - j) = k by omega, h] at h1
    exact RR_m hq h1.symm 63 hj
/-- when a place is first reached; 64: never -/
def fst64 (o : Nat → Bool) (s q : Nat) : Nat := fz (fun k => if RR o s k q = true then 0 else 1) 64
theorem f64_le {o : Nat → Bool} {s q : Nat} : fst64 o s q ≤ 64 := fz_le _ _
theorem f64_f {o : Nat → Bool} {s q k : Nat} : (if RR o s k q = true then 0 else 1) = 0 ↔ RR o s k q = true := by
  by_cases c : RR o s k q = true
  · rw [if_pos c]; exact ⟨fun _ => c, fun _ => rfl⟩
  · rw [if_neg c]; exact ⟨fun z => absurd z (by decide), fun z => absurd z c⟩
theorem f64_iff {o : Nat → Bool} {s q k : Nat} (hq : q < 64) (hk : k ≤ 63) : fst64 o s q ≤ k ↔ RR o s k q = true := by
  constructor
  · intro h
    have h1 := fz_yes (f := fun k => if RR o s k q = true then 0 else 1) (n := 64) (show fst64 o s q < 64 by omega)
    exact RR_m hq (f64_f.mp h1) k h
  · intro h
    refine Nat.le_of_not_lt (fun z => ?_)
    exact fz_no (f := fun k => if RR o s k q = true then 0 else 1) (n := 64) z (f64_f.mpr h)
theorem f64_any {o : Nat → Bool} {s q k : Nat} (hq : q < 64) (h : RR o s k q = true) : fst64 o s q ≤ 63 := (f64_iff hq (Nat.le_refl _)).mpr (RR_end k q hq h)
/-- the next level -/
theorem f64_s {o : Nat → Bool} {s q d : Nat} (hq : q < 64) (hd : d ≤ 63) (hlt : d < fst64 o s q) : (fst64 o s q = d + 1 ∧ d + 1 ≤ 63) ↔ o q = true ∧ ∃ p, p < 64 ∧ fst64 o s p = d ∧ adj p q = true := by
  have hn : ¬ RR o s d q = true := fun z => by have := (f64_iff hq hd).mpr z; omega
  constructor
  · rintro ⟨h1, h2⟩
    have h3 := (f64_iff (o := o) (s := s) (k := d + 1) hq h2).mp (by omega)
    obtain ⟨h4, h5 | ⟨p, h6, h7, h8⟩⟩ := (stR_iff (o := o) (R := RR o s d) hq).mp h3
    · exact absurd h5 hn
    · refine ⟨h4, p, h6, ?_, h7⟩
      have h9 := (f64_iff (o := o) (s := s) h6 hd).mpr h8
      refine Nat.le_antisymm h9 (Nat.le_of_not_lt (fun z => ?_))
      cases d with
      | zero => omega
      | succ c =>
        have h10 := (f64_iff (o := o) (s := s) (k := c) h6 (by omega)).mp (by omega)
        exact hn ((stR_iff hq).mpr ⟨h4, Or.inr ⟨p, h6, h7, h10⟩⟩)
  · rintro ⟨h1, p, h2, h3, h4⟩
    have h5 := (f64_iff (o := o) (s := s) (k := d) h2 hd).mp (by omega)
    have h6 : RR o s (d + 1) q = true := (stR_iff hq).mpr ⟨h1, Or.inr ⟨p, h2, h4, h5⟩⟩
    have h7 := f64_any hq h6
    have h8 : d + 1 ≤ 63 := by omega
    exact ⟨Nat.le_antisymm ((f64_iff hq h8).mpr h6) hlt, h8⟩
theorem f64_level {o : Nat → Bool} {s q : Nat} (hq : q < 64) (h : fst64 o s q ≤ 63) : ∀ j, j ≤ fst64 o s q → ∃ p, p < 64 ∧ fst64 o s p = fst64 o s q - j
  | 0, _ => ⟨q, hq, (Nat.sub_zero _).symm⟩
  | j + 1, hj => by
    obtain ⟨p, h1, h2⟩ := f64_level hq h j (by omega)
    obtain ⟨_, p2, h3, h4, _⟩ := (f64_s (o := o) (s := s) (q := p) (d := fst64 o s q - (j + 1)) h1 (by omega) (by omega)).mp ⟨by omega, by omega⟩
    exact ⟨p2, h3, h4⟩
/-- the class spreads a mask -/
theorem tb_7F : ∀ q : Fin 64, tb 9187201950435737471 q.1 = decide (q.1 % 8 < 7) := by decide
theorem x_spread (x : zMem) {o R : Nat → Bool} {a b : Int64} (ha : ∀ q, q < 64 → tb a q = R q) (hb : ∀ q, q < 64 → tb b q = o q) :
    ∃ c, F_X9_spread x a b = some (c, x) ∧ ∀ q, q < 64 → tb c q = stR o R q := by
  unfold F_X9_spread
  rw [zl_eq, zl_eq]
  refine ⟨_, rfl, fun q hq => ?_⟩
  have h7 : ∀ q, q < 64 → tb 9187201950435737471 q = decide (q % 8 < 7) := fun q hq => tb_7F ⟨q, hq⟩
  rw [tb_and, tb_or, tb_or, tb_or, tb_or, tb_and, hb q hq, h7 q hq, show (1 : Int32) = nI 1 from rfl, show (8 : Int32) = nI 8 from rfl, tb_shr _ _ (by omega), tb_shr _ _ (by omega), tb_shl _ (by omega) hq, tb_shl _ (by omega) hq, tb_and, ha q hq]
  unfold stR
  have e1 : (tb a (1 + q) && decide (q % 8 < 7)) = (decide (q % 8 < 7) && R (q + 1)) := by
    by_cases c : q % 8 < 7
    · rw [decide_eq_true c, ha _ (by omega), Nat.add_comm 1 q, Bool.and_true, Bool.true_and]
    · rw [decide_eq_false c, Bool.and_false, Bool.false_and]
  have e2 : (decide (1 ≤ q) && (tb a (q - 1) && tb 9187201950435737471 (q - 1))) = (decide (0 < q % 8) && R (q - 1)) := by
    by_cases c : 1 ≤ q
    · rw [decide_eq_true c, Bool.true_and, ha _ (by omega), h7 _ (by omega), Bool.and_comm, show decide ((q - 1) % 8 < 7) = decide (0 < q % 8) from by rw [decide_eq_decide]; omega]
    · rw [decide_eq_false c, decide_eq_false (by omega), Bool.false_and, Bool.false_and]
  have e3 : tb a (8 + q) = (decide (q < 56) && R (q + 8)) := by
    by_cases c : q < 56
    · rw [decide_eq_true c, ha _ (by omega), Nat.add_comm 8 q, Bool.true_and]
    · rw [decide_eq_false c, tb_big (by omega), Bool.false_and]
  have e4 : (decide (8 ≤ q) && tb a (q - 8)) = (decide (8 ≤ q) && R (q - 8)) := by
    rw [ha _ (by omega)]
  rw [e1, e2, e3, e4, Bool.and_comm (o q), Bool.or_assoc, Bool.or_assoc, Bool.or_assoc]
