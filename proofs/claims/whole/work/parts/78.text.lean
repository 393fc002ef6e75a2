/-! THE TEXT: its bytes, its end; where a reader stands: (fault, its place, where it is behind blanks) -/
def skF (B : Nat → Nat) : Nat → Nat → Nat
  | 0, a => a
  | n + 1, a => if B a = 32 then skF B n (a + 1) else a
def sk (B : Nat → Nat) (E a : Nat) : Nat := skF B (E - a) a
theorem sk_stop {B : Nat → Nat} {E a : Nat} (h : E ≤ a ∨ B a ≠ 32) : sk B E a = a := by
  unfold sk
  cases hn : E - a with
  | zero => rfl
  | succ n =>
    show (if B a = 32 then skF B n (a + 1) else a) = a
    rw [if_neg (h.elim (fun z => by omega) id)]
theorem sk_go {B : Nat → Nat} {E a : Nat} (h : a < E) (hb : B a = 32) : sk B E a = sk B E (a + 1) := by
  unfold sk
  rw [show E - a = (E - (a + 1)) + 1 by omega]
  show (if B a = 32 then skF B (E - (a + 1)) (a + 1) else a) = _
  rw [if_pos hb]
theorem skF_p {B : Nat → Nat} : ∀ n a, a ≤ skF B n a ∧ skF B n a ≤ a + n ∧ (skF B n a = a + n ∨ B (skF B n a) ≠ 32)
  | 0, a => ⟨Nat.le_refl _, Nat.le_refl _, Or.inl rfl⟩
  | n + 1, a => by
    show a ≤ (if B a = 32 then skF B n (a + 1) else a) ∧ (if B a = 32 then skF B n (a + 1) else a) ≤ a + (n + 1) ∧ ((if B a = 32 then skF B n (a + 1) else a) = a + (n + 1) ∨ B (if B a = 32 then skF B n (a + 1) else a) ≠ 32)
    by_cases h : B a = 32
    · rw [if_pos h]
      obtain ⟨h1, h2, h3⟩ := skF_p (B := B) n (a + 1)
      exact ⟨by omega, by omega, h3.imp (fun z => by omega) id⟩
    · rw [if_neg h]
      exact ⟨Nat.le_refl _, by omega, Or.inr h⟩
theorem sk_p {B : Nat → Nat} {E a : Nat} (h : a ≤ E) : a ≤ sk B E a ∧ sk B E a ≤ E ∧ (E ≤ sk B E a ∨ B (sk B E a) ≠ 32) := by
  obtain ⟨h1, h2, h3⟩ := skF_p (B := B) (E - a) a
  unfold sk
  exact ⟨h1, by omega, h3.imp (fun z => by omega) id⟩
theorem sk_sk {B : Nat → Nat} {E a : Nat} (h : a ≤ E) : sk B E (sk B E a) = sk B E a := sk_stop (sk_p h).2.2
abbrev PS := Nat × Int32 × Nat
def okT (B : Nat → Nat) (E : Nat) : Prop := E ≤ 600 ∧ ∀ k, k < E → B k < 256
/-- at rest: no fault, and behind blanks -/
def okP (B : Nat → Nat) (E : Nat) (P : PS) : Prop := P.1 ≤ 3 ∧ (P.1 = 0 → P.2.2 ≤ E ∧ sk B E P.2.2 = P.2.2)
def TX (x : zMem) (B : Nat → Nat) (E : Nat) (P : PS) : Prop := x.1 1 2 = nI P.1 ∧ x.1 1 3 = P.2.1 ∧ x.1 1 6 = nI E ∧ (∀ k, k < E → x.1 2 k = nI (B k)) ∧ ∃ a, a ≤ E ∧ x.1 1 7 = nI a ∧ (P.1 = 0 → sk B E a = P.2.2)
def TM (m : zMem) (B : Nat → Nat) (E : Nat) (P : PS) : Prop := m.1 0 5 = nI P.1 ∧ m.1 0 6 = P.2.1 ∧ m.1 0 2 = nI E ∧ (∀ k, k < E → m.1 1 k = nI (B k)) ∧ ∃ a, a ≤ E ∧ m.1 0 4 = nI a ∧ (P.1 = 0 → sk B E a = P.2.2)
def frTX (x y : zMem) : Prop := (∀ c, c ≠ 1 → y.1 c = x.1 c) ∧ (∀ j, j ≠ 2 → j ≠ 3 → j ≠ 4 → j ≠ 5 → j ≠ 7 → y.1 1 j = x.1 1 j) ∧ y.2 = x.2
def frTM (x y : zMem) : Prop := (∀ c, c ≠ 0 → y.1 c = x.1 c) ∧ (∀ j, j ≠ 4 → j ≠ 5 → j ≠ 6 → y.1 0 j = x.1 0 j) ∧ y.2 = x.2
theorem frTX.refl {x : zMem} : frTX x x := ⟨fun _ _ => rfl, fun _ _ _ _ _ _ => rfl, rfl⟩
theorem frTX.trans {x y z : zMem} (h : frTX x y) (k : frTX y z) : frTX x z := ⟨fun c hc => (k.1 c hc).trans (h.1 c hc), fun j h1 h2 h3 h4 h5 => (k.2.1 j h1 h2 h3 h4 h5).trans (h.2.1 j h1 h2 h3 h4 h5), k.2.2.trans h.2.2⟩
theorem frTM.refl {x : zMem} : frTM x x := ⟨fun _ _ => rfl, fun _ _ _ _ => rfl, rfl⟩
theorem frTM.trans {x y z : zMem} (h : frTM x y) (k : frTM y z) : frTM x z := ⟨fun c hc => (k.1 c hc).trans (h.1 c hc), fun j h1 h2 h3 => (k.2.1 j h1 h2 h3).trans (h.2.1 j h1 h2 h3), k.2.2.trans h.2.2⟩
def byS (B : Nat → Nat) (E a : Nat) : Int32 := if a < E then nI (B a) else -1
def isDg (B : Nat → Nat) (E a : Nat) : Bool := decide (a < E) && (decide (48 ≤ B a) && decide (B a ≤ 57))
def isLt (B : Nat → Nat) (E a : Nat) : Bool := decide (a < E) && (decide (97 ≤ B a) && decide (B a ≤ 122))
/-- a fault, if there is none -/
def flS (c : Nat) (v : Int32) (P : PS) : PS := if P.1 = 0 then (c, v, P.2.2) else P
def sgS (B : Nat → Nat) (E : Nat) (c : Int32) (P : PS) : PS := if P.1 = 0 then (if byS B E P.2.2 = c then (0, P.2.1, sk B E (P.2.2 + 1)) else (1, nI P.2.2, P.2.2)) else P
def dgF (B : Nat → Nat) : Nat → Nat → Nat → Nat × Nat
  | 0, a, v => (a, v)
  | n + 1, a, v => if 48 ≤ B a ∧ B a ≤ 57 then dgF B n (a + 1) (10 * v + (B a - 48)) else (a, v)
def dgS (B : Nat → Nat) (E a : Nat) : Nat × Nat := dgF B (E - a) a 0
def nuS (B : Nat → Nat) (E lo hi : Nat) (P : PS) : PS :=
  if P.1 = 0 then (if isDg B E P.2.2 = true then (if lo ≤ (dgS B E P.2.2).2 ∧ (dgS B E P.2.2).2 ≤ hi then (0, P.2.1, sk B E (dgS B E P.2.2).1) else (2, nI P.2.2, P.2.2)) else (1, nI P.2.2, P.2.2)) else P
def nuV (B : Nat → Nat) (E : Nat) (P : PS) : Nat := (dgS B E P.2.2).2
theorem dgF_p {B : Nat → Nat} : ∀ n a v, a ≤ (dgF B n a v).1 ∧ (dgF B n a v).1 ≤ a + n
  | 0, a, v => ⟨Nat.le_refl _, Nat.le_refl _⟩
  | n + 1, a, v => by
    show a ≤ (if 48 ≤ B a ∧ B a ≤ 57 then dgF B n (a + 1) (10 * v + (B a - 48)) else (a, v)).1 ∧ (if 48 ≤ B a ∧ B a ≤ 57 then dgF B n (a + 1) (10 * v + (B a - 48)) else (a, v)).1 ≤ a + (n + 1)
    by_cases h : 48 ≤ B a ∧ B a ≤ 57
    · rw [if_pos h]
      have := dgF_p (B := B) n (a + 1) (10 * v + (B a - 48))
      omega
    · rw [if_neg h]
      exact ⟨Nat.le_refl _, by show a ≤ a + (n + 1); omega⟩
theorem fl_ok {B : Nat → Nat} {E c : Nat} {v : Int32} {P : PS} (h : okP B E P) (hc : c ≤ 3) (h0 : c ≠ 0) : okP B E (flS c v P) := by
  unfold flS
  split
  · exact ⟨hc, fun z => absurd z h0⟩
  · exact h
theorem sg_ok {B : Nat → Nat} {E : Nat} {c : Int32} {P : PS} (h : okP B E P) (hc : c ≠ -1) : okP B E (sgS B E c P) := by
  unfold sgS
  by_cases z : P.1 = 0
  · rw [if_pos z]
    have hz := h.2 z
    by_cases d : byS B E P.2.2 = c
    · rw [if_pos d]
      have hE : P.2.2 < E := by
        unfold byS at d
        by_cases e : P.2.2 < E
        · exact e
        · rw [if_neg e] at d; exact absurd d.symm hc
      have := sk_p (B := B) (E := E) (a := P.2.2 + 1) (by omega)
      exact ⟨by show 0 ≤ 3; omega, fun _ => ⟨this.2.1, sk_sk (by omega)⟩⟩
    · rw [if_neg d]
      exact ⟨by show 1 ≤ 3; omega, fun z => absurd (show (1 : Nat) = 0 from z) (by decide)⟩
  · rw [if_neg z]; exact h
theorem nu_ok {B : Nat → Nat} {E lo hi : Nat} {P : PS} (h : okP B E P) : okP B E (nuS B E lo hi P) := by
  unfold nuS
  by_cases z : P.1 = 0
  · rw [if_pos z]
    have hz := h.2 z
    split
    · split
      · have h1 := dgF_p (B := B) (E - P.2.2) P.2.2 0
        have h2 : (dgS B E P.2.2).1 ≤ E := by unfold dgS; omega
        have := sk_p (B := B) (E := E) (a := (dgS B E P.2.2).1) h2
        exact ⟨by show 0 ≤ 3; omega, fun _ => ⟨this.2.1, sk_sk h2⟩⟩
      · exact ⟨by show 2 ≤ 3; omega, fun z => absurd (show (2 : Nat) = 0 from z) (by decide)⟩
    · exact ⟨by show 1 ≤ 3; omega, fun z => absurd (show (1 : Nat) = 0 from z) (by decide)⟩
  · rw [if_neg z]; exact h
theorem nu_0 {B : Nat → Nat} {E lo hi : Nat} {P : PS} (h : (nuS B E lo hi P).1 = 0) : P.1 = 0 ∧ lo ≤ nuV B E P ∧ nuV B E P ≤ hi := by
  unfold nuS at h
  by_cases z : P.1 = 0
  · rw [if_pos z] at h
    split at h
    · split at h
      · next h2 => exact ⟨z, h2⟩
      · cases h
    · cases h
  · rw [if_neg z] at h; exact absurd h z
/-! words -/
def wlF (B : Nat → Nat) : Nat → Nat → Nat
  | 0, a => a
  | n + 1, a => if 97 ≤ B a ∧ B a ≤ 122 then wlF B n (a + 1) else a
def wE (B : Nat → Nat) (E a : Nat) : Nat := wlF B (E - a) a
theorem wlF_p {B : Nat → Nat} : ∀ n a, a ≤ wlF B n a ∧ wlF B n a ≤ a + n ∧ (∀ k, a ≤ k → k < wlF B n a → 97 ≤ B k ∧ B k ≤ 122) ∧ (wlF B n a = a + n ∨ ¬ (97 ≤ B (wlF B n a) ∧ B (wlF B n a) ≤ 122))
  | 0, a => ⟨Nat.le_refl _, Nat.le_refl _, fun k h1 h2 => absurd (show k < a from h2) (by omega), Or.inl rfl⟩
  | n + 1, a => by
    have e : wlF B (n + 1) a = if 97 ≤ B a ∧ B a ≤ 122 then wlF B n (a + 1) else a := rfl
    by_cases h : 97 ≤ B a ∧ B a ≤ 122
    · rw [if_pos h] at e
      rw [e]
      obtain ⟨h1, h2, h3, h4⟩ := wlF_p (B := B) n (a + 1)
      refine ⟨by omega, by omega, fun k k1 k2 => ?_, ?_⟩
      · by_cases c : k = a
        · rw [c]; exact h
        · exact h3 k (by omega) k2
      · rcases h4 with h4 | h4
        · exact Or.inl (by omega)
        · exact Or.inr h4
    · rw [if_neg h] at e
      rw [e]
      exact ⟨Nat.le_refl _, by omega, fun k h1 h2 => absurd h2 (by omega), Or.inr h⟩
theorem wE_p {B : Nat → Nat} {E a : Nat} (h : a ≤ E) : a ≤ wE B E a ∧ wE B E a ≤ E ∧ (∀ k, a ≤ k → k < wE B E a → 97 ≤ B k ∧ B k ≤ 122) ∧ isLt B E (wE B E a) = false := by
  obtain ⟨h1, h2, h3, h4⟩ := wlF_p (B := B) (E - a) a
  unfold wE
  refine ⟨h1, by omega, h3, ?_⟩
  unfold isLt
  rcases h4 with h4 | h4
  · rw [decide_eq_false (by omega), Bool.false_and]
  · by_cases c : 97 ≤ B (wlF B (E - a) a)
    · rw [decide_eq_false (p := B (wlF B (E - a) a) ≤ 122) (fun z => h4 ⟨c, z⟩), Bool.and_false, Bool.and_false]
    · rw [decide_eq_false c, Bool.false_and, Bool.and_false]
theorem wE_go {B : Nat → Nat} {E a : Nat} (h : isLt B E a = true) : wE B E a = wE B E (a + 1) := by
  unfold isLt at h
  simp only [Bool.and_eq_true, decide_eq_true_eq] at h
  unfold wE
  rw [show E - a = (E - (a + 1)) + 1 by omega]
  show (if 97 ≤ B a ∧ B a ≤ 122 then wlF B (E - (a + 1)) (a + 1) else a) = _
  rw [if_pos h.2]
theorem wE_no {B : Nat → Nat} {E a : Nat} (h : isLt B E a = false) : wE B E a = a := by
  unfold wE
  cases hn : E - a with
  | zero => rfl
  | succ n =>
    show (if 97 ≤ B a ∧ B a ≤ 122 then wlF B n (a + 1) else a) = a
    rw [if_neg (fun z => by
      unfold isLt at h
      rw [decide_eq_true (by omega), decide_eq_true z.1, decide_eq_true z.2] at h
      cases h)]
def wdS (B : Nat → Nat) (E : Nat) (P : PS) : PS := if P.1 = 0 then (0, P.2.1, sk B E (wE B E P.2.2)) else P
theorem wd_ok {B : Nat → Nat} {E : Nat} {P : PS} (h : okP B E P) : okP B E (wdS B E P) := by
  unfold wdS
  by_cases z : P.1 = 0
  · rw [if_pos z]
    have h1 := wE_p (B := B) (h.2 z).1
    have := sk_p (B := B) h1.2.1
    exact ⟨by show 0 ≤ 3; omega, fun _ => ⟨this.2.1, sk_sk h1.2.1⟩⟩
  · rw [if_neg z]; exact h
/-- the word at a of n letters is word i -/
def isWd (i : Nat) (B : Nat → Nat) (a n : Nat) : Bool := decide (n = zLen.getD i 0) && !anyN (fun k => decide (nI (B (a + k)) ≠ zCh i k)) n
def wc (i k : Nat) : Nat := (zCh i k).toNatClampNeg - 96
def vaW (d : Nat → Nat) (n : Nat) : Nat := fN (fun k h => 27 * h + d k) 0 n
theorem vaW_s (d : Nat → Nat) (n : Nat) : vaW d (n + 1) = 27 * vaW d n + d n := rfl
theorem vaW_inj {d c : Nat → Nat} : ∀ {n L}, (∀ k, k < n → 1 ≤ d k ∧ d k ≤ 26) → (∀ k, k < L → 1 ≤ c k ∧ c k ≤ 26) → vaW d n = vaW c L → n = L ∧ ∀ k, k < n → d k = c k
  | 0, 0, _, _, _ => ⟨rfl, fun k h => absurd h (Nat.not_lt_zero _)⟩
  | 0, L + 1, _, hc, h => by
    have := hc L (by omega)
    rw [vaW_s] at h
    have h0 : vaW d 0 = 0 := rfl
    omega
  | n + 1, 0, hd, _, h => by
    have := hd n (by omega)
    rw [vaW_s] at h
    have h0 : vaW c 0 = 0 := rfl
    omega
  | n + 1, L + 1, hd, hc, h => by
    have h1 := hd n (by omega)
    have h2 := hc L (by omega)
    rw [vaW_s, vaW_s] at h
    have h3 : d n = c L := by omega
    have h4 : vaW d n = vaW c L := by omega
    obtain ⟨h5, h6⟩ := vaW_inj (fun k hk => hd k (by omega)) (fun k hk => hc k (by omega)) h4
    refine ⟨by omega, fun k hk => ?_⟩
    by_cases e : k = n
    · rw [e, h3, h5]
    · exact h6 k (by omega)
theorem vaW_congr {d c : Nat → Nat} {n : Nat} (h : ∀ k, k < n → d k = c k) : vaW d n = vaW c n := fN_congr (fun k hk t => by rw [h k hk])
theorem vaW_le {d : Nat → Nat} : ∀ {n}, (∀ k, k < n → d k ≤ 26) → vaW d n < 27 ^ n
  | 0, _ => Nat.zero_lt_one
  | n + 1, h => by
    have ih := vaW_le (d := d) (n := n) (fun k hk => h k (by omega))
    have := h n (by omega)
    rw [vaW_s, Nat.pow_succ]
    omega
/-- the words of the language: letters, at most five -/
theorem wd_all : ∀ i : Fin 19, 1 ≤ i.1 → zLen.getD i.1 0 ≤ 5 ∧ ∀ k : Fin 5, k.1 < zLen.getD i.1 0 → (97 ≤ (zCh i.1 k.1).toNatClampNeg ∧ (zCh i.1 k.1).toNatClampNeg ≤ 122) ∧ zCh i.1 k.1 = nI (zCh i.1 k.1).toNatClampNeg := by decide +kernel
theorem wd_iff {B : Nat → Nat} {i a n : Nat} (h1 : 1 ≤ i) (h2 : i < 19) (hl : ∀ k, k < n → 97 ≤ B (a + k) ∧ B (a + k) ≤ 122) : isWd i B a n = true ↔ vaW (fun k => B (a + k) - 96) n = vaW (wc i) (zLen.getD i 0) := by
  obtain ⟨w1, w2⟩ := wd_all ⟨i, h2⟩ h1
  have hw : ∀ k, k < zLen.getD i 0 → (97 ≤ (zCh i k).toNatClampNeg ∧ (zCh i k).toNatClampNeg ≤ 122) ∧ zCh i k = nI (zCh i k).toNatClampNeg := fun k hk => w2 ⟨k, by show k < 5; exact Nat.lt_of_lt_of_le hk w1⟩ hk
  unfold isWd
  constructor
  · intro h
    rw [Bool.and_eq_true, decide_eq_true_eq] at h
    obtain ⟨h3, h4⟩ := h
    rw [h3]
    refine vaW_congr (fun k hk => ?_)
    have h5 : nI (B (a + k)) = zCh i k := by
      refine Classical.byContradiction (fun z => ?_)
      rw [anyN_yes (k := k) (by omega) (decide_eq_true z)] at h4
      cases h4
    have h6 := hw k hk
    rw [h6.2, nI_eq (by have := hl k (by omega); omega) (by omega)] at h5
    unfold wc
    rw [h5]
  · intro h
    obtain ⟨h3, h4⟩ := vaW_inj (fun k hk => by have := hl k hk; omega) (fun k hk => by have := (hw k hk).1; unfold wc; omega) h
    have hany : anyN (fun k => decide (nI (B (a + k)) ≠ zCh i k)) n = false := anyN_no (fun k hk => decide_eq_false (fun z => z (by
      have h5 := h4 k hk
      have h6 := hw k (by omega)
      have h7 := hl k hk
      unfold wc at h5
      rw [h6.2, show B (a + k) = (zCh i k).toNatClampNeg by omega])))
    rw [decide_eq_true h3, hany]
    rfl
