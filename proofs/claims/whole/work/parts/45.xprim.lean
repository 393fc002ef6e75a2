/-! the class' small methods -/
theorem x_within (M : zMem) (a b c : Int32) : F_X9_within M a b c = some (bI (decide (b ≤ a) && decide (a ≤ c)), M) := m_in M a b c
theorem x_placeOf (M : zMem) (x y : Nat) : F_X9_placeOf M (nI x) (nI y) = some (nI (8 * y + x), M) := by
  unfold F_X9_placeOf
  rw [show (8 : Int32) = nI 8 from rfl, pk_mul, nI_add, Nat.mul_comm]
theorem x_bit (M : zMem) (p : Nat) : F_X9_bit M (nI p) = some (bit1 p, M) := rfl
theorem x_has (M : zMem) (x : Int64) {p : Nat} (h : p < 64) : F_X9_has M x (nI p) = some (bI (tb x p), M) := by
  unfold F_X9_has
  simp only [ya_cmp0, tb_shr x 0 h, Nat.add_zero]
  cases tb x p <;> rfl
theorem x_heightOf (M : zMem) {g : Nat} (h : g < 2 ^ 31) : F_X9_heightOf M (nI g) = some (nI (hgt g), M) := by
  unfold F_X9_heightOf hgt
  rw [ya_0, ile h (by decide)]
  by_cases e : g = 0
  · subst e; rfl
  · rw [if_neg (by omega), if_neg e, show (50 : Int32) = nI 50 from rfl, pk_div h (by decide) (by decide), nI_1]
/-- the class' memory holds a works at t -/
def RXp (x : zMem) (e : PL) (t : Nat) : Prop := x.1 t 0 = nI (pW e) ∧ x.1 t 1 = nI (pH e) ∧ x.1 t 2 = nI (pn e) ∧ (∀ h, h < pn e → x.1 (t + 1) h = nI (psd e h) ∧ x.1 (t + 2) h = nI (prc e h)) ∧ ∀ p, p < 64 → tb (x.2.1 t 3) p = inW e p
theorem x_holds {M : zMem} {e : PL} {t : Nat} (hp : RXp M e t) (he : okPL e) {a b : Int} (ha : -100 ≤ a ∧ a ≤ 100) (hb : -100 ≤ b ∧ b ≤ 100) :
    F_X5_holds M t (iI a) (iI b) = some (bI ((decide (0 ≤ a) && decide (a < pW e)) && (decide (0 ≤ b) && decide (b < pH e))), M) := by
  obtain ⟨h0, h1, _⟩ := hp
  obtain ⟨e1, e2, e3, e4, _⟩ := he
  unfold F_X5_holds
  rw [h0, h1, show (0 : Int32) = iI 0 from rfl, iI_nat (pW e), iI_nat (pH e), iiLt (by omega) (by omega) (by omega) (by omega), iiLt (by omega) (by omega) (by omega) (by omega), iiLe (by omega) (by omega) (by omega) (by omega), iiLe (by omega) (by omega) (by omega) (by omega)]
  by_cases c1 : a < 0
  · have : ¬ 0 ≤ a := by omega
    simp [c1, this]; rfl
  · have c1' : 0 ≤ a := by omega
    by_cases c2 : (pW e : Int) ≤ a
    · have : ¬ a < (pW e : Int) := by omega
      simp [c1, c2, this]; rfl
    · have c2' : a < (pW e : Int) := by omega
      by_cases c3 : b < 0
      · have : ¬ 0 ≤ b := by omega
        simp [c1, c2, c3, this]; rfl
      · have c3' : 0 ≤ b := by omega
        by_cases c4 : (pH e : Int) ≤ b
        · have : ¬ b < (pH e : Int) := by omega
          simp [c1, c2, c3, c4, this]; rfl
        · have c4' : b < (pH e : Int) := by omega
          simp [c1, c2, c3, c4, c1', c2', c3', c4']; rfl
theorem zE_d {d : Nat} (h : d ≤ 7) : zEast d = iI (-(dE d)) := by
  have : d = 0 ∨ d = 1 ∨ d = 2 ∨ d = 3 ∨ d = 4 ∨ d = 5 ∨ d = 6 ∨ d = 7 := by omega
  rcases this with rfl | rfl | rfl | rfl | rfl | rfl | rfl | rfl <;> decide
theorem zS_d {d : Nat} (h : d ≤ 7) : zSouth d = iI (-(dS d)) := by
  have : d = 0 ∨ d = 1 ∨ d = 2 ∨ d = 3 ∨ d = 4 ∨ d = 5 ∨ d = 6 ∨ d = 7 := by omega
  rcases this with rfl | rfl | rfl | rfl | rfl | rfl | rfl | rfl <;> decide
/-- on the line from f: j steps away from the sun's side -/
def onL (E S : Int) (f q j : Nat) : Prop := dx f q = (j : Int) * E ∧ dy f q = (j : Int) * S
theorem cov_iff {e : PL} {f g q h : Nat} (hf : f < 64) (hq : q < 64) (hg : 0 < g) :
    cov e f g q h = true ↔ ∃ j : Nat, j ≤ 7 ∧ j ≤ slen e g h ∧ onL (dE (psd e h)) (dS (psd e h)) f q j := by
  have hE : dE (psd e h) = -1 ∨ dE (psd e h) = 0 ∨ dE (psd e h) = 1 := by have := dE_b (psd e h); omega
  have hS : dS (psd e h) = -1 ∨ dS (psd e h) = 0 ∨ dS (psd e h) = 1 := by have := dS_b (psd e h); omega
  have hES := dES (psd e h)
  have b1 := dx_b (f := f) (p := q)
  have b2 := dy_b hf hq
  have b3 := far_b hf hq
  unfold cov onL
  rw [if_neg (by omega)]
  by_cases fq : f = q
  · rw [if_pos fq]
    refine ⟨fun _ => ⟨0, by omega, by omega, ?_⟩, fun _ => rfl⟩
    rw [fq]
    unfold dx dy
    constructor <;> omega
  · rw [if_neg fq, Bool.and_eq_true, Bool.and_eq_true, decide_eq_true_eq, decide_eq_true_eq, decide_eq_true_eq]
    constructor
    · rintro ⟨h1, h2, h3⟩
      refine ⟨(far f q).toNat, by omega, by omega, ?_⟩
      rw [Int.toNat_of_nonneg b3.1]
      exact ⟨h2, h3⟩
    · rintro ⟨j, h1, h2, h3, h4⟩
      have : far f q = j := by
        unfold far imax iabs
        rcases hE with hE | hE | hE <;> rcases hS with hS | hS | hS <;> rw [hE] at h3 hES <;> rw [hS] at h4 hES <;> first | (exact absurd ⟨rfl, rfl⟩ hES) | (split <;> split <;> (try split) <;> omega)
      rw [this]
      exact ⟨by omega, h3, h4⟩
theorem ya_mul1 {E : Int} (hE : E = -1 ∨ E = 0 ∨ E = 1) (k : Nat) : ((k + 1 : Nat) : Int) * E = (k : Int) * E + E := by
  rcases hE with rfl | rfl | rfl <;> omega
theorem x_shadedBy {M : zMem} {e : PL} {t : Nat} (hp : RXp M e t) (he : okPL e) {f g h : Nat} (hf : f < 64) (hin : inW e f = true) (hg0 : 0 < g) (hg : g ≤ 9999) (hh : h < pn e) :
    ∃ m, F_X5_shadedBy M t (nI f) (nI g) (nI h) = some (m, M) ∧ ∀ q, q < 64 → tb m q = (inW e q && cov e f g q h) := by
  have hn := he.2.2.2.2.1
  have hsd := (he.2.2.2.2.2 h hh).1
  have hsl := slen_le he hh hg
  have hE : dE (psd e h) = -1 ∨ dE (psd e h) = 0 ∨ dE (psd e h) = 1 := by have := dE_b (psd e h); omega
  have hS : dS (psd e h) = -1 ∨ dS (psd e h) = 0 ∨ dS (psd e h) = 1 := by have := dS_b (psd e h); omega
  have e1 := he.1
  have e2 := he.2.1
  have e3 := he.2.2.1
  have e4 := he.2.2.2.1
  have hW : f % 8 < pW e ∧ f / 8 < pH e := by
    unfold inW at hin
    rw [Bool.and_eq_true, decide_eq_true_eq, decide_eq_true_eq] at hin
    exact hin
  generalize hEe : dE (psd e h) = E at hE
  generalize hSe : dS (psd e h) = S at hS
  have hw : wp (F_X5_shadedBy M t (nI f) (nI g) (nI h)) (fun r => r.2 = M ∧ ∀ q, q < 64 → tb r.1 q = (inW e q && cov e f g q h)) := by
    have hend : ∀ (m : Int64) (k : Nat), 1 ≤ k → k ≤ 8 → (∀ j : Nat, j < k → (0 ≤ ((f % 8 : Nat) : Int) + j * E ∧ ((f % 8 : Nat) : Int) + j * E < pW e) ∧ (0 ≤ ((f / 8 : Nat) : Int) + j * S ∧ ((f / 8 : Nat) : Int) + j * S < pH e)) → (k - 1 ≤ slen e g h) →
        (∀ q, q < 64 → (tb m q = true ↔ ∃ j, j < k ∧ onL E S f q j)) →
        (slen e g h < k ∨ 8 ≤ k ∨ ¬ ((0 ≤ ((f % 8 : Nat) : Int) + k * E ∧ ((f % 8 : Nat) : Int) + k * E < pW e) ∧ (0 ≤ ((f / 8 : Nat) : Int) + k * S ∧ ((f / 8 : Nat) : Int) + k * S < pH e))) →
        ∀ q, q < 64 → tb m q = (inW e q && cov e f g q h) := by
      intro m k k1 k8 hin hlen hm hx q hq
      rw [Bool.eq_iff_iff, hm q hq, Bool.and_eq_true, cov_iff hf hq hg0, hEe, hSe]
      unfold inW
      rw [Bool.and_eq_true, decide_eq_true_eq, decide_eq_true_eq]
      constructor
      · rintro ⟨j, hj, ho⟩
        have hj2 := hin j hj
        obtain ⟨o1, o2⟩ := ho
        refine ⟨?_, j, by omega, by omega, o1, o2⟩
        unfold dx at o1
        unfold dy at o2
        omega
      · rintro ⟨⟨w1, w2⟩, j, j7, jl, o1, o2⟩
        by_cases hjk : j < k
        · exact ⟨j, hjk, o1, o2⟩
        · exfalso
          rcases hx with hx | hx | hx
          · omega
          · omega
          · apply hx
            unfold dx at o1
            unfold dy at o2
            rcases hE with rfl | rfl | rfl <;> rcases hS with rfl | rfl | rfl <;> omega
    unfold F_X5_shadedBy
    rw [x_bit, zb_some]
    dsimp only
    rw [ya_0, ilt (by omega) (by omega), if_neg (by omega), hp.2.2.1, ilt (by omega) (by omega), if_pos hh, x_heightOf M (by omega), zb_some]
    dsimp only
    rw [gin_ok (by omega) (by decide), nI_clamp (by omega), (hp.2.2.2.1 h hh).2, zl_eq, zl_eq, zl_eq, ya_rem8 (by omega), ya_div8 (by omega), pk_mul, show (10 : Int32) = nI 10 from rfl, pk_div (by omega) (by decide) (by decide)]
    have hsl' : hgt g * prc e h / 10 = slen e g h := rfl
    rw [hsl']
    have hs8 : slen e g h ≤ 800 := by unfold slen; omega
    refine loopN (F_X5_shadedBy_52 _ _ _ _) (fun fn k (s : Int64 × Int32 × Int32) => fn (nI h) s.1 (nI (slen e g h)) s.2.1 s.2.2 (nI k) M) 8
      (fun k s => 1 ≤ k ∧ s.2.1 = iI (((f % 8 : Nat) : Int) + ((k - 1 : Nat) : Int) * E) ∧ s.2.2 = iI (((f / 8 : Nat) : Int) + ((k - 1 : Nat) : Int) * S) ∧
        (∀ j : Nat, j < k → (0 ≤ ((f % 8 : Nat) : Int) + j * E ∧ ((f % 8 : Nat) : Int) + j * E < pW e) ∧ (0 ≤ ((f / 8 : Nat) : Int) + j * S ∧ ((f / 8 : Nat) : Int) + j * S < pH e)) ∧ (k - 1 ≤ slen e g h) ∧
        (∀ q, q < 64 → (tb s.1 q = true ↔ ∃ j, j < k ∧ onL E S f q j))) _
      (fun fn k s hk hI ih => ?_) (fun fn s hI => ?_) (k := 1) (s := (bit1 f, nI (f % 8), nI (f / 8))) (by omega) ⟨by omega, ?_, ?_, ?_, by omega, ?_⟩ (by omega)
    · obtain ⟨m, x, y⟩ := s
      obtain ⟨k1, hx, hy, hin2, hlen, hm⟩ := hI
      try dsimp only at k1 hx hy hin2 hlen hm ih ⊢
      unfold F_X5_shadedBy_52
      rw [ilt (by omega) (by omega)]
      by_cases c1 : slen e g h < k
      · rw [if_pos c1, wp_some]
        exact ⟨rfl, hend m k k1 (by omega) hin2 hlen hm (Or.inl c1)⟩
      rw [if_neg c1, show (8 : Int32) = nI 8 from rfl, ile (by omega) (by omega), if_neg (by omega), gin_ok (by omega) (by decide), nI_clamp (by omega), (hp.2.2.2.1 h hh).1, gin_ok (by omega) (by decide), nI_clamp (by omega), zE_d hsd, zS_d hsd, hEe, hSe, zl_eq, zl_eq, hx, hy, iI_sub, iI_sub]
      have hk1 : ((k - 1 : Nat) : Int) = (k : Int) - 1 := by omega
      have ex : ((f % 8 : Nat) : Int) + ((k - 1 : Nat) : Int) * E - -E = ((f % 8 : Nat) : Int) + (k : Int) * E := by
        rw [hk1]; rcases hE with rfl | rfl | rfl <;> omega
      have ey : ((f / 8 : Nat) : Int) + ((k - 1 : Nat) : Int) * S - -S = ((f / 8 : Nat) : Int) + (k : Int) * S := by
        rw [hk1]; rcases hS with rfl | rfl | rfl <;> omega
      rw [ex, ey]
      have bx : -100 ≤ ((f % 8 : Nat) : Int) + (k : Int) * E ∧ ((f % 8 : Nat) : Int) + (k : Int) * E ≤ 100 := by rcases hE with rfl | rfl | rfl <;> omega
      have by_ : -100 ≤ ((f / 8 : Nat) : Int) + (k : Int) * S ∧ ((f / 8 : Nat) : Int) + (k : Int) * S ≤ 100 := by rcases hS with rfl | rfl | rfl <;> omega
      rw [x_holds hp he bx by_, zb_some]
      dsimp only
      rw [ibI]
      by_cases c2 : (0 ≤ ((f % 8 : Nat) : Int) + (k : Int) * E ∧ ((f % 8 : Nat) : Int) + (k : Int) * E < pW e) ∧ (0 ≤ ((f / 8 : Nat) : Int) + (k : Int) * S ∧ ((f / 8 : Nat) : Int) + (k : Int) * S < pH e)
      · obtain ⟨⟨a1, a2⟩, a3, a4⟩ := c2
        rw [if_neg (by rw [decide_eq_true a1, decide_eq_true a2, decide_eq_true a3, decide_eq_true a4]; decide), iI_pos a1, iI_pos a3, x_placeOf, zb_some]
        dsimp only
        rw [x_bit, zb_some]
        dsimp only
        rw [zl_eq, nI_1]
        refine ih (m ||| bit1 (8 * (((f / 8 : Nat) : Int) + (k : Int) * S).toNat + (((f % 8 : Nat) : Int) + (k : Int) * E).toNat), nI (((f % 8 : Nat) : Int) + (k : Int) * E).toNat, nI (((f / 8 : Nat) : Int) + (k : Int) * S).toNat) ⟨by omega, ?_, ?_, fun j hj => ?_, by omega, fun q hq => ?_⟩
        · dsimp only; rw [← iI_pos a1]; rfl
        · dsimp only; rw [← iI_pos a3]; rfl
        · by_cases ej : j = k
          · rw [ej]; exact ⟨⟨a1, a2⟩, a3, a4⟩
          · exact hin2 j (by omega)
        · dsimp only
          rw [tb_or, Bool.or_eq_true, hm q hq, tb_bit (by omega) hq, decide_eq_true_eq]
          constructor
          · rintro (⟨j, hj, ho⟩ | hq2)
            · exact ⟨j, by omega, ho⟩
            · refine ⟨k, by omega, ?_⟩
              unfold onL dx dy
              omega
          · rintro ⟨j, hj, ho⟩
            by_cases ej : j = k
            · right
              rw [ej] at ho
              unfold onL dx dy at ho
              omega
            · exact Or.inl ⟨j, by omega, ho⟩
      · have c2' : ((decide (0 ≤ ((f % 8 : Nat) : Int) + (k : Int) * E) && decide (((f % 8 : Nat) : Int) + (k : Int) * E < pW e)) && (decide (0 ≤ ((f / 8 : Nat) : Int) + (k : Int) * S) && decide (((f / 8 : Nat) : Int) + (k : Int) * S < pH e))) = false := by
          rw [Bool.eq_false_iff]
          intro z
          rw [Bool.and_eq_true, Bool.and_eq_true, Bool.and_eq_true, decide_eq_true_eq, decide_eq_true_eq, decide_eq_true_eq, decide_eq_true_eq] at z
          exact c2 z
        rw [if_pos c2', wp_some]
        exact ⟨rfl, hend m k k1 (by omega) hin2 hlen hm (Or.inr (Or.inr c2))⟩
    · obtain ⟨m, x, y⟩ := s
      obtain ⟨k1, hx, hy, hin2, hlen, hm⟩ := hI
      try dsimp only at k1 hx hy hin2 hlen hm ⊢
      have fin := hend m 8 k1 (by omega) hin2 hlen hm (Or.inr (Or.inl (by omega)))
      unfold F_X5_shadedBy_52
      rw [ilt (by omega) (by omega)]
      by_cases c1 : slen e g h < 8
      · rw [if_pos c1, wp_some]
        exact ⟨rfl, fin⟩
      · rw [if_neg c1, show (8 : Int32) = nI 8 from rfl, ile (by omega) (by omega), if_pos (by omega), wp_some]
        exact ⟨rfl, fin⟩
    · dsimp only
      rw [iI_nat]; congr 1; rcases hE with rfl | rfl | rfl <;> omega
    · dsimp only
      rw [iI_nat]; congr 1; rcases hS with rfl | rfl | rfl <;> omega
    · intro j hj
      have : j = 0 := by omega
      subst this
      rcases hE with rfl | rfl | rfl <;> rcases hS with rfl | rfl | rfl <;> omega
    · intro q hq
      dsimp only
      rw [tb_bit hf hq, decide_eq_true_eq]
      constructor
      · rintro rfl
        refine ⟨0, by omega, ?_⟩
        unfold onL dx dy
        rcases hE with rfl | rfl | rfl <;> rcases hS with rfl | rfl | rfl <;> omega
      · rintro ⟨j, hj, ho⟩
        have : j = 0 := by omega
        subst this
        unfold onL dx dy at ho
        rcases hE with rfl | rfl | rfl <;> rcases hS with rfl | rfl | rfl <;> omega
  obtain ⟨r, h1, h2, h3⟩ := hw
  exact ⟨r.1, by rw [h1, ← h2], h3⟩
