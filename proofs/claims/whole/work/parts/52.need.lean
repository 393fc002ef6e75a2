/-! places, hours, rows of the script: there, or not -/
theorem ya_rng (a : Int32) {b : Nat} (hb : b < 2 ^ 31) : (∃ k, k ≤ b ∧ a = nI k) ∨ (a < 0 ∨ nI b < a) := by
  have t0 : (0 : Int32).toInt = 0 := by decide
  by_cases h1 : a < 0
  · exact Or.inr (Or.inl h1)
  · by_cases h2 : nI b < a
    · exact Or.inr (Or.inr h2)
    · left
      rw [fa_lt, t0] at h1
      rw [fa_lt, nI_toInt hb] at h2
      refine ⟨a.toInt.toNat, by omega, ?_⟩
      rw [fa_eq, nI_toInt (by omega)]
      omega
theorem ya_rng1 (a : Int32) {c b : Nat} (hb : b < 2 ^ 31) (hc : c ≤ b) : (∃ k, c ≤ k ∧ k ≤ b ∧ a = nI k) ∨ (a < nI c ∨ nI b < a) := by
  by_cases h1 : a < nI c
  · exact Or.inr (Or.inl h1)
  · by_cases h2 : nI b < a
    · exact Or.inr (Or.inr h2)
    · left
      rw [fa_lt, nI_toInt (by omega)] at h1
      rw [fa_lt, nI_toInt hb] at h2
      refine ⟨a.toInt.toNat, by omega, by omega, ?_⟩
      rw [fa_eq, nI_toInt (by omega)]
      omega
theorem ya_rlt (a : Int32) {n : Nat} (hn : n < 2 ^ 31) : (∃ k, k < n ∧ a = nI k) ∨ (a < 0 ∨ nI n ≤ a) := by
  have t0 : (0 : Int32).toInt = 0 := by decide
  by_cases h1 : a < 0
  · exact Or.inr (Or.inl h1)
  · by_cases h2 : nI n ≤ a
    · exact Or.inr (Or.inr h2)
    · left
      rw [fa_lt, t0] at h1
      rw [fa_le, nI_toInt hn] at h2
      refine ⟨a.toInt.toNat, by omega, ?_⟩
      rw [fa_eq, nI_toInt (by omega)]
      omega
theorem m_inY (m : zMem) {c k b : Nat} (h1 : c ≤ k) (h2 : k ≤ b) (hb : b < 2 ^ 31) : F_X10_in m (nI k) (nI c) (nI b) = some (1, m) := by
  rw [m_in, decide_eq_true ((nI_leI (by omega) (by omega)).mpr h1), decide_eq_true ((nI_leI (by omega) hb).mpr h2)]; rfl
theorem m_inN (m : zMem) {a c b : Int32} (h : a < c ∨ b < a) : F_X10_in m a c b = some (0, m) := by
  rw [m_in]
  rcases h with h | h
  · rw [decide_eq_false (Int32.not_le.mpr h), Bool.false_and]; rfl
  · rw [decide_eq_false (p := a ≤ b) (Int32.not_le.mpr h), Bool.and_false]; rfl
theorem ya_pre {a : Int32} {n : Nat} (hn : n < 2 ^ 31) (h : nI n ≤ a) : nI n - 1 < a := by
  have t1 : nI n - 1 = iI ((n : Int) - 1) := by rw [show (1 : Int32) = nI 1 from rfl, iI_subN]; rfl
  rw [fa_le, nI_toInt hn] at h
  rw [fa_lt, t1, iI_toInt (by omega) (by omega)]
  omega
theorem m_hinY (m : zMem) {k n : Nat} (h : k < n) (hn : n < 2 ^ 31) : F_X10_in m (nI k) 0 (nI n - 1) = some (1, m) := by
  rw [show (1 : Int32) = nI 1 from rfl, pk_sub (by omega), ya_0]
  exact m_inY m (Nat.zero_le _) (by omega) (by omega)
theorem m_hinN (m : zMem) {a : Int32} {n : Nat} (hn : n < 2 ^ 31) (h : a < 0 ∨ nI n ≤ a) : F_X10_in m a 0 (nI n - 1) = some (0, m) :=
  m_inN m (h.elim Or.inl (fun z => Or.inr (ya_pre hn z)))
theorem x_inE (x : zMem) (a b c : Int32) : F_X9_within x a b c = F_X10_in x a b c := rfl
def atP (e : PL) (a b : Int32) : Prop := ∃ i j, i < pW e ∧ j < pH e ∧ a = nI i ∧ b = nI j
def noP (e : PL) (a b : Int32) : Prop := (a < 0 ∨ nI (pW e) ≤ a) ∨ (b < 0 ∨ nI (pH e) ≤ b)
theorem plc {e : PL} (he : okPL e) (a b : Int32) : atP e a b ∨ noP e a b := by
  rcases ya_rlt a (n := pW e) (by have := he.2.1; omega) with ⟨i, hi, h1⟩ | h1
  · rcases ya_rlt b (n := pH e) (by have := he.2.2.2.1; omega) with ⟨j, hj, h2⟩ | h2
    · exact Or.inl ⟨i, j, hi, hj, h1, h2⟩
    · exact Or.inr (Or.inr h2)
  · exact Or.inr (Or.inl h1)
theorem inW_of {e : PL} {i j : Nat} (he : okPL e) (hi : i < pW e) (hj : j < pH e) : inW e (8 * j + i) = true := by
  have h1 := he.2.1
  unfold inW
  rw [show (8 * j + i) % 8 = i by omega, show (8 * j + i) / 8 = j by omega, decide_eq_true hi, decide_eq_true hj]; rfl
theorem x_holdsY {x : zMem} {e : PL} {t i j : Nat} (hp : RXp x e t) (he : okPL e) (hi : i < pW e) (hj : j < pH e) : F_X5_holds x t (nI i) (nI j) = some (1, x) := by
  have h1 := he.2.1
  have h2 := he.2.2.2.1
  rw [iI_nat, iI_nat, x_holds hp he (by omega) (by omega), decide_eq_true (show (0 : Int) ≤ (i : Int) by omega), decide_eq_true (show (i : Int) < (pW e : Int) by omega), decide_eq_true (show (0 : Int) ≤ (j : Int) by omega), decide_eq_true (show (j : Int) < (pH e : Int) by omega)]; rfl
theorem x_holdsN {x : zMem} {e : PL} {t : Nat} {a b : Int32} (hp : RXp x e t) (h : noP e a b) : F_X5_holds x t a b = some (0, x) := by
  unfold F_X5_holds
  rw [hp.1, hp.2.1]
  rcases h with (h | h) | (h | h)
  · rw [if_pos h]
  · by_cases c : a < 0
    · rw [if_pos c]
    · rw [if_neg c, if_pos h]
  · split
    · rfl
    · split
      · rfl
      · rfl
  · split
    · rfl
    · split
      · rfl
      · split
        · rfl
        · rfl
theorem x_npY {x : zMem} {e : PL} {L : LW} {pl r i j : Nat} (w : RXw x e L pl r) (he : okPL e) (hi : i < pW e) (hj : j < pH e) : F_X9_needPlace x (nI i) (nI j) = some (0, 0, x) := by
  unfold F_X9_needPlace
  rw [w.2.2.1, gd_ok (sX_p w.2.2.2.2.1), x_holdsY w.1 he hi hj, zb_some]; rfl
theorem x_npN {x : zMem} {e : PL} {L : LW} {pl r : Nat} {a b : Int32} (w : RXw x e L pl r) (h : noP e a b) : F_X9_needPlace x a b = some (2, 0, zI x 0 16 (x.1 0 16 + 1)) := by
  unfold F_X9_needPlace
  rw [w.2.2.1, gd_ok (sX_p w.2.2.2.2.1), x_holdsN w.1 h, zb_some]; rfl
theorem x_nhY {x : zMem} {e : PL} {L : LW} {pl r h : Nat} (w : RXw x e L pl r) (he : okPL e) (hh : h < pn e) : F_X9_needHour x (nI h) = some (0, 0, x) := by
  have hn := he.2.2.2.2.1
  unfold F_X9_needHour
  rw [w.2.2.1, gd_ok (sX_p w.2.2.2.2.1), w.1.2.2.1, x_inE, m_hinY x hh (by omega), zb_some]; rfl
theorem x_nhN {x : zMem} {e : PL} {L : LW} {pl r : Nat} {a : Int32} (w : RXw x e L pl r) (he : okPL e) (h : a < 0 ∨ nI (pn e) ≤ a) : F_X9_needHour x a = some (2, 0, zI x 0 16 (x.1 0 16 + 1)) := by
  have hn := he.2.2.2.2.1
  unfold F_X9_needHour
  rw [w.2.2.1, gd_ok (sX_p w.2.2.2.2.1), w.1.2.2.1, x_inE, m_hinN x (by omega) h, zb_some]; rfl
theorem x_nrY {x : zMem} {e : PL} {L : LW} {pl r h : Nat} (w : RXw x e L pl r) (he : okPL e) (hh : h < pH e) : F_X9_needRow x (nI h) = some (0, 0, x) := by
  have hn := he.2.2.2.1
  unfold F_X9_needRow
  rw [w.2.2.1, gd_ok (sX_p w.2.2.2.2.1), w.1.2.1, x_inE, m_hinY x hh (by omega), zb_some]; rfl
theorem x_nrN {x : zMem} {e : PL} {L : LW} {pl r : Nat} {a : Int32} (w : RXw x e L pl r) (he : okPL e) (h : a < 0 ∨ nI (pH e) ≤ a) : F_X9_needRow x a = some (2, 0, zI x 0 16 (x.1 0 16 + 1)) := by
  have hn := he.2.2.2.1
  unfold F_X9_needRow
  rw [w.2.2.1, gd_ok (sX_p w.2.2.2.2.1), w.1.2.1, x_inE, m_hinN x (by omega) h, zb_some]; rfl
theorem m_iwY {m : zMem} {e : PL} {i j : Nat} (hp : RMp m e) (he : okPL e) (hi : i < pW e) (hj : j < pH e) : F_X10_isWithin m (nI i) (nI j) = some (1, m) := by
  have h1 := he.2.1
  have h2 := he.2.2.2.1
  unfold F_X10_isWithin
  rw [hp.1, m_hinY m hi (by omega), zb_some]
  dsimp only
  rw [if_neg (by decide), hp.2.1, m_hinY m hj (by omega), zb_some]; rfl
theorem m_iwN {m : zMem} {e : PL} {a b : Int32} (hp : RMp m e) (he : okPL e) (h : noP e a b) : F_X10_isWithin m a b = some (0, m) := by
  have h1 := he.2.1
  have h2 := he.2.2.2.1
  unfold F_X10_isWithin
  rcases h with h | h
  · rw [hp.1, m_hinN m (by omega) h, zb_some]; rfl
  · simp only [m_in, zb_some]
    split
    · rfl
    · have e := m_hinN m (by omega) h
      rw [m_in] at e
      rw [hp.2.1]
      have e2 := congrArg (fun o => o.map Prod.fst) e
      simp only [Option.map_some, Option.some.injEq] at e2
      rw [e2]; rfl
theorem m_ihY {m : zMem} {e : PL} {h : Nat} (hp : RMp m e) (he : okPL e) (hh : h < pn e) : F_X10_isHour m (nI h) = some (1, m) := by
  have hn := he.2.2.2.2.1
  unfold F_X10_isHour
  rw [hp.2.2.1, m_hinY m hh (by omega), zb_some]; rfl
theorem m_ihN {m : zMem} {e : PL} {a : Int32} (hp : RMp m e) (he : okPL e) (h : a < 0 ∨ nI (pn e) ≤ a) : F_X10_isHour m a = some (0, m) := by
  have hn := he.2.2.2.2.1
  unfold F_X10_isHour
  rw [hp.2.2.1, m_hinN m (by omega) h, zb_some]; rfl
/-! strength, sun -/
theorem ya_gd {a : Nat} (h : ¬ a = 0) (h2 : a < 2 ^ 31) : (!(nI a == nI 0)) = true := by
  have : ¬ nI a = nI 0 := fun z => h ((ya_eq0 h2).mp z)
  simp [this]
def strS (u : Nat → Nat) (p : Nat) : Nat := if u (64 + p) + u p = 0 then 0 else 1000 * u (64 + p) / (u (64 + p) + u p)
theorem x_strengthOf (x : zMem) {s b : Nat} (hs : s ≤ 20000) (hb : b ≤ 20000) : F_X9_strengthOf x (nI s) (nI b) = some (nI (if s + b = 0 then 0 else 1000 * s / (s + b)), x) := by
  unfold F_X9_strengthOf
  rw [nI_add, zl_eq, ya_0, ile (by omega) (by omega)]
  by_cases h : s + b = 0
  · rw [if_pos (by omega), if_pos h]
  · rw [if_neg (by omega), if_neg h, gd_ok (ya_gd h (by omega)), show (1000 : Int32) = nI 1000 from rfl, pk_mul, pk_div (by omega) (by omega) (by omega)]
theorem m_strength {m : zMem} {u : Nat → Nat} {c p : Nat} (hr : RMr m u c) (hv : okV u) (hp : p < 64) : F_X10_strength m c (nI p) = some (nI (strS u p), m) := by
  have b1 := hv p (by omega)
  have b2 := hv (64 + p) (by omega)
  unfold F_X10_strength strS
  rw [show (64 : Int32) = nI 64 from rfl, ya_0, nI_add, nI_add, gin_ok (by omega) (by decide), gin_ok (by omega) (by decide), nI_clamp (by omega), nI_clamp (by omega), Nat.zero_add, hr _ (by omega), hr _ (by omega), nI_add, zl_eq, ieq (by omega) (by omega)]
  by_cases h : u (64 + p) + u p = 0
  · rw [if_pos h, if_pos h]
  · rw [if_neg h, if_neg h, gd_ok (ya_gd h (by omega)), show (1000 : Int32) = nI 1000 from rfl, pk_mul, pk_div (by omega) (by omega) (by omega)]
theorem strS_le {u : Nat → Nat} {p : Nat} : strS u p ≤ 1000 := by
  unfold strS
  split
  · omega
  · rename_i h
    apply Nat.div_le_of_le_mul
    have : 1000 * u (64 + p) ≤ (u (64 + p) + u p) * 1000 := by omega
    exact this
def sunS (e : PL) (u : Nat → Nat) (p : Nat) : Nat := cnt (fun h => !shd e u p h) (pn e)
theorem m_sunOf {m : zMem} {e : PL} {u : Nat → Nat} {p : Nat} (hp : RMp m e) (he : okPL e) (hr : RMr m u 451) (hv : okV u) (hpp : p < 64) : F_X10_sunOf m (nI p) = some (nI (sunS e u p), m) := by
  have hn := he.2.2.2.2.1
  unfold F_X10_sunOf
  refine loopP (F_X10_sunOf_4 _) (fun g k (s : Nat) => g (nI p) (nI s) (nI k) m) (pn e) (fun h s => s + if !shd e u p h then 1 else 0) (fun s => some (nI s, m)) (fun g k s hk => ?_) (fun g s => ?_) (s := 0) rfl (by omega)
  · show F_X10_sunOf_4 (nI p) g (nI p) (nI s) (nI k) m = _
    unfold F_X10_sunOf_4 F_X10_sunOf_33
    rw [hp.2.2.1, ile (by omega) (by omega), if_neg (by omega), m_isShade hp he hr hv hpp hk, zb_some]
    dsimp only
    rw [ibI]
    cases shd e u p k
    · rw [if_pos rfl, zl_eq, nI_1, nI_1]; rfl
    · rw [if_neg (by decide), zl_eq, ya_0, nI_add, nI_1]; rfl
  · show F_X10_sunOf_4 (nI p) g (nI p) (nI s) (nI (pn e)) m = _
    unfold F_X10_sunOf_4
    rw [hp.2.2.1, if_pos (Int32.le_refl _)]
theorem x_sunOf {x : zMem} {e : PL} {L : LW} {u : Nat → Nat} {pl r p : Nat} (w : RXw x e L pl r) (he : okPL e) (hr : RXr x e u 4) (hpp : p < 64) (hin : inW e p = true) : F_X9_sunOf x (nI p) = some (nI (sunS e u p), x) := by
  have hn := he.2.2.2.2.1
  unfold F_X9_sunOf
  refine loopP (F_X9_sunOf_4 _) (fun g k (s : Nat) => g (nI p) (nI s) (nI k) x) (pn e) (fun h s => s + if !shd e u p h then 1 else 0) (fun s => some (nI s, x)) (fun g k s hk => ?_) (fun g s => ?_) (s := 0) rfl (by omega)
  · show F_X9_sunOf_4 (nI p) g (nI p) (nI s) (nI k) x = _
    unfold F_X9_sunOf_4 F_X9_sunOf_33 F_X9_shadeNow
    rw [w.2.2.1, gd_ok (sX_p w.2.2.2.2.1), w.1.2.2.1, ile (by omega) (by omega), if_neg (by omega), x_shadeAt (by omega), zb_some]
    dsimp only
    rw [zb_some]
    dsimp only
    rw [x_has x _ hpp, zb_some]
    dsimp only
    rw [ibI, hr.2.2.2.2 k hk p hpp, hin, Bool.true_and]
    cases shd e u p k
    · rw [if_pos rfl, zl_eq, nI_1, nI_1]; rfl
    · rw [if_neg (by decide), zl_eq, ya_0, nI_add, nI_1]; rfl
  · show F_X9_sunOf_4 (nI p) g (nI p) (nI s) (nI (pn e)) x = _
    unfold F_X9_sunOf_4
    rw [w.2.2.1, gd_ok (sX_p w.2.2.2.2.1), w.1.2.2.1, if_pos (Int32.le_refl _)]
