/-! the reference's small methods -/
theorem m_in (M : zMem) (a b c : Int32) : F_X10_in M a b c = some (bI (decide (b ≤ a) && decide (a ≤ c)), M) := by
  unfold F_X10_in
  by_cases h1 : a < b
  · have : ¬ b ≤ a := Int32.not_le.mpr h1
    simp only [if_pos h1, this, decide_false, Bool.false_and]; rfl
  · have h1' : b ≤ a := Int32.not_lt.mp h1
    by_cases h2 : c < a
    · have : ¬ a ≤ c := Int32.not_le.mpr h2
      simp only [if_neg h1, if_pos h2, this, decide_false, Bool.and_false]; rfl
    · have h2' : a ≤ c := Int32.not_lt.mp h2
      simp only [if_neg h1, if_neg h2, h1', h2', decide_true, Bool.and_true]; rfl
theorem m_more (M : zMem) (a b : Int32) : F_X10_more M a b = some (if a ≤ b then b else a, M) := by
  unfold F_X10_more; split <;> rfl
theorem m_less (M : zMem) (a b : Int32) : F_X10_less M a b = some (if b ≤ a then b else a, M) := by
  unfold F_X10_less; split <;> rfl
theorem m_moreI (M : zMem) {a b : Int} (h1 : -2147483648 ≤ a) (h2 : a < 2147483648) (h3 : -2147483648 ≤ b) (h4 : b < 2147483648) : F_X10_more M (iI a) (iI b) = some (iI (imax a b), M) := by
  rw [m_more, iiLe h1 h2 h3 h4]
  unfold imax
  split <;> rfl
theorem m_moreN (M : zMem) {a b : Nat} (ha : a < 2 ^ 31) (hb : b < 2 ^ 31) : F_X10_more M (nI a) (nI b) = some (nI (max a b), M) := by
  rw [m_more, ile ha hb]
  by_cases h : a ≤ b
  · rw [if_pos h, show max a b = b by omega]
  · rw [if_neg h, show max a b = a by omega]
theorem m_lessN (M : zMem) {a b : Nat} (ha : a < 2 ^ 31) (hb : b < 2 ^ 31) : F_X10_less M (nI a) (nI b) = some (nI (min a b), M) := by
  rw [m_less, ile hb ha]
  by_cases h : b ≤ a
  · rw [if_pos h, show min a b = b by omega]
  · rw [if_neg h, show min a b = a by omega]
theorem m_more0 (M : zMem) {a b : Nat} (ha : a < 2 ^ 30) (hb : b < 2 ^ 30) : F_X10_more M 0 (nI a - nI b) = some (nI (a - b), M) := by
  rw [m_more, ya_sub0 ha hb]
theorem m_has {M : zMem} (b : Nat) {k : Nat} (hb : b < 2 ^ 31) (hk : k < 31) : F_X10_has M (nI b) (nI k) = some (bI (b.testBit k), M) := by
  have hs : ∀ n, n < 32 → ((nI n &&& 31).toBitVec.smod 32).toNat = n := by decide +kernel
  unfold F_X10_has
  rw [pk_shrN hb _ k (hs k (by omega)), show (1 : Int32) = nI 1 from rfl, pk_andN (Nat.lt_of_le_of_lt (Nat.div_le_self _ _) (by omega)) 1 rfl, ieq (by omega) (by omega)]
  have e : b.testBit k = decide (b / 2 ^ k % 2 ^ 1 = 1) := by rw [Nat.testBit_eq_decide_div_mod_eq]
  rw [e]
  by_cases h : b / 2 ^ k % 2 ^ 1 = 1
  · simp only [h, if_true, decide_true]; rfl
  · simp only [h, if_false, decide_false]; rfl
theorem m_isWithin {M : zMem} {e : PL} (hp : RMp M e) (he : okPL e) (x y : Int32) :
    F_X10_isWithin M x y = some (bI ((decide (0 ≤ x) && decide (x ≤ nI (pW e - 1))) && (decide (0 ≤ y) && decide (y ≤ nI (pH e - 1)))), M) := by
  obtain ⟨h0, h1, h2, _⟩ := hp
  obtain ⟨e1, e2, e3, e4, _⟩ := he
  unfold F_X10_isWithin
  simp only [m_in, zb_some, h0, h1, show (1 : Int32) = nI 1 from rfl, pk_sub e1, pk_sub e3, bI_0]
  cases hx : (decide (0 ≤ x) && decide (x ≤ nI (pW e - 1))) <;> cases hy : (decide (0 ≤ y) && decide (y ≤ nI (pH e - 1))) <;> rfl
theorem ya_in0 {k n : Nat} (hk : k < 2 ^ 31) (hn : 1 ≤ n) (hn2 : n < 2 ^ 31) : (decide ((0 : Int32) ≤ nI k) && decide (nI k ≤ nI (n - 1))) = decide (k < n) := by
  rw [show (0 : Int32) = nI 0 from rfl]
  have h1 : nI 0 ≤ nI k := (nI_leI (by omega) hk).mpr (Nat.zero_le _)
  by_cases h : k < n
  · have h2 : nI k ≤ nI (n - 1) := (nI_leI hk (by omega)).mpr (by omega)
    simp [h1, h2, h]
  · have h2 : ¬ nI k ≤ nI (n - 1) := fun z => h (by have := (nI_leI hk (by omega)).mp z; omega)
    simp [h2, h]
theorem m_isHere {M : zMem} {e : PL} (hp : RMp M e) (he : okPL e) {p : Nat} (h : p < 64) : F_X10_isHere M (nI p) = some (bI (inW e p), M) := by
  unfold F_X10_isHere
  rw [ya_rem8 (by omega), ya_div8 (by omega), m_isWithin hp he, ya_in0 (by omega) he.1 (by have := he.2.1; omega), ya_in0 (by omega) he.2.2.1 (by have := he.2.2.2.1; omega)]
  simp only [zb_some, gd_ok (bI_gd _)]
  rfl
theorem m_eastOf (M : zMem) {d : Nat} (h : d ≤ 7) : F_X10_eastOf M (nI d) = some (iI (dE d), M) := by
  have : d = 0 ∨ d = 1 ∨ d = 2 ∨ d = 3 ∨ d = 4 ∨ d = 5 ∨ d = 6 ∨ d = 7 := by omega
  rcases this with rfl | rfl | rfl | rfl | rfl | rfl | rfl | rfl <;> rfl
theorem m_southOf (M : zMem) {d : Nat} (h : d ≤ 7) : F_X10_southOf M (nI d) = some (iI (dS d), M) := by
  have : d = 0 ∨ d = 1 ∨ d = 2 ∨ d = 3 ∨ d = 4 ∨ d = 5 ∨ d = 6 ∨ d = 7 := by omega
  rcases this with rfl | rfl | rfl | rfl | rfl | rfl | rfl | rfl <;> rfl
theorem m_high (M : zMem) {g : Nat} (h : g < 2 ^ 31) : F_X10_high M (nI g) = some (nI (hgt g), M) := by
  unfold F_X10_high hgt
  by_cases e : g = 0
  · subst e; rfl
  · rw [ie0 h, if_neg e, if_neg e, show (50 : Int32) = nI 50 from rfl, pk_div h (by decide) (by decide), nI_1]
theorem m_lengthOf {M : zMem} {e : PL} (hp : RMp M e) (he : okPL e) {g h : Nat} (hg : g ≤ 9999) (hh : h < pn e) : F_X10_lengthOf M (nI g) (nI h) = some (nI (slen e g h), M) := by
  have hn := he.2.2.2.2.1
  have hl := slen_le he hh hg
  unfold F_X10_lengthOf
  rw [m_high M (by omega), zb_some]
  dsimp only
  rw [gin_ok (by omega) (by decide), nI_clamp (by omega), (hp.2.2.2 h hh).2, pk_mul, show (10 : Int32) = nI 10 from rfl, pk_div (by omega) (by decide) (by decide)]
  rfl
theorem m_covers {M : zMem} {e : PL} (hp : RMp M e) (he : okPL e) {f g p h : Nat} (hf : f < 64) (hpp : p < 64) (hg : g ≤ 9999) (hh : h < pn e) :
    F_X10_covers M (nI f) (nI g) (nI p) (nI h) = some (bI (cov e f g p h), M) := by
  have hn := he.2.2.2.2.1
  have hl := slen_le he hh hg
  have hsd := (he.2.2.2.2.2 h hh).1
  have b1 := dx_b (f := f) (p := p)
  have b2 := dy_b hf hpp
  have b3 := far_b hf hpp
  have e1 := dE_b (psd e h)
  have e2 := dS_b (psd e h)
  have hs : slen e g h ≤ 800 := by unfold slen; omega
  have m1 : -7 ≤ far f p * dE (psd e h) ∧ far f p * dE (psd e h) ≤ 7 := by
    have : dE (psd e h) = -1 ∨ dE (psd e h) = 0 ∨ dE (psd e h) = 1 := by omega
    rcases this with z | z | z <;> rw [z] <;> omega
  have m2 : -7 ≤ far f p * dS (psd e h) ∧ far f p * dS (psd e h) ≤ 7 := by
    have : dS (psd e h) = -1 ∨ dS (psd e h) = 0 ∨ dS (psd e h) = 1 := by omega
    rcases this with z | z | z <;> rw [z] <;> omega
  unfold F_X10_covers cov
  rw [ie0 (by omega)]
  by_cases g0 : g = 0
  · rw [if_pos g0, if_pos g0]; rfl
  rw [if_neg g0, if_neg g0, ieq (by omega) (by omega)]
  by_cases fp : f = p
  · rw [if_pos fp, if_pos fp]; rfl
  rw [if_neg fp, if_neg fp, ya_rem8 (by omega), ya_rem8 (by omega), ya_div8 (by omega), ya_div8 (by omega), iI_subN, iI_subN]
  simp only [zl_eq]
  rw [show ((p % 8 : Nat) : Int) - ((f % 8 : Nat) : Int) = dx f p from rfl, show ((p / 8 : Nat) : Int) - ((f / 8 : Nat) : Int) = dy f p from rfl, iI_neg, iI_neg]
  have a1 : imax (dx f p) (-(dx f p)) = iabs (dx f p) := by unfold imax iabs; split <;> split <;> omega
  have a2 : imax (dy f p) (-(dy f p)) = iabs (dy f p) := by unfold imax iabs; split <;> split <;> omega
  have c1 : 0 ≤ iabs (dx f p) ∧ iabs (dx f p) ≤ 7 := by unfold iabs; split <;> omega
  have c2 : 0 ≤ iabs (dy f p) ∧ iabs (dy f p) ≤ 7 := by unfold iabs; split <;> omega
  rw [m_moreI M (by omega) (by omega) (by omega) (by omega), zb_some]
  dsimp only
  rw [m_moreI M (by omega) (by omega) (by omega) (by omega), zb_some]
  dsimp only
  rw [a1, a2, m_moreI M (by omega) (by omega) (by omega) (by omega), zb_some]
  dsimp only
  rw [show imax (iabs (dx f p)) (iabs (dy f p)) = far f p from rfl, m_lengthOf hp he hg hh, zb_some]
  dsimp only
  rw [iI_nat (slen e g h), iiLt (by omega) (by omega) (by omega) (by omega)]
  by_cases q : (slen e g h : Int) < far f p
  · rw [if_pos q]
    have : ¬ far f p ≤ (slen e g h : Int) := by omega
    simp [this]; rfl
  rw [if_neg q, gin_ok (by omega) (by decide), nI_clamp (by omega), (hp.2.2.2 h hh).1, m_eastOf M hsd, zb_some]
  dsimp only
  rw [iI_mul, iiEq (by omega) (by omega) (by omega) (by omega)]
  have q' : far f p ≤ (slen e g h : Int) := by omega
  by_cases x1 : dx f p = far f p * dE (psd e h)
  · rw [if_pos x1, (hp.2.2.2 h hh).1, m_southOf M hsd, zb_some]
    dsimp only
    rw [iI_mul, iiEq (by omega) (by omega) (by omega) (by omega)]
    by_cases x2 : dy f p = far f p * dS (psd e h)
    · rw [if_pos x2, decide_eq_true q', decide_eq_true x1, decide_eq_true x2]; rfl
    · rw [if_neg x2, decide_eq_false x2, Bool.and_false, Bool.and_false]; rfl
  · rw [if_neg x1, decide_eq_false x1, Bool.false_and, Bool.and_false]; rfl
theorem m_isShade {M : zMem} {e : PL} {u : Nat → Nat} {c : Nat} (hp : RMp M e) (he : okPL e) (hr : RMr M u c) (hv : okV u) {p h : Nat} (hpp : p < 64) (hh : h < pn e) :
    F_X10_isShade M c (nI p) (nI h) = some (bI (shd e u p h), M) := by
  have hw : wp (itF (fun _ _ _ _ => none) (F_X10_isShade_3 c (nI p) (nI h)) zFuel (nI p) (nI h) (nI 0) M) (fun r => r = (bI (shd e u p h), M)) := by
    refine loopN (F_X10_isShade_3 _ _ _) (fun f k (_ : Unit) => f (nI p) (nI h) (nI k) M) 64 (fun k _ => ∀ j, j < k → cov e j (u (128 + j)) p h = false) _ (fun f k s hk hI ih => ?_) (fun f s hI => ?_) (k := 0) (s := ()) (by omega) (fun j hj => absurd hj (Nat.not_lt_zero _)) (by omega)
    · show wp (F_X10_isShade_3 c (nI p) (nI h) f (nI p) (nI h) (nI k) M) _
      unfold F_X10_isShade_3
      rw [show (64 : Int32) = nI 64 from rfl, ile (by omega) (by omega), if_neg (by omega), show (128 : Int32) = nI 128 from rfl, nI_add, gin_ok (by omega) (by decide), nI_clamp (by omega), hr _ (by omega), m_covers hp he hk hpp (hv _ (by omega)) hh, zb_some]
      dsimp only
      rw [ibI]
      cases hc : cov e k (u (128 + k)) p h
      · rw [if_pos rfl, nI_1]
        refine ih () (fun j hj => ?_)
        by_cases e : j = k
        · rw [e]; exact hc
        · exact hI j (by omega)
      · rw [if_neg (by decide), wp_some, show shd e u p h = true from anyN_yes hk hc]; rfl
    · show wp (F_X10_isShade_3 c (nI p) (nI h) f (nI p) (nI h) (nI 64) M) _
      unfold F_X10_isShade_3
      rw [show (64 : Int32) = nI 64 from rfl, ile (by omega) (by omega), if_pos (by omega), wp_some, show shd e u p h = false from anyN_no hI]; rfl
  obtain ⟨r, h1, h2⟩ := hw
  rw [h2] at h1
  exact h1
