/-! the best of what is offered -/
abbrev BS := Option (Nat × Nat)
def bF (b : BS) : Int32 := match b with
  | none => -1
  | some q => nI q.1
def bA (b : BS) : Int32 := match b with
  | none => -1
  | some q => nI q.2
def offL (p v : Nat) (b : BS) : BS := match b with
  | none => some (p, v)
  | some q => if v < q.2 then some (p, v) else some q
def offM (p v : Nat) (b : BS) : BS := match b with
  | none => some (p, v)
  | some q => if q.2 < v then some (p, v) else some q
def okb (b : BS) : Prop := ∀ q, b = some q → q.1 < 2 ^ 31 ∧ q.2 < 2 ^ 31
theorem okb_n : okb none := fun _ h => by cases h
theorem okb_L {p v : Nat} {b : BS} (h : okb b) (hp : p < 2 ^ 31) (hv : v < 2 ^ 31) : okb (offL p v b) := by
  intro q hq
  unfold offL at hq
  cases b with
  | none => cases hq; exact ⟨hp, hv⟩
  | some z =>
    dsimp only at hq
    split at hq
    · cases hq; exact ⟨hp, hv⟩
    · cases hq; exact h _ rfl
theorem okb_M {p v : Nat} {b : BS} (h : okb b) (hp : p < 2 ^ 31) (hv : v < 2 ^ 31) : okb (offM p v b) := by
  intro q hq
  unfold offM at hq
  cases b with
  | none => cases hq; exact ⟨hp, hv⟩
  | some z =>
    dsimp only at hq
    split at hq
    · cases hq; exact ⟨hp, hv⟩
    · cases hq; exact h _ rfl
/-- what the class' best holds -/
def XB (x : zMem) (b : BS) : Prop := x.1 172 0 = bF b ∧ x.1 172 1 = bA b ∧ okb b
/-- but for the best, nothing changed -/
def fr172 (x x' : zMem) : Prop := (∀ a, a ≠ 172 → x'.1 a = x.1 a) ∧ x'.2 = x.2
theorem fr172.q {r : Nat} {x x' : zMem} (h : fr172 x x') : frQ r x x' := ⟨fun a _ _ _ h4 => h.1 a (by omega), fun j _ => by rw [h.1 0 (by omega)], fun a _ => by rw [h.2], by rw [h.2]⟩
theorem fr172.refl {x : zMem} : fr172 x x := ⟨fun _ _ => rfl, rfl⟩
theorem fr172.trans {x y z : zMem} (h : fr172 x y) (k : fr172 y z) : fr172 x z := ⟨fun a ha => (k.1 a ha).trans (h.1 a ha), k.2.trans h.2⟩
theorem x_clear (x : zMem) : ∃ x', F_X0_clear x 172 = some x' ∧ XB x' none ∧ fr172 x x' := by
  unfold F_X0_clear
  refine ⟨_, rfl, ⟨?_, ?_, okb_n⟩, fun a ha => ?_, rfl⟩
  · show (zI (zI x 172 0 (-1)) 172 1 (-1)).1 172 0 = -1
    rw [zI_s (by omega), zI_1, upd_s]
  · show (zI (zI x 172 0 (-1)) 172 1 (-1)).1 172 1 = -1
    rw [zI_1, upd_s]
  · show (zI (zI x 172 0 (-1)) 172 1 (-1)).1 a = _
    rw [zI_n ha, zI_n ha]
theorem x_offer (x : zMem) (p v : Nat) (hp : p < 2 ^ 31) (hv : v < 2 ^ 31) : XB (zI (zI x 172 0 (nI p)) 172 1 (nI v)) (some (p, v)) ∧ fr172 x (zI (zI x 172 0 (nI p)) 172 1 (nI v)) := by
  refine ⟨⟨?_, ?_, fun q hq => by cases hq; exact ⟨hp, hv⟩⟩, fun a ha => ?_, rfl⟩
  · rw [zI_s (by omega), zI_1, upd_s]; rfl
  · rw [zI_1, upd_s]; rfl
  · rw [zI_n ha, zI_n ha]
theorem x_offerLeast {x : zMem} {b : BS} {p v : Nat} (h : XB x b) (hp : p < 2 ^ 31) (hv : v < 2 ^ 31) : ∃ x', F_X0_offerLeast x 172 (nI p) (nI v) = some x' ∧ XB x' (offL p v b) ∧ fr172 x x' := by
  obtain ⟨h1, h2, h3⟩ := h
  have hx := x_offer x p v hp hv
  unfold F_X0_offerLeast
  cases b with
  | none =>
    rw [if_pos (show x.1 172 0 = -1 from h1)]
    exact ⟨_, rfl, hx⟩
  | some q =>
    have hq := h3 q rfl
    have e1 : x.1 172 0 = nI q.1 := h1
    have e2 : x.1 172 1 = nI q.2 := h2
    rw [if_neg (by rw [e1, ya_ne_m1 hq.1]; exact fun z => z), e2, ile hq.2 hv]
    unfold offL
    by_cases c : q.2 ≤ v
    · rw [if_pos c]
      dsimp only
      rw [if_neg (by omega)]
      exact ⟨x, rfl, ⟨h1, h2, h3⟩, fr172.refl⟩
    · rw [if_neg c]
      dsimp only
      rw [if_pos (by omega)]
      exact ⟨_, rfl, hx⟩
theorem x_offerMost {x : zMem} {b : BS} {p v : Nat} (h : XB x b) (hp : p < 2 ^ 31) (hv : v < 2 ^ 31) : ∃ x', F_X0_offerMost x 172 (nI p) (nI v) = some x' ∧ XB x' (offM p v b) ∧ fr172 x x' := by
  obtain ⟨h1, h2, h3⟩ := h
  have hx := x_offer x p v hp hv
  unfold F_X0_offerMost
  cases b with
  | none =>
    rw [if_pos (show x.1 172 0 = -1 from h1)]
    exact ⟨_, rfl, hx⟩
  | some q =>
    have hq := h3 q rfl
    have e1 : x.1 172 0 = nI q.1 := h1
    have e2 : x.1 172 1 = nI q.2 := h2
    rw [if_neg (by rw [e1, ya_ne_m1 hq.1]; exact fun z => z), e2, ile hv hq.2]
    unfold offM
    by_cases c : v ≤ q.2
    · rw [if_pos c]
      dsimp only
      rw [if_neg (by omega)]
      exact ⟨x, rfl, ⟨h1, h2, h3⟩, fr172.refl⟩
    · rw [if_neg c]
      dsimp only
      rw [if_pos (by omega)]
      exact ⟨_, rfl, hx⟩
/-- as a place is told; NONE -/
def tellB (b : BS) : Int32 := match b with
  | none => -1
  | some q => nI (10 * (q.1 / 8) + q.1 % 8)
def poa (w : Nat) (b : BS) : Int32 := if w = 0 then tellB b else bA b
theorem x_tellPlace (x : zMem) {p : Nat} (hp : p < 2 ^ 31) : F_X9_tellPlace x (nI p) = some (nI (10 * (p / 8) + p % 8), x) := by
  unfold F_X9_tellPlace
  rw [ya_rem8 hp, ya_div8 hp, show (10 : Int32) = nI 10 from rfl, pk_mul, nI_add, Nat.mul_comm]
theorem x_poa {x : zMem} {b : BS} {w : Nat} (h : XB x b) (hw : w < 2 ^ 31) : F_X0_placeOrAmount x 172 (nI w) = some (poa w b, x) := by
  obtain ⟨h1, h2, h3⟩ := h
  unfold F_X0_placeOrAmount F_X0_placeOrAmount_12 poa
  rw [ie0 hw]
  by_cases c : w = 0
  · rw [if_pos c, if_pos c]
    cases b with
    | none => rw [if_pos (show x.1 172 0 = -1 from h1), h2]; rfl
    | some q =>
      have hq := h3 q rfl
      have e1 : x.1 172 0 = nI q.1 := h1
      rw [if_neg (by rw [e1, ya_ne_m1 hq.1]; exact fun z => z), e1, x_tellPlace x hq.1, zb_some]; rfl
  · rw [if_neg c, if_neg c, h2]
theorem m_asTold (m : zMem) {b : BS} (h : okb b) : F_X10_asTold m (bF b) = some (tellB b, m) := by
  unfold F_X10_asTold
  cases b with
  | none => rfl
  | some q =>
    have hq := h q rfl
    rw [show bF (some q) = nI q.1 from rfl]
    rw [if_neg (by rw [ya_ne_m1 hq.1]; exact fun z => z), ya_rem8 hq.1, ya_div8 hq.1, show (10 : Int32) = nI 10 from rfl, pk_mul, nI_add]; rfl
theorem bF_n {b : BS} (h : okb b) : bF b = -1 ↔ b = none := by
  cases b with
  | none => exact ⟨fun _ => rfl, fun _ => rfl⟩
  | some q =>
    show nI q.1 = -1 ↔ _
    rw [ya_ne_m1 (h q rfl).1]
    exact ⟨False.elim, fun z => by cases z⟩
/-- the best of those that count, by their numbers -/
def selM (c : Nat → Bool) (v : Nat → Nat) (n : Nat) : BS := fN (fun p b => if c p then offM p (v p) b else b) none n
def selL (c : Nat → Bool) (v : Nat → Nat) (n : Nat) : BS := fN (fun p b => if c p then offL p (v p) b else b) none n
theorem selM_s (c : Nat → Bool) (v : Nat → Nat) (n : Nat) : selM c v (n + 1) = if c n then offM n (v n) (selM c v n) else selM c v n := rfl
theorem selL_s (c : Nat → Bool) (v : Nat → Nat) (n : Nat) : selL c v (n + 1) = if c n then offL n (v n) (selL c v n) else selL c v n := rfl
theorem selM_ok {c : Nat → Bool} {v : Nat → Nat} : ∀ {n}, n < 2 ^ 31 → (∀ p, p < n → v p < 2 ^ 31) → okb (selM c v n)
  | 0, _, _ => okb_n
  | n + 1, hn, hv => by
    have ih := selM_ok (c := c) (n := n) (by omega) (fun p hp => hv p (by omega))
    rw [selM_s]
    split
    · exact okb_M ih (by omega) (hv n (by omega))
    · exact ih
theorem selL_ok {c : Nat → Bool} {v : Nat → Nat} : ∀ {n}, n < 2 ^ 31 → (∀ p, p < n → v p < 2 ^ 31) → okb (selL c v n)
  | 0, _, _ => okb_n
  | n + 1, hn, hv => by
    have ih := selL_ok (c := c) (n := n) (by omega) (fun p hp => hv p (by omega))
    rw [selL_s]
    split
    · exact okb_L ih (by omega) (hv n (by omega))
    · exact ih
/-- where the best stands, its amount stands too -/
theorem selM_v {c : Nat → Bool} {v : Nat → Nat} : ∀ {n} {q : Nat × Nat}, selM c v n = some q → q.1 < n ∧ q.2 = v q.1
  | 0, _, h => by cases h
  | n + 1, q, h => by
    rw [selM_s] at h
    split at h
    · unfold offM at h
      cases hs : selM c v n with
      | none => rw [hs] at h; cases h; exact ⟨Nat.lt_succ_self _, rfl⟩
      | some z =>
        rw [hs] at h
        dsimp only at h
        split at h
        · cases h; exact ⟨Nat.lt_succ_self _, rfl⟩
        · cases h; have := selM_v hs; exact ⟨by omega, this.2⟩
    · have := selM_v h; exact ⟨by omega, this.2⟩
theorem fr172.rr {x x' : zMem} {e : PL} {u : Nat → Nat} {t : Nat} (h : fr172 x x') (ht : t + 4 < 172) (w : RXr x e u t) : RXr x' e u t := by
  obtain ⟨w1, w2, w3, w4, w5⟩ := w
  refine ⟨fun p hp => ?_, ?_, ?_, ?_, fun k hk q hq => ?_⟩
  · rw [h.1 _ (by omega), h.1 _ (by omega), h.1 _ (by omega)]; exact w1 p hp
  · rw [h.1 _ (by omega)]; exact w2
  · rw [h.1 _ (by omega)]; exact w3
  · rw [h.1 _ (by omega)]; exact w4
  · rw [h.2]; exact w5 k hk q hq
theorem frX.b {r : Nat} {S : Nat → Prop} {x x' : zMem} {b : BS} (h : frX r S x x') (hr : r = 186 ∨ r = 190) (hS : ¬ S 172) (w : XB x b) : XB x' b := by
  have e := h.1 172 (by omega) (by omega) hS
  exact ⟨by rw [e]; exact w.1, by rw [e]; exact w.2.1, w.2.2⟩
/-! strongest, greatest -/
theorem q_strongest {x m : zMem} {S : SS} (a : Int32) (hX : RXo x S) (hM : RMn m S) (ok : okS S) : same T1 (F_X9_strongest x a) (F_X10_strongest m a) := by
  obtain ⟨pl, r, n, h⟩ := hX
  have hM1 := hM.t ok
  have hv := ok.u
  rcases ya_rng a (b := 1) (by decide) with ⟨w, hw, rfl⟩ | hb
  · generalize hsel : selM (fun p => decide (0 < (sN S).2.1 (64 + p))) (strS (sN S).2.1) = sel
    have okb64 : ∀ k, k ≤ 64 → okb (sel k) := fun k hk => by rw [← hsel]; exact selM_ok (by omega) (fun p _ => by have := strS_le (u := (sN S).2.1) (p := p); omega)
    have hX1 : wp (F_X9_strongest x (nI w)) (fun q => q.1 = 0 ∧ q.2.1 = poa w (sel 64) ∧ fr172 x q.2.2) := by
      obtain ⟨x1, c1, c2, c3⟩ := x_clear x
      have e : F_X9_strongest x (nI w) = F_X9_strongest_15 (nI w) (nI w) 1 x := by
        unfold F_X9_strongest
        have : w = 0 ∨ w = 1 := by omega
        rcases this with rfl | rfl
        · rw [if_pos (show nI 0 = (0 : Int32) from rfl)]
        · rw [if_neg (by decide), if_pos (show nI 1 = (1 : Int32) from rfl)]
      rw [e]
      unfold F_X9_strongest_15
      rw [x_need1, zbx_0, c1, zbv_some]
      refine loopN (F_X9_strongest_35 _) (fun g k (y : zMem) => g (nI w) (nI k) y) 64 (fun k y => XB y (sel k) ∧ fr172 x y) _ (fun g k y hk hI ih => ?_) (fun g y hI => ?_) (k := 0) (s := x1) (by omega) ⟨by rw [← hsel]; exact c2, c3⟩ (by omega)
      · try dsimp only at hI ih ⊢
        obtain ⟨i1, i2⟩ := hI
        have hu := i2.rr (by omega) h.u
        have b1 := hv.1 k (by omega)
        have b2 := hv.1 (64 + k) (by omega)
        unfold F_X9_strongest_35 F_X9_strongest_73
        rw [show (64 : Int32) = nI 64 from rfl, ile (by omega) (by omega), if_neg (by omega), gin_ok hk (by decide), nI_clamp (by omega), (hu.1 k hk).1, (hu.1 k hk).2.1]
        have hs : sel (k + 1) = if decide (0 < (sN S).2.1 (64 + k)) = true then offM k (strS (sN S).2.1 k) (sel k) else sel k := by rw [← hsel]; rfl
        by_cases z : (sN S).2.1 (64 + k) ≤ 0
        · rw [if_pos (by rw [ya_0, nI_leI (by omega) (by omega)]; exact z), nI_1]
          rw [if_neg (by simp; omega)] at hs
          exact ih y ⟨by rw [hs]; exact i1, i2⟩
        · rw [if_neg (by rw [ya_0, nI_leI (by omega) (by omega)]; exact z), x_strengthOf y (by omega) (by omega), zb_some]
          dsimp only
          rw [show nI (if (sN S).2.1 (64 + k) + (sN S).2.1 k = 0 then 0 else 1000 * (sN S).2.1 (64 + k) / ((sN S).2.1 (64 + k) + (sN S).2.1 k)) = nI (strS (sN S).2.1 k) from rfl]
          rw [if_pos (by simp; omega)] at hs
          obtain ⟨y', d1, d2, d3⟩ := x_offerMost (p := k) (v := strS (sN S).2.1 k) i1 (by omega) (by have := strS_le (u := (sN S).2.1) (p := k); omega)
          rw [d1, zbv_some, nI_1]
          exact ih y' ⟨by rw [hs]; exact d2, i2.trans d3⟩
      · try dsimp only at hI ⊢
        obtain ⟨i1, i2⟩ := hI
        unfold F_X9_strongest_35
        rw [show (64 : Int32) = nI 64 from rfl, if_pos (Int32.le_refl _), x_poa i1 (by omega), zb_some, wp_some]
        exact ⟨rfl, rfl, i2⟩
    obtain ⟨⟨k0, v0, x'⟩, g1, g2, g3, g4⟩ := hX1
    dsimp only at g2 g3 g4
    subst g2
    subst g3
    refine same_q h hM1 ok (Or.inl ⟨rfl, rfl⟩) (v := poa w (sel 64)) (x' := x') (m' := zI m 0 0 0) g1 g4.q ?_ frN.refl t0_0
    unfold F_X10_strongest
    rw [zl_eq, show F_X10_in (zI m 0 0 0) (nI w) (0 : Int32) (1 : Int32) = some (1, zI m 0 0 0) from m_inY _ (Nat.zero_le w) hw (by decide), zb_some]
    dsimp only
    rw [if_neg (by decide)]
    unfold F_X10_strongest_20
    rw [m_bad0 t0_0, zb_some]
    dsimp only
    rw [if_pos rfl]
    have hM2 : wp (itF (fun _ _ _ _ => none) (F_X10_strongest_34 (nI w)) zFuel (nI w) (-1) (nI 0) (zI m 0 0 0)) (fun q => q = (poa w (sel 64), zI m 0 0 0)) := by
      refine loopN (F_X10_strongest_34 _) (fun g k (s : Int32) => g (nI w) s (nI k) (zI m 0 0 0)) 64 (fun k s => s = bF (sel k)) _ (fun g k s hk hI ih => ?_) (fun g s hI => ?_) (k := 0) (s := -1) (by omega) (by rw [← hsel]; rfl) (by omega)
      · try dsimp only at hI ih ⊢
        have b1 := hv.1 k (by omega)
        have b2 := hv.1 (64 + k) (by omega)
        have hs : sel (k + 1) = if decide (0 < (sN S).2.1 (64 + k)) = true then offM k (strS (sN S).2.1 k) (sel k) else sel k := by rw [← hsel]; rfl
        unfold F_X10_strongest_34 F_X10_strongest_80 F_X10_strongest_81
        rw [show (64 : Int32) = nI 64 from rfl, ile (by omega) (by omega), if_neg (by omega), nI_add, gin_ok (by omega) (by decide), nI_clamp (by omega), hM1.u _ (by omega)]
        by_cases z : (sN S).2.1 (64 + k) ≤ 0
        · rw [if_pos (by rw [ya_0, nI_leI (by omega) (by omega)]; exact z), nI_1]
          rw [if_neg (by simp; omega)] at hs
          exact ih s (by rw [hs]; exact hI)
        · rw [if_neg (by rw [ya_0, nI_leI (by omega) (by omega)]; exact z)]
          rw [if_pos (by simp; omega)] at hs
          cases hb : sel k with
          | none =>
            rw [hb] at hI hs
            rw [if_pos (show s = -1 from hI), nI_1]
            exact ih _ (by rw [hs]; rfl)
          | some q =>
            have hq := okb64 k (by omega) q hb
            have hqv : q.1 < k ∧ q.2 = strS (sN S).2.1 q.1 := selM_v (by rw [hsel]; exact hb)
            rw [hb] at hI hs
            have e1 : s = nI q.1 := hI
            have l1 := strS_le (u := (sN S).2.1) (p := k)
            have l2 := strS_le (u := (sN S).2.1) (p := q.1)
            rw [if_neg (by rw [e1, ya_ne_m1 hq.1]; exact fun z => z), m_strength hM1.u hv.1 hk, zb_some, e1]
            dsimp only
            rw [m_strength hM1.u hv.1 (by omega), zb_some]
            dsimp only
            rw [ile (by omega) (by omega), nI_1]
            have ho : offM k (strS (sN S).2.1 k) (some q) = if q.2 < strS (sN S).2.1 k then some (k, strS (sN S).2.1 k) else some q := rfl
            rw [ho] at hs
            by_cases c : strS (sN S).2.1 k ≤ strS (sN S).2.1 q.1
            · rw [if_pos c]
              rw [if_neg (by omega)] at hs
              exact ih _ (by rw [hs]; rfl)
            · rw [if_neg c]
              rw [if_pos (by omega)] at hs
              exact ih _ (by rw [hs]; rfl)
      · try dsimp only at hI ⊢
        unfold F_X10_strongest_34
        rw [show (64 : Int32) = nI 64 from rfl, if_pos (Int32.le_refl _), ie0 (by omega)]
        unfold poa
        by_cases c : w = 0
        · rw [if_pos c, if_pos c, hI, m_asTold _ (okb64 64 (by omega)), zb_some, wp_some]
        · rw [if_neg c, if_neg c]
          cases hb : sel 64 with
          | none =>
            rw [hb] at hI
            rw [if_pos (show s = -1 from hI), wp_some]; rfl
          | some q =>
            have hq := okb64 64 (by omega) q hb
            have hqv : q.1 < 64 ∧ q.2 = strS (sN S).2.1 q.1 := selM_v (by rw [hsel]; exact hb)
            rw [hb] at hI
            have e1 : s = nI q.1 := hI
            rw [if_neg (by rw [e1, ya_ne_m1 hq.1]; exact fun z => z), e1, m_strength hM1.u hv.1 hqv.1, zb_some, wp_some]
            show (nI (strS (sN S).2.1 q.1), _) = (nI q.2, _)
            rw [hqv.2]
    obtain ⟨q, q1, q2⟩ := hM2
    rw [q2] at q1
    exact q1
  · refine same_1 (t := 1) h hM1 ok (Or.inr ⟨rfl, rfl⟩) frQ.refl frN.refl (v := 0) (w := 0) ?_ ?_
    · unfold F_X9_strongest
      rw [if_neg (by rintro rfl; rcases hb with hb | hb <;> revert hb <;> decide), if_neg (by rintro rfl; rcases hb with hb | hb <;> revert hb <;> decide)]; rfl
    · unfold F_X10_strongest
      rw [zl_eq, show F_X10_in (zI m 0 0 0) a (0 : Int32) (1 : Int32) = some (0, zI m 0 0 0) from m_inN _ hb, zb_some]
      dsimp only
      rw [if_pos rfl]
      unfold F_X10_strongest_20
      rw [m_bad11 t0_0, zb_some]; rfl
theorem q_greatest {x m : zMem} {S : SS} (a : Int32) (hX : RXo x S) (hM : RMn m S) (ok : okS S) : same T1 (F_X9_greatest x a) (F_X10_greatest m a) := by
  obtain ⟨pl, r, n, h⟩ := hX
  have hM1 := hM.t ok
  have hv := ok.u
  rcases ya_rng a (b := 1) (by decide) with ⟨w, hw, rfl⟩ | hb
  · generalize hsel : selM (fun p => decide (0 < (sN S).2.1 (128 + p))) (fun p => (sN S).2.1 (128 + p)) = sel
    have okb64 : ∀ k, k ≤ 64 → okb (sel k) := fun k hk => by rw [← hsel]; exact selM_ok (by omega) (fun p hp => by have := hv.1 (128 + p) (by omega); omega)
    have hX1 : wp (F_X9_greatest x (nI w)) (fun q => q.1 = 0 ∧ q.2.1 = poa w (sel 64) ∧ fr172 x q.2.2) := by
      obtain ⟨x1, c1, c2, c3⟩ := x_clear x
      have e : F_X9_greatest x (nI w) = F_X9_greatest_15 (nI w) (nI w) 1 x := by
        unfold F_X9_greatest
        have : w = 0 ∨ w = 1 := by omega
        rcases this with rfl | rfl
        · rw [if_pos (show nI 0 = (0 : Int32) from rfl)]
        · rw [if_neg (by decide), if_pos (show nI 1 = (1 : Int32) from rfl)]
      rw [e]
      unfold F_X9_greatest_15
      rw [x_need1, zbx_0, c1, zbv_some]
      refine loopN (F_X9_greatest_27 _) (fun g k (y : zMem) => g (nI w) (nI k) y) 64 (fun k y => XB y (sel k) ∧ fr172 x y) _ (fun g k y hk hI ih => ?_) (fun g y hI => ?_) (k := 0) (s := x1) (by omega) ⟨by rw [← hsel]; exact c2, c3⟩ (by omega)
      · try dsimp only at hI ih ⊢
        obtain ⟨i1, i2⟩ := hI
        have hu := i2.rr (by omega) h.u
        have b2 := hv.1 (128 + k) (by omega)
        unfold F_X9_greatest_27 F_X9_greatest_68
        rw [show (64 : Int32) = nI 64 from rfl, ile (by omega) (by omega), if_neg (by omega), gin_ok hk (by decide), nI_clamp (by omega), (hu.1 k hk).2.2]
        have hs : sel (k + 1) = if decide (0 < (sN S).2.1 (128 + k)) = true then offM k ((sN S).2.1 (128 + k)) (sel k) else sel k := by rw [← hsel]; rfl
        by_cases z : (sN S).2.1 (128 + k) ≤ 0
        · rw [if_pos (by rw [ya_0, nI_leI (by omega) (by omega)]; exact z), nI_1]
          rw [if_neg (by simp; omega)] at hs
          exact ih y ⟨by rw [hs]; exact i1, i2⟩
        · rw [if_neg (by rw [ya_0, nI_leI (by omega) (by omega)]; exact z)]
          rw [if_pos (by simp; omega)] at hs
          obtain ⟨y', d1, d2, d3⟩ := x_offerMost (p := k) (v := (sN S).2.1 (128 + k)) i1 (by omega) (by omega)
          rw [d1, zbv_some, nI_1]
          exact ih y' ⟨by rw [hs]; exact d2, i2.trans d3⟩
      · try dsimp only at hI ⊢
        obtain ⟨i1, i2⟩ := hI
        unfold F_X9_greatest_27
        rw [show (64 : Int32) = nI 64 from rfl, if_pos (Int32.le_refl _), x_poa i1 (by omega), zb_some, wp_some]
        exact ⟨rfl, rfl, i2⟩
    obtain ⟨⟨k0, v0, x'⟩, g1, g2, g3, g4⟩ := hX1
    dsimp only at g2 g3 g4
    subst g2
    subst g3
    refine same_q h hM1 ok (Or.inl ⟨rfl, rfl⟩) (v := poa w (sel 64)) (x' := x') (m' := zI m 0 0 0) g1 g4.q ?_ frN.refl t0_0
    unfold F_X10_greatest
    rw [zl_eq, show F_X10_in (zI m 0 0 0) (nI w) (0 : Int32) (1 : Int32) = some (1, zI m 0 0 0) from m_inY _ (Nat.zero_le w) hw (by decide), zb_some]
    dsimp only
    rw [if_neg (by decide)]
    unfold F_X10_greatest_20
    rw [m_bad0 t0_0, zb_some]
    dsimp only
    rw [if_pos rfl]
    have hM2 : wp (itF (fun _ _ _ _ => none) (F_X10_greatest_34 (nI w)) zFuel (nI w) (-1) (nI 0) (zI m 0 0 0)) (fun q => q = (poa w (sel 64), zI m 0 0 0)) := by
      refine loopN (F_X10_greatest_34 _) (fun g k (s : Int32) => g (nI w) s (nI k) (zI m 0 0 0)) 64 (fun k s => s = bF (sel k)) _ (fun g k s hk hI ih => ?_) (fun g s hI => ?_) (k := 0) (s := -1) (by omega) (by rw [← hsel]; rfl) (by omega)
      · try dsimp only at hI ih ⊢
        have b2 := hv.1 (128 + k) (by omega)
        have hs : sel (k + 1) = if decide (0 < (sN S).2.1 (128 + k)) = true then offM k ((sN S).2.1 (128 + k)) (sel k) else sel k := by rw [← hsel]; rfl
        unfold F_X10_greatest_34 F_X10_greatest_85 F_X10_greatest_86
        rw [show (64 : Int32) = nI 64 from rfl, ile (by omega) (by omega), if_neg (by omega), show (128 : Int32) + nI k = nI (128 + k) from nI_add 128 k, gin_ok (by omega) (by decide), nI_clamp (by omega), hM1.u _ (by omega)]
        by_cases z : (sN S).2.1 (128 + k) ≤ 0
        · rw [if_pos (by rw [ya_0, nI_leI (by omega) (by omega)]; exact z), nI_1]
          rw [if_neg (by simp; omega)] at hs
          exact ih s (by rw [hs]; exact hI)
        · rw [if_neg (by rw [ya_0, nI_leI (by omega) (by omega)]; exact z)]
          rw [if_pos (by simp; omega)] at hs
          cases hb : sel k with
          | none =>
            rw [hb] at hI hs
            rw [if_pos (show s = -1 from hI), nI_1]
            exact ih _ (by rw [hs]; rfl)
          | some q =>
            have hq := okb64 k (by omega) q hb
            have hqv : q.1 < k ∧ q.2 = (sN S).2.1 (128 + q.1) := selM_v (v := fun p => (sN S).2.1 (128 + p)) (by rw [hsel]; exact hb)
            rw [hb] at hI hs
            have e1 : s = nI q.1 := hI
            have b4 := hv.1 (128 + q.1) (by omega)
            rw [if_neg (by rw [e1, ya_ne_m1 hq.1]; exact fun z => z), e1, show (128 : Int32) + nI q.1 = nI (128 + q.1) from nI_add 128 q.1, gin_ok (by omega) (by decide), nI_clamp (by omega), hM1.u (128 + q.1) (by omega), ile (by omega) (by omega), nI_1]
            have ho : offM k ((sN S).2.1 (128 + k)) (some q) = if q.2 < (sN S).2.1 (128 + k) then some (k, (sN S).2.1 (128 + k)) else some q := rfl
            rw [ho] at hs
            by_cases c : (sN S).2.1 (128 + k) ≤ (sN S).2.1 (128 + q.1)
            · rw [if_pos c]
              rw [if_neg (by omega)] at hs
              exact ih _ (by rw [hs]; rfl)
            · rw [if_neg c]
              rw [if_pos (by omega)] at hs
              exact ih _ (by rw [hs]; rfl)
      · try dsimp only at hI ⊢
        unfold F_X10_greatest_34
        rw [show (64 : Int32) = nI 64 from rfl, if_pos (Int32.le_refl _), ie0 (by omega)]
        unfold poa
        by_cases c : w = 0
        · rw [if_pos c, if_pos c, hI, m_asTold _ (okb64 64 (by omega)), zb_some, wp_some]
        · rw [if_neg c, if_neg c]
          cases hb : sel 64 with
          | none =>
            rw [hb] at hI
            rw [if_pos (show s = -1 from hI), wp_some]; rfl
          | some q =>
            have hq := okb64 64 (by omega) q hb
            have hqv : q.1 < 64 ∧ q.2 = (sN S).2.1 (128 + q.1) := selM_v (v := fun p => (sN S).2.1 (128 + p)) (by rw [hsel]; exact hb)
            rw [hb] at hI
            have e1 : s = nI q.1 := hI
            rw [if_neg (by rw [e1, ya_ne_m1 hq.1]; exact fun z => z), e1, show (128 : Int32) + nI q.1 = nI (128 + q.1) from nI_add 128 q.1, gin_ok (by omega) (by decide), nI_clamp (by omega), hM1.u (128 + q.1) (by omega), wp_some]
            show (nI ((sN S).2.1 (128 + q.1)), _) = (nI q.2, _)
            rw [hqv.2]
    obtain ⟨q, q1, q2⟩ := hM2
    rw [q2] at q1
    exact q1
  · refine same_1 (t := 1) h hM1 ok (Or.inr ⟨rfl, rfl⟩) frQ.refl frN.refl (v := 0) (w := 0) ?_ ?_
    · unfold F_X9_greatest
      rw [if_neg (by rintro rfl; rcases hb with hb | hb <;> revert hb <;> decide), if_neg (by rintro rfl; rcases hb with hb | hb <;> revert hb <;> decide)]; rfl
    · unfold F_X10_greatest
      rw [zl_eq, show F_X10_in (zI m 0 0 0) a (0 : Int32) (1 : Int32) = some (0, zI m 0 0 0) from m_inN _ hb, zb_some]
      dsimp only
      rw [if_pos rfl]
      unfold F_X10_greatest_20
      rw [m_bad11 t0_0, zb_some]; rfl
