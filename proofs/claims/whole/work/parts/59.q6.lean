/-! loss, noon, nearest -/
def lossB (e : PL) (L : LW) (u : Nat → Nat) (h : Nat) : Nat := sumN (fun p => lossS e L u p (u p) h (nI (u 192))) 64
theorem lossB_le {e : PL} {L : LW} {u : Nat → Nat} {h : Nat} (hv : okV u) : lossB e L u h ≤ 64 * 9999 := sumN_le (fun k hk => Nat.le_trans (lossS_le _ _ _ _ _ _ _) (hv k (by omega)))
theorem x_lossBy {x : zMem} {e : PL} {L : LW} {u : Nat → Nat} {pl r h : Nat} (w : RXw x e L pl r) (he : okPL e) (ok : okL L) (hr : RXr x e u 4) (hv : okR e u) (hh : h < pn e) :
    ∃ x', F_X9_lossBy x (nI h) = some (nI (lossB e L u h), x') ∧ frX r (fun _ => False) x x' := by
  have hw : wp (itF (fun _ _ _ _ => none) (F_X9_lossBy_13 (nI h)) zFuel (nI h) (nI 0) (nI 0) x) (fun q => q.1 = nI (lossB e L u h) ∧ frX r (fun _ => False) x q.2) := by
    refine loopN (F_X9_lossBy_13 _) (fun g k (s : Nat × zMem) => g (nI h) (nI s.1) (nI k) s.2) 64 (fun k s => s.1 = sumN (fun p => lossS e L u p (u p) h (nI (u 192))) k ∧ frX r (fun _ => False) x s.2) _ (fun g k s hk hI ih => ?_) (fun g s hI => ?_) (k := 0) (s := (0, x)) (by omega) ⟨rfl, frX.refl⟩ (by omega)
    · obtain ⟨s, y⟩ := s
      obtain ⟨i1, i2⟩ := hI
      try dsimp only at i1 i2 ih ⊢
      have w' := i2.w (fun _ _ _ z => z) w
      have hr' := i2.rr w.2.2.2.2.2 (Or.inl (by omega)) (fun _ _ _ z => z) hr
      unfold F_X9_lossBy_13
      rw [show (64 : Int32) = nI 64 from rfl, ile (by omega) (by omega), if_neg (by omega), gin_ok hk (by decide), nI_clamp (by omega), show y.1 5 k = nI (u k) from (hr'.1 k hk).1, hr'.2.2.1]
      have hin : inW e k = true ∨ u k = 0 := by
        cases z : inW e k
        · exact Or.inr (hv.2.1 k hk z).1
        · exact Or.inl rfl
      obtain ⟨y', f1, f2⟩ := x_lossOf w' he ok hr' hk (hv.1 k (by omega)) hin (Or.inl hh) (nI (u 192))
      rw [f1, zb_some]
      dsimp only
      rw [zl_eq, nI_add, nI_1]
      exact ih (_, y') ⟨by dsimp only; rw [i1]; rfl, i2.trans f2⟩
    · obtain ⟨s, y⟩ := s
      obtain ⟨i1, i2⟩ := hI
      try dsimp only at i1 i2 ⊢
      unfold F_X9_lossBy_13
      rw [show (64 : Int32) = nI 64 from rfl, if_pos (Int32.le_refl _), wp_some]
      exact ⟨by rw [i1]; rfl, i2⟩
  obtain ⟨q, q1, q2, q3⟩ := hw
  refine ⟨q.2, ?_, q3⟩
  rw [← q2]
  exact q1
theorem m_lossAt {m : zMem} {e : PL} {L : LW} {u : Nat → Nat} {h : Nat} (H : RMh m e L u 451) (he : okPL e) (ok : okL L) (hv : okV u) (hh : h < pn e) :
    ∃ m', F_X10_lossAt m (nI h) = some (nI (lossB e L u h), m') ∧ frM 368 m m' := by
  have hw : wp (itF (fun _ _ _ _ => none) (F_X10_lossAt_4 (nI h)) zFuel (nI h) (nI 0) (nI 0) m) (fun q => q.1 = nI (lossB e L u h) ∧ frM 368 m q.2) := by
    refine loopN (F_X10_lossAt_4 _) (fun g k (s : Nat × zMem) => g (nI h) (nI s.1) (nI k) s.2) 64 (fun k s => s.1 = sumN (fun p => lossS e L u p (u p) h (nI (u 192))) k ∧ frM 368 m s.2) _ (fun g k s hk hI ih => ?_) (fun g s hI => ?_) (k := 0) (s := (0, m)) (by omega) ⟨rfl, frM.refl⟩ (by omega)
    · obtain ⟨s, y⟩ := s
      obtain ⟨i1, i2⟩ := hI
      try dsimp only at i1 i2 ih ⊢
      have H' : RMh y e L u 451 := (i2.wid (c := 400)).h (by omega) he ok (by omega) (by omega) (by omega) H
      have b1 := hv k (by omega)
      have fin : ∀ (v : Nat) (y' : zMem), v = lossS e L u k (u k) h (nI (u 192)) → frM 368 m y' → wp (F_X10_lossAt_60 (nI h) g (nI h) (nI k) (nI s) (nI v) y') (fun q => q.1 = nI (lossB e L u h) ∧ frM 368 m q.2) := fun v y' hv' hf => by
        unfold F_X10_lossAt_60
        rw [zl_eq, nI_add, nI_1]
        exact ih (_, y') ⟨by dsimp only; rw [i1, hv']; rfl, hf⟩
      unfold F_X10_lossAt_4
      rw [show (64 : Int32) = nI 64 from rfl, ile (by omega) (by omega), if_neg (by omega), show (0 : Int32) + nI k = nI (0 + k) from nI_add 0 k, Nat.zero_add, gin_ok (by omega) (by decide), nI_clamp (by omega), H'.2.2 k (by omega), ie0 (by omega)]
      by_cases z : u k = 0
      · rw [if_pos z]
        exact fin 0 y (by unfold lossS; rw [if_pos z]) i2
      · rw [if_neg z, m_isShade H'.1 he H'.2.2 hv hk hh, zb_some]
        dsimp only
        rw [ibI]
        cases hs : shd e u k h
        · rw [if_pos rfl]
          obtain ⟨y', f1, f2⟩ := m_driesOf H'.1 he H'.2.1 ok H'.2.2 hk hh
          have hra := rateL_le L (knR e u k h)
          rw [f1, zb_some]
          dsimp only
          rw [H'.2.2 k (by omega), m_lessN y' (by omega) (by omega), zb_some]
          exact fin _ y' (by unfold lossS; rw [if_neg z, if_neg (by rw [hs]; decide)]; rfl) (i2.trans f2)
        · rw [if_neg (by decide)]
          exact fin 0 y (by unfold lossS; rw [if_neg z, if_pos hs]) i2
    · obtain ⟨s, y⟩ := s
      obtain ⟨i1, i2⟩ := hI
      try dsimp only at i1 i2 ⊢
      unfold F_X10_lossAt_4
      rw [show (64 : Int32) = nI 64 from rfl, if_pos (Int32.le_refl _), wp_some]
      exact ⟨by rw [i1]; rfl, i2⟩
  obtain ⟨q, q1, q2, q3⟩ := hw
  refine ⟨q.2, ?_, q3⟩
  rw [← q2]
  exact q1
theorem RMn.h {m : zMem} {S : SS} (h : RMn m S) : RMh m (sE S) (sL S) (sN S).2.1 451 := ⟨h.1, h.2.1, h.u⟩
theorem q_loss {x m : zMem} {S : SS} (a : Int32) (hX : RXo x S) (hM : RMn m S) (ok : okS S) : same T2 (F_X9_loss x a) (F_X10_loss m a) := by
  obtain ⟨pl, r, n, h⟩ := hX
  have hM1 := hM.t ok
  have he := ok.1
  have hn := he.2.2.2.2.1
  have hv := ok.u
  have hr0 : r ≠ 0 := by have := h.1.2.2.2.2.2; omega
  rcases ya_rlt a (n := pn (sE S)) (by omega) with ⟨hh, h1, rfl⟩ | hb
  · obtain ⟨x', f1, f2⟩ := x_lossBy h.1 he ok.2.1 h.u hv h1
    obtain ⟨m', g1, g2⟩ := m_lossAt hM1.h he ok.2.1 hv.1 h1
    refine same_q h hM1 ok (Or.inl ⟨rfl, rfl⟩) (v := nI (lossB (sE S) (sL S) (sN S).2.1 hh)) (x' := x') (m' := m') ?_ (f2.q hr0 (fun _ z => z.elim)) ?_ (g2.q (Or.inl rfl)) (by rw [g2.1 0 (by omega) (by omega) (by omega)]; exact t0_0)
    · unfold F_X9_loss
      rw [x_nhY h.1 he h1, zbx_0, f1, zb_some]
    · unfold F_X10_loss
      rw [zl_eq, m_ihY hM1.1 he h1, zb_some]
      dsimp only
      rw [if_neg (by decide)]
      unfold F_X10_loss_19
      rw [m_bad0 t0_0, zb_some]
      dsimp only
      rw [if_pos rfl, g1, zb_some]
  · refine same_0 (t := 1) h hM1 ok (Or.inr ⟨rfl, rfl⟩) frQ.refl frN.refl (v := 0) (w := 0) ?_ ?_
    · unfold F_X9_loss
      rw [x_nhN h.1 he hb]; rfl
    · unfold F_X10_loss
      rw [zl_eq, m_ihN hM1.1 he hb, zb_some]
      dsimp only
      rw [if_pos rfl]
      unfold F_X10_loss_19
      rw [m_bad10 t0_0, zb_some]; rfl
theorem q_noon {x m : zMem} {S : SS} (a : Int32) (hX : RXo x S) (hM : RMn m S) (ok : okS S) : same T1 (F_X9_noon x a) (F_X10_noon m a) := by
  obtain ⟨pl, r, n, h⟩ := hX
  have hM1 := hM.t ok
  have he := ok.1
  have hn := he.2.2.2.2.1
  have hv := ok.u
  have hr := h.1.2.2.2.2.2
  have hS : ∀ a, 174 ≤ a → a < 194 → ¬ (fun a => a = 172) a := fun a h1 h2 z => by have : a = 172 := z; omega
  rcases ya_rng a (b := 1) (by decide) with ⟨w, hw, rfl⟩ | hb
  · generalize hsel : selM (fun _ => true) (lossB (sE S) (sL S) (sN S).2.1) = sel
    have hlb : ∀ k, lossB (sE S) (sL S) (sN S).2.1 k ≤ 639936 := fun k => lossB_le hv.1
    have okb64 : ∀ k, k ≤ 64 → okb (sel k) := fun k hk => by rw [← hsel]; exact selM_ok (by omega) (fun p hp => by have := hlb p; omega)
    have hs : ∀ k, sel (k + 1) = offM k (lossB (sE S) (sL S) (sN S).2.1 k) (sel k) := fun k => by rw [← hsel]; rfl
    have hX1 : wp (F_X9_noon x (nI w)) (fun q => q.1 = 0 ∧ q.2.1 = (if w = 0 then bF (sel (pn (sE S))) else bA (sel (pn (sE S)))) ∧ frX r (fun a => a = 172) x q.2.2) := by
      obtain ⟨x1, c1, c2, c3⟩ := x_clear x
      have e : F_X9_noon x (nI w) = F_X9_noon_15 (nI w) (nI w) 1 x := by
        unfold F_X9_noon
        have : w = 0 ∨ w = 1 := by omega
        rcases this with rfl | rfl
        · rw [if_pos (show nI 0 = (0 : Int32) from rfl)]
        · rw [if_neg (by decide), if_pos (show nI 1 = (1 : Int32) from rfl)]
      rw [e]
      unfold F_X9_noon_15
      rw [x_need1, zbx_0, c1, zbv_some]
      have fx : ∀ {y z : zMem}, fr172 y z → frX r (fun a => a = 172) y z := fun h => ⟨fun a _ _ h3 => h.1 a h3, fun a _ => by rw [h.2], by rw [h.2]⟩
      refine loopN (F_X9_noon_27 _) (fun g k (y : zMem) => g (nI w) (nI k) y) (pn (sE S)) (fun k y => XB y (sel k) ∧ frX r (fun a => a = 172) x y) _ (fun g k y hk hI ih => ?_) (fun g y hI => ?_) (k := 0) (s := x1) (by omega) ⟨by rw [← hsel]; exact c2, fx c3⟩ (by omega)
      · try dsimp only at hI ih ⊢
        obtain ⟨i1, i2⟩ := hI
        have w' := i2.w hS h.1
        have hr' := i2.rr hr (Or.inl (by omega)) (fun a h1 h2 z => by have : a = 172 := z; omega) h.u
        unfold F_X9_noon_27
        rw [w'.2.2.1, gd_ok (sX_p w'.2.2.2.2.1), w'.1.2.2.1, ile (by omega) (by omega), if_neg (by omega)]
        obtain ⟨y', f1, f2⟩ := x_lossBy w' he ok.2.1 hr' hv hk
        rw [f1, zb_some]
        dsimp only
        have hl := hlb k
        obtain ⟨y2, d1, d2, d3⟩ := x_offerMost (p := k) (v := lossB (sE S) (sL S) (sN S).2.1 k) (f2.b hr (fun z => z) i1) (by omega) (by omega)
        rw [d1, zbv_some, nI_1]
        exact ih y2 ⟨by rw [hs]; exact d2, (i2.trans (f2.wid (fun _ z => z.elim))).trans (fx d3)⟩
      · try dsimp only at hI ⊢
        obtain ⟨i1, i2⟩ := hI
        have w' := i2.w hS h.1
        unfold F_X9_noon_27
        rw [w'.2.2.1, gd_ok (sX_p w'.2.2.2.2.1), w'.1.2.2.1, if_pos (Int32.le_refl _), ie0 (by omega)]
        by_cases c : w = 0
        · rw [if_pos c, wp_some]
          exact ⟨rfl, by rw [if_pos c]; exact i1.1, i2⟩
        · rw [if_neg c, wp_some]
          exact ⟨rfl, by rw [if_neg c]; exact i1.2.1, i2⟩
    obtain ⟨⟨k0, v0, x'⟩, g1, g2, g3, g4⟩ := hX1
    try dsimp only at g2 g3 g4
    subst g2
    subst g3
    have hM2 : wp (itF (fun _ _ _ _ _ => none) (F_X10_noon_37 (nI w)) zFuel (nI w) (-1) (-1) (nI 0) (zI m 0 0 0)) (fun q => q.1 = (if w = 0 then bF (sel (pn (sE S))) else bA (sel (pn (sE S)))) ∧ frM 368 (zI m 0 0 0) q.2) := by
      refine loopN (F_X10_noon_37 _) (fun g k (s : Int32 × Int32 × zMem) => g (nI w) s.1 s.2.1 (nI k) s.2.2) (pn (sE S)) (fun k s => s.1 = bF (sel k) ∧ s.2.1 = bA (sel k) ∧ frM 368 (zI m 0 0 0) s.2.2) _ (fun g k s hk hI ih => ?_) (fun g s hI => ?_) (k := 0) (s := (-1, -1, zI m 0 0 0)) (by omega) ⟨by rw [← hsel]; rfl, by rw [← hsel]; rfl, frM.refl⟩ (by omega)
      · obtain ⟨s1, s2, y⟩ := s
        obtain ⟨i1, i2, i3⟩ := hI
        try dsimp only at i1 i2 i3 ih ⊢
        have H' : RMh y (sE S) (sL S) (sN S).2.1 451 := (i3.wid (c := 400)).h (by omega) he ok.2.1 (by omega) (by omega) (by omega) hM1.h
        unfold F_X10_noon_37
        rw [H'.1.2.2.1, ile (by omega) (by omega), if_neg (by omega)]
        obtain ⟨y', f1, f2⟩ := m_lossAt H' he ok.2.1 hv.1 hk
        rw [f1, zb_some]
        dsimp only
        have hl := hlb k
        unfold F_X10_noon_68
        have hsk := hs k
        cases hb : sel k with
        | none =>
          rw [hb] at i1 i2 hsk
          have e2 : s2 = iI (-1) := i2
          rw [e2, iI_nat (lossB _ _ _ k), iiLe (by omega) (by omega) (by omega) (by omega), if_neg (by omega), m_moreI y' (by omega) (by omega) (by omega) (by omega), zb_some]
          dsimp only
          rw [nI_1]
          refine ih (_, _, y') ⟨by rw [hsk]; rfl, ?_, i3.trans f2⟩
          rw [hsk]
          show iI (imax (-1) _) = nI _
          rw [iI_nat]
          congr 1
        | some q =>
          rw [hb] at i1 i2 hsk
          have hq := okb64 k (by omega) q hb
          have e2 : s2 = nI q.2 := i2
          have ho : offM k (lossB (sE S) (sL S) (sN S).2.1 k) (some q) = if q.2 < lossB (sE S) (sL S) (sN S).2.1 k then some (k, lossB (sE S) (sL S) (sN S).2.1 k) else some q := rfl
          rw [ho] at hsk
          rw [e2, ile (by omega) hq.2, m_moreN y' hq.2 (by omega), zb_some, nI_1]
          dsimp only
          by_cases c : lossB (sE S) (sL S) (sN S).2.1 k ≤ q.2
          · rw [if_pos c]
            rw [if_neg (by omega)] at hsk
            exact ih (_, _, y') ⟨by rw [hsk]; exact i1, by rw [hsk, show max q.2 (lossB (sE S) (sL S) (sN S).2.1 k) = q.2 by omega]; rfl, i3.trans f2⟩
          · rw [if_neg c]
            rw [if_pos (by omega)] at hsk
            exact ih (_, _, y') ⟨by rw [hsk]; rfl, by rw [hsk, show max q.2 (lossB (sE S) (sL S) (sN S).2.1 k) = lossB (sE S) (sL S) (sN S).2.1 k by omega]; rfl, i3.trans f2⟩
      · obtain ⟨s1, s2, y⟩ := s
        obtain ⟨i1, i2, i3⟩ := hI
        try dsimp only at i1 i2 i3 ⊢
        have H' : RMh y (sE S) (sL S) (sN S).2.1 451 := (i3.wid (c := 400)).h (by omega) he ok.2.1 (by omega) (by omega) (by omega) hM1.h
        unfold F_X10_noon_37
        rw [H'.1.2.2.1, if_pos (Int32.le_refl _), ie0 (by omega)]
        by_cases c : w = 0
        · rw [if_pos c, wp_some]
          exact ⟨by rw [if_pos c]; exact i1, i3⟩
        · rw [if_neg c, wp_some]
          exact ⟨by rw [if_neg c]; exact i2, i3⟩
    obtain ⟨⟨v1, m'⟩, j1, j2, j3⟩ := hM2
    try dsimp only at j2 j3
    subst j2
    refine same_q h hM1 ok (Or.inl ⟨rfl, rfl⟩) (x' := x') (m' := m') g1 (g4.q (by omega) (fun a z => by have : a = 172 := z; omega)) ?_ (j3.q (Or.inl rfl)) (by rw [j3.1 0 (by omega) (by omega) (by omega)]; exact t0_0)
    unfold F_X10_noon
    rw [zl_eq, show F_X10_in (zI m 0 0 0) (nI w) (0 : Int32) (1 : Int32) = some (1, zI m 0 0 0) from m_inY _ (Nat.zero_le w) hw (by decide), zb_some]
    dsimp only
    rw [if_neg (by decide)]
    unfold F_X10_noon_20
    rw [m_bad0 t0_0, zb_some]
    dsimp only
    rw [if_pos rfl]
    exact j1
  · refine same_1 (t := 1) h hM1 ok (Or.inr ⟨rfl, rfl⟩) frQ.refl frN.refl (v := 0) (w := 0) ?_ ?_
    · unfold F_X9_noon
      rw [if_neg (by rintro rfl; rcases hb with hb | hb <;> revert hb <;> decide), if_neg (by rintro rfl; rcases hb with hb | hb <;> revert hb <;> decide)]; rfl
    · unfold F_X10_noon
      rw [zl_eq, show F_X10_in (zI m 0 0 0) a (0 : Int32) (1 : Int32) = some (0, zI m 0 0 0) from m_inN _ hb, zb_some]
      dsimp only
      rw [if_pos rfl]
      unfold F_X10_noon_20
      rw [m_bad11 t0_0, zb_some]; rfl
def dist (i j p : Nat) : Nat := (iabs (((p % 8 : Nat) : Int) - (i : Nat))).toNat + (iabs (((p / 8 : Nat) : Int) - (j : Nat))).toNat
theorem x_abs {a b : Nat} (ha : a < 1000) (hb : b < 1000) : zabs (nI a - nI b) = nI (iabs ((a : Int) - b)).toNat := by
  unfold zabs iabs
  rw [iI_subN, show (0 : Int32) = iI 0 from rfl, iiLe (by omega) (by omega) (by omega) (by omega), iI_sub]
  by_cases h : (0 : Int) ≤ (a : Int) - b
  · rw [if_pos h, if_pos h, iI_pos h]
  · rw [if_neg h, if_neg h, iI_pos (by omega)]
    congr 2
    omega
theorem m_abs (m : zMem) {a b : Nat} (ha : a < 1000) (hb : b < 1000) : F_X10_more m (nI a - nI b) (-(nI a - nI b)) = some (nI (iabs ((a : Int) - b)).toNat, m) := by
  rw [iI_subN, iI_neg, m_moreI m (by omega) (by omega) (by omega) (by omega)]
  have : imax ((a : Int) - b) (-((a : Int) - b)) = iabs ((a : Int) - b) := by unfold imax iabs; split <;> split <;> omega
  rw [this, iI_pos (by unfold iabs; split <;> omega)]
theorem q_nearest {x m : zMem} {S : SS} (a b : Int32) (hX : RXo x S) (hM : RMn m S) (ok : okS S) : same T2 (F_X9_nearest x a b) (F_X10_nearest m a b) := by
  obtain ⟨pl, r, n, h⟩ := hX
  have hM1 := hM.t ok
  have he := ok.1
  have hv := ok.u
  have e2 := he.2.1
  have e4 := he.2.2.2.1
  rcases plc he a b with ⟨i, j, hi, hj, rfl, rfl⟩ | hb
  · generalize hsel : selL (fun p => decide (0 < (sN S).2.1 (128 + p))) (dist i j) = sel
    have hd : ∀ p, p < 64 → dist i j p ≤ 14 := fun p hp => by unfold dist iabs; split <;> split <;> omega
    have okb64 : ∀ k, k ≤ 64 → okb (sel k) := fun k hk => by rw [← hsel]; exact selL_ok (by omega) (fun p hp => by have := hd p (by omega); omega)
    have hs : ∀ k, sel (k + 1) = if decide (0 < (sN S).2.1 (128 + k)) = true then offL k (dist i j k) (sel k) else sel k := fun k => by rw [← hsel]; rfl
    have hX1 : wp (F_X9_nearest x (nI i) (nI j)) (fun q => q.1 = 0 ∧ q.2.1 = tellB (sel 64) ∧ fr172 x q.2.2) := by
      obtain ⟨x1, c1, c2, c3⟩ := x_clear x
      unfold F_X9_nearest
      rw [x_npY h.1 he hi hj, zbx_0, c1, zbv_some]
      refine loopN (F_X9_nearest_15 _ _) (fun g k (y : zMem) => g (nI i) (nI j) (nI k) y) 64 (fun k y => XB y (sel k) ∧ fr172 x y) _ (fun g k y hk hI ih => ?_) (fun g y hI => ?_) (k := 0) (s := x1) (by omega) ⟨by rw [← hsel]; exact c2, c3⟩ (by omega)
      · try dsimp only at hI ih ⊢
        obtain ⟨i1, i2⟩ := hI
        have hu := i2.rr (by omega) h.u
        have b2 := hv.1 (128 + k) (by omega)
        have hsk := hs k
        unfold F_X9_nearest_15 F_X9_nearest_63
        rw [show (64 : Int32) = nI 64 from rfl, ile (by omega) (by omega), if_neg (by omega), gin_ok hk (by decide), nI_clamp (by omega), (hu.1 k hk).2.2]
        by_cases z : (sN S).2.1 (128 + k) ≤ 0
        · rw [if_pos (by rw [ya_0, nI_leI (by omega) (by omega)]; exact z), nI_1]
          rw [if_neg (by simp; omega)] at hsk
          exact ih y ⟨by rw [hsk]; exact i1, i2⟩
        · rw [if_neg (by rw [ya_0, nI_leI (by omega) (by omega)]; exact z)]
          rw [if_pos (by simp; omega)] at hsk
          rw [ya_rem8 (by omega), ya_div8 (by omega), x_abs (by omega) (by omega), x_abs (by omega) (by omega), nI_add, show (iabs (((k % 8 : Nat) : Int) - (i : Nat))).toNat + (iabs (((k / 8 : Nat) : Int) - (j : Nat))).toNat = dist i j k from rfl]
          obtain ⟨y', d1, d2, d3⟩ := x_offerLeast (p := k) (v := dist i j k) i1 (by omega) (by have := hd k hk; omega)
          rw [d1, zbv_some, nI_1]
          exact ih y' ⟨by rw [hsk]; exact d2, i2.trans d3⟩
      · try dsimp only at hI ⊢
        obtain ⟨i1, i2⟩ := hI
        unfold F_X9_nearest_15
        rw [show (64 : Int32) = nI 64 from rfl, if_pos (Int32.le_refl _), show F_X0_placeOrAmount y 172 (0 : Int32) = _ from x_poa (w := 0) i1 (by omega), zb_some, wp_some]
        exact ⟨rfl, rfl, i2⟩
    obtain ⟨⟨k0, v0, x'⟩, g1, g2, g3, g4⟩ := hX1
    try dsimp only at g2 g3 g4
    subst g2
    subst g3
    refine same_q h hM1 ok (Or.inl ⟨rfl, rfl⟩) (v := tellB (sel 64)) (x' := x') (m' := zI m 0 0 0) g1 g4.q ?_ frN.refl t0_0
    unfold F_X10_nearest
    rw [zl_eq, m_iwY hM1.1 he hi hj, zb_some]
    dsimp only
    rw [if_neg (by decide)]
    unfold F_X10_nearest_20
    rw [m_bad0 t0_0, zb_some]
    dsimp only
    rw [if_pos rfl]
    have hM2 : wp (itF (fun _ _ _ _ _ _ => none) (F_X10_nearest_38 (nI i) (nI j)) zFuel (nI i) (nI j) (-1) (-1) (nI 0) (zI m 0 0 0)) (fun q => q = (tellB (sel 64), zI m 0 0 0)) := by
      refine loopN (F_X10_nearest_38 _ _) (fun g k (s : Int32 × Int32) => g (nI i) (nI j) s.1 s.2 (nI k) (zI m 0 0 0)) 64 (fun k s => s.1 = bF (sel k) ∧ s.2 = bA (sel k)) _ (fun g k s hk hI ih => ?_) (fun g s hI => ?_) (k := 0) (s := (-1, -1)) (by omega) ⟨by rw [← hsel]; rfl, by rw [← hsel]; rfl⟩ (by omega)
      · obtain ⟨s1, s2⟩ := s
        obtain ⟨i1, i2⟩ := hI
        try dsimp only at i1 i2 ih ⊢
        have b2 := hv.1 (128 + k) (by omega)
        have hsk := hs k
        have hdk := hd k hk
        unfold F_X10_nearest_38 F_X10_nearest_111 F_X10_nearest_118
        rw [show (64 : Int32) = nI 64 from rfl, ile (by omega) (by omega), if_neg (by omega), ya_rem8 (by omega), ya_div8 (by omega), zl_eq, zl_eq, m_abs _ (by omega) (by omega), zb_some]
        dsimp only
        rw [m_abs _ (by omega) (by omega), zb_some]
        dsimp only
        rw [nI_add, zl_eq, show (iabs (((k % 8 : Nat) : Int) - (i : Nat))).toNat + (iabs (((k / 8 : Nat) : Int) - (j : Nat))).toNat = dist i j k from rfl, show (128 : Int32) + nI k = nI (128 + k) from nI_add 128 k, gin_ok (by omega) (by decide), nI_clamp (by omega), hM1.u _ (by omega), ie0 (by omega), nI_1]
        by_cases z : (sN S).2.1 (128 + k) = 0
        · rw [if_pos z]
          rw [if_neg (by simp; omega)] at hsk
          exact ih (s1, s2) ⟨by rw [hsk]; exact i1, by rw [hsk]; exact i2⟩
        · rw [if_neg z]
          rw [if_pos (by simp; omega)] at hsk
          cases hb : sel k with
          | none =>
            rw [hb] at i1 i2 hsk
            rw [if_pos (show s1 = -1 from i1)]
            exact ih (_, _) ⟨by rw [hsk]; rfl, by rw [hsk]; rfl⟩
          | some q =>
            have hq := okb64 k (by omega) q hb
            rw [hb] at i1 i2 hsk
            have e1 : s1 = nI q.1 := i1
            have e2 : s2 = nI q.2 := i2
            have ho : offL k (dist i j k) (some q) = if dist i j k < q.2 then some (k, dist i j k) else some q := rfl
            rw [ho] at hsk
            rw [if_neg (by rw [e1, ya_ne_m1 hq.1]; exact fun z => z), e2, ilt (by omega) hq.2]
            by_cases c : dist i j k < q.2
            · rw [if_pos c]
              rw [if_pos c] at hsk
              exact ih (_, _) ⟨by rw [hsk]; rfl, by rw [hsk]; rfl⟩
            · rw [if_neg c]
              rw [if_neg c] at hsk
              exact ih (_, _) ⟨by rw [hsk]; exact i1, by rw [hsk]; rfl⟩
      · obtain ⟨s1, s2⟩ := s
        obtain ⟨i1, i2⟩ := hI
        try dsimp only at i1 i2 ⊢
        unfold F_X10_nearest_38
        rw [show (64 : Int32) = nI 64 from rfl, if_pos (Int32.le_refl _), i1, m_asTold _ (okb64 64 (by omega)), zb_some, wp_some]
    obtain ⟨q, q1, q2⟩ := hM2
    rw [q2] at q1
    exact q1
  · refine same_0 (t := 1) h hM1 ok (Or.inr ⟨rfl, rfl⟩) frQ.refl frN.refl (v := 0) (w := 0) ?_ ?_
    · unfold F_X9_nearest
      rw [x_npN h.1 hb]; rfl
    · unfold F_X10_nearest
      rw [zl_eq, m_iwN hM1.1 he hb, zb_some]
      dsimp only
      rw [if_pos rfl]
      unfold F_X10_nearest_20
      rw [m_bad10 t0_0, zb_some]; rfl
