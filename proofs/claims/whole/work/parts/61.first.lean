/-! first -/
theorem fz_cut {f : Nat → Nat} {a b : Nat} (h : a ≤ b) : fz f a < a → fz f b = fz f a := fun c => fz_is (fun j hj => fz_no hj) (fz_yes c) (by omega)
theorem fz_cut2 {f : Nat → Nat} {a b : Nat} (h : fz f b < a) (h2 : a ≤ b) : fz f a = fz f b := by
  have hb : fz f b < b := by omega
  exact fz_is (fun j hj => fz_no hj) (fz_yes hb) h
def dryC (e : PL) (L : LW) (u : Nat → Nat) (p : Nat) : Bool := decide (u p ≠ 0) && (decide (u (128 + p) = 0) && (decide (pn e ≠ 0) && decide (fz (dryB e L u p) 501 ≤ 500)))
theorem dryR_no {e : PL} {L : LW} {u : Nat → Nat} {p : Nat} (h0 : u p ≠ 0) (hc : dryC e L u p = false) {most : Nat} (hm : most ≤ 500) : dryR e L u p most = -1 := by
  unfold dryC at hc
  unfold dryR
  by_cases h1 : u (128 + p) = 0
  · rw [if_pos h1]
    by_cases h2 : pn e = 0
    · rw [if_pos h2, if_neg h0]
    · rw [if_neg h2]
      by_cases h3 : fz (dryB e L u p) 501 ≤ 500
      · rw [decide_eq_true h0, decide_eq_true h1, decide_eq_true h2, decide_eq_true h3] at hc
        cases hc
      · by_cases h4 : fz (dryB e L u p) (most + 1) ≤ most
        · have := fz_cut (f := dryB e L u p) (a := most + 1) (b := 501) (by omega) (by omega)
          omega
        · rw [if_neg h4]
  · rw [if_neg h1]
theorem dryR_yes {e : PL} {L : LW} {u : Nat → Nat} {p : Nat} (hc : dryC e L u p = true) {most : Nat} (hm : most ≤ 500) :
    dryR e L u p most = if fz (dryB e L u p) 501 ≤ most then nI (fz (dryB e L u p) 501) else -1 := by
  unfold dryC at hc
  simp only [Bool.and_eq_true, decide_eq_true_eq] at hc
  obtain ⟨h0, h1, h2, h3⟩ := hc
  unfold dryR
  rw [if_pos h1, if_neg h2]
  by_cases h4 : fz (dryB e L u p) 501 ≤ most
  · have := fz_cut2 (f := dryB e L u p) (a := most + 1) (b := 501) (by omega) (by omega)
    rw [this]
  · rw [if_neg h4]
    by_cases h5 : fz (dryB e L u p) (most + 1) ≤ most
    · have := fz_cut (f := dryB e L u p) (a := most + 1) (b := 501) (by omega) (by omega)
      omega
    · rw [if_neg h5]
theorem dryC_pos {e : PL} {L : LW} {u : Nat → Nat} {p : Nat} (hc : dryC e L u p = true) : 1 ≤ fz (dryB e L u p) 501 ∧ fz (dryB e L u p) 501 ≤ 500 := by
  unfold dryC at hc
  simp only [Bool.and_eq_true, decide_eq_true_eq] at hc
  obtain ⟨h0, h1, h2, h3⟩ := hc
  refine ⟨?_, h3⟩
  by_cases z : fz (dryB e L u p) 501 = 0
  · have := fz_yes (f := dryB e L u p) (n := 501) (by omega)
    rw [z] at this
    exact absurd this h0
  · omega
def mostB (b : BS) : Nat := match b with
  | none => 500
  | some q => q.2 - 1
theorem q_first {x m : zMem} {S : SS} (a : Int32) (hX : RXo x S) (hM : RMn m S) (ok : okS S) : same T1 (F_X9_first x a) (F_X10_first m a) := by
  obtain ⟨pl, r, n, h⟩ := hX
  have hM1 := hM.t ok
  have he := ok.1
  have hv := ok.u
  have hr := h.1.2.2.2.2.2
  have hS : ∀ a, 174 ≤ a → a < 194 → ¬ (fun a => a = 172) a := fun a h1 h2 z => by have : a = 172 := z; omega
  rcases ya_rng a (b := 1) (by decide) with ⟨w, hw, rfl⟩ | hb
  · generalize hsel : selL (dryC (sE S) (sL S) (sN S).2.1) (fun p => fz (dryB (sE S) (sL S) (sN S).2.1 p) 501) = sel
    have hf : ∀ p, fz (dryB (sE S) (sL S) (sN S).2.1 p) 501 ≤ 501 := fun p => fz_le _ _
    have okb64 : ∀ k, k ≤ 64 → okb (sel k) := fun k hk => by rw [← hsel]; exact selL_ok (by omega) (fun p hp => by have := hf p; omega)
    have hs : ∀ k, sel (k + 1) = if dryC (sE S) (sL S) (sN S).2.1 k = true then offL k (fz (dryB (sE S) (sL S) (sN S).2.1 k) 501) (sel k) else sel k := fun k => by rw [← hsel]; rfl
    have hpos : ∀ k q, sel k = some q → 1 ≤ q.2 ∧ q.2 ≤ 500 := by
      intro k
      induction k with
      | zero => intro q hq; rw [← hsel] at hq; cases hq
      | succ k ih =>
        intro q hq
        rw [hs] at hq
        by_cases c : dryC (sE S) (sL S) (sN S).2.1 k = true
        · rw [if_pos c] at hq
          have hp := dryC_pos c
          generalize fz (dryB (sE S) (sL S) (sN S).2.1 k) 501 = v at hq hp
          cases hk : sel k with
          | none => rw [hk] at hq; cases hq; exact hp
          | some z =>
            rw [hk] at hq
            unfold offL at hq
            dsimp only at hq
            split at hq
            · cases hq; exact hp
            · cases hq; exact ih _ hk
        · rw [if_neg c] at hq
          exact ih q hq
    have hX1 : wp (F_X9_first x (nI w)) (fun q => q.1 = 0 ∧ q.2.1 = poa w (sel 64) ∧ frX r (fun a => a = 172) x q.2.2) := by
      obtain ⟨x1, c1, c2, c3⟩ := x_clear x
      have fx : ∀ {y z : zMem}, fr172 y z → frX r (fun a => a = 172) y z := fun h => ⟨fun a _ _ h3 => h.1 a h3, fun a _ => by rw [h.2], by rw [h.2]⟩
      have e : F_X9_first x (nI w) = F_X9_first_15 (nI w) (nI w) 1 x := by
        unfold F_X9_first
        have : w = 0 ∨ w = 1 := by omega
        rcases this with rfl | rfl
        · rw [if_pos (show nI 0 = (0 : Int32) from rfl)]
        · rw [if_neg (by decide), if_pos (show nI 1 = (1 : Int32) from rfl)]
      rw [e]
      unfold F_X9_first_15
      rw [x_need1, zbx_0, c1, zbv_some]
      refine loopN (F_X9_first_31 _) (fun g k (s : Nat × zMem) => g (nI w) (nI s.1) (nI k) s.2) 64 (fun k s => s.1 = mostB (sel k) ∧ XB s.2 (sel k) ∧ frX r (fun a => a = 172) x s.2) _ (fun g k s hk hI ih => ?_) (fun g s hI => ?_) (k := 0) (s := (500, x1)) (by omega) ⟨by rw [← hsel]; rfl, by rw [← hsel]; exact c2, fx c3⟩ (by omega)
      · obtain ⟨mo, y⟩ := s
        obtain ⟨i0, i1, i2⟩ := hI
        try dsimp only at i0 i1 i2 ih ⊢
        have w' := i2.w hS h.1
        have hr' := i2.rr hr (Or.inl (by omega)) (fun a h1 h2 z => by have : a = 172 := z; omega) h.u
        have b1 := hv.1 k (by omega)
        have hsk := hs k
        have hmo : mo ≤ 500 := by
          rw [i0]
          cases hk : sel k with
          | none => exact Nat.le_refl _
          | some q => have := hpos k q hk; unfold mostB; dsimp only; omega
        have skip : ∀ z, frX r (fun a => a = 172) x z → XB z (sel k) → sel (k + 1) = sel k → wp (F_X9_first_62 (nI w) g (nI w) (nI mo) (nI k) (-1) z) (fun q => q.1 = 0 ∧ q.2.1 = poa w (sel 64) ∧ frX r (fun a => a = 172) x q.2.2) := fun z j1 j2 j3 => by
          unfold F_X9_first_62 F_X9_first_85
          rw [if_pos rfl, nI_1]
          exact ih (mo, z) ⟨by rw [j3]; exact i0, by rw [j3]; exact j2, j1⟩
        unfold F_X9_first_31
        rw [show (64 : Int32) = nI 64 from rfl, ile (by omega) (by omega), if_neg (by omega), gin_ok hk (by decide), nI_clamp (by omega), show y.1 5 k = nI ((sN S).2.1 k) from (hr'.1 k hk).1]
        by_cases z : (sN S).2.1 k = 0
        · rw [if_pos (by rw [ya_0, nI_leI (by omega) (by omega)]; omega)]
          have : dryC (sE S) (sL S) (sN S).2.1 k = false := by unfold dryC; rw [decide_eq_false (by omega), Bool.false_and]
          rw [this, if_neg (by decide)] at hsk
          exact skip y i2 i1 hsk
        · have hin : inW (sE S) k = true := by
            cases hi : inW (sE S) k
            · exact absurd (hv.2.1 k hk hi).1 z
            · rfl
          rw [if_neg (by rw [ya_0, nI_leI (by omega) (by omega)]; omega)]
          obtain ⟨y', f1, f2⟩ := x_dryingOf w' he ok.2.1 hr' hv hk hin hmo
          rw [f1, zb_some]
          dsimp only
          have i1' := f2.b hr (fun z => z) i1
          have i2' := i2.trans (f2.wid (fun _ z => z.elim))
          cases hc : dryC (sE S) (sL S) (sN S).2.1 k
          · rw [hc, if_neg (by decide)] at hsk
            rw [dryR_no z hc hmo]
            exact skip y' i2' i1' hsk
          · rw [hc, if_pos rfl] at hsk
            have hp := dryC_pos hc
            rw [dryR_yes hc hmo]
            generalize fz (dryB (sE S) (sL S) (sN S).2.1 k) 501 = v at hsk hp
            by_cases c : v ≤ mo
            · rw [if_pos c]
              unfold F_X9_first_62 F_X9_first_85
              rw [if_neg (by rw [ya_ne_m1 (by omega)]; exact fun z => z)]
              obtain ⟨y2, d1, d2, d3⟩ := x_offerLeast (p := k) (v := v) i1' (by omega) (by omega)
              rw [d1, zbv_some, zl_eq, show (1 : Int32) = nI 1 from rfl, pk_sub (by omega), ← show (1 : Int32) = nI 1 from rfl, nI_1]
              refine ih (v - 1, y2) ⟨?_, by rw [hsk]; exact d2, i2'.trans (fx d3)⟩
              rw [hsk]
              cases hk2 : sel k with
              | none => rfl
              | some q =>
                have hq := hpos k q hk2
                rw [hk2] at i0
                have : mo = q.2 - 1 := i0
                unfold offL
                dsimp only
                rw [if_pos (by omega)]
                rfl
            · rw [if_neg c]
              refine skip y' i2' i1' ?_
              rw [hsk]
              cases hk2 : sel k with
              | none =>
                rw [hk2] at i0
                have : mo = 500 := i0
                omega
              | some q =>
                have hq := hpos k q hk2
                rw [hk2] at i0
                have : mo = q.2 - 1 := i0
                unfold offL
                dsimp only
                rw [if_neg (by omega)]
      · obtain ⟨mo, y⟩ := s
        obtain ⟨i0, i1, i2⟩ := hI
        try dsimp only at i0 i1 i2 ⊢
        unfold F_X9_first_31
        rw [show (64 : Int32) = nI 64 from rfl, if_pos (Int32.le_refl _), x_poa i1 (by omega), zb_some, wp_some]
        exact ⟨rfl, rfl, i2⟩
    obtain ⟨⟨k0, v0, x'⟩, g1, g2, g3, g4⟩ := hX1
    try dsimp only at g2 g3 g4
    subst g2
    subst g3
    have hM2 : wp (itF (fun _ _ _ _ _ => none) (F_X10_first_37 (nI w)) zFuel (nI w) (-1) (-1) (nI 0) (zI m 0 0 0)) (fun q => q.1 = poa w (sel 64) ∧ frM 452 (zI m 0 0 0) q.2) := by
      refine loopN (F_X10_first_37 _) (fun g k (s : Int32 × Int32 × zMem) => g (nI w) s.1 s.2.1 (nI k) s.2.2) 64 (fun k s => s.1 = bF (sel k) ∧ s.2.1 = bA (sel k) ∧ frM 452 (zI m 0 0 0) s.2.2) _ (fun g k s hk hI ih => ?_) (fun g s hI => ?_) (k := 0) (s := (-1, -1, zI m 0 0 0)) (by omega) ⟨by rw [← hsel]; rfl, by rw [← hsel]; rfl, frM.refl⟩ (by omega)
      · obtain ⟨s1, s2, y⟩ := s
        obtain ⟨i1, i2, i3⟩ := hI
        try dsimp only at i1 i2 i3 ih ⊢
        have H' : RMh y (sE S) (sL S) (sN S).2.1 451 := i3.h (by omega) he ok.2.1 (by omega) (by omega) (by omega) hM1.h
        have b1 := hv.1 k (by omega)
        have hsk := hs k
        have skip : ∀ z, frM 452 (zI m 0 0 0) z → sel (k + 1) = sel k → wp (F_X10_first_66 (nI w) g (nI w) s1 s2 (nI k) (-1) z) (fun q => q.1 = poa w (sel 64) ∧ frM 452 (zI m 0 0 0) q.2) := fun z j1 j3 => by
          unfold F_X10_first_66 F_X10_first_94
          rw [if_pos rfl, nI_1]
          exact ih (s1, s2, z) ⟨by rw [j3]; exact i1, by rw [j3]; exact i2, j1⟩
        unfold F_X10_first_37
        rw [show (64 : Int32) = nI 64 from rfl, ile (by omega) (by omega), if_neg (by omega), show (0 : Int32) + nI k = nI (0 + k) from nI_add 0 k, Nat.zero_add, gin_ok (by omega) (by decide), nI_clamp (by omega), H'.2.2 k (by omega), ie0 (by omega)]
        by_cases z : (sN S).2.1 k = 0
        · rw [if_pos z]
          have : dryC (sE S) (sL S) (sN S).2.1 k = false := by unfold dryC; rw [decide_eq_false (by omega), Bool.false_and]
          rw [this, if_neg (by decide)] at hsk
          exact skip y i3 hsk
        · rw [if_neg z]
          obtain ⟨y', f1, f2⟩ := m_dryingOf H' he ok.2.1 hv hk
          rw [f1, zb_some]
          dsimp only
          have i3' := i3.trans f2
          cases hc : dryC (sE S) (sL S) (sN S).2.1 k
          · rw [hc, if_neg (by decide)] at hsk
            rw [dryR_no z hc (by omega)]
            exact skip y' i3' hsk
          · rw [hc, if_pos rfl] at hsk
            have hp := dryC_pos hc
            rw [dryR_yes hc (by omega), if_pos hp.2]
            generalize fz (dryB (sE S) (sL S) (sN S).2.1 k) 501 = v at hsk hp
            unfold F_X10_first_66 F_X10_first_88 F_X10_first_94
            rw [if_neg (by rw [ya_ne_m1 (by omega)]; exact fun z => z), nI_1]
            cases hb : sel k with
            | none =>
              rw [hb] at i1 i2 hsk
              rw [if_pos (show s1 = -1 from i1)]
              exact ih (_, _, y') ⟨by rw [hsk]; rfl, by rw [hsk]; rfl, i3'⟩
            | some q =>
              have hq := okb64 k (by omega) q hb
              rw [hb] at i1 i2 hsk
              have e1 : s1 = nI q.1 := i1
              have e2 : s2 = nI q.2 := i2
              have ho : offL k v (some q) = if v < q.2 then some (k, v) else some q := rfl
              rw [ho] at hsk
              rw [if_neg (by rw [e1, ya_ne_m1 hq.1]; exact fun z => z), e2, ilt (by omega) hq.2]
              by_cases c : v < q.2
              · rw [if_pos c]
                rw [if_pos c] at hsk
                exact ih (_, _, y') ⟨by rw [hsk]; rfl, by rw [hsk]; rfl, i3'⟩
              · rw [if_neg c]
                rw [if_neg c] at hsk
                exact ih (_, _, y') ⟨by rw [hsk]; exact i1, by rw [hsk]; rfl, i3'⟩
      · obtain ⟨s1, s2, y⟩ := s
        obtain ⟨i1, i2, i3⟩ := hI
        try dsimp only at i1 i2 i3 ⊢
        unfold F_X10_first_37 poa
        rw [show (64 : Int32) = nI 64 from rfl, if_pos (Int32.le_refl _), ie0 (by omega)]
        by_cases c : w = 0
        · rw [if_pos c, if_pos c, i1, m_asTold _ (okb64 64 (by omega)), zb_some, wp_some]
          exact ⟨rfl, i3⟩
        · rw [if_neg c, if_neg c, wp_some]
          exact ⟨i2, i3⟩
    obtain ⟨⟨v1, m'⟩, j1, j2, j3⟩ := hM2
    try dsimp only at j2 j3
    subst j2
    refine same_q h hM1 ok (Or.inl ⟨rfl, rfl⟩) (x' := x') (m' := m') g1 (g4.q (by omega) (fun a z => by have : a = 172 := z; omega)) ?_ (j3.q (Or.inr (Or.inl rfl))) (by rw [j3.1 0 (by omega) (by omega) (by omega)]; exact t0_0)
    unfold F_X10_first
    rw [zl_eq, show F_X10_in (zI m 0 0 0) (nI w) (0 : Int32) (1 : Int32) = some (1, zI m 0 0 0) from m_inY _ (Nat.zero_le w) hw (by decide), zb_some]
    dsimp only
    rw [if_neg (by decide)]
    unfold F_X10_first_20
    rw [m_bad0 t0_0, zb_some]
    dsimp only
    rw [if_pos rfl]
    exact j1
  · refine same_1 (t := 1) h hM1 ok (Or.inr ⟨rfl, rfl⟩) frQ.refl frN.refl (v := 0) (w := 0) ?_ ?_
    · unfold F_X9_first
      rw [if_neg (by rintro rfl; rcases hb with hb | hb <;> revert hb <;> decide), if_neg (by rintro rfl; rcases hb with hb | hb <;> revert hb <;> decide)]; rfl
    · unfold F_X10_first
      rw [zl_eq, show F_X10_in (zI m 0 0 0) a (0 : Int32) (1 : Int32) = some (0, zI m 0 0 0) from m_inN _ hb, zb_some]
      dsimp only
      rw [if_pos rfl]
      unfold F_X10_first_20
      rw [m_bad11 t0_0, zb_some]; rfl
