/-! which heap brings most into shade, alone -/
theorem one_by {c d : Nat → Bool} {p n : Nat} (hp : p < n) (hd : ∀ f, f < n → d f = (decide (f ≠ p) && c f)) :
    (c p && (anyN c n && !anyN (fun f => anyN c f && c f) n)) = (anyN c n && !anyN d n) := by
  cases hc : c p
  · have : anyN d n = anyN c n := anyN_congr (fun f hf => by
      rw [hd f hf]
      by_cases e : f = p
      · rw [e, hc, Bool.and_false]
      · rw [decide_eq_true e, Bool.true_and])
    rw [this]
    cases anyN c n <;> rfl
  · have : anyN (fun f => anyN c f && c f) n = anyN d n := by
      rw [Bool.eq_iff_iff, anyN_iff, anyN_iff]
      constructor
      · rintro ⟨j, h1, h2⟩
        rw [Bool.and_eq_true, anyN_iff] at h2
        obtain ⟨⟨i, h3, h4⟩, h5⟩ := h2
        by_cases e : j = p
        · exact ⟨i, by omega, by rw [hd i (by omega), decide_eq_true (by omega), h4]; rfl⟩
        · exact ⟨j, h1, by rw [hd j h1, decide_eq_true e, h5]; rfl⟩
      · rintro ⟨i, h1, h2⟩
        rw [hd i h1, Bool.and_eq_true, decide_eq_true_eq] at h2
        obtain ⟨h3, h4⟩ := h2
        by_cases e : i < p
        · exact ⟨p, hp, by rw [anyN_yes e h4, hc]; rfl⟩
        · exact ⟨i, h1, by rw [anyN_yes (k := p) (by omega) hc, h4]; rfl⟩
    rw [this, Bool.true_and]
def onceS (e : PL) (u : Nat → Nat) (q h : Nat) : Bool := anyN (fun f => cov e f (u (128 + f)) q h) 64 && !anyN (fun f => anyN (fun f => cov e f (u (128 + f)) q h) f && cov e f (u (128 + f)) q h) 64
def relS (e : PL) (u : Nat → Nat) (p : Nat) : Nat := sumN (fun h => cnt (fun q => inW e q && (shd e u q h && !shd e (updN u (128 + p) 0) q h)) 64) (pn e)
theorem relS_le {e : PL} {u : Nat → Nat} {p : Nat} (he : okPL e) : relS e u p ≤ 640 := by
  have hn := he.2.2.2.2.1
  have h1 := sumN_le (f := fun h => cnt (fun q => inW e q && (shd e u q h && !shd e (updN u (128 + p) 0) q h)) 64) (b := 64) (n := pn e) (fun k _ => cnt_le _ _)
  unfold relS
  omega
theorem relS_eq {e : PL} {u : Nat → Nat} {p : Nat} (hp : p < 64) : relS e u p = sumN (fun h => cnt (fun q => inW e q && (cov e p (u (128 + p)) q h && onceS e u q h)) 64) (pn e) := by
  refine sumN_congr (fun h _ => cnt_congr (fun q _ => ?_))
  unfold onceS shd
  refine congrArg (fun b => inW e q && b) (one_by (c := fun f => cov e f (u (128 + f)) q h) (d := fun f => cov e f (updN u (128 + p) 0 (128 + f)) q h) hp (fun f hf => ?_)).symm
  by_cases c : f = p
  · rw [c, updN_s]
    show cov e p 0 q h = _
    rw [decide_eq_false (by omega), Bool.false_and]
    unfold cov
    rw [if_pos rfl]
  · rw [updN_n (by omega), decide_eq_true c, Bool.true_and]
theorem x_learnAlone {x : zMem} {e : PL} {L : LW} {u : Nat → Nat} {pl r : Nat} (w : RXw x e L pl r) (he : okPL e) (hr : RXr x e u 4) (hv : okR e u) :
    ∃ y, F_X6_learnAlone x 104 pl 4 = some y ∧ (∀ h, h < pn e → ∀ q, q < 64 → tb (y.2.1 (104 + 67) h) q = (inW e q && onceS e u q h)) ∧ y.1 = x.1 ∧ frX r SL x y := by
  have hn := he.2.2.2.2.1
  have hpl := w.2.2.2.2.1
  have hw : wp (F_X6_learnAlone x 104 pl 4) (fun y => (∀ h, h < pn e → ∀ q, q < 64 → tb (y.2.1 (104 + 67) h) q = (inW e q && onceS e u q h)) ∧ y.1 = x.1 ∧ (∀ a, ¬ SL a → y.2.1 a = x.2.1 a) ∧ y.2.2 = x.2.2) := by
    unfold F_X6_learnAlone
    refine loopN (F_X6_learnAlone_2 _ _ _) (fun g k (y : zMem) => g (nI k) y) (pn e)
      (fun k y => (∀ h, h < k → ∀ q, q < 64 → tb (y.2.1 (104 + 67) h) q = (inW e q && onceS e u q h)) ∧ y.1 = x.1 ∧ (∀ a, ¬ SL a → y.2.1 a = x.2.1 a) ∧ y.2.2 = x.2.2) _
      (fun g k y hk hI ih => ?_) (fun g y hI => ?_) (k := 0) (s := x) (by omega) ⟨fun h hh => absurd hh (Nat.not_lt_zero _), rfl, fun _ _ => rfl, rfl⟩ (by omega)
    · obtain ⟨i1, i2, i3, i4⟩ := hI
      try dsimp only at i1 i2 i3 i4 ih ⊢
      have kp : RXp y e pl := by
        obtain ⟨a1, a2, a3, a4, a5⟩ := w.1
        exact ⟨by rw [i2]; exact a1, by rw [i2]; exact a2, by rw [i2]; exact a3, fun h hh => by rw [i2]; exact a4 h hh, fun p hp => by rw [i3 pl (by unfold SL; omega)]; exact a5 p hp⟩
      unfold F_X6_learnAlone_2
      rw [kp.2.2.1, ile (by omega) (by omega), if_neg (by omega), show (10 : Int32) = nI 10 from rfl, ile (by omega) (by omega), if_neg (by omega)]
      refine loopN (F_X6_learnAlone_25 _ _ _ _) (fun g2 f (s : Int64 × Int64) => g2 (nI k) s.1 s.2 (nI f) y) 64
        (fun f s => ∀ q, q < 64 → tb s.1 q = (inW e q && anyN (fun f => cov e f (u (128 + f)) q k) f) ∧ tb s.2 q = (inW e q && anyN (fun f => anyN (fun f => cov e f (u (128 + f)) q k) f && cov e f (u (128 + f)) q k) f)) _
        (fun g2 f s hf hI2 ih2 => ?_) (fun g2 s hI2 => ?_) (k := 0) (s := ((0 : Int64), (0 : Int64))) (by omega) (fun q hq => by dsimp only; rw [tb_0]; cases inW e q <;> exact ⟨rfl, rfl⟩) (by omega)
      · obtain ⟨s1, s2⟩ := s
        try dsimp only at hI2 ih2 ⊢
        have bf := hv.1 (128 + f) (by omega)
        have hgf : y.1 (4 + 3) f = nI (u (128 + f)) := by rw [i2]; exact (hr.1 f hf).2.2
        unfold F_X6_learnAlone_25 F_X6_learnAlone_75
        rw [show (64 : Int32) = nI 64 from rfl, ile (by omega) (by omega), if_neg (by omega), gin_ok hf (by decide), nI_clamp (by omega), hgf, ya_0, ile (by omega) (by omega), nI_1]
        by_cases c0 : u (128 + f) ≤ 0
        · rw [if_pos c0]
          refine ih2 (s1, s2) (fun q hq => ?_)
          obtain ⟨h1, h2⟩ := hI2 q hq
          have : cov e f (u (128 + f)) q k = false := by unfold cov; rw [if_pos (by omega)]
          dsimp only
          rw [anyN_succ, anyN_succ, this, Bool.and_false, Bool.or_false, Bool.or_false]
          exact ⟨h1, h2⟩
        · have hin : inW e f = true := by
            cases z : inW e f
            · exact absurd (hv.2.1 f hf z).2.2 (by omega)
            · rfl
          rw [if_neg c0]
          obtain ⟨mm, t1, t2⟩ := x_shadedBy kp he hf hin (by omega) bf hk
          rw [t1, zb_some]
          dsimp only
          rw [zl_eq, zl_eq]
          refine ih2 (_, _) (fun q hq => ?_)
          obtain ⟨h1, h2⟩ := hI2 q hq
          dsimp only
          rw [anyN_succ, anyN_succ, tb_or, tb_or, tb_and, h1, h2, t2 q hq]
          cases inW e q <;> cases cov e f (u (128 + f)) q k <;> cases anyN (fun f => cov e f (u (128 + f)) q k) f <;> cases anyN (fun f => anyN (fun f => cov e f (u (128 + f)) q k) f && cov e f (u (128 + f)) q k) f <;> exact ⟨rfl, rfl⟩
      · obtain ⟨s1, s2⟩ := s
        try dsimp only at hI2 ⊢
        unfold F_X6_learnAlone_25
        rw [show (64 : Int32) = nI 64 from rfl, if_pos (Int32.le_refl _), gin_ok (by omega) (by decide), zl_eq, nI_clamp (by omega), nI_1]
        refine ih _ ⟨fun h hh q hq => ?_, i2, fun a ha => ?_, i4⟩
        · rw [zL_1]
          by_cases c : h = k
          · obtain ⟨h1, h2⟩ := hI2 q hq
            rw [c, updL_s, tb_and, tb_not _ hq, h1, h2]
            unfold onceS
            cases inW e q <;> cases anyN (fun f => cov e f (u (128 + f)) q k) 64 <;> rfl
          · rw [updL_n c]; exact i1 h (by omega) q hq
        · rw [zL_n (fun c => ha (by rw [c]; unfold SL; omega))]; exact i3 a ha
    · obtain ⟨i1, i2, i3, i4⟩ := hI
      try dsimp only at i1 i2 i3 i4 ⊢
      unfold F_X6_learnAlone_2
      rw [show y.1 pl 2 = nI (pn e) from by rw [i2]; exact w.1.2.2.1, if_pos (Int32.le_refl _), wp_some]
      exact ⟨i1, i2, i3, i4⟩
  obtain ⟨y, y1, y2, y3, y4, y5⟩ := hw
  exact ⟨y, y1, y2, y3, ⟨fun a _ _ _ => by rw [y3], y4, y5⟩⟩
theorem x_aloneBy {y : zMem} {e : PL} {u : Nat → Nat} {pl p : Nat} (kp : RXp y e pl) (he : okPL e) (hv : okR e u) (hl : ∀ h, h < pn e → ∀ q, q < 64 → tb (y.2.1 (104 + 67) h) q = (inW e q && onceS e u q h)) (hp : p < 64) (hin : inW e p = true) (hg : u (128 + p) ≠ 0) :
    F_X6_aloneBy y 104 pl (nI p) (nI (u (128 + p))) = some (nI (relS e u p), y) := by
  have hn := he.2.2.2.2.1
  have bp := hv.1 (128 + p) (by omega)
  rw [relS_eq hp]
  unfold F_X6_aloneBy
  refine loopP (F_X6_aloneBy_6 _ _ _ _) (fun g k (s : Nat) => g (nI p) (nI (u (128 + p))) (nI s) (nI k) y) (pn e) (fun h s => s + cnt (fun q => inW e q && (cov e p (u (128 + p)) q h && onceS e u q h)) 64) (fun s => some (nI s, y)) (fun g k s hk => ?_) (fun g s => ?_) (s := 0) rfl (by omega)
  · show F_X6_aloneBy_6 104 pl (nI p) (nI (u (128 + p))) g (nI p) (nI (u (128 + p))) (nI s) (nI k) y = _
    unfold F_X6_aloneBy_6
    obtain ⟨mm, t1, t2⟩ := x_shadedBy kp he hp hin (by omega) bp hk
    rw [kp.2.2.1, ile (by omega) (by omega), if_neg (by omega), show (10 : Int32) = nI 10 from rfl, ile (by omega) (by omega), if_neg (by omega), t1, zb_some]
    dsimp only
    rw [gin_ok (by omega) (by decide), nI_clamp (by omega), x_bitCount, zb_some]
    dsimp only
    rw [zl_eq, nI_add, nI_1, cnt_congr (q := fun q => inW e q && (cov e p (u (128 + p)) q k && onceS e u q k)) (fun q hq => ?_)]
    rw [tb_and, t2 q hq, hl k hk q hq]
    cases inW e q <;> cases cov e p (u (128 + p)) q k <;> rfl
  · show F_X6_aloneBy_6 104 pl (nI p) (nI (u (128 + p))) g (nI p) (nI (u (128 + p))) (nI s) (nI (pn e)) y = _
    unfold F_X6_aloneBy_6
    rw [kp.2.2.1, if_pos (Int32.le_refl _)]
theorem okV_upd {u : Nat → Nat} {k v : Nat} (h : okV u) (hv : v ≤ 9999) : okV (updN u k v) := fun i hi => by
  by_cases c : i = k
  · rw [c, updN_s]; exact hv
  · rw [updN_n c]; exact h i hi
theorem q_relief {x m : zMem} {S : SS} (a : Int32) (hX : RXo x S) (hM : RMn m S) (ok : okS S) : same T1 (F_X9_relief x a) (F_X10_relief m a) := by
  obtain ⟨pl, r, n, h⟩ := hX
  have hM1 := hM.t ok
  have he := ok.1
  have hn := he.2.2.2.2.1
  have hv := ok.u
  have hr := h.1.2.2.2.2.2
  have hpl := h.1.2.2.2.2.1
  rcases ya_rng a (b := 1) (by decide) with ⟨w, hw, rfl⟩ | hb
  · have hu : okR (sE S) (sN S).2.1 := hv
    generalize hun : (sN S).2.1 = u at hu
    generalize hsel : selM (fun p => decide (u (128 + p) ≠ 0)) (relS (sE S) u) = sel
    have hf : ∀ p, relS (sE S) u p ≤ 640 := fun p => relS_le he
    have okb64 : ∀ k, k ≤ 64 → okb (sel k) := fun k hk => by rw [← hsel]; exact selM_ok (by omega) (fun p hp => by have := hf p; omega)
    have hs : ∀ k, sel (k + 1) = if decide (u (128 + k) ≠ 0) = true then offM k (relS (sE S) u k) (sel k) else sel k := fun k => by rw [← hsel]; rfl
    have hX1 : wp (F_X9_relief x (nI w)) (fun q => q.1 = 0 ∧ q.2.1 = poa w (sel 64) ∧ frX r (fun a => 104 ≤ a ∧ a ≤ 172) x q.2.2) := by
      have hxu : RXr x (sE S) u 4 := by rw [← hun]; exact h.u
      obtain ⟨y0, b1, b2, b3, b4⟩ := x_learnAlone h.1 he hxu hu
      obtain ⟨y1, c1, c2, c3⟩ := x_clear y0
      have fx : ∀ {y z : zMem}, fr172 y z → frX r (fun a => 104 ≤ a ∧ a ≤ 172) y z := fun h => ⟨fun a _ _ h3 => h.1 a (fun c => h3 ⟨by omega, by omega⟩), fun a _ => by rw [h.2], by rw [h.2]⟩
      have f0 : frX r (fun a => 104 ≤ a ∧ a ≤ 172) x y0 := b4.wid (fun a q => by unfold SL at q; exact ⟨q.1, by omega⟩)
      have e : F_X9_relief x (nI w) = F_X9_relief_15 (nI w) (nI w) 1 x := by
        unfold F_X9_relief
        have : w = 0 ∨ w = 1 := by omega
        rcases this with rfl | rfl
        · rw [if_pos (show nI 0 = (0 : Int32) from rfl)]
        · rw [if_neg (by decide), if_pos (show nI 1 = (1 : Int32) from rfl)]
      rw [e]
      unfold F_X9_relief_15
      rw [x_need1, zbx_0, h.1.2.2.1, gd_ok (sX_p hpl), b1, zbv_some, c1, zbv_some]
      refine loopN (F_X9_relief_47 _) (fun g k (y : zMem) => g (nI w) (nI k) y) 64 (fun k y => XB y (sel k) ∧ fr172 y0 y) _ (fun g k y hk hI ih => ?_) (fun g y hI => ?_) (k := 0) (s := y1) (by omega) ⟨by rw [← hsel]; exact c2, c3⟩ (by omega)
      · obtain ⟨i1, i2⟩ := hI
        try dsimp only at i1 i2 ih ⊢
        have w' : RXw y (sE S) (sL S) pl r := (f0.trans (fx i2)).w (fun a h1 h2 q => by have : 104 ≤ a ∧ a ≤ 172 := q; omega) h.1
        have r' : RXr y (sE S) u 4 := (f0.trans (fx i2)).rr hr (Or.inl (by omega)) (fun a h1 h2 q => by have : 104 ≤ a ∧ a ≤ 172 := q; omega) hxu
        have bk := hu.1 (128 + k) (by omega)
        have hsk := hs k
        unfold F_X9_relief_47 F_X9_relief_88
        rw [show (64 : Int32) = nI 64 from rfl, ile (by omega) (by omega), if_neg (by omega), gin_ok hk (by decide), nI_clamp (by omega), show y.1 7 k = nI (u (128 + k)) from (r'.1 k hk).2.2, nI_1]
        by_cases z : u (128 + k) = 0
        · rw [if_pos (by rw [ya_0, nI_leI (by omega) (by omega)]; omega)]
          rw [decide_eq_false (by omega), if_neg (by decide)] at hsk
          exact ih y ⟨by rw [hsk]; exact i1, i2⟩
        · rw [if_neg (by rw [ya_0, nI_leI (by omega) (by omega)]; omega)]
          rw [decide_eq_true z, if_pos rfl] at hsk
          have hin : inW (sE S) k = true := by
            cases hi : inW (sE S) k
            · exact absurd (hu.2.1 k hk hi).2.2 z
            · rfl
          rw [w'.2.2.1, gd_ok (sX_p hpl), x_aloneBy w'.1 he hu (fun h hh q hq => by rw [i2.2]; exact b2 h hh q hq) hk hin z, zb_some]
          dsimp only
          obtain ⟨y2, d1, d2, d3⟩ := x_offerMost (p := k) (v := relS (sE S) u k) i1 (by omega) (by have := hf k; omega)
          rw [d1, zbv_some]
          exact ih y2 ⟨by rw [hsk]; exact d2, i2.trans d3⟩
      · obtain ⟨i1, i2⟩ := hI
        try dsimp only at i1 i2 ⊢
        unfold F_X9_relief_47
        rw [show (64 : Int32) = nI 64 from rfl, if_pos (Int32.le_refl _), x_poa i1 (by omega), zb_some, wp_some]
        exact ⟨rfl, rfl, f0.trans (fx i2)⟩
    have hM2 : wp (itF (fun _ _ _ _ _ => none) (F_X10_relief_37 (nI w)) zFuel (nI w) (-1) (-1) (nI 0) (zI m 0 0 0)) (fun q => q.1 = poa w (sel 64) ∧ frM 452 (zI m 0 0 0) q.2) := by
      have hmu : RMr (zI m 0 0 0) u 451 := by rw [← hun]; exact hM1.u
      refine loopN (F_X10_relief_37 _) (fun g k (s : Int32 × Int32 × zMem) => g (nI w) s.1 s.2.1 (nI k) s.2.2) 64 (fun k s => s.1 = bF (sel k) ∧ s.2.1 = bA (sel k) ∧ frM 452 (zI m 0 0 0) s.2.2) _ (fun g k s hk hI ih => ?_) (fun g s hI => ?_) (k := 0) (s := (-1, -1, zI m 0 0 0)) (by omega) ⟨by rw [← hsel]; rfl, by rw [← hsel]; rfl, frM.refl⟩ (by omega)
      · obtain ⟨s1, s2, y⟩ := s
        obtain ⟨i1, i2, i3⟩ := hI
        try dsimp only at i1 i2 i3 ih ⊢
        have hru : RMr y u 451 := i3.r (by omega) (by omega) (by omega) hmu
        have hp1 : RMp y (sE S) := i3.p (by omega) he hM1.1
        have bk := hu.1 (128 + k) (by omega)
        have hsk := hs k
        unfold F_X10_relief_37 F_X10_relief_192
        rw [show (64 : Int32) = nI 64 from rfl, ile (by omega) (by omega), if_neg (by omega), show (128 : Int32) + nI k = nI (128 + k) from nI_add 128 k, gin_ok (by omega) (by decide), nI_clamp (by omega), hru _ (by omega), ie0 (by omega), nI_1]
        by_cases z : u (128 + k) = 0
        · rw [if_pos z]
          rw [decide_eq_false (by omega), if_neg (by decide)] at hsk
          exact ih (s1, s2, y) ⟨by rw [hsk]; exact i1, by rw [hsk]; exact i2, i3⟩
        · rw [if_neg z]
          rw [decide_eq_true z, if_pos rfl] at hsk
          obtain ⟨m1, c1, c2, c3⟩ := m_copies (M := y) (a := 451) (b := 452) (by decide)
          rw [c1, zbv_some, zl_eq]
          have f2 : frM 452 y (zI m1 452 (128 + k) 0) := c2.trans frM.set
          have hp2 : RMp (zI m1 452 (128 + k) 0) (sE S) := f2.p (by omega) he hp1
          have hr1 : RMr (zI m1 452 (128 + k) 0) u 451 := f2.r (by omega) (by omega) (by omega) hru
          have hr2 : RMr (zI m1 452 (128 + k) 0) (updN u (128 + k) 0) 452 := RMr.set (v := 0) (fun i hi => by rw [c3 i hi]; exact hru i hi)
          have f3 := i3.trans f2
          have hv2 : okV (updN u (128 + k) 0) := okV_upd hu.1 (by omega)
          have hrl := hf k
          generalize zI m1 452 (128 + k) 0 = m2 at hp2 hr1 hr2 f3
          refine loopN (F_X10_relief_90 _ _) (fun g2 hh (t : Nat) => g2 (nI w) s1 s2 (nI k) (nI t) (nI hh) m2) (pn (sE S)) (fun hh t => t = sumN (fun h => cnt (fun q => inW (sE S) q && (shd (sE S) u q h && !shd (sE S) (updN u (128 + k) 0) q h)) 64) hh) _ (fun g2 hh t hh1 hI2 ih2 => ?_) (fun g2 t hI2 => ?_) (k := 0) (s := 0) (by omega) rfl (by omega)
          · try dsimp only at hI2 ih2 ⊢
            unfold F_X10_relief_90
            rw [hp2.2.2.1, ile (by omega) (by omega), if_neg (by omega)]
            refine loopN (F_X10_relief_104 _ _ _) (fun g3 q (t2 : Nat) => g3 (nI w) s1 s2 (nI k) (nI t2) (nI hh) (nI q) m2) 64 (fun q t2 => t2 = t + cnt (fun q => inW (sE S) q && (shd (sE S) u q hh && !shd (sE S) (updN u (128 + k) 0) q hh)) q) _ (fun g3 q t2 hq hI3 ih3 => ?_) (fun g3 t2 hI3 => ?_) (k := 0) (s := t) (by omega) rfl (by omega)
            · try dsimp only at hI3 ih3 ⊢
              have go : ∀ b : Bool, (inW (sE S) q && (shd (sE S) u q hh && !shd (sE S) (updN u (128 + k) 0) q hh)) = b → wp (g3 (nI w) s1 s2 (nI k) (nI (t2 + if b then 1 else 0)) (nI hh) (nI (q + 1)) m2) (fun q => q.1 = poa w (sel 64) ∧ frM 452 (zI m 0 0 0) q.2) := fun b hb2 => by
                refine ih3 _ ?_
                rw [hI3, cnt_succ, hb2, Nat.add_assoc]
              have g0 := go false
              have g1 := go true
              rw [if_neg (by decide), Nat.add_zero] at g0
              rw [if_pos rfl] at g1
              unfold F_X10_relief_104 F_X10_relief_156 F_X10_relief_157
              rw [show (64 : Int32) = nI 64 from rfl, ile (by omega) (by omega), if_neg (by omega), m_isHere hp2 he hq, zb_some]
              dsimp only
              rw [ibI, zl_eq, show nI t2 + (0 : Int32) = nI t2 from by rw [ya_0, nI_add, Nat.add_zero], nI_1, nI_1]
              cases hi : inW (sE S) q
              · rw [if_pos rfl]
                exact g0 (by rw [hi]; rfl)
              · rw [if_neg (by decide), m_isShade hp2 he hr1 hu.1 hq hh1, zb_some]
                dsimp only
                rw [ibI]
                cases ha : shd (sE S) u q hh
                · rw [if_pos rfl, zl_eq]
                  exact g0 (by rw [hi, ha]; rfl)
                · rw [if_neg (by decide), m_isShade hp2 he hr2 hv2 hq hh1, zb_some]
                  dsimp only
                  rw [ibI]
                  cases hb : shd (sE S) (updN u (128 + k) 0) q hh
                  · rw [if_pos rfl, zl_eq]
                    exact g1 (by rw [hi, ha, hb]; rfl)
                  · rw [if_neg (by decide), zl_eq]
                    exact g0 (by rw [hi, ha, hb]; rfl)
            · try dsimp only at hI3 ⊢
              unfold F_X10_relief_104
              rw [show (64 : Int32) = nI 64 from rfl, if_pos (Int32.le_refl _), nI_1]
              exact ih2 t2 (by rw [hI3, hI2]; rfl)
          · try dsimp only at hI2 ⊢
            have et : t = relS (sE S) u k := hI2
            rw [et]
            generalize relS (sE S) u k = v at hsk hrl
            unfold F_X10_relief_90 F_X10_relief_184 F_X10_relief_192
            rw [hp2.2.2.1, if_pos (Int32.le_refl _), m_more, zb_some, zb_some, nI_1]
            dsimp only
            cases hb : sel k with
            | none =>
              rw [hb] at i1 i2 hsk
              have e2 : s2 = -1 := i2
              have hle : (-1 : Int32) ≤ nI v := by rw [show (-1 : Int32) = iI (-1) from rfl, iI_nat, iI_le (by omega) (by omega) (by omega) (by omega)]; omega
              rw [if_neg (by rw [e2, show (-1 : Int32) = iI (-1) from rfl, iI_nat, iI_le (by omega) (by omega) (by omega) (by omega)]; omega), e2, if_pos hle]
              exact ih (_, _, m2) ⟨by rw [hsk]; rfl, by rw [hsk]; rfl, f3⟩
            | some q =>
              have hq := okb64 k (by omega) q hb
              rw [hb] at i1 i2 hsk
              have e2 : s2 = nI q.2 := i2
              have ho : offM k v (some q) = if q.2 < v then some (k, v) else some q := rfl
              rw [ho] at hsk
              rw [e2, ile (by omega) hq.2, ile hq.2 (by omega)]
              by_cases c : v ≤ q.2
              · rw [if_pos c]
                rw [if_neg (by omega)] at hsk
                refine ih (_, _, m2) ⟨by rw [hsk]; exact i1, ?_, f3⟩
                rw [hsk]
                show (if q.2 ≤ v then nI v else nI q.2) = nI q.2
                by_cases d : q.2 ≤ v
                · rw [if_pos d, show v = q.2 by omega]
                · rw [if_neg d]
              · rw [if_neg c, if_pos (by omega)]
                rw [if_pos (by omega)] at hsk
                exact ih (_, _, m2) ⟨by rw [hsk]; rfl, by rw [hsk]; rfl, f3⟩
      · obtain ⟨s1, s2, y⟩ := s
        obtain ⟨i1, i2, i3⟩ := hI
        try dsimp only at i1 i2 i3 ⊢
        unfold F_X10_relief_37 poa
        rw [show (64 : Int32) = nI 64 from rfl, if_pos (Int32.le_refl _), ie0 (by omega)]
        by_cases c : w = 0
        · rw [if_pos c, if_pos c, i1, m_asTold _ (okb64 64 (by omega)), zb_some, wp_some]
          exact ⟨rfl, i3⟩
        · rw [if_neg c, if_neg c, wp_some]
          exact ⟨i2, i3⟩
    obtain ⟨⟨k0, v0, x'⟩, g1, g2, g3, g4⟩ := hX1
    try dsimp only at g2 g3 g4
    subst g2
    subst g3
    obtain ⟨⟨v1, m'⟩, j1, j2, j3⟩ := hM2
    try dsimp only at j2 j3
    subst j2
    refine same_q h hM1 ok (Or.inl ⟨rfl, rfl⟩) (x' := x') (m' := m') g1 (g4.q (by omega) (fun a z => by have : 104 ≤ a ∧ a ≤ 172 := z; omega)) ?_ (j3.q (Or.inr (Or.inl rfl))) (by rw [j3.1 0 (by omega) (by omega) (by omega)]; exact t0_0)
    unfold F_X10_relief
    rw [zl_eq, show F_X10_in (zI m 0 0 0) (nI w) (0 : Int32) (1 : Int32) = some (1, zI m 0 0 0) from m_inY _ (Nat.zero_le w) hw (by decide), zb_some]
    dsimp only
    rw [if_neg (by decide)]
    unfold F_X10_relief_20
    rw [m_bad0 t0_0, zb_some]
    dsimp only
    rw [if_pos rfl]
    exact j1
  · refine same_1 (t := 1) h hM1 ok (Or.inr ⟨rfl, rfl⟩) frQ.refl frN.refl (v := 0) (w := 0) ?_ ?_
    · unfold F_X9_relief
      rw [if_neg (by rintro rfl; rcases hb with hb | hb <;> revert hb <;> decide), if_neg (by rintro rfl; rcases hb with hb | hb <;> revert hb <;> decide)]; rfl
    · unfold F_X10_relief
      rw [zl_eq, show F_X10_in (zI m 0 0 0) a (0 : Int32) (1 : Int32) = some (0, zI m 0 0 0) from m_inN _ hb, zb_some]
      dsimp only
      rw [if_pos rfl]
      unfold F_X10_relief_20
      rw [m_bad11 t0_0, zb_some]; rfl
