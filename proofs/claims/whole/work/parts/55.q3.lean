/-! hour, shade, dries, would -/
theorem m_isShadeRow {m : zMem} {e : PL} {u : Nat → Nat} (hp : RMp m e) (he : okPL e) (hr : RMr m u 451) (hv : okV u) {h y : Nat} (hh : h < pn e) (hy : y < pH e) :
    F_X10_shadeBits m (nI h) (nI y) = some (rowB (fun q => shd e u (8 * y + q) h) (pW e), m) := by
  have e2 := he.2.1
  have e4 := he.2.2.2.1
  unfold F_X10_shadeBits
  refine loopP (F_X10_shadeBits_5 _ _) (fun g k (s : Int32) => g (nI h) (nI y) s (nI k) m) (pW e) (fun q b => b ||| (if shd e u (8 * y + q) h then (1 : Int32) <<< (nI q &&& 31) else 0)) (fun s => some (s, m)) (fun g k s hk => ?_) (fun g s => ?_) (s := 0) rfl (by omega)
  · show F_X10_shadeBits_5 (nI h) (nI y) g (nI h) (nI y) s (nI k) m = _
    unfold F_X10_shadeBits_5 F_X10_shadeBits_44
    rw [hp.1, ile (by omega) (by omega), if_neg (by omega), show (8 : Int32) = nI 8 from rfl, pk_mul, nI_add, m_isShade hp he hr hv (by omega) hh, zb_some]
    dsimp only
    rw [ibI, nI_1]
    cases shd e u (8 * y + k) h <;> rfl
  · show F_X10_shadeBits_5 (nI h) (nI y) g (nI h) (nI y) s (nI (pW e)) m = _
    unfold F_X10_shadeBits_5
    rw [hp.1, if_pos (Int32.le_refl _)]
theorem q_shade {x m : zMem} {S : SS} (a b : Int32) (hX : RXo x S) (hM : RMn m S) (ok : okS S) : same T2 (F_X9_shade x a b) (F_X10_shade m a b) := by
  obtain ⟨pl, r, n, h⟩ := hX
  have hM1 := hM.t ok
  have he := ok.1
  have hn := he.2.2.2.2.1
  have hv := ok.u
  have e2 := he.2.1
  have e4 := he.2.2.2.1
  rcases ya_rlt a (n := pn (sE S)) (by omega) with ⟨hh, h1, rfl⟩ | hb
  · rcases ya_rlt b (n := pH (sE S)) (by omega) with ⟨y, h2, rfl⟩ | hb
    · obtain ⟨v, v1, v2⟩ := x_rowOf x (x.2.1 8 hh) (y := y) (by omega)
      have ev : v = rowB (fun q => shd (sE S) (sN S).2.1 (8 * y + q) hh) (pW (sE S)) := by
        apply ib_ext
        intro q hq
        rw [v2 q hq, ib_row _ hq (by omega)]
        by_cases c : q < 8
        · have d : inW (sE S) (8 * y + q) = decide (q < pW (sE S)) := by
            unfold inW
            rw [show (8 * y + q) % 8 = q by omega, show (8 * y + q) / 8 = y by omega, decide_eq_true h2, Bool.and_true]
          rw [decide_eq_true c, Bool.true_and, h.u.2.2.2.2 hh h1 _ (by omega), d]
        · rw [decide_eq_false c, decide_eq_false (by omega), Bool.false_and, Bool.false_and]
      refine same_q h hM1 ok (Or.inl ⟨rfl, rfl⟩) (v := v) (x' := x) (m' := zI m 0 0 0) ?_ frQ.refl ?_ frN.refl t0_0
      · unfold F_X9_shade F_X9_shadeNow
        rw [x_nhY h.1 he h1, zbx_0, x_nrY h.1 he h2, zbx_0, x_shadeAt (by omega), zb_some]
        dsimp only
        rw [zb_some]
        dsimp only
        rw [v1, zb_some]
      · unfold F_X10_shade
        rw [zl_eq, m_ihY hM1.1 he h1, zb_some]
        dsimp only
        rw [if_neg (by decide), hM1.1.2.1, m_hinY _ h2 (by omega), zb_some]
        dsimp only
        rw [if_neg (by decide)]
        unfold F_X10_shade_35
        rw [m_bad0 t0_0, zb_some]
        dsimp only
        rw [if_pos rfl, m_isShadeRow hM1.1 he hM1.u hv.1 h1 h2, zb_some, ev]
    · refine same_0 (t := 1) h hM1 ok (Or.inr ⟨rfl, rfl⟩) frQ.refl frN.refl (v := 0) (w := 0) ?_ ?_
      · unfold F_X9_shade
        rw [x_nhY h.1 he h1, zbx_0, x_nrN h.1 he hb]; rfl
      · unfold F_X10_shade
        rw [zl_eq, m_ihY hM1.1 he h1, zb_some]
        dsimp only
        rw [if_neg (by decide), hM1.1.2.1, m_hinN _ (by omega) hb, zb_some]
        dsimp only
        rw [if_pos rfl]
        unfold F_X10_shade_35
        rw [m_bad10 t0_0, zb_some]; rfl
  · refine same_0 (t := 1) h hM1 ok (Or.inr ⟨rfl, rfl⟩) frQ.refl frN.refl (v := 0) (w := 0) ?_ ?_
    · unfold F_X9_shade
      rw [x_nhN h.1 he hb]; rfl
    · unfold F_X10_shade
      rw [zl_eq, m_ihN hM1.1 he hb, zb_some]
      dsimp only
      rw [if_pos rfl]
      unfold F_X10_shade_35
      rw [m_bad10 t0_0, zb_some]; rfl
theorem m_hourCnt {m : zMem} {e : PL} {u : Nat → Nat} (hp : RMp m e) (he : okPL e) (hr : RMr m u 451) (hv : okV u) {h : Nat} (hh : h < pn e) (a b : Int32) :
    itF (fun _ _ _ _ => none) (F_X10_hour_71 a b) zFuel (nI h) (nI 0) (nI 0) m = some (nI (cnt (fun p => inW e p && shd e u p h) 64), m) := by
  refine loopP (F_X10_hour_71 _ _) (fun g k (s : Nat) => g (nI h) (nI s) (nI k) m) 64 (fun p s => s + if inW e p && shd e u p h then 1 else 0) (fun s => some (nI s, m)) (fun g k s hk => ?_) (fun g s => ?_) (s := 0) rfl (by omega)
  · show F_X10_hour_71 a b g (nI h) (nI s) (nI k) m = _
    have f0 : F_X10_hour_107 a b g (nI h) (nI k) (nI s) 0 m = g (nI h) (nI (s + 0)) (nI (k + 1)) m := by
      unfold F_X10_hour_107
      rw [zl_eq, ya_0, nI_add, nI_1]
    have f1 : F_X10_hour_107 a b g (nI h) (nI k) (nI s) 1 m = g (nI h) (nI (s + 1)) (nI (k + 1)) m := by
      unfold F_X10_hour_107
      rw [zl_eq, nI_1, nI_1]
    unfold F_X10_hour_71 F_X10_hour_106
    rw [show (64 : Int32) = nI 64 from rfl, ile (by omega) (by omega), if_neg (by omega), m_isHere hp he hk, zb_some]
    dsimp only
    rw [ibI]
    cases hin : inW e k
    · rw [if_pos rfl, f0]; rfl
    · rw [if_neg (by decide), m_isShade hp he hr hv hk hh, zb_some]
      dsimp only
      rw [ibI]
      cases hs : shd e u k h
      · rw [if_pos rfl, f0]; rfl
      · rw [if_neg (by decide), f1]; rfl
  · show F_X10_hour_71 a b g (nI h) (nI s) (nI 64) m = _
    unfold F_X10_hour_71
    rw [show (64 : Int32) = nI 64 from rfl, if_pos (Int32.le_refl _)]
theorem q_hour {x m : zMem} {S : SS} (a b : Int32) (hX : RXo x S) (hM : RMn m S) (ok : okS S) : same T3 (F_X9_hour x a b) (F_X10_hour m a b) := by
  obtain ⟨pl, r, n, h⟩ := hX
  have hM1 := hM.t ok
  have he := ok.1
  have hn := he.2.2.2.2.1
  have hv := ok.u
  have gp : ∀ o : Option (Nat × Int32 × zMem), gd (shX pl == 6) o = o := fun o => gd_ok (sX_p h.1.2.2.2.2.1)
  rcases ya_rlt a (n := pn (sE S)) (by omega) with ⟨hh, h1, rfl⟩ | hb
  · rcases ya_rng b (b := 2) (by decide) with ⟨k, hk, rfl⟩ | hc
    · have f : ∀ v, F_X9_hour x (nI hh) (nI k) = some (0, v, x) → F_X10_hour m (nI hh) (nI k) = some (v, zI m 0 0 0) → same T3 (F_X9_hour x (nI hh) (nI k)) (F_X10_hour m (nI hh) (nI k)) := fun v h1 h2 => same_q h hM1 ok (Or.inl ⟨rfl, rfl⟩) h1 frQ.refl h2 frN.refl t0_0
      have eX : F_X9_hour x (nI hh) (nI k) = F_X9_hour_20 (nI hh) (nI k) (nI hh) (nI k) 1 x := by
        unfold F_X9_hour
        rw [x_nhY h.1 he h1, zbx_0, if_neg (nI_pos (by omega)), show (2 : Int32) = nI 2 from rfl, ilt (by omega) (by omega), if_neg (by omega)]
      have eM : F_X10_hour m (nI hh) (nI k) = F_X10_hour_42 (nI hh) (nI k) (nI hh) (nI k) 0 (zI m 0 0 0) := by
        unfold F_X10_hour
        rw [zl_eq, m_ihY hM1.1 he h1, zb_some]
        dsimp only
        rw [if_neg (by decide)]
        unfold F_X10_hour_19
        rw [m_bad0 t0_0, zb_some]
        dsimp only
        rw [if_pos rfl, show F_X10_in (zI m 0 0 0) (nI k) (0 : Int32) (2 : Int32) = some (1, zI m 0 0 0) from m_inY _ (Nat.zero_le k) hk (by decide), zb_some]
        dsimp only
        rw [if_neg (by decide)]
      rw [eX, eM] at f ⊢
      unfold F_X9_hour_20 F_X10_hour_42 at f ⊢
      rw [x_need1, zbx_0, m_bad0 t0_0, zb_some] at f ⊢
      dsimp only at f ⊢
      rw [if_pos rfl] at f ⊢
      have : k = 0 ∨ k = 1 ∨ k = 2 := by omega
      rcases this with rfl | rfl | rfl
      · refine f (nI (psd (sE S) hh)) ?_ ?_
        · rw [if_pos (show nI 0 = (0 : Int32) from rfl), h.1.2.2.1, gp, gin_ok (by omega) (by decide), nI_clamp (by omega), (h.1.1.2.2.2.1 hh h1).1]
        · rw [if_neg (by decide), gin_ok (by omega) (by decide), gin_ok (by omega) (by decide), nI_clamp (by omega), nI_clamp (by omega), (hM1.1.2.2.2 hh h1).1]
      · refine f (nI (prc (sE S) hh)) ?_ ?_
        · rw [if_neg (by decide), if_pos (show nI 1 = (1 : Int32) from rfl), h.1.2.2.1, gp, gin_ok (by omega) (by decide), nI_clamp (by omega), (h.1.1.2.2.2.1 hh h1).2]
        · rw [if_neg (by decide), gin_ok (by omega) (by decide), gin_ok (by omega) (by decide), nI_clamp (by omega), nI_clamp (by omega), (hM1.1.2.2.2 hh h1).2]
      · refine f (nI (cnt (fun p => inW (sE S) p && shd (sE S) (sN S).2.1 p hh) 64)) ?_ ?_
        · unfold F_X9_shadeNow
          rw [if_neg (by decide), if_neg (by decide), x_shadeAt (by omega), zb_some]
          dsimp only
          rw [zb_some]
          dsimp only
          rw [x_bitCount, zb_some]
          dsimp only
          rw [cnt_congr (fun k hk => h.u.2.2.2.2 hh h1 k hk)]
        · rw [if_pos (by decide)]
          exact m_hourCnt hM1.1 he hM1.u hv.1 h1 _ _
    · refine same_1 (t := 2) h hM1 ok (Or.inr (Or.inr ⟨rfl, rfl⟩)) frQ.refl frN.refl (v := 0) (w := 0) ?_ ?_
      · unfold F_X9_hour
        rw [x_nhY h.1 he h1, zbx_0]
        rcases hc with hc | hc
        · rw [if_pos hc]; rfl
        · split
          · rfl
          · rw [if_pos (show (2 : Int32) < b from hc)]; rfl
      · unfold F_X10_hour
        rw [zl_eq, m_ihY hM1.1 he h1, zb_some]
        dsimp only
        rw [if_neg (by decide)]
        unfold F_X10_hour_19
        rw [m_bad0 t0_0, zb_some]
        dsimp only
        rw [if_pos rfl, show F_X10_in (zI m 0 0 0) b (0 : Int32) (2 : Int32) = some (0, zI m 0 0 0) from m_inN _ hc, zb_some]
        dsimp only
        rw [if_pos rfl]
        unfold F_X10_hour_42
        rw [m_bad21 t0_0, zb_some]; rfl
  · refine same_0 (t := 1) h hM1 ok (Or.inr (Or.inl ⟨rfl, rfl⟩)) frQ.refl frN.refl (v := 0) (w := 0) ?_ ?_
    · unfold F_X9_hour
      rw [x_nhN h.1 he hb]; rfl
    · unfold F_X10_hour
      rw [zl_eq, m_ihN hM1.1 he hb, zb_some]
      dsimp only
      rw [if_pos rfl]
      unfold F_X10_hour_19
      rw [m_bad10 t0_0, zb_some]; rfl
theorem q_dries {x m : zMem} {S : SS} (a b c : Int32) (hX : RXo x S) (hM : RMn m S) (ok : okS S) : same T2 (F_X9_dries x a b c) (F_X10_dries m a b c) := by
  obtain ⟨pl, r, n, h⟩ := hX
  have hM1 := hM.t ok
  have he := ok.1
  have hn := he.2.2.2.2.1
  have hv := ok.u
  have e2 := he.2.1
  have e4 := he.2.2.2.1
  rcases plc he a b with ⟨i, j, hi, hj, rfl, rfl⟩ | hb
  · have hp : 8 * j + i < 64 := by omega
    rcases ya_rlt c (n := pn (sE S)) (by omega) with ⟨hh, h1, rfl⟩ | hc
    · have hL := ok.2.1
      obtain ⟨x', f1, f2⟩ := x_rate h.1.2.1 hL (nI ((sN S).2.1 (8 * j + i))) (nI ((sN S).2.1 (64 + (8 * j + i)))) (nI (prc (sE S) hh)) (nI (psd (sE S) hh)) (nI hh) (nI ((sN S).2.1 192)) hp
      obtain ⟨m', g1, g2⟩ := m_driesOf hM1.1 he hM1.2.1 hL hM1.u hp h1
      refine same_q h hM1 ok (Or.inl ⟨rfl, rfl⟩) (v := nI (rateL (sL S) (knR (sE S) (sN S).2.1 (8 * j + i) hh))) (x' := x') (m' := m') ?_ (f2.q (by have := h.1.2.2.2.2.2; omega) (fun _ z => z.elim)) ?_ (g2.q (Or.inl rfl)) (by rw [g2.1 0 (by omega) (by omega) (by omega)]; exact t0_0)
      · unfold F_X9_dries
        rw [x_npY h.1 he hi hj, zbx_0, x_nhY h.1 he h1, zbx_0, x_placeOf, zb_some]
        dsimp only
        rw [h.1.2.2.1, gd_ok (sX_p h.1.2.2.2.2.1), gin_ok (by omega) (by decide), zl_eq, h.1.2.2.2.1, gd_ok (sX_r h.1.2.2.2.2.2), gin_ok hp (by decide), nI_clamp (by omega), nI_clamp (by omega), (h.1.1.2.2.2.1 hh h1).1, (h.1.1.2.2.2.1 hh h1).2, (h.u.1 _ hp).1, (h.u.1 _ hp).2.1, h.u.2.2.1, f1, zb_some]
        rfl
      · unfold F_X10_dries
        rw [zl_eq, m_iwY hM1.1 he hi hj, zb_some]
        dsimp only
        rw [if_neg (by decide), m_ihY hM1.1 he h1, zb_some]
        dsimp only
        rw [if_neg (by decide)]
        unfold F_X10_dries_28
        rw [m_bad0 t0_0, zb_some]
        dsimp only
        rw [if_pos rfl, show (8 : Int32) = nI 8 from rfl, pk_mul, nI_add, g1, zb_some]
    · refine same_0 (t := 1) h hM1 ok (Or.inr ⟨rfl, rfl⟩) frQ.refl frN.refl (v := 0) (w := 0) ?_ ?_
      · unfold F_X9_dries
        rw [x_npY h.1 he hi hj, zbx_0, x_nhN h.1 he hc]; rfl
      · unfold F_X10_dries
        rw [zl_eq, m_iwY hM1.1 he hi hj, zb_some]
        dsimp only
        rw [if_neg (by decide), m_ihN hM1.1 he hc, zb_some]
        dsimp only
        rw [if_pos rfl]
        unfold F_X10_dries_28
        rw [m_bad10 t0_0, zb_some]; rfl
  · refine same_0 (t := 1) h hM1 ok (Or.inr ⟨rfl, rfl⟩) frQ.refl frN.refl (v := 0) (w := 0) ?_ ?_
    · unfold F_X9_dries
      rw [x_npN h.1 hb]; rfl
    · unfold F_X10_dries
      rw [zl_eq, m_iwN hM1.1 he hb, zb_some]
      dsimp only
      rw [if_pos rfl]
      unfold F_X10_dries_28
      rw [m_bad10 t0_0, zb_some]; rfl
