/-! way, dryland: the two sides -/
theorem tb_open {x : zMem} {e : PL} {L : LW} {u : Nat → Nat} {pl r : Nat} (w : RXw x e L pl r) (hr : RXr x e u 4) (hv : okV u) :
    ∃ v, F_X4_brinePlaces x 4 = some (v, x) ∧ ∀ q, q < 64 → tb (x.2.1 pl 3 &&& (v ^^^ -1)) q = opP e u q := by
  refine ⟨_, x_brinePlaces hr.i hv, fun q hq => ?_⟩
  rw [tb_and, tb_not _ hq, w.1.2.2.2.2 q hq, tb_over hq, ya_pos]
  unfold opP
  rw [Bool.not_not]
theorem tb_seed {o : Nat → Bool} {s : Nat} {om : Int64} (hs : s < 64) (ho : ∀ q, q < 64 → tb om q = o q) : ∀ q, q < 64 → tb (bit1 s &&& om) q = RR o s 0 q := fun q hq => by
  rw [tb_and, tb_bit hs hq, ho q hq]; rfl
theorem q_way {x m : zMem} {S : SS} (a b c d : Int32) (hX : RXo x S) (hM : RMn m S) (ok : okS S) : same T2 (F_X9_way x a b c d) (F_X10_way m a b c d) := by
  obtain ⟨pl, r, n, h⟩ := hX
  have hM1 := hM.t ok
  have he := ok.1
  have hv := ok.u
  have e2 := he.2.1
  have e4 := he.2.2.2.1
  have mb : F_X10_way_30 a b c d a b c d 1 (zI m 0 0 0) = some (0, zI (zI (zI m 0 0 0) 0 0 (nI 1)) 2 0 ((zI m 0 0 0).1 2 0 + 1)) := by
    unfold F_X10_way_30
    rw [m_bad10 t0_0, zb_some]; rfl
  rcases plc he a b with ⟨i, j, hi, hj, rfl, rfl⟩ | hb
  · rcases plc he c d with ⟨k, l, hk, hl, rfl, rfl⟩ | hb
    · have hs : 8 * j + i < 64 := by omega
      have ht : 8 * l + k < 64 := by omega
      have hin := inW_of he hi hj
      obtain ⟨v, v1, v2⟩ := tb_open h.1 h.u hv.1
      obtain ⟨m', g1, g2, g3⟩ := m_spreads hM1.1 he hM1.u hv.1 hs hin
      generalize hss : 8 * j + i = s at hs hin g1 g2
      generalize htt : 8 * l + k = t at ht
      have hX1 : wp (F_X9_way x (nI i) (nI j) (nI k) (nI l)) (fun q => q = (0, FIN (opP (sE S) (sN S).2.1) s t, x)) := by
        unfold F_X9_way
        rw [x_npY h.1 he hi hj, zbx_0, x_npY h.1 he hk hl, zbx_0, h.1.2.2.1, gd_ok (sX_p h.1.2.2.2.2.1), v1, zb_some]
        dsimp only
        rw [zl_eq, x_placeOf, zb_some]
        dsimp only
        rw [hss, x_bit, zb_some]
        dsimp only
        rw [zl_eq]
        generalize x.2.1 pl 3 &&& (v ^^^ -1) = om at v2
        refine loopN (F_X9_way_53 _ _ _ _) (fun g q (z : Int64) => g (nI k) (nI l) om z (nI q) x) 64 (fun q z => (∀ p, p < 64 → tb z p = RR (opP (sE S) (sN S).2.1) s q p) ∧ ∀ p, p < q → RR (opP (sE S) (sN S).2.1) s p t = false) _ (fun g q z hq hI ih => ?_) (fun g z hI => ?_) (k := 0) (s := bit1 s &&& om) (by omega) ⟨tb_seed hs v2, fun p hp => absurd hp (Nat.not_lt_zero _)⟩ (by omega)
        · obtain ⟨i1, i2⟩ := hI
          try dsimp only at i1 i2 ih ⊢
          unfold F_X9_way_53
          rw [show (64 : Int32) = nI 64 from rfl, ile (by omega) (by omega), if_neg (by omega), x_placeOf, zb_some]
          dsimp only
          rw [htt, x_has x _ ht, zb_some]
          dsimp only
          rw [ibI, i1 t ht]
          cases hR : RR (opP (sE S) (sN S).2.1) s q t
          · rw [if_pos rfl]
            obtain ⟨z2, d1, d2⟩ := x_spread x i1 v2
            rw [d1, zb_some]
            dsimp only
            rw [nI_1]
            refine ih z2 ⟨d2, fun p hp => ?_⟩
            by_cases cp : p = q
            · rw [cp]; exact hR
            · exact i2 p (by omega)
          · rw [if_neg (by decide), wp_some]
            have h1 := (f64_iff (o := opP (sE S) (sN S).2.1) (s := s) (k := q) ht (by omega)).mpr hR
            have h2 : fst64 (opP (sE S) (sN S).2.1) s t = q := by
              refine Nat.le_antisymm h1 (Nat.le_of_not_lt (fun z => ?_))
              have h3 := (f64_iff (o := opP (sE S) (sN S).2.1) (s := s) (k := fst64 (opP (sE S) (sN S).2.1) s t) ht (by omega)).mp (Nat.le_refl _)
              rw [i2 _ z] at h3
              cases h3
            unfold FIN
            rw [h2, if_pos (by omega)]
        · obtain ⟨i1, i2⟩ := hI
          try dsimp only at i1 i2 ⊢
          unfold F_X9_way_53
          rw [show (64 : Int32) = nI 64 from rfl, if_pos (Int32.le_refl _), wp_some]
          unfold FIN
          rw [if_neg (fun z => by
            have h3 := (f64_iff (o := opP (sE S) (sN S).2.1) (s := s) (k := 63) ht (by omega)).mp z
            rw [i2 63 (by omega)] at h3
            cases h3)]
      obtain ⟨q, q1, q2⟩ := hX1
      subst q2
      refine same_q h hM1 ok (Or.inl ⟨rfl, rfl⟩) q1 frQ.refl (m' := m') ?_ (g3.q (by omega)) (by rw [g3.1 0 (by omega) (by omega) (by omega)]; exact t0_0)
      unfold F_X10_way
      rw [zl_eq, m_iwY hM1.1 he hi hj, zb_some]
      dsimp only
      rw [if_neg (by decide), m_iwY hM1.1 he hk hl, zb_some]
      dsimp only
      rw [if_neg (by decide)]
      unfold F_X10_way_30
      rw [m_bad0 t0_0, zb_some]
      dsimp only
      rw [if_pos rfl, show (8 : Int32) = nI 8 from rfl, pk_mul, nI_add, hss, g1, zbv_some, pk_mul, nI_add, htt, gin_ok ht (by decide), nI_clamp (by omega), g2 t ht]
    · refine same_0 (t := 1) h hM1 ok (Or.inr ⟨rfl, rfl⟩) frQ.refl frN.refl (v := 0) (w := 0) ?_ ?_
      · unfold F_X9_way
        rw [x_npY h.1 he hi hj, zbx_0, x_npN h.1 hb]; rfl
      · unfold F_X10_way
        rw [zl_eq, m_iwY hM1.1 he hi hj, zb_some]
        dsimp only
        rw [if_neg (by decide), m_iwN hM1.1 he hb, zb_some]
        dsimp only
        rw [if_pos rfl]
        exact mb
  · refine same_0 (t := 1) h hM1 ok (Or.inr ⟨rfl, rfl⟩) frQ.refl frN.refl (v := 0) (w := 0) ?_ ?_
    · unfold F_X9_way
      rw [x_npN h.1 hb]; rfl
    · unfold F_X10_way
      rw [zl_eq, m_iwN hM1.1 he hb, zb_some]
      dsimp only
      rw [if_pos rfl]
      exact mb
theorem q_dryland {x m : zMem} {S : SS} (a b : Int32) (hX : RXo x S) (hM : RMn m S) (ok : okS S) : same T2 (F_X9_dryland x a b) (F_X10_dryland m a b) := by
  obtain ⟨pl, r, n, h⟩ := hX
  have hM1 := hM.t ok
  have he := ok.1
  have hv := ok.u
  have e2 := he.2.1
  have e4 := he.2.2.2.1
  rcases plc he a b with ⟨i, j, hi, hj, rfl, rfl⟩ | hb
  · have hs : 8 * j + i < 64 := by omega
    have hin := inW_of he hi hj
    obtain ⟨v, v1, v2⟩ := tb_open h.1 h.u hv.1
    obtain ⟨m', g1, g2, g3⟩ := m_spreads hM1.1 he hM1.u hv.1 hs hin
    generalize hss : 8 * j + i = s at hs hin g1 g2
    generalize ho : opP (sE S) (sN S).2.1 = o at v2 g2
    have hcn : cnt (RR o s 64) 64 = cnt (fun q => decide (fst64 o s q ≤ 63)) 64 := cnt_congr (fun q hq => by
      rw [Bool.eq_iff_iff, decide_eq_true_eq]
      exact ⟨fun h => f64_any hq h, fun h => RR_m hq ((f64_iff hq (Nat.le_refl _)).mp h) 64 (by omega)⟩)
    have hX1 : wp (F_X9_dryland x (nI i) (nI j)) (fun q => q = (0, nI (cnt (RR o s 64) 64), x)) := by
      unfold F_X9_dryland
      rw [x_npY h.1 he hi hj, zbx_0, h.1.2.2.1, gd_ok (sX_p h.1.2.2.2.2.1), v1, zb_some]
      dsimp only
      rw [zl_eq, x_placeOf, zb_some]
      dsimp only
      rw [hss, x_bit, zb_some]
      dsimp only
      rw [zl_eq]
      generalize x.2.1 pl 3 &&& (v ^^^ -1) = om at v2
      refine loopN (F_X9_dryland_44 _ _) (fun g q (z : Int64) => g om z (nI q) x) 64 (fun q z => ∀ p, p < 64 → tb z p = RR o s q p) _ (fun g q z hq hI ih => ?_) (fun g z hI => ?_) (k := 0) (s := bit1 s &&& om) (by omega) (tb_seed hs v2) (by omega)
      · try dsimp only at hI ih ⊢
        unfold F_X9_dryland_44
        obtain ⟨z2, d1, d2⟩ := x_spread x hI v2
        rw [show (64 : Int32) = nI 64 from rfl, ile (by omega) (by omega), if_neg (by omega), d1, zb_some]
        dsimp only
        rw [nI_1]
        exact ih z2 d2
      · try dsimp only at hI ⊢
        unfold F_X9_dryland_44
        rw [show (64 : Int32) = nI 64 from rfl, if_pos (Int32.le_refl _), x_bitCount, zb_some, wp_some]
        dsimp only
        rw [cnt_congr hI]
    obtain ⟨q, q1, q2⟩ := hX1
    subst q2
    have hM2 : wp (itF (fun _ _ _ => none) (F_X10_dryland_45 (nI i) (nI j)) zFuel (nI 0) (nI 0) m') (fun q => q = (nI (cnt (RR o s 64) 64), m')) := by
      rw [hcn]
      refine loopN (F_X10_dryland_45 _ _) (fun g k (t : Nat) => g (nI t) (nI k) m') 64 (fun k t => t = cnt (fun q => decide (fst64 o s q ≤ 63)) k) _ (fun g k t hk hI ih => ?_) (fun g t hI => ?_) (k := 0) (s := 0) (by omega) rfl (by omega)
      · try dsimp only at hI ih ⊢
        unfold F_X10_dryland_45 F_X10_dryland_69
        rw [show (64 : Int32) = nI 64 from rfl, ile (by omega) (by omega), if_neg (by omega), gin_ok hk (by decide), nI_clamp (by omega), g2 k hk, zl_eq, zl_eq, nI_1, nI_1]
        unfold FIN
        by_cases c : fst64 o s k ≤ 63
        · rw [if_pos c, if_neg (by rw [ya_ne_m1 (by omega)]; exact fun z => z)]
          refine ih (t + 1) ?_
          rw [cnt_succ, decide_eq_true c, ← hI]; rfl
        · rw [if_neg c, if_pos rfl, ya_0, nI_add]
          refine ih (t + 0) ?_
          rw [cnt_succ, decide_eq_false c, ← hI]; rfl
      · try dsimp only at hI ⊢
        unfold F_X10_dryland_45
        rw [show (64 : Int32) = nI 64 from rfl, if_pos (Int32.le_refl _), wp_some, hI]
    obtain ⟨q, j1, j2⟩ := hM2
    subst j2
    refine same_q h hM1 ok (Or.inl ⟨rfl, rfl⟩) q1 frQ.refl (m' := m') ?_ (g3.q (by omega)) (by rw [g3.1 0 (by omega) (by omega) (by omega)]; exact t0_0)
    unfold F_X10_dryland
    rw [zl_eq, m_iwY hM1.1 he hi hj, zb_some]
    dsimp only
    rw [if_neg (by decide)]
    unfold F_X10_dryland_20
    rw [m_bad0 t0_0, zb_some]
    dsimp only
    rw [if_pos rfl, show (8 : Int32) = nI 8 from rfl, pk_mul, nI_add, hss, g1, zbv_some]
    exact j1
  · refine same_0 (t := 1) h hM1 ok (Or.inr ⟨rfl, rfl⟩) frQ.refl frN.refl (v := 0) (w := 0) ?_ ?_
    · unfold F_X9_dryland
      rw [x_npN h.1 hb]; rfl
    · unfold F_X10_dryland
      rw [zl_eq, m_iwN hM1.1 he hb, zb_some]
      dsimp only
      rw [if_pos rfl]
      unfold F_X10_dryland_20
      rw [m_bad10 t0_0, zb_some]; rfl
