/-- a state read from a cell -/
theorem m_putsAll1 {m : zMem} {c : Nat} (hc : 470 < c) :
    ∃ y, F_X10_putsAll m c 1 = some y ∧ (∀ a, a ≠ 0 → a ≠ 451 → ¬ (453 ≤ a ∧ a < 470) → y.1 a = m.1 a) ∧ (∀ j, j ≠ 34 → j ≠ 31 → y.1 0 j = m.1 0 j) ∧ y.1 0 31 = m.1 c 0 ∧ (∀ i, i < 195 → y.1 451 i = m.1 c (1 + i)) ∧ ∀ k, k < 16 → ∀ i, i < 195 → y.1 (453 + (1 + 1 * k)) i = m.1 c (196 + 195 * k + i) := by
  have hw : wp (F_X10_putsAll m c 1) (fun y => (∀ a, a ≠ 0 → a ≠ 451 → ¬ (453 ≤ a ∧ a < 470) → y.1 a = m.1 a) ∧ (∀ j, j ≠ 34 → j ≠ 31 → y.1 0 j = m.1 0 j) ∧ y.1 0 31 = m.1 c 0 ∧ (∀ i, i < 195 → y.1 451 i = m.1 c (1 + i)) ∧ ∀ k, k < 16 → ∀ i, i < 195 → y.1 (453 + (1 + 1 * k)) i = m.1 c (196 + 195 * k + i)) := by
    unfold F_X10_putsAll
    rw [zl_eq, m_puts1 (j := 0) (by omega) (by omega) (by rw [zI_1, upd_s]; rfl), zb_some, zl_eq]
    refine loopN (F_X10_putsAll_21 _ _) (fun g k (y : zMem) => g (1 : Int32) (nI k) y) 195 (fun k y => (∀ a, a ≠ 0 → a ≠ 451 → ¬ (453 ≤ a ∧ a < 470) → y.1 a = m.1 a) ∧ (∀ j, j ≠ 34 → j ≠ 31 → y.1 0 j = m.1 0 j) ∧ y.1 0 34 = nI (1 + k) ∧ y.1 0 31 = m.1 c 0 ∧ (∀ i, i < k → y.1 451 i = m.1 c (1 + i))) _ (fun g k y hk hI ih => ?_) (fun g y hI => ?_) (k := 0) (s := _) (by omega) ⟨fun a a1 a2 a3 => ?_, fun j hj hj2 => ?_, ?_, ?_, fun i hi => absurd hi (Nat.not_lt_zero _)⟩ (by omega)
    · obtain ⟨i1, i2, i3, i4, i5⟩ := hI
      try dsimp only at i1 i2 i3 i4 i5 ih ⊢
      unfold F_X10_putsAll_21
      rw [show (195 : Int32) = nI 195 from rfl, ile (by omega) (by omega), if_neg (by omega), gin_ok hk (by decide), nI_clamp (by omega), m_puts1 (by omega) (by omega) i3, zb_some]
      dsimp only
      rw [zl_eq, nI_1]
      refine ih _ ⟨fun a a1 a2 a3 => ?_, fun j hj hj2 => ?_, ?_, ?_, fun i hi => ?_⟩
      · rw [zI_n a2, zI_n a1]; exact i1 a a1 a2 a3
      · rw [zI_n (by omega), zI_s hj]; exact i2 j hj hj2
      · rw [zI_n (by omega), zI_1, upd_s]; rfl
      · rw [zI_n (by omega), zI_s (by omega)]; exact i4
      · rw [zI_1]
        by_cases e : i = k
        · rw [e, upd_s, i1 c (by omega) (by omega) (by omega)]
        · rw [upd_n e, zI_n (by omega)]; exact i5 i (by omega)
    · obtain ⟨i1, i2, i3, i4, i5⟩ := hI
      try dsimp only at i1 i2 i3 i4 i5 ⊢
      unfold F_X10_putsAll_21
      rw [show (195 : Int32) = nI 195 from rfl, if_pos (Int32.le_refl _)]
      refine loopN (F_X10_putsAll_54 _ _) (fun g k (y : zMem) => g (1 : Int32) (nI k) y) 16 (fun k y => (∀ a, a ≠ 0 → a ≠ 451 → ¬ (453 ≤ a ∧ a < 470) → y.1 a = m.1 a) ∧ (∀ j, j ≠ 34 → j ≠ 31 → y.1 0 j = m.1 0 j) ∧ y.1 0 34 = nI (196 + 195 * k) ∧ y.1 0 31 = m.1 c 0 ∧ (∀ i, i < 195 → y.1 451 i = m.1 c (1 + i)) ∧ ∀ k', k' < k → ∀ i, i < 195 → y.1 (453 + (1 + 1 * k')) i = m.1 c (196 + 195 * k' + i)) _ (fun g k y hk hI ih => ?_) (fun g y hI => ?_) (k := 0) (s := y) (by omega) ⟨i1, i2, i3, i4, i5, fun k hk => absurd hk (Nat.not_lt_zero _)⟩ (by omega)
      · obtain ⟨j1, j2, j3, j4, j5, j6⟩ := hI
        try dsimp only at j1 j2 j3 j4 j5 j6 ih ⊢
        unfold F_X10_putsAll_54
        rw [show (16 : Int32) = nI 16 from rfl, ile (by omega) (by omega), if_neg (by omega)]
        refine loopN (F_X10_putsAll_63 _ _ _) (fun g2 q (y : zMem) => g2 (1 : Int32) (nI k) (nI q) y) 195 (fun q y => (∀ a, a ≠ 0 → a ≠ 451 → ¬ (453 ≤ a ∧ a < 470) → y.1 a = m.1 a) ∧ (∀ j, j ≠ 34 → j ≠ 31 → y.1 0 j = m.1 0 j) ∧ y.1 0 34 = nI (196 + 195 * k + q) ∧ y.1 0 31 = m.1 c 0 ∧ (∀ i, i < 195 → y.1 451 i = m.1 c (1 + i)) ∧ (∀ k', k' < k → ∀ i, i < 195 → y.1 (453 + (1 + 1 * k')) i = m.1 c (196 + 195 * k' + i)) ∧ ∀ i, i < q → y.1 (453 + (1 + 1 * k)) i = m.1 c (196 + 195 * k + i)) _ (fun g2 q y hq hI2 ih2 => ?_) (fun g2 y hI2 => ?_) (k := 0) (s := y) (by omega) ⟨j1, j2, j3, j4, j5, j6, fun i hi => absurd hi (Nat.not_lt_zero _)⟩ (by omega)
        · obtain ⟨l1, l2, l3, l4, l5, l6, l7⟩ := hI2
          try dsimp only at l1 l2 l3 l4 l5 l6 l7 ih2 ⊢
          unfold F_X10_putsAll_63
          rw [show (195 : Int32) = nI 195 from rfl, ile (by omega) (by omega), if_neg (by omega), gin_ok hk (by decide), gin_ok hq (by decide), nI_clamp (by omega), nI_clamp (by omega), m_puts1 (by omega) (by omega) l3, zb_some]
          dsimp only
          rw [zl_eq, nI_1]
          refine ih2 _ ⟨fun a a1 a2 a3 => ?_, fun j hj hj2 => ?_, ?_, ?_, fun i hi => ?_, fun k' hk' i hi => ?_, fun i hi => ?_⟩
          · rw [zI_n (by omega), zI_n a1]; exact l1 a a1 a2 a3
          · rw [zI_n (by omega), zI_s hj]; exact l2 j hj hj2
          · rw [zI_n (by omega), zI_1, upd_s]; rfl
          · rw [zI_n (by omega), zI_s (by omega)]; exact l4
          · rw [zI_n (by omega), zI_n (by omega)]; exact l5 i hi
          · rw [zI_n (by omega), zI_n (by omega)]; exact l6 k' hk' i hi
          · rw [zI_1]
            by_cases e : i = q
            · rw [e, upd_s, l1 c (by omega) (by omega) (by omega)]
            · rw [upd_n e, zI_n (by omega)]; exact l7 i (by omega)
        · obtain ⟨l1, l2, l3, l4, l5, l6, l7⟩ := hI2
          try dsimp only at l1 l2 l3 l4 l5 l6 l7 ⊢
          unfold F_X10_putsAll_63
          rw [show (195 : Int32) = nI 195 from rfl, if_pos (Int32.le_refl _), nI_1]
          refine ih y ⟨l1, l2, by rw [l3, show 196 + 195 * k + 195 = 196 + 195 * (k + 1) by omega], l4, l5, fun k' hk' i hi => ?_⟩
          by_cases e : k' = k
          · rw [e]; exact l7 i hi
          · exact l6 k' (by omega) i hi
      · obtain ⟨j1, j2, j3, j4, j5, j6⟩ := hI
        try dsimp only at j1 j2 j3 j4 j5 j6 ⊢
        unfold F_X10_putsAll_54
        rw [show (16 : Int32) = nI 16 from rfl, if_pos (Int32.le_refl _), wp_some]
        exact ⟨j1, j2, j4, j5, j6⟩
    · dsimp only
      rw [zI_n a1, zI_n a1, zI_n a1]
    · dsimp only
      rw [zI_s hj2, zI_s hj, zI_s hj]
    · dsimp only
      rw [zI_s (by omega), zI_1, upd_s]
    · dsimp only
      rw [zI_1, upd_s, zI_n (by omega)]
  obtain ⟨y, y1, y2⟩ := hw
  exact ⟨y, y1, y2⟩
abbrev SG (S : SS) : SS := (sE S, sL S, sB S, sN S, sI S + 1, (fun i => if i = sI S then sN S else sG S i), sT S, sY S, sF S, sQ S, s0 S, s1 S)
theorem okS.setG {S : SS} (h : okS S) (hI : sI S < 3) : okS (SG S) := by
  obtain ⟨o1, o2, o3, o4, o5, o6, o7, o8⟩ := h
  refine ⟨o1, o2, o3, o4, (show sI S + 1 ≤ 3 by omega), fun i hi => ?_, o7, o8⟩
  show okI (sE S) (if i = sI S then sN S else sG S i)
  by_cases c : i = sI S
  · rw [if_pos c]; exact o4
  · rw [if_neg c]
    have : i < sI S + 1 := hi
    exact o6 i (by omega)
theorem RXn.setG {x y : zMem} {S : SS} {pl r n : Nat} (h : RXn x S pl r n) (ok : okS S) (hI3 : sI S < 3) (f1 : ∀ a, a ≠ 0 → ¬ (200 + 87 * sI S ≤ a ∧ a ≤ 286 + 87 * sI S) → y.1 a = x.1 a) (f2 : ∀ j, j ≠ 14 → y.1 0 j = x.1 0 j) (f3 : ∀ a, ¬ (200 + 87 * sI S ≤ a ∧ a ≤ 286 + 87 * sI S) → y.2.1 a = x.2.1 a) (f4 : y.2.2 = x.2.2)
    (hN : RXs y (sE S) (sN S) (90 + (110 + 87 * sI S))) (hI : y.1 0 14 = nI (sI S + 1)) : RXn y (SG S) pl r n := by
  obtain ⟨a1, ⟨b1, b2, b3, b4, b5⟩, ⟨c1, c2, c3⟩, d1, e1, e2, g1, g2, g3, g4, g5, g6⟩ := h
  obtain ⟨o1, o2, o3, o4, o5, o6, o7, o8⟩ := ok
  refine ⟨a1.same (fun a a1 a2 => f1 a (by omega) (by omega)) (fun a a1 a2 => f3 a (by omega)) f4, ⟨?_, ?_, ?_, ?_, b5⟩, ⟨?_, fun k hk => ?_, fun p hp => ?_⟩, d1.same o4.1 (fun a a1 a2 => f1 a (by omega) (by omega)) (fun a a1 a2 => f3 a (by omega)), hI, fun i hi => ?_, ?_, fun k hk => ?_, ?_, ?_, ?_, ?_⟩
  · rw [f4]; exact b1
  · rw [f4]; exact b2
  · rw [f4]; exact b3
  · rw [f4]; exact b4
  · rw [f1 n (by omega) (by omega)]; exact c1
  · rw [f1 (n + 1) (by omega) (by omega), f1 (n + 2) (by omega) (by omega)]; exact c2 k hk
  · rw [f3 n (by omega)]; exact c3 p hp
  · show RXs y (sE S) (if i = sI S then sN S else sG S i) (90 + (110 + 87 * i))
    by_cases c : i = sI S
    · rw [if_pos c, c]; exact hN
    · rw [if_neg c]
      have hi2 : i < sI S + 1 := hi
      have hi3 : i < sI S := by omega
      exact (e2 i hi3).same (o6 i hi3).1 (fun a a1 a2 => f1 a (by omega) (by omega)) (fun a a1 a2 => f3 a (by omega))
  · rw [f1 1 (by omega) (by omega)]; exact g1
  · rw [f1 2 (by omega) (by omega)]; exact g2 k hk
  · rw [f1 1 (by omega) (by omega)]; exact g3
  · rw [f2 15 (by omega)]; exact g4
  · rw [f2 16 (by omega)]; exact g5
  · rw [f2 17 (by omega)]; exact g6
theorem RMn.setG {m y : zMem} {S : SS} (h : RMn m S) (ok : okS S) (hI3 : sI S < 3) (f1 : ∀ a, a ≠ 0 → a ≠ 470 + (1 + 1 * sI S) → y.1 a = m.1 a) (f2 : ∀ j, 0 < j → j < 34 → j ≠ 33 → y.1 0 j = m.1 0 j)
    (hN : RMg y (sN S) (470 + (1 + 1 * sI S))) (hI : y.1 0 33 = nI (sI S + 1)) : RMn y (SG S) := by
  obtain ⟨a1, ⟨l1, l2⟩, ⟨c1, c2⟩, ⟨d1, d2, d3⟩, e1, e2, g1, g2, g3, g4, g5, g6⟩ := h
  obtain ⟨o1, o2, o3, o4, o5, o6, o7, o8⟩ := ok
  have hl := o2.1
  have hb := o3.1
  have hn := o1.2.2.2.2.1
  have hk16 := o4.1
  refine ⟨⟨?_, ?_, ?_, fun k hk => ?_⟩, ⟨?_, fun k hk => ?_⟩, ⟨?_, fun k hk => ?_⟩, ⟨?_, fun i hi => ?_, fun k hk i hi => ?_⟩, hI, fun i hi => ?_, ?_, fun k hk => ?_, ?_, ?_, ?_, ?_⟩
  · rw [f1 4 (by omega) (by omega)]; exact a1.1
  · rw [f1 4 (by omega) (by omega)]; exact a1.2.1
  · rw [f1 4 (by omega) (by omega)]; exact a1.2.2.1
  · have hk' : k < pn (sE S) := hk
    rw [f1 (17 + (1 + 1 * k)) (by omega) (by omega)]; exact a1.2.2.2 k hk
  · rw [f2 16 (by omega) (by omega) (by omega)]; exact l1
  · have hk' : k < lk (sL S) := hk
    rw [f1 (28 + (1 + 1 * k)) (by omega) (by omega)]; exact l2 k hk
  · rw [f2 30 (by omega) (by omega) (by omega)]; exact c1
  · have hk' : k < bn (sB S) := hk
    rw [f1 (350 + (1 + 1 * k)) (by omega) (by omega)]; exact c2 k hk
  · rw [f2 31 (by omega) (by omega) (by omega)]; exact d1
  · rw [f1 451 (by omega) (by omega)]; exact d2 i hi
  · have hk' : k < (sN S).1 := hk
    rw [f1 (453 + (1 + 1 * k)) (by omega) (by omega)]; exact d3 k hk i hi
  · show RMg y (if i = sI S then sN S else sG S i) (470 + (1 + 1 * i))
    by_cases c : i = sI S
    · rw [if_pos c, c]; exact hN
    · rw [if_neg c]
      have hi2 : i < sI S + 1 := hi
      have hi3 : i < sI S := by omega
      obtain ⟨q1, q2, q3⟩ := e2 i hi3
      refine ⟨?_, fun j hj => ?_, fun k hk j hj => ?_⟩
      · rw [f1 (470 + (1 + 1 * i)) (by omega) (by omega)]; exact q1
      · rw [f1 (470 + (1 + 1 * i)) (by omega) (by omega)]; exact q2 j hj
      · rw [f1 (470 + (1 + 1 * i)) (by omega) (by omega)]; exact q3 k hk j hj
  · rw [f2 1 (by omega) (by omega) (by omega)]; exact g1
  · rw [f1 1 (by omega) (by omega)]; exact g2 k hk
  · rw [f2 3 (by omega) (by omega) (by omega)]; exact g3
  · rw [f2 32 (by omega) (by omega) (by omega)]; exact g4
  · rw [f1 2 (by omega) (by omega)]; exact g5
  · rw [f1 2 (by omega) (by omega)]; exact g6
theorem q_image {x m : zMem} {S : SS} (hX : RXo x S) (hM : RMn m S) (ok : okS S) : same0 (F_X9_image x) (F_X10_image m) := by
  obtain ⟨pl, r, n, h⟩ := hX
  have hM1 := hM.t ok
  have he := ok.1
  have hN := ok.2.2.2.1
  have hI := ok.2.2.2.2.1
  have x14 := h.2.2.2.2.1
  have m33 := hM1.2.2.2.2.1
  unfold F_X9_image F_X10_image
  rw [zl_eq, x14, m33, show (3 : Int32) = nI 3 from rfl, ilt (by omega) (by omega), ieq (by omega) (by omega)]
  by_cases z : sI S = 3
  · rw [if_neg (by omega), if_pos z]
    exact ⟨_, _, _, S, rfl, rfl, ⟨pl, r, n, h⟩, hM1, ok⟩
  · have h3 : sI S < 3 := by omega
    obtain ⟨y, c1, c2, c3, c4⟩ := x_copyImg (t := 90 + (110 + 87 * sI S)) (s := 3) he hN.1 (Or.inr (by omega)) h.2.2.2.1
    obtain ⟨z2, d1, d2, d3, d4, d5, d6⟩ := m_putsAll0 (m := zI m 0 0 0) (c := 470 + (1 + 1 * sI S)) (by omega)
    have y14 : y.1 0 14 = nI (sI S) := by rw [(c3 0 (by omega)).1]; exact x14
    have z33 : z2.1 0 33 = nI (sI S) := by rw [d3 33 (by omega)]; exact m33
    rw [if_pos h3, if_neg z, gin_ok h3 (by decide), gin_ok h3 (by decide), nI_clamp (by omega), c1, zbv_some, zl_eq, show F_X10_putsAll (zI m 0 0 0) (470 + (1 + 1 * sI S)) (0 : Int32) = _ from d1, zbv_some, zl_eq, y14, z33, nI_1]
    have hX' : RXn (zI y 0 14 (nI (sI S + 1))) (SG S) pl r n := by
      refine h.setG ok h3 (fun a h1 h2 => ?_) (fun j h1 => ?_) (fun a h2 => ?_) c4 ?_ ?_
      · rw [zI_n h1]; exact (c3 a (by omega)).1
      · rw [zI_s h1, (c3 0 (by omega)).1]
      · exact (c3 a (by omega)).2
      · exact RXs.same (x := y) hN.1 (fun a a1 a2 => by rw [zI_n (by omega)]) (fun _ _ _ => rfl) c2
      · rw [zI_1, upd_s]
    obtain ⟨ms1, ms2, ms3⟩ := hM1.2.2.2.1
    have hM' : RMn (zI z2 0 33 (nI (sI S + 1))) (SG S) := by
      refine hM1.setG ok h3 (fun a h1 h2 => ?_) (fun j h1 h2 h3 => ?_) ⟨?_, fun i hi => ?_, fun k hk i hi => ?_⟩ ?_
      · rw [zI_n h1]; exact d2 a h1 h2
      · rw [zI_s h3]; exact d3 j (by omega)
      · rw [zI_n (by omega), d4]; exact ms1
      · rw [zI_n (by omega), d5 i hi]; exact ms2 i hi
      · have hk16 := hN.1
        rw [zI_n (by omega), d6 k (by omega) i hi]; exact ms3 k hk i hi
      · rw [zI_1, upd_s]
    refine ⟨nI (sI S + 1), _, _, _, ?_, ?_, ⟨pl, r, n, hX'⟩, hM', ok.setG h3⟩
    · rw [show (zI y 0 14 (nI (sI S + 1))).1 0 14 = nI (sI S + 1) from by rw [zI_1, upd_s]]
    · rw [show (zI z2 0 33 (nI (sI S + 1))).1 0 33 = nI (sI S + 1) from by rw [zI_1, upd_s]]
theorem q_restore {x m : zMem} {S : SS} (hX : RXo x S) (hM : RMn m S) (ok : okS S) : same0 (F_X9_restore x) (F_X10_restore m) := by
  obtain ⟨pl, r, n, h⟩ := hX
  have hM1 := hM.t ok
  have he := ok.1
  have hI := ok.2.2.2.2.1
  have x14 := h.2.2.2.2.1
  have m33 := hM1.2.2.2.2.1
  unfold F_X9_restore F_X10_restore
  rw [zl_eq, x14, m33, ie0 (by omega)]
  by_cases z : sI S = 0
  · rw [if_neg (by rw [ya_0, nI_ltI (by omega) (by omega)]; omega), if_pos z]
    exact ⟨_, _, _, S, rfl, rfl, ⟨pl, r, n, h⟩, hM1, ok⟩
  · obtain ⟨k, hk⟩ : ∃ k, sI S = k + 1 := ⟨sI S - 1, by omega⟩
    have hkI : k < sI S := by omega
    have hG := ok.2.2.2.2.2.1 k hkI
    have xg := h.2.2.2.2.2.1 k hkI
    obtain ⟨mg1, mg2, mg3⟩ := hM1.2.2.2.2.2.1 k hkI
    have hsub : nI (k + 1) - (1 : Int32) = nI k := by rw [show (1 : Int32) = nI 1 from rfl, pk_sub (by omega), Nat.add_sub_cancel]
    have d0 : (zI (zI m 0 0 0) 0 33 (nI k)).1 0 33 = nI k := by rw [zI_1, upd_s]
    obtain ⟨y, c1, c2, c3, c4⟩ := x_copyImg (t := 3) (s := 90 + (110 + 87 * k)) he hG.1 (Or.inl (by omega)) xg
    obtain ⟨z2, d1, d2, d3, d4, d5, d6⟩ := m_putsAll1 (m := zI (zI m 0 0 0) 0 33 (nI k)) (c := 470 + (1 + 1 * k)) (by omega)
    have y14 : y.1 0 14 = nI (k + 1) := by rw [(c3 0 (by omega)).1, x14, hk]
    have z33 : z2.1 0 33 = nI k := by rw [d3 33 (by omega) (by omega)]; exact d0
    rw [hk, if_pos (by rw [ya_0, nI_ltI (by omega) (by omega)]; omega), if_neg (by omega), hsub, zl_eq, d0, gin_ok (by omega) (by decide), gin_ok (by omega) (by decide), nI_clamp (by omega), c1, zbv_some, zl_eq, zl_eq, show F_X10_putsAll (zI (zI m 0 0 0) 0 33 (nI k)) (470 + (1 + 1 * k)) (1 : Int32) = _ from d1, zbv_some, zl_eq, y14, hsub]
    have hX' : RXn (zI (zI y 0 14 (nI k)) 0 15 0) (SN S (sG S k) k 0) pl r n := by
      refine h.setN ok (fun a h1 h2 => ?_) (fun j h1 h2 => ?_) (fun a h2 => ?_) c4 ?_ ?_ (by omega) ?_
      · rw [zI_n h1, zI_n h1]; exact (c3 a (by omega)).1
      · rw [zI_s h2, zI_s h1, (c3 0 (by omega)).1]
      · exact (c3 a (by omega)).2
      · exact RXs.same (x := y) hG.1 (fun a a1 a2 => by rw [zI_n (by omega), zI_n (by omega)]) (fun _ _ _ => rfl) c2
      · rw [zI_s (by omega), zI_1, upd_s]
      · rw [zI_1, upd_s]; rfl
    have hM' : RMn (zI z2 0 32 0) (SN S (sG S k) k 0) := by
      refine hM1.setN ok (fun a h1 h2 => ?_) (fun j h1 h2 h3 h4 h5 => ?_) ⟨?_, fun i hi => ?_, fun j hj i hi => ?_⟩ ?_ (by omega) ?_
      · rw [zI_n h1, d2 a h1 (by omega) (by omega), zI_n h1]
      · rw [zI_s h4, d3 j (by omega) h3, zI_s h5]
      · rw [zI_s (by omega), d4, zI_n (by omega)]; exact mg1
      · rw [zI_n (by omega), d5 i hi, zI_n (by omega)]; exact mg2 i hi
      · have hk16 := hG.1
        rw [zI_n (by omega), d6 j (by omega) i hi, zI_n (by omega)]; exact mg3 j hj i hi
      · rw [zI_s (by omega)]; exact z33
      · rw [zI_1, upd_s]; rfl
    refine ⟨nI k, _, _, _, ?_, ?_, ⟨pl, r, n, hX'⟩, hM', ok.setN hG (by omega)⟩
    · rw [show (zI (zI y 0 14 (nI k)) 0 15 0).1 0 14 = nI k from by rw [zI_s (by omega), zI_1, upd_s]]
    · rw [show (zI z2 0 32 0).1 0 33 = nI k from by rw [zI_s (by omega)]; exact z33]
