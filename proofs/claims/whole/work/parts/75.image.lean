/-! image, restore -/
theorem x_copyImg {x : zMem} {e : PL} {I : IM} {t s : Nat} (he : okPL e) (hi : I.1 ≤ 16) (hd : t + 86 < s ∨ s + 86 < t) (w : RXs x e I s) :
    ∃ y, F_X7_copyFrom x t s = some y ∧ RXs y e I t ∧ (∀ a, ¬ (t ≤ a ∧ a ≤ t + 86) → y.1 a = x.1 a ∧ y.2.1 a = x.2.1 a) ∧ y.2.2 = x.2.2 := by
  obtain ⟨w1, w2, w3⟩ := w
  have hw : wp (F_X7_copyFrom x t s) (fun y => RXs y e I t ∧ (∀ a, ¬ (t ≤ a ∧ a ≤ t + 86) → y.1 a = x.1 a ∧ y.2.1 a = x.2.1 a) ∧ y.2.2 = x.2.2) := by
    obtain ⟨x1, c1, c2, c3, c4⟩ := x_copyAll (M := x) (t := t + 1) (s := s + 1) (by omega)
    unfold F_X7_copyFrom
    rw [c1, zbv_some, zl_eq, show x1.1 s 1 = nI I.1 from by rw [(c2 s (by unfold ST; omega)).1, w1]]
    refine loopN (F_X7_copyFrom_21 _ _) (fun g k (y : zMem) => g (nI k) y) I.1 (fun k y => (y.1 t 1 = nI I.1 ∧ RXr y e I.2.1 (t + 1) ∧ ∀ j, j < k → RXr y e (I.2.2 j) ((t + 6) + (1 + 5 * j))) ∧ (∀ a, ¬ (t ≤ a ∧ a ≤ t + 86) → y.1 a = x.1 a ∧ y.2.1 a = x.2.1 a) ∧ y.2.2 = x.2.2) _ (fun g k y hk hI ih => ?_) (fun g y hI => ?_) (k := 0) (s := zI x1 t 1 (nI I.1)) (by omega) ⟨⟨by rw [zI_1, upd_s], (c4 _ _ he w2).same (fun a a1 a2 => zI_n (by omega)) rfl, fun j hj => absurd hj (Nat.not_lt_zero _)⟩, fun a ha => ⟨by rw [zI_n (by omega), (c2 a (by unfold ST; omega)).1], (c2 a (by unfold ST; omega)).2⟩, c3⟩ (by omega)
    · obtain ⟨⟨i1, i2, i3⟩, i4, i5⟩ := hI
      try dsimp only at i1 i2 i3 i4 i5 ih ⊢
      have hsrc : RXr y e (I.2.2 k) ((s + 6) + (1 + 5 * k)) := (w3 k hk).same (fun a a1 a2 => (i4 a (by omega)).1) (i4 _ (by omega)).2
      obtain ⟨y2, d1, d2, d3, d4⟩ := x_copyAll (M := y) (t := (t + 6) + (1 + 5 * k)) (s := (s + 6) + (1 + 5 * k)) (by omega)
      unfold F_X7_copyFrom_21 F_X7_copyFrom_65
      rw [i1, ile (by omega) (by omega), if_neg (by omega), show (16 : Int32) = nI 16 from rfl, ile (by omega) (by omega), if_neg (by omega), gin_ok (by omega) (by decide), nI_clamp (by omega), d1, zbv_some, nI_1]
      refine ih y2 ⟨⟨by rw [(d2 t (by unfold ST; omega)).1]; exact i1, i2.same (fun a a1 a2 => (d2 a (by unfold ST; omega)).1) (d2 _ (by unfold ST; omega)).2, fun j hj => ?_⟩, fun a ha => ?_, d3.trans i5⟩
      · by_cases c : j = k
        · rw [c]; exact d4 _ _ he hsrc
        · exact (i3 j (by omega)).same (fun a a1 a2 => (d2 a (by unfold ST; omega)).1) (d2 _ (by unfold ST; omega)).2
      · have h1 := d2 a (by unfold ST; omega)
        have h2 := i4 a ha
        exact ⟨h1.1.trans h2.1, h1.2.trans h2.2⟩
    · obtain ⟨⟨i1, i2, i3⟩, i4, i5⟩ := hI
      try dsimp only at i1 i2 i3 i4 i5 ⊢
      unfold F_X7_copyFrom_21
      rw [i1, if_pos (Int32.le_refl _), wp_some]
      exact ⟨⟨i1, i2, i3⟩, i4, i5⟩
  obtain ⟨y, y1, y2⟩ := hw
  exact ⟨y, y1, y2⟩
theorem m_puts0 {m : zMem} {c j : Nat} {v : Int32} (hc : 0 < c) (hj : j < 3316) (h : m.1 0 34 = nI j) : F_X10_puts m c v 0 = some (v, zI (zI m c j v) 0 34 (nI (j + 1))) := by
  unfold F_X10_puts F_X10_puts_11
  rw [if_pos rfl, h, gin_ok hj (by decide), zl_eq, nI_clamp (by omega), zl_eq, zI_n (a := 0) (k := c) (by omega), h, nI_1, zI_1, upd_s, show nI (j + 1) - (1 : Int32) = nI j from by rw [show (1 : Int32) = nI 1 from rfl, pk_sub (by omega), Nat.add_sub_cancel], gin_ok hj (by decide), nI_clamp (by omega), zI_n (by omega), zI_1, upd_s]
theorem m_puts1 {m : zMem} {c j : Nat} {v : Int32} (hc : 0 < c) (hj : j < 3316) (h : m.1 0 34 = nI j) : F_X10_puts m c v 1 = some (m.1 c j, zI m 0 34 (nI (j + 1))) := by
  unfold F_X10_puts F_X10_puts_11
  rw [if_neg (by decide), zl_eq, h, nI_1, zI_1, upd_s, show nI (j + 1) - (1 : Int32) = nI j from by rw [show (1 : Int32) = nI 1 from rfl, pk_sub (by omega), Nat.add_sub_cancel], gin_ok hj (by decide), nI_clamp (by omega), zI_n (by omega)]
theorem zI_id {m : zMem} {k j : Nat} : (zI m k j (m.1 k j)).1 k = m.1 k := by
  rw [zI_1]
  funext i
  by_cases c : i = j
  · rw [c, upd_s]
  · rw [upd_n c]
/-- a state written to a cell -/
theorem m_putsAll0 {m : zMem} {c : Nat} (hc : 470 < c) :
    ∃ y, F_X10_putsAll m c 0 = some y ∧ (∀ a, a ≠ 0 → a ≠ c → y.1 a = m.1 a) ∧ (∀ j, j ≠ 34 → y.1 0 j = m.1 0 j) ∧ y.1 c 0 = m.1 0 31 ∧ (∀ i, i < 195 → y.1 c (1 + i) = m.1 451 i) ∧ ∀ k, k < 16 → ∀ i, i < 195 → y.1 c (196 + 195 * k + i) = m.1 (453 + (1 + 1 * k)) i := by
  have hw : wp (F_X10_putsAll m c 0) (fun y => (∀ a, a ≠ 0 → a ≠ c → y.1 a = m.1 a) ∧ (∀ j, j ≠ 34 → y.1 0 j = m.1 0 j) ∧ y.1 c 0 = m.1 0 31 ∧ (∀ i, i < 195 → y.1 c (1 + i) = m.1 451 i) ∧ ∀ k, k < 16 → ∀ i, i < 195 → y.1 c (196 + 195 * k + i) = m.1 (453 + (1 + 1 * k)) i) := by
    unfold F_X10_putsAll
    rw [zl_eq, m_puts0 (j := 0) (by omega) (by omega) (by rw [zI_1, upd_s]; rfl), zb_some, zl_eq]
    -- one thing more
    have step : ∀ (y : zMem) (j b i : Nat), (∀ a, a ≠ 0 → a ≠ c → y.1 a = m.1 a) → (∀ j, j ≠ 34 → y.1 0 j = m.1 0 j) → b ≠ c → b ≠ 0 → (∀ a, a ≠ 0 → a ≠ c → (zI (zI (zI y c j (y.1 b i)) 0 34 (nI (j + 1))) b i (y.1 b i)).1 a = m.1 a) ∧ (∀ k, k ≠ 34 → (zI (zI (zI y c j (y.1 b i)) 0 34 (nI (j + 1))) b i (y.1 b i)).1 0 k = m.1 0 k) ∧ (zI (zI (zI y c j (y.1 b i)) 0 34 (nI (j + 1))) b i (y.1 b i)).1 0 34 = nI (j + 1) ∧ ∀ k, (zI (zI (zI y c j (y.1 b i)) 0 34 (nI (j + 1))) b i (y.1 b i)).1 c k = if k = j then m.1 b i else y.1 c k := fun y j b i h1 h2 hb hb0 => by
      refine ⟨fun a a1 a2 => ?_, fun k hk => ?_, ?_, fun k => ?_⟩
      · by_cases e : a = b
        · have e2 : y.1 b i = (zI (zI y c j (y.1 b i)) 0 34 (nI (j + 1))).1 b i := by rw [zI_n hb0, zI_n hb]
          rw [e]
          have e3 : (zI (zI (zI y c j (y.1 b i)) 0 34 (nI (j + 1))) b i (y.1 b i)).1 b = (zI (zI (zI y c j (y.1 b i)) 0 34 (nI (j + 1))) b i ((zI (zI y c j (y.1 b i)) 0 34 (nI (j + 1))).1 b i)).1 b := by rw [← e2]
          rw [e3, zI_id, zI_n hb0, zI_n hb]
          exact h1 b hb0 hb
        · rw [zI_n e, zI_n a1, zI_n a2]; exact h1 a a1 a2
      · rw [zI_n (fun z => hb0 z.symm), zI_s hk, zI_n (by omega)]; exact h2 k hk
      · rw [zI_n (fun z => hb0 z.symm), zI_1, upd_s]
      · rw [zI_n (fun z => hb z.symm), zI_n (by omega), zI_1]
        by_cases e : k = j
        · rw [e, upd_s, if_pos rfl, h1 b hb0 hb]
        · rw [upd_n e, if_neg e]
    refine loopN (F_X10_putsAll_21 _ _) (fun g k (y : zMem) => g (0 : Int32) (nI k) y) 195 (fun k y => (∀ a, a ≠ 0 → a ≠ c → y.1 a = m.1 a) ∧ (∀ j, j ≠ 34 → y.1 0 j = m.1 0 j) ∧ y.1 0 34 = nI (1 + k) ∧ y.1 c 0 = m.1 0 31 ∧ (∀ i, i < k → y.1 c (1 + i) = m.1 451 i)) _ (fun g k y hk hI ih => ?_) (fun g y hI => ?_) (k := 0) (s := _) (by omega) ⟨fun a a1 a2 => ?_, fun j hj => ?_, ?_, ?_, fun i hi => absurd hi (Nat.not_lt_zero _)⟩ (by omega)
    · obtain ⟨i1, i2, i3, i4, i5⟩ := hI
      try dsimp only at i1 i2 i3 i4 i5 ih ⊢
      obtain ⟨s1, s2, s3, s4⟩ := step y (1 + k) 451 k i1 i2 (by omega) (by omega)
      unfold F_X10_putsAll_21
      rw [show (195 : Int32) = nI 195 from rfl, ile (by omega) (by omega), if_neg (by omega), gin_ok hk (by decide), nI_clamp (by omega), m_puts0 (by omega) (by omega) i3, zb_some]
      dsimp only
      rw [zl_eq, nI_1]
      refine ih _ ⟨s1, s2, s3, ?_, fun i hi => ?_⟩
      · rw [s4, if_neg (by omega)]; exact i4
      · rw [s4]
        by_cases e : i = k
        · rw [if_pos (by omega), e]
        · rw [if_neg (by omega)]; exact i5 i (by omega)
    · obtain ⟨i1, i2, i3, i4, i5⟩ := hI
      try dsimp only at i1 i2 i3 i4 i5 ⊢
      unfold F_X10_putsAll_21
      rw [show (195 : Int32) = nI 195 from rfl, if_pos (Int32.le_refl _)]
      refine loopN (F_X10_putsAll_54 _ _) (fun g k (y : zMem) => g (0 : Int32) (nI k) y) 16 (fun k y => (∀ a, a ≠ 0 → a ≠ c → y.1 a = m.1 a) ∧ (∀ j, j ≠ 34 → y.1 0 j = m.1 0 j) ∧ y.1 0 34 = nI (196 + 195 * k) ∧ y.1 c 0 = m.1 0 31 ∧ (∀ i, i < 195 → y.1 c (1 + i) = m.1 451 i) ∧ ∀ k', k' < k → ∀ i, i < 195 → y.1 c (196 + 195 * k' + i) = m.1 (453 + (1 + 1 * k')) i) _ (fun g k y hk hI ih => ?_) (fun g y hI => ?_) (k := 0) (s := y) (by omega) ⟨i1, i2, i3, i4, i5, fun k hk => absurd hk (Nat.not_lt_zero _)⟩ (by omega)
      · obtain ⟨j1, j2, j3, j4, j5, j6⟩ := hI
        try dsimp only at j1 j2 j3 j4 j5 j6 ih ⊢
        unfold F_X10_putsAll_54
        rw [show (16 : Int32) = nI 16 from rfl, ile (by omega) (by omega), if_neg (by omega)]
        refine loopN (F_X10_putsAll_63 _ _ _) (fun g2 q (y : zMem) => g2 (0 : Int32) (nI k) (nI q) y) 195 (fun q y => (∀ a, a ≠ 0 → a ≠ c → y.1 a = m.1 a) ∧ (∀ j, j ≠ 34 → y.1 0 j = m.1 0 j) ∧ y.1 0 34 = nI (196 + 195 * k + q) ∧ y.1 c 0 = m.1 0 31 ∧ (∀ i, i < 195 → y.1 c (1 + i) = m.1 451 i) ∧ (∀ k', k' < k → ∀ i, i < 195 → y.1 c (196 + 195 * k' + i) = m.1 (453 + (1 + 1 * k')) i) ∧ ∀ i, i < q → y.1 c (196 + 195 * k + i) = m.1 (453 + (1 + 1 * k)) i) _ (fun g2 q y hq hI2 ih2 => ?_) (fun g2 y hI2 => ?_) (k := 0) (s := y) (by omega) ⟨j1, j2, j3, j4, j5, j6, fun i hi => absurd hi (Nat.not_lt_zero _)⟩ (by omega)
        · obtain ⟨l1, l2, l3, l4, l5, l6, l7⟩ := hI2
          try dsimp only at l1 l2 l3 l4 l5 l6 l7 ih2 ⊢
          obtain ⟨s1, s2, s3, s4⟩ := step y (196 + 195 * k + q) (453 + (1 + 1 * k)) q l1 l2 (by omega) (by omega)
          unfold F_X10_putsAll_63
          rw [show (195 : Int32) = nI 195 from rfl, ile (by omega) (by omega), if_neg (by omega), gin_ok hk (by decide), gin_ok hq (by decide), nI_clamp (by omega), nI_clamp (by omega), m_puts0 (by omega) (by omega) l3, zb_some]
          dsimp only
          rw [zl_eq, nI_1]
          refine ih2 _ ⟨s1, s2, s3, ?_, fun i hi => ?_, fun k' hk' i hi => ?_, fun i hi => ?_⟩
          · rw [s4, if_neg (by omega)]; exact l4
          · rw [s4, if_neg (by omega)]; exact l5 i hi
          · rw [s4, if_neg (by omega)]; exact l6 k' hk' i hi
          · rw [s4]
            by_cases e : i = q
            · rw [if_pos (by omega), e]
            · rw [if_neg (by omega)]; exact l7 i (by omega)
        · obtain ⟨l1, l2, l3, l4, l5, l6, l7⟩ := hI2
          try dsimp only at l1 l2 l3 l4 l5 l6 l7 ⊢
          unfold F_X10_putsAll_63
          rw [show (195 : Int32) = nI 195 from rfl, if_pos (Int32.le_refl _), nI_1]
          refine ih y ⟨l1, l2, by rw [l3, show 196 + 195 * k + 195 = 196 + 195 * (k + 1) by omega], l4, l5, fun k' hk' i hi => ?_⟩
          by_cases e : k' = k
          · rw [e]; exact l7 i hi
          · exact l6 k' (by omega) i hi
      · obtain ⟨j1, j2, j3, j4, j5, j6⟩ := hI
        try dsimp only at j1 j2 j3 j4 j5 j6 ⊢
        unfold F_X10_putsAll_54
        rw [show (16 : Int32) = nI 16 from rfl, if_pos (Int32.le_refl _), wp_some]
        exact ⟨j1, j2, j4, j5, j6⟩
    · dsimp only
      rw [zI_n a1, zI_n a1, zI_n a2, zI_n a1]
    · dsimp only
      by_cases e : j = 31
      · rw [e, zI_1, upd_s, zI_s (by omega)]
      · rw [zI_s e, zI_s hj, zI_n (by omega), zI_s hj]
    · dsimp only
      rw [zI_s (by omega), zI_1, upd_s]
    · dsimp only
      rw [zI_n (by omega), zI_n (by omega), zI_1, upd_s, zI_s (by omega)]
  obtain ⟨y, y1, y2⟩ := hw
  exact ⟨y, y1, y2⟩
