/-! works: a works begins -/
theorem x_emit {x : zMem} {t k : Nat} {v : Int32} (h : x.1 t 3 = nI k) (hk : k < 150) : F_X3_emit x t v = some (zI (zI x (t + 1) k v) t 3 (nI (k + 1))) := by
  unfold F_X3_emit
  rw [h, ile (by omega) (by omega), if_neg (by omega), gin_ok (by omega) (by decide), zl_eq, zl_eq, nI_clamp (by omega), zI_n (a := t) (k := t + 1) (by omega), h, nI_1]
abbrev lw0 : LW := (0, fun _ => 0, fun _ => 0)
theorem x_reset {x : zMem} {r : Nat} : ∃ y, F_X3_reset x r = some y ∧ RXl y lw0 r ∧ (∀ c, c ≠ r → c ≠ r + 1 → y.1 c = x.1 c) ∧ y.2 = x.2 := by
  unfold F_X3_reset
  rw [zl_eq]
  obtain ⟨x0, hx0⟩ : ∃ x0, x0 = zI x r 3 0 := ⟨_, rfl⟩
  have e0 : x0.1 r 3 = nI 0 := by rw [hx0, zI_1, upd_s]; rfl
  obtain ⟨x1, hx1⟩ : ∃ x1, x1 = zI (zI x0 (r + 1) 0 10) r 3 (nI (0 + 1)) := ⟨_, rfl⟩
  have e1 : x1.1 r 3 = nI 1 := by rw [hx1, zI_1, upd_s]
  obtain ⟨x2, hx2⟩ : ∃ x2, x2 = zI (zI x1 (r + 1) 1 1002) r 3 (nI (1 + 1)) := ⟨_, rfl⟩
  have e2 : x2.1 r 3 = nI 2 := by rw [hx2, zI_1, upd_s]
  obtain ⟨x3, hx3⟩ : ∃ x3, x3 = zI (zI x2 (r + 1) 2 4) r 3 (nI (2 + 1)) := ⟨_, rfl⟩
  have e3 : x3.1 r 3 = nI 3 := by rw [hx3, zI_1, upd_s]
  obtain ⟨x4, hx4⟩ : ∃ x4, x4 = zI (zI x3 (r + 1) 3 1011) r 3 (nI (3 + 1)) := ⟨_, rfl⟩
  have e4 : x4.1 r 3 = nI 4 := by rw [hx4, zI_1, upd_s]
  obtain ⟨x5, hx5⟩ : ∃ x5, x5 = zI (zI x4 (r + 1) 4 1008) r 3 (nI (4 + 1)) := ⟨_, rfl⟩
  rw [← hx0, x_emit e0 (by omega), ← hx1, zbv_some, x_emit e1 (by omega), ← hx2, zbv_some, x_emit e2 (by omega), ← hx3, zbv_some, x_emit e3 (by omega), ← hx4, zbv_some, x_emit e4 (by omega), ← hx5, zbv_some]
  have c5 : x5.1 (r + 1) = upd (x4.1 (r + 1)) 4 1008 := by rw [hx5, zI_n (by omega), zI_1]
  have c4 : x4.1 (r + 1) = upd (x3.1 (r + 1)) 3 1011 := by rw [hx4, zI_n (by omega), zI_1]
  have c3 : x3.1 (r + 1) = upd (x2.1 (r + 1)) 2 4 := by rw [hx3, zI_n (by omega), zI_1]
  have c2 : x2.1 (r + 1) = upd (x1.1 (r + 1)) 1 1002 := by rw [hx2, zI_n (by omega), zI_1]
  have c1 : x1.1 (r + 1) = upd (x0.1 (r + 1)) 0 10 := by rw [hx1, zI_n (by omega), zI_1]
  refine ⟨x5, rfl, ⟨?_, fun k hk => ?_⟩, fun c h1 h2 => ?_, ?_⟩
  · rw [hx5, zI_1, upd_s]; rfl
  · have hk5 : k < 5 := hk
    have : k = 0 ∨ k = 1 ∨ k = 2 ∨ k = 3 ∨ k = 4 := by omega
    rcases this with rfl | rfl | rfl | rfl | rfl
    · rw [c5, upd_n (by omega), c4, upd_n (by omega), c3, upd_n (by omega), c2, upd_n (by omega), c1, upd_s]; rfl
    · rw [c5, upd_n (by omega), c4, upd_n (by omega), c3, upd_n (by omega), c2, upd_s]; rfl
    · rw [c5, upd_n (by omega), c4, upd_n (by omega), c3, upd_s]; rfl
    · rw [c5, upd_n (by omega), c4, upd_s]; rfl
    · rw [c5, upd_s]; rfl
  · rw [hx5, zI_n h1, zI_n h2, hx4, zI_n h1, zI_n h2, hx3, zI_n h1, zI_n h2, hx2, zI_n h1, zI_n h2, hx1, zI_n h1, zI_n h2, hx0, zI_n h1]
  · rw [hx5, hx4, hx3, hx2, hx1, hx0]; rfl
theorem x_start4 {x : zMem} {e : PL} {u : Nat → Nat} {pl : Nat} (he : okPL e) (hp : RXp x e pl) (hpl : pl = 174 ∨ pl = 180) (ok : okR e u) (h192 : u 192 = 0) (h193 : u 193 = 0) (h194 : u 194 = 0)
    (h : ∀ p, p < 64 → x.1 (pl + 3) p = nI (u p) ∧ x.1 (pl + 4) p = nI (u (64 + p)) ∧ x.1 (pl + 5) p = nI (u (128 + p))) :
    ∃ y, F_X4_start x 4 pl = some y ∧ RXr y e u 4 ∧ (∀ c, ¬ (4 ≤ c ∧ c ≤ 7) → y.1 c = x.1 c) ∧ (∀ c, c ≠ 8 → y.2.1 c = x.2.1 c) ∧ y.2.2 = x.2.2 := by
  unfold F_X4_start
  simp only [zl_eq]
  obtain ⟨y, hy⟩ : ∃ y, y = zI (zI (zI (zCI (zCI (zCI x (pl + 3) 0 (4 + 1) 0 64) (pl + 4) 0 (4 + 2) 0 64) (pl + 5) 0 (4 + 3) 0 64) 4 3 0) 4 4 0) 4 5 0 := ⟨_, rfl⟩
  rw [← hy]
  have fr : ∀ c, ¬ (4 ≤ c ∧ c ≤ 7) → y.1 c = x.1 c := fun c hc => by rw [hy, zI_n (by omega), zI_n (by omega), zI_n (by omega), zCI_n (by omega), zCI_n (by omega), zCI_n (by omega)]
  have f2 : y.2 = x.2 := by rw [hy]; rfl
  have g1 : ∀ p, p < 64 → y.1 5 p = nI (u p) := fun p hp => by
    rw [hy, zI_n (by omega), zI_n (by omega), zI_n (by omega), zCI_n (by omega), zCI_n (by omega), zCI_1, cpy0 hp]; exact (h p hp).1
  have g2 : ∀ p, p < 64 → y.1 6 p = nI (u (64 + p)) := fun p hp => by
    rw [hy, zI_n (by omega), zI_n (by omega), zI_n (by omega), zCI_n (by omega), zCI_1, cpy0 hp, zCI_n (by omega)]; exact (h p hp).2.1
  have g3 : ∀ p, p < 64 → y.1 7 p = nI (u (128 + p)) := fun p hp => by
    rw [hy, zI_n (by omega), zI_n (by omega), zI_n (by omega), zCI_1, cpy0 hp, zCI_n (by omega), zCI_n (by omega)]; exact (h p hp).2.2
  have rp : RXp y e pl := by
    obtain ⟨b1, b2, b3, b4, b5⟩ := hp
    exact ⟨by rw [fr pl (by omega)]; exact b1, by rw [fr pl (by omega)]; exact b2, by rw [fr pl (by omega)]; exact b3, fun q hq => by rw [fr (pl + 1) (by omega), fr (pl + 2) (by omega)]; exact b4 q hq, fun p hp => by rw [f2]; exact b5 p hp⟩
  obtain ⟨z, z1, z2, z3, z4, z5⟩ := x_learnShades (t := 4) rp he ok.1 (by omega) g3 (fun p hp hn => (ok.2.1 p hp hn).2.2)
  rw [z1, zbv_some]
  refine ⟨z, rfl, ⟨fun p hp => ?_, ?_, ?_, ?_, z5⟩, fun c hc => by rw [z2]; exact fr c hc, fun c hc => by rw [z3 c (by omega), f2], by rw [z4, f2]⟩
  · rw [z2]; exact ⟨g1 p hp, g2 p hp, g3 p hp⟩
  · rw [z2, hy, zI_s (by omega), zI_s (by omega), zI_1, upd_s, h194]; rfl
  · rw [z2, hy, zI_s (by omega), zI_1, upd_s, h192]; rfl
  · rw [z2, hy, zI_1, upd_s, h193]; rfl
theorem m_begins {m : zMem} {D : WD} (hd : RMd m D) (hw : okW D) :
    ∃ y, F_X10_beginsAnew m = some y ∧ RMp y D.1 ∧ RMr y (stU D) 451 ∧ (∀ c, c ≠ 0 → c ≠ 4 → ¬ (17 < c ∧ c < 28) → c ≠ 451 → y.1 c = m.1 c) ∧ (∀ j, j ≠ 16 → j ≠ 30 → j ≠ 31 → j ≠ 32 → j ≠ 33 → y.1 0 j = m.1 0 j) ∧ (y.1 0 16 = nI 0 ∧ y.1 0 30 = nI 0 ∧ y.1 0 31 = nI 0 ∧ y.1 0 32 = nI 0 ∧ y.1 0 33 = nI 0) := by
  obtain ⟨d1, d2, d3, d4, d5⟩ := hd
  obtain ⟨⟨e1, e2, e3, e4, e5, e6⟩, hv⟩ := hw
  have hwp : wp (F_X10_beginsAnew m) (fun y => RMp y D.1 ∧ RMr y (stU D) 451 ∧ (∀ c, c ≠ 0 → c ≠ 4 → ¬ (17 < c ∧ c < 28) → c ≠ 451 → y.1 c = m.1 c) ∧ (∀ j, j ≠ 16 → j ≠ 30 → j ≠ 31 → j ≠ 32 → j ≠ 33 → y.1 0 j = m.1 0 j) ∧ (y.1 0 16 = nI 0 ∧ y.1 0 30 = nI 0 ∧ y.1 0 31 = nI 0 ∧ y.1 0 32 = nI 0 ∧ y.1 0 33 = nI 0)) := by
    unfold F_X10_beginsAnew
    refine loopN F_X10_beginsAnew_2 (fun g k (y : zMem) => g (nI k) y) 3 (fun k y => (∀ j, j < k → y.1 4 j = m.1 3 j) ∧ (∀ c, c ≠ 4 → y.1 c = m.1 c)) _ (fun g k y hk hI ih => ?_) (fun g y hI => ?_) (k := 0) (s := m) (by omega) ⟨fun j hj => absurd hj (Nat.not_lt_zero _), fun _ _ => rfl⟩ (by omega)
    · obtain ⟨i1, i2⟩ := hI
      try dsimp only at i1 i2 ih ⊢
      unfold F_X10_beginsAnew_2
      rw [show (3 : Int32) = nI 3 from rfl, ile (by omega) (by omega), if_neg (by omega), gin_ok hk (by decide), zl_eq, nI_clamp (by omega), nI_1, i2 3 (by omega)]
      refine ih _ ⟨fun j hj => ?_, fun c hc => by rw [zI_n hc]; exact i2 c hc⟩
      rw [zI_1]
      by_cases c : j = k
      · rw [c, upd_s]
      · rw [upd_n c]; exact i1 j (by omega)
    · obtain ⟨i1, i2⟩ := hI
      try dsimp only at i1 i2 ⊢
      have a0 : y.1 4 0 = nI (pW D.1) := by rw [i1 0 (by omega)]; exact d1
      have a1 : y.1 4 1 = nI (pH D.1) := by rw [i1 1 (by omega)]; exact d2
      have a2 : y.1 4 2 = nI (pn D.1) := by rw [i1 2 (by omega)]; exact d3
      obtain ⟨y1, l1, l2, l3, l4⟩ := m_lays (m := y) (s := 6) (l1 := 10) (d := 17) (l2 := 10) (n := pn D.1) (by omega) (by omega) (by omega) (by omega) (by omega)
      unfold F_X10_beginsAnew_2
      rw [if_pos (by decide), a2, l1, zbv_some]
      have p1 : RMp y1 D.1 := by
        refine ⟨by rw [l2 4 (by omega)]; exact a0, by rw [l2 4 (by omega)]; exact a1, by rw [l2 4 (by omega)]; exact a2, fun h hh => ?_⟩
        rw [(l4 h hh).1, (l4 h hh).2, i2 _ (by omega)]
        exact d4 h hh
      refine loopN F_X10_beginsAnew_44 (fun g k (z : zMem) => g (nI k) z) 195 (fun k z => (∀ j, j < k → z.1 451 j = nI 0) ∧ (∀ c, c ≠ 451 → z.1 c = y1.1 c)) _ (fun g k z hk hI ih => ?_) (fun g z hI => ?_) (k := 0) (s := y1) (by omega) ⟨fun j hj => absurd hj (Nat.not_lt_zero _), fun _ _ => rfl⟩ (by omega)
      · obtain ⟨j1, j2⟩ := hI
        try dsimp only at j1 j2 ih ⊢
        unfold F_X10_beginsAnew_44
        rw [show (195 : Int32) = nI 195 from rfl, ile (by omega) (by omega), if_neg (by omega), gin_ok hk (by decide), zl_eq, nI_clamp (by omega), nI_1]
        refine ih _ ⟨fun j hj => ?_, fun c hc => by rw [zI_n hc]; exact j2 c hc⟩
        rw [zI_1]
        by_cases c : j = k
        · rw [c, upd_s]; rfl
        · rw [upd_n c]; exact j1 j (by omega)
      · obtain ⟨j1, j2⟩ := hI
        try dsimp only at j1 j2 ⊢
        unfold F_X10_beginsAnew_44
        rw [if_pos (by decide)]
        refine loopN F_X10_beginsAnew_66 (fun g k (w : zMem) => g (nI k) w) 64 (fun k w => (∀ c, c ≠ 451 → w.1 c = y1.1 c) ∧ (∀ p, p < k → w.1 451 p = nI (stU D p) ∧ w.1 451 (64 + p) = nI (stU D (64 + p)) ∧ w.1 451 (128 + p) = nI (stU D (128 + p))) ∧ (∀ p, k ≤ p → p < 64 → w.1 451 p = nI 0 ∧ w.1 451 (64 + p) = nI 0 ∧ w.1 451 (128 + p) = nI 0) ∧ ∀ i, 192 ≤ i → i < 195 → w.1 451 i = nI 0) _ (fun g k w hk hI ih => ?_) (fun g w hI => ?_) (k := 0) (s := z) (by omega) ⟨j2, fun p hp => absurd hp (Nat.not_lt_zero _), fun p _ hp => ⟨j1 _ (by omega), j1 _ (by omega), j1 _ (by omega)⟩, fun i _ hi => j1 i hi⟩ (by omega)
        · obtain ⟨k1, k2, k3, k4⟩ := hI
          try dsimp only at k1 k2 k3 k4 ih ⊢
          have w4 : w.1 4 0 = nI (pW D.1) ∧ w.1 4 1 = nI (pH D.1) := by rw [k1 4 (by omega)]; exact ⟨p1.1, p1.2.1⟩
          have w5 : ∀ i, i < 192 → w.1 5 i = nI (D.2 i) := fun i hi => by rw [k1 5 (by omega), l2 5 (by omega), i2 5 (by omega)]; exact d5 i hi
          have skip : inW D.1 k = false → wp (F_X10_beginsAnew_189 g (nI k) w) (fun y => RMp y D.1 ∧ RMr y (stU D) 451 ∧ (∀ c, c ≠ 0 → c ≠ 4 → ¬ (17 < c ∧ c < 28) → c ≠ 451 → y.1 c = m.1 c) ∧ (∀ j, j ≠ 16 → j ≠ 30 → j ≠ 31 → j ≠ 32 → j ≠ 33 → y.1 0 j = m.1 0 j) ∧ (y.1 0 16 = nI 0 ∧ y.1 0 30 = nI 0 ∧ y.1 0 31 = nI 0 ∧ y.1 0 32 = nI 0 ∧ y.1 0 33 = nI 0)) := fun hin => by
            unfold F_X10_beginsAnew_189
            rw [nI_1]
            refine ih w ⟨k1, fun p hp => ?_, fun p h1 h2 => k3 p (by omega) h2, k4⟩
            by_cases c : p = k
            · rw [c, stU_0 D hk, stU_1 D hk, stU_2 D hk, hin, if_neg (fun q => absurd q.1 (by decide)), if_neg (fun q => absurd q.1 (by decide)), if_neg (by decide)]
              exact k3 k (Nat.le_refl _) hk
            · exact k2 p (by omega)
          unfold F_X10_beginsAnew_66
          rw [show (64 : Int32) = nI 64 from rfl, ile (by omega) (by omega), if_neg (by omega), w4.1, ya_rem8 (by omega), ile (by omega) (by omega)]
          by_cases cW : pW D.1 ≤ k % 8
          · rw [if_pos cW]
            exact skip (by unfold inW; rw [decide_eq_false (by omega), Bool.false_and])
          · rw [if_neg cW, w4.2, ya_div8 (by omega), ilt (by omega) (by omega)]
            by_cases cH : k / 8 < pH D.1
            · have hin : inW D.1 k = true := by unfold inW; rw [decide_eq_true (by omega), decide_eq_true cH]; rfl
              have v0 := hv k (by omega)
              have v1 := hv (64 + k) (by omega)
              have v2 := hv (128 + k) (by omega)
              rw [if_pos cH, show (128 : Int32) = nI 128 from rfl, nI_add, gin_ok (by omega) (by decide), gin_ok (by omega) (by decide), zl_eq, nI_clamp (by omega), w5 (128 + k) (by omega)]
              have e128 : ∀ w2 : zMem, w2.1 451 (128 + k) = nI (D.2 (128 + k)) → (w2.1 451 (128 + k) ≤ 0 ↔ D.2 (128 + k) = 0) := fun w2 h => by
                rw [h, ya_0, nI_leI (by omega) (by omega)]; omega
              obtain ⟨w2, hw2⟩ : ∃ w2, w2 = zI w 451 (128 + k) (nI (D.2 (128 + k))) := ⟨_, rfl⟩
              have q128 : w2.1 451 (128 + k) = nI (D.2 (128 + k)) := by rw [hw2, zI_1, upd_s]
              have q5 : ∀ i, i < 192 → w2.1 5 i = nI (D.2 i) := fun i hi => by rw [hw2, zI_n (by omega)]; exact w5 i hi
              have body : ∀ v v' : Nat, v = stU D k → v' = stU D (64 + k) → wp (g (nI (k + 1)) (zI (zI w2 451 k (nI v)) 451 (64 + k) (nI v'))) (fun y => RMp y D.1 ∧ RMr y (stU D) 451 ∧ (∀ c, c ≠ 0 → c ≠ 4 → ¬ (17 < c ∧ c < 28) → c ≠ 451 → y.1 c = m.1 c) ∧ (∀ j, j ≠ 16 → j ≠ 30 → j ≠ 31 → j ≠ 32 → j ≠ 33 → y.1 0 j = m.1 0 j) ∧ (y.1 0 16 = nI 0 ∧ y.1 0 30 = nI 0 ∧ y.1 0 31 = nI 0 ∧ y.1 0 32 = nI 0 ∧ y.1 0 33 = nI 0)) := fun v v' hv1 hv2 => by
                refine ih _ ⟨fun c hc => by rw [zI_n hc, zI_n hc, hw2, zI_n hc]; exact k1 c hc, fun p hp => ?_, fun p h1 h2 => ?_, fun i h1 h2 => ?_⟩
                · by_cases c : p = k
                  · rw [c]
                    refine ⟨?_, ?_, ?_⟩
                    · rw [zI_s (by omega), zI_1, upd_s, hv1]
                    · rw [zI_1, upd_s, hv2]
                    · rw [zI_s (by omega), zI_s (by omega), q128, stU_2 D hk, if_pos hin]
                  · rw [zI_s (by omega), zI_s (by omega), zI_s (by omega), zI_s (by omega), zI_s (by omega), zI_s (by omega), hw2, zI_s (by omega), zI_s (by omega), zI_s (by omega)]
                    exact k2 p (by omega)
                · rw [zI_s (by omega), zI_s (by omega), zI_s (by omega), zI_s (by omega), zI_s (by omega), zI_s (by omega), hw2, zI_s (by omega), zI_s (by omega), zI_s (by omega)]
                  exact k3 p (by omega) h2
                · rw [zI_s (by omega), zI_s (by omega), hw2, zI_s (by omega)]; exact k4 i h1 h2
              have z0 : (0 : Int32) + nI k = nI k := Int32.zero_add _
              rw [← hw2, q128, ya_0, ile (by omega) (by omega)]
              by_cases cg : D.2 (128 + k) = 0
              · have s0 : stU D k = D.2 k := by rw [stU_0 D hk, if_pos ⟨hin, cg⟩]
                have s1 : stU D (64 + k) = D.2 (64 + k) := by rw [stU_1 D hk, if_pos ⟨hin, cg⟩]
                unfold F_X10_beginsAnew_153 F_X10_beginsAnew_188 F_X10_beginsAnew_189
                rw [if_pos (by omega), show nI 0 + nI k = nI k from z0, gin_ok (by omega) (by decide), gin_ok (by omega) (by decide), zl_eq, nI_clamp (by omega), q5 k (by omega), show (128 : Int32) = nI 128 from rfl, nI_add, gin_ok (by omega) (by decide), nI_clamp (by omega), zI_s (by omega), q128, ya_0, ile (by omega) (by omega), if_pos (by omega), show (64 : Int32) = nI 64 from rfl, nI_add, gin_ok (by omega) (by decide), gin_ok (by omega) (by decide), zl_eq, nI_clamp (by omega), zI_n (a := 5) (k := 451) (by omega), q5 (64 + k) (by omega), nI_1]
                exact body _ _ s0.symm s1.symm
              · have s0 : stU D k = 0 := by rw [stU_0 D hk, if_neg (fun q => cg q.2)]
                have s1 : stU D (64 + k) = 0 := by rw [stU_1 D hk, if_neg (fun q => cg q.2)]
                unfold F_X10_beginsAnew_153 F_X10_beginsAnew_188 F_X10_beginsAnew_189
                rw [if_neg (by omega), show nI 0 + nI k = nI k from z0, gin_ok (by omega) (by decide), zl_eq, nI_clamp (by omega), show (128 : Int32) = nI 128 from rfl, nI_add, gin_ok (by omega) (by decide), nI_clamp (by omega), zI_s (by omega), q128, ya_0, ile (by omega) (by omega), if_neg (by omega), show (64 : Int32) = nI 64 from rfl, nI_add, gin_ok (by omega) (by decide), zl_eq, nI_clamp (by omega), nI_1]
                exact body 0 0 s0.symm s1.symm
            · rw [if_neg cH]
              exact skip (by unfold inW; rw [decide_eq_false cH, Bool.and_false])
        · obtain ⟨k1, k2, k3, k4⟩ := hI
          try dsimp only at k1 k2 k3 k4 ⊢
          unfold F_X10_beginsAnew_66
          rw [if_pos (by decide), zl_eq, zl_eq, zl_eq, zl_eq, zl_eq, wp_some]
          have cz : ∀ c, c ≠ 0 → (zI (zI (zI (zI (zI w 0 16 0) 0 30 0) 0 31 0) 0 32 0) 0 33 0).1 c = w.1 c := fun c hc => by rw [zI_n hc, zI_n hc, zI_n hc, zI_n hc, zI_n hc]
          have cy : ∀ c, c ≠ 451 → w.1 c = y1.1 c := k1
          refine ⟨⟨?_, ?_, ?_, fun h hh => ?_⟩, fun i hi => ?_, fun c h1 h2 h3 h4 => ?_, fun j h1 h2 h3 h4 h5 => ?_, ?_, ?_, ?_, ?_, ?_⟩
          · rw [cz 4 (by omega), cy 4 (by omega)]; exact p1.1
          · rw [cz 4 (by omega), cy 4 (by omega)]; exact p1.2.1
          · rw [cz 4 (by omega), cy 4 (by omega)]; exact p1.2.2.1
          · have hh' : h < pn D.1 := hh
            rw [cz _ (by omega), cy _ (by omega)]; exact p1.2.2.2 h hh
          · rw [cz 451 (by omega)]
            by_cases c1 : i < 64
            · exact (k2 i c1).1
            · by_cases c2 : i < 128
              · have := (k2 (i - 64) (by omega)).2.1
                rw [show 64 + (i - 64) = i by omega] at this
                exact this
              · by_cases c3 : i < 192
                · have := (k2 (i - 128) (by omega)).2.2
                  rw [show 128 + (i - 128) = i by omega] at this
                  exact this
                · rw [stU_3 D (by omega)]; exact k4 i (by omega) hi
          · rw [cz c h1, cy c h4, l2 c (by omega), i2 c h2]
          · rw [zI_s h5, zI_s h4, zI_s h3, zI_s h2, zI_s h1, cy 0 (by omega), l2 0 (by omega), i2 0 (by omega)]
          · rw [zI_s (by omega), zI_s (by omega), zI_s (by omega), zI_s (by omega), zI_1, upd_s]; rfl
          · rw [zI_s (by omega), zI_s (by omega), zI_s (by omega), zI_1, upd_s]; rfl
          · rw [zI_s (by omega), zI_s (by omega), zI_1, upd_s]; rfl
          · rw [zI_s (by omega), zI_1, upd_s]; rfl
          · rw [zI_1, upd_s]; rfl
  exact hwp
