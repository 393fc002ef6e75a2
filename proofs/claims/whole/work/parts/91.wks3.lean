/-! works: both read all clauses -/
def frW (t : Nat) (x y : zMem) : Prop := (∀ c, c ≠ 1 → ¬ (t ≤ c ∧ c ≤ t + 5) → y.1 c = x.1 c) ∧ (∀ j, j ≠ 2 → j ≠ 3 → j ≠ 4 → j ≠ 5 → j ≠ 7 → y.1 1 j = x.1 1 j) ∧ (∀ c, c ≠ t → y.2.1 c = x.2.1 c) ∧ y.2.2 = x.2.2
theorem TX.congr {x y : zMem} {B : Nat → Nat} {E : Nat} {P : PS} (h : TX x B E P) (h1 : y.1 1 = x.1 1) (h2 : y.1 2 = x.1 2) : TX y B E P := by
  obtain ⟨a1, a2, a3, a4, a, a5, a6, a7⟩ := h
  exact ⟨by rw [h1]; exact a1, by rw [h1]; exact a2, by rw [h1]; exact a3, fun k hk => by rw [h2]; exact a4 k hk, a, a5, by rw [h1]; exact a6, a7⟩
theorem x_wkRead {x : zMem} {B : Nat → Nat} {E t : Nat} (ht : okT B E) (htt : t = 174 ∨ t = 180) (h : TX x B E (PS0 B E)) :
    ∃ y, F_X5_read x t 1 = some y ∧ TX y B E (rdW B E 61).1 ∧ frW t x y ∧ ((rdW B E 61).1.1 = 0 → RXp y (rdW B E 61).2.1 t ∧ ∀ p, p < 64 → y.1 (t + 3) p = nI (stU (rdW B E 61).2 p) ∧ y.1 (t + 4) p = nI (stU (rdW B E 61).2 (64 + p)) ∧ y.1 (t + 5) p = nI (stU (rdW B E 61).2 (128 + p))) := by
  have hw : wp (F_X5_read x t 1) (fun y => TX y B E (rdW B E 61).1 ∧ frW t x y ∧ ((rdW B E 61).1.1 = 0 → RXp y (rdW B E 61).2.1 t ∧ ∀ p, p < 64 → y.1 (t + 3) p = nI (stU (rdW B E 61).2 p) ∧ y.1 (t + 4) p = nI (stU (rdW B E 61).2 (64 + p)) ∧ y.1 (t + 5) p = nI (stU (rdW B E 61).2 (128 + p)))) := by
    have fin : ∀ (k : Nat) (y : zMem), k ≤ 61 → ¬ ((rdW B E k).1.1 = 0 ∧ (rdW B E k).1.2.2 < E) → TX y B E (rdW B E k).1 → frC t x y → ((rdW B E k).1.1 = 0 → RXd y t (rdW B E k).2) → (∃ a b, a ≤ 8 ∧ b ≤ 8 ∧ y.1 t 0 = nI a ∧ y.1 t 1 = nI b) → wp (F_X5_read_77 t 1 y) (fun y => TX y B E (rdW B E 61).1 ∧ frW t x y ∧ ((rdW B E 61).1.1 = 0 → RXp y (rdW B E 61).2.1 t ∧ ∀ p, p < 64 → y.1 (t + 3) p = nI (stU (rdW B E 61).2 p) ∧ y.1 (t + 4) p = nI (stU (rdW B E 61).2 (64 + p)) ∧ y.1 (t + 5) p = nI (stU (rdW B E 61).2 (128 + p)))) := fun k y hk hno t1 t2 t3 t4 => by
      obtain ⟨a, b, a8, b8, ea, eb⟩ := t4
      obtain ⟨v, s1, s2⟩ := x_square (x := y) a8 b8
      obtain ⟨z, l1, l2, l3, l4⟩ := x_leaveOut (x := zL y t 3 v) (t := t)
      have oW := (rw_ok (B := B) (E := E) k).2.2
      rw [rw_stop hno 61 hk]
      unfold F_X5_read_77
      rw [ea, eb, s1, zb_some]
      dsimp only
      rw [zl_eq, l1, zbv_some, wp_some]
      have lv : (zL y t 3 v).2.1 t 3 = v := by rw [zL_1, updL_s]
      refine ⟨t1.congr (l2 1 (by omega) (by omega) (by omega)) (l2 2 (by omega) (by omega) (by omega)), ⟨fun c h1 h2 => ?_, fun j h1 h2 h3 h4 h5 => ?_, fun c hc => ?_, ?_⟩, fun z0 => ?_⟩
      · rw [l2 c (by omega) (by omega) (by omega)]; exact t2.1 c h1 h2
      · rw [l2 1 (by omega) (by omega) (by omega)]; exact t2.2.1 j h1 h2 h3 h4 h5
      · rw [l3, zL_n hc, t2.2.2]
      · rw [l3]; show y.2.2 = _; rw [t2.2.2]
      · obtain ⟨w1, w2, w3, w4, w5⟩ := t3 z0
        obtain ⟨⟨e1, e2, e3, e4, e5, e6⟩, hv⟩ := oW z0
        have ha : a = pW (rdW B E k).2.1 := by
          rw [w1, nI_eq (by omega) (by omega)] at ea; exact ea.symm
        have hb : b = pH (rdW B E k).2.1 := by
          rw [w2, nI_eq (by omega) (by omega)] at eb; exact eb.symm
        have hm : ∀ p, p < 64 → tb v p = inW (rdW B E k).2.1 p := fun p hp => by rw [s2 p hp, ha, hb]; rfl
        refine ⟨⟨?_, ?_, ?_, fun q hq => ?_, fun p hp => ?_⟩, fun p hp => ?_⟩
        · rw [l2 t (by omega) (by omega) (by omega)]; exact w1
        · rw [l2 t (by omega) (by omega) (by omega)]; exact w2
        · rw [l2 t (by omega) (by omega) (by omega)]; exact w3
        · rw [l2 (t + 1) (by omega) (by omega) (by omega), l2 (t + 2) (by omega) (by omega) (by omega)]; exact w4 q hq
        · rw [l3, lv]; exact hm p hp
        · obtain ⟨g5, g3, g4⟩ := l4 p hp
          have c3 : (zL y t 3 v).1 (t + 3) p = nI ((rdW B E k).2.2 p) := (w5 p hp).1
          have c4 : (zL y t 3 v).1 (t + 4) p = nI ((rdW B E k).2.2 (64 + p)) := (w5 p hp).2.1
          have c5 : (zL y t 3 v).1 (t + 5) p = nI ((rdW B E k).2.2 (128 + p)) := (w5 p hp).2.2
          have h9 := hv (128 + p) (by omega)
          have hle : nI ((rdW B E k).2.2 (128 + p)) ≤ 0 ↔ (rdW B E k).2.2 (128 + p) = 0 := by
            rw [ya_0, nI_leI (by omega) (by omega)]; omega
          rw [g3, g4, g5, c3, c4, c5, lv, hm p hp, stU_0 _ hp, stU_1 _ hp, stU_2 _ hp]
          simp only [hle]
          refine ⟨?_, ?_, ?_⟩
          · split <;> rfl
          · split <;> rfl
          · split <;> rfl
    unfold F_X5_read
    rw [zl_eq, zl_eq, zl_eq]
    obtain ⟨x0, hx0⟩ : ∃ x0, x0 = zI (zI (zI x t 0 4) t 1 4) t 2 0 := ⟨_, rfl⟩
    rw [← hx0]
    have b0 : x0.1 t 0 = nI 4 := by rw [hx0, zI_s (by omega), zI_s (by omega), zI_1, upd_s]; rfl
    have b1 : x0.1 t 1 = nI 4 := by rw [hx0, zI_s (by omega), zI_1, upd_s]; rfl
    have b2 : x0.1 t 2 = nI 0 := by rw [hx0, zI_1, upd_s]; rfl
    have bf : frC t x x0 := by rw [hx0]; exact (frC.z (by omega) (by omega) (by omega)).trans ((frC.z (by omega) (by omega) (by omega)).trans (frC.z (by omega) (by omega) (by omega)))
    have bt : TX x0 B E (PS0 B E) := by rw [hx0]; exact ((h.zt (by omega) (by omega)).zt (by omega) (by omega)).zt (by omega) (by omega)
    refine loopN (F_X5_read_17 _ _) (fun g k (y : zMem) => g (nI k) y) 64 (fun k y => TX y B E (PS0 B E) ∧ frC t x y ∧ (y.1 t 0 = nI 4 ∧ y.1 t 1 = nI 4 ∧ y.1 t 2 = nI 0) ∧ ∀ p, p < k → y.1 (t + 3) p = nI 0 ∧ y.1 (t + 4) p = nI 0 ∧ y.1 (t + 5) p = nI 0) _ (fun g k y hk hI ih => ?_) (fun g y hI => ?_) (k := 0) (s := x0) (by omega) ⟨bt, bf, ⟨b0, b1, b2⟩, fun p hp => absurd hp (Nat.not_lt_zero _)⟩ (by omega)
    · obtain ⟨i1, i2, ⟨i3, i4, i5⟩, i6⟩ := hI
      try dsimp only at i1 i2 i3 i4 i5 i6 ih ⊢
      unfold F_X5_read_17
      rw [show (64 : Int32) = nI 64 from rfl, ile (by omega) (by omega), if_neg (by omega), gin_ok hk (by decide), zl_eq, zl_eq, zl_eq, nI_clamp (by omega), nI_1]
      refine ih _ ⟨((i1.zt (by omega) (by omega)).zt (by omega) (by omega)).zt (by omega) (by omega), i2.trans ((frC.z (by omega) (by omega) (by omega)).trans ((frC.z (by omega) (by omega) (by omega)).trans (frC.z (by omega) (by omega) (by omega)))), ⟨?_, ?_, ?_⟩, fun p hp => ?_⟩
      · rw [zI_n (by omega), zI_n (by omega), zI_n (by omega)]; exact i3
      · rw [zI_n (by omega), zI_n (by omega), zI_n (by omega)]; exact i4
      · rw [zI_n (by omega), zI_n (by omega), zI_n (by omega)]; exact i5
      · rw [zI_n (a := t + 3) (k := t + 5) (by omega), zI_n (a := t + 3) (k := t + 4) (by omega), zI_1, zI_n (a := t + 4) (k := t + 5) (by omega), zI_1, zI_n (a := t + 4) (k := t + 3) (by omega), zI_1, zI_n (a := t + 5) (k := t + 4) (by omega), zI_n (a := t + 5) (k := t + 3) (by omega)]
        by_cases c : p = k
        · rw [c, upd_s, upd_s, upd_s]; exact ⟨rfl, rfl, rfl⟩
        · rw [upd_n c, upd_n c, upd_n c]; exact i6 p (by omega)
    · obtain ⟨i1, i2, ⟨i3, i4, i5⟩, i6⟩ := hI
      try dsimp only at i1 i2 i3 i4 i5 i6 ⊢
      unfold F_X5_read_17
      rw [if_pos (by decide)]
      refine loopN (F_X5_read_52 _ _) (fun g k (y : zMem) => g (nI k) y) 61 (fun k y => TX y B E (rdW B E k).1 ∧ frC t x y ∧ ((rdW B E k).1.1 = 0 → RXd y t (rdW B E k).2) ∧ ∃ a b, a ≤ 8 ∧ b ≤ 8 ∧ y.1 t 0 = nI a ∧ y.1 t 1 = nI b) _ (fun g2 k y2 hk hI2 ih2 => ?_) (fun g2 y2 hI2 => ?_) (k := 0) (s := y) (by omega) ⟨i1, i2, fun _ => ⟨i3, i4, i5, fun q hq => absurd hq (Nat.not_lt_zero _), i6⟩, 4, 4, by omega, by omega, i3, i4⟩ (by omega)
      · obtain ⟨j1, j2, j3, j4⟩ := hI2
        try dsimp only at j1 j2 j3 j4 ih2 ⊢
        obtain ⟨oP, oF, oW⟩ := rw_ok (B := B) (E := E) k
        obtain ⟨y3, d1, d2, d3⟩ := x_goesOn ht oP.1 j1
        unfold F_X5_read_52
        rw [show (60 : Int32) = nI 60 from rfl, ilt (by omega) (by omega), if_neg (by omega), d1, zb_some]
        dsimp only
        rw [ibI]
        have j3' : (rdW B E k).1.1 = 0 → RXd y3 t (rdW B E k).2 := fun z => d3.d (by omega) (j3 z)
        have j4' : ∃ a b, a ≤ 8 ∧ b ≤ 8 ∧ y3.1 t 0 = nI a ∧ y3.1 t 1 = nI b := by
          obtain ⟨a, b, q1, q2, q3, q4⟩ := j4
          exact ⟨a, b, q1, q2, by rw [d3.1 t (by omega)]; exact q3, by rw [d3.1 t (by omega)]; exact q4⟩
        by_cases c : (rdW B E k).1.1 = 0 ∧ (rdW B E k).1.2.2 < E
        · rw [decide_eq_true c.1, decide_eq_true c.2, if_neg (by decide)]
          obtain ⟨y4, f1, f2, f3, f4, f5⟩ := x_clause (k := k) ht oP c.1 (by omega) htt (oW c.1).1 d2 (j3' c.1)
          rw [f1, zbv_some, nI_1]
          rw [rdW_s] at ih2
          unfold stW at ih2
          rw [if_pos c] at ih2
          exact ih2 y4 ⟨f2, j2.trans (d3.c.trans f3), f4, f5⟩
        · have hno : (decide ((rdW B E k).1.1 = 0) && decide ((rdW B E k).1.2.2 < E)) = false := by
            by_cases z : (rdW B E k).1.1 = 0
            · rw [decide_eq_false (fun w => c ⟨z, w⟩), Bool.and_false]
            · rw [decide_eq_false z, Bool.false_and]
          rw [hno, if_pos rfl]
          exact fin k y3 (by omega) c d2 (j2.trans d3.c) j3' j4'
      · obtain ⟨j1, j2, j3, j4⟩ := hI2
        try dsimp only at j1 j2 j3 j4 ⊢
        unfold F_X5_read_52
        rw [if_pos (by decide)]
        exact fin 61 y2 (by omega) rw_61 j1 j2 j3 j4
  exact hw
theorem m_tellsNothing {m : zMem} : ∃ y, F_X10_tellsNothing m = some y ∧ RMd y wd0 ∧ (∀ c, c ≠ 3 → c ≠ 5 → y.1 c = m.1 c) ∧ y.2 = m.2 := by
  have hw : wp (F_X10_tellsNothing m) (fun y => RMd y wd0 ∧ (∀ c, c ≠ 3 → c ≠ 5 → y.1 c = m.1 c) ∧ y.2 = m.2) := by
    unfold F_X10_tellsNothing
    rw [zl_eq, zl_eq, zl_eq]
    refine loopN F_X10_tellsNothing_23 (fun g k (y : zMem) => g (nI k) y) 192 (fun k y => (y.1 3 0 = nI 4 ∧ y.1 3 1 = nI 4 ∧ y.1 3 2 = nI 0) ∧ (∀ i, i < k → y.1 5 i = nI 0) ∧ (∀ c, c ≠ 3 → c ≠ 5 → y.1 c = m.1 c) ∧ y.2 = m.2) _ (fun g k y hk hI ih => ?_) (fun g y hI => ?_) (k := 0) (s := zI (zI (zI m 3 0 4) 3 1 4) 3 2 0) (by omega) ⟨⟨?_, ?_, ?_⟩, fun i hi => absurd hi (Nat.not_lt_zero _), fun c h1 h2 => ?_, rfl⟩ (by omega)
    · obtain ⟨⟨i1, i2, i3⟩, i4, i5, i6⟩ := hI
      try dsimp only at i1 i2 i3 i4 i5 i6 ih ⊢
      unfold F_X10_tellsNothing_23
      rw [show (192 : Int32) = nI 192 from rfl, ile (by omega) (by omega), if_neg (by omega), gin_ok hk (by decide), zl_eq, nI_clamp (by omega), nI_1]
      refine ih _ ⟨⟨by rw [zI_n (by omega)]; exact i1, by rw [zI_n (by omega)]; exact i2, by rw [zI_n (by omega)]; exact i3⟩, fun i hi => ?_, fun c h1 h2 => by rw [zI_n h2]; exact i5 c h1 h2, i6⟩
      rw [zI_1]
      by_cases c : i = k
      · rw [c, upd_s]; rfl
      · rw [upd_n c]; exact i4 i (by omega)
    · obtain ⟨⟨i1, i2, i3⟩, i4, i5, i6⟩ := hI
      try dsimp only at i1 i2 i3 i4 i5 i6 ⊢
      unfold F_X10_tellsNothing_23
      rw [if_pos (by decide), wp_some]
      exact ⟨⟨i1, i2, i3, fun h hh => absurd hh (Nat.not_lt_zero _), i4⟩, i5, i6⟩
    · rw [zI_s (by omega), zI_s (by omega), zI_1, upd_s]; rfl
    · rw [zI_s (by omega), zI_1, upd_s]; rfl
    · rw [zI_1, upd_s]; rfl
    · rw [zI_n h1, zI_n h1, zI_n h1]
  exact hw
theorem m_wkRead {m : zMem} {B : Nat → Nat} {E : Nat} {a : Int32} {Q : Int32 × zMem → Prop} (ht : okT B E) (h : TMa m B E (PS0 B E) (PS0 B E).2.2) (hd : RMd m wd0) (h7 : m.1 0 7 = nI 0)
    (hQ : ∀ y, TM y B E (rdW B E 61).1 → frD m y → ((rdW B E 61).1.1 = 0 → RMd y (rdW B E 61).2) → wp (F_X10_works_71 a y) Q) : wp (itF (fun _ => none) (F_X10_works_42 a) zFuel m) Q := by
  have hE := ht.1
  have fin : ∀ (k : Nat) (y : zMem), k ≤ 61 → ¬ ((rdW B E k).1.1 = 0 ∧ (rdW B E k).1.2.2 < E) → TM y B E (rdW B E k).1 → frD m y → ((rdW B E k).1.1 = 0 → RMd y (rdW B E k).2) → wp (F_X10_works_71 a y) Q := fun k y hk h1 h2 h3 h4 => by
    rw [rw_stop h1 61 hk] at hQ
    exact hQ y h2 h3 h4
  refine loopN (F_X10_works_42 _) (fun g _ (y : zMem) => g y) 61 (fun k y => TM y B E (rdW B E k).1 ∧ ((rdW B E k).1.1 = 0 → TMa y B E (rdW B E k).1 (rdW B E k).1.2.2) ∧ frD m y ∧ ((rdW B E k).1.1 = 0 → RMd y (rdW B E k).2 ∧ y.1 0 7 = nI k)) _ (fun g k y hk hI ih => ?_) (fun g y hI => ?_) (k := 0) (s := m) (by omega) ⟨h.t, fun _ => h, frD.refl, fun _ => ⟨hd, h7⟩⟩ (by omega)
  · obtain ⟨i1, i2, i3, i4⟩ := hI
    try dsimp only at i1 i2 i3 i4 ih ⊢
    obtain ⟨oP, oF, oW⟩ := rw_ok (B := B) (E := E) k
    have hP3 := oP.1
    unfold F_X10_works_42
    rw [i1.1, ie0 (by omega)]
    by_cases z : (rdW B E k).1.1 = 0
    · have ya := i2 z
      have haE := ya.2.2.2.2.1
      rw [if_pos z, ya.2.2.1, ya.2.2.2.2.2.1, ile (by omega) (by omega)]
      by_cases c : E ≤ (rdW B E k).1.2.2
      · rw [if_pos c]
        exact fin k y (by omega) (fun w => by omega) i1 i3 (fun z => (i4 z).1)
      · have hrun : (rdW B E k).1.1 = 0 ∧ (rdW B E k).1.2.2 < E := ⟨z, by omega⟩
        obtain ⟨y2, a1, a2, a3, a4⟩ := m_clause ht oP z (by omega) (oW z).1.2.2.2.2.1 i1 (i4 z).1 (i4 z).2
        obtain ⟨y3, b1, b2, b3, b4⟩ := m_rest ht a2
        rw [if_neg c, a1, zbv_some, b1, zbv_some]
        rw [rdW_s] at ih
        unfold stW at ih
        rw [if_pos hrun] at ih
        refine ih y3 ⟨b2, b4, i3.trans (a3.trans b3.d), fun w => ?_⟩
        obtain ⟨q1, q2⟩ := a4 w
        exact ⟨b3.rd q1, by rw [b3.2.1 7 (by omega) (by omega) (by omega)]; exact q2⟩
    · rw [if_neg z]
      exact fin k y (by omega) (fun w => z w.1) i1 i3 (fun w => absurd w z)
  · obtain ⟨i1, i2, i3, i4⟩ := hI
    try dsimp only at i1 i2 i3 i4 ⊢
    obtain ⟨oP, oF, oW⟩ := rw_ok (B := B) (E := E) 61
    have hP3 := oP.1
    unfold F_X10_works_42
    rw [i1.1, ie0 (by omega)]
    by_cases z : (rdW B E 61).1.1 = 0
    · have ya := i2 z
      have haE := ya.2.2.2.2.1
      rw [if_pos z, ya.2.2.1, ya.2.2.2.2.2.1, ile (by omega) (by omega)]
      by_cases c : E ≤ (rdW B E 61).1.2.2
      · rw [if_pos c]
        exact fin 61 y (by omega) rw_61 i1 i3 (fun z => (i4 z).1)
      · exact absurd ⟨z, by omega⟩ (rw_61 (B := B) (E := E))
    · rw [if_neg z]
      exact fin 61 y (by omega) rw_61 i1 i3 (fun w => absurd w z)
