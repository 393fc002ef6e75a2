/-! works: the reference reads a clause -/
def RMd (m : zMem) (D : WD) : Prop := m.1 3 0 = nI (pW D.1) ∧ m.1 3 1 = nI (pH D.1) ∧ m.1 3 2 = nI (pn D.1) ∧ (∀ h, h < pn D.1 → m.1 (6 + (1 + 1 * h)) 0 = nI (psd D.1 h) ∧ m.1 (6 + (1 + 1 * h)) 1 = nI (prc D.1 h)) ∧ ∀ i, i < 192 → m.1 5 i = nI (D.2 i)
theorem TM.zt {x : zMem} {B : Nat → Nat} {E c j : Nat} {v : Int32} {P : PS} (h : TM x B E P) (h1 : 0 ≠ c) (h2 : 1 ≠ c) : TM (zI x c j v) B E P := by
  obtain ⟨a1, a2, a3, a4, a, a5, a6, a7⟩ := h
  exact ⟨by rw [zI_n h1]; exact a1, by rw [zI_n h1]; exact a2, by rw [zI_n h1]; exact a3, fun k hk => by rw [zI_n h2]; exact a4 k hk, a, a5, by rw [zI_n h1]; exact a6, a7⟩
theorem TM.z7 {x : zMem} {B : Nat → Nat} {E j : Nat} {v : Int32} {P : PS} (h : TM x B E P) (hj : 6 < j) : TM (zI x 0 j v) B E P := by
  obtain ⟨a1, a2, a3, a4, a, a5, a6, a7⟩ := h
  exact ⟨by rw [zI_s (by omega)]; exact a1, by rw [zI_s (by omega)]; exact a2, by rw [zI_s (by omega)]; exact a3, fun k hk => by rw [zI_n (by omega)]; exact a4 k hk, a, a5, by rw [zI_s (by omega)]; exact a6, a7⟩
def frD (m y : zMem) : Prop := (∀ c, c ≠ 0 → c ≠ 3 → c ≠ 5 → ¬ (6 < c ∧ c < 17) → y.1 c = m.1 c) ∧ (∀ j, j ≠ 4 → j ≠ 5 → j ≠ 6 → j ≠ 7 → y.1 0 j = m.1 0 j) ∧ y.2 = m.2
theorem frD.refl {x : zMem} : frD x x := ⟨fun _ _ _ _ _ => rfl, fun _ _ _ _ _ => rfl, rfl⟩
theorem frD.trans {x y z : zMem} (h : frD x y) (k : frD y z) : frD x z := ⟨fun c h1 h2 h3 h4 => (k.1 c h1 h2 h3 h4).trans (h.1 c h1 h2 h3 h4), fun j h1 h2 h3 h4 => (k.2.1 j h1 h2 h3 h4).trans (h.2.1 j h1 h2 h3 h4), k.2.2.trans h.2.2⟩
theorem frTM.d {x y : zMem} (h : frTM x y) : frD x y := ⟨fun c h1 _ _ _ => h.1 c h1, fun j h1 h2 h3 _ => h.2.1 j h1 h2 h3, h.2.2⟩
theorem frD.z {x : zMem} {c j : Nat} {v : Int32} (hc : c = 3 ∨ c = 5 ∨ (6 < c ∧ c < 17)) : frD x (zI x c j v) := ⟨fun a _ h1 h2 h3 => zI_n (by omega), fun i _ _ _ _ => by rw [zI_n (by omega)], rfl⟩
theorem frD.z7 {x : zMem} {v : Int32} : frD x (zI x 0 7 v) := ⟨fun a h _ _ _ => zI_n h, fun i _ _ _ h => zI_s h, rfl⟩
theorem frTM.rd {x y : zMem} {D : WD} (h : frTM x y) (w : RMd x D) : RMd y D := by
  obtain ⟨w1, w2, w3, w4, w5⟩ := w
  exact ⟨by rw [h.1 3 (by omega)]; exact w1, by rw [h.1 3 (by omega)]; exact w2, by rw [h.1 3 (by omega)]; exact w3, fun q hq => by rw [h.1 _ (by omega)]; exact w4 q hq, fun i hi => by rw [h.1 5 (by omega)]; exact w5 i hi⟩
theorem m_num {x : zMem} {B : Nat → Nat} {E lo hi : Nat} {P : PS} (ht : okT B E) (hP : P.1 ≤ 3) (hhi : hi ≤ 9999) (hlo : lo ≤ hi) (h : TM x B E P) :
    ∃ i y, F_X10_number x (nI lo) (nI hi) = some (nI i, y) ∧ i ≤ hi ∧ TM y B E (nuS B E lo hi P) ∧ frTM x y ∧ ((nuS B E lo hi P).1 = 0 → i = nuV B E P) := by
  obtain ⟨v, y, a1, a2, a3, a4, a5⟩ := m_number ht hP hhi (Nat.le_trans hlo hhi) h
  by_cases z : (nuS B E lo hi P).1 = 0
  · exact ⟨nuV B E P, y, by rw [a1, a4 z], (nu_0 z).2.2, a2, a3, fun _ => rfl⟩
  · exact ⟨0, y, by rw [a1, a5 z]; rfl, by omega, a2, a3, fun w => absurd w z⟩
theorem m_kindHere {m : zMem} {B : Nat → Nat} {E : Nat} {P : PS} (ht : okT B E) (hP : P.1 ≤ 3) (h : TM m B E P) :
    ∃ y, F_X10_kindHere m = some (if kdS B E P = 4 then -1 else nI (kdS B E P), y) ∧ TM y B E P ∧ frTM m y ∧ (P.1 = 0 → TMa y B E P P.2.2) := by
  obtain ⟨y1, a1, a2, a3, a4⟩ := m_isWord ht (by omega) (by omega) six_1 hP h
  obtain ⟨y2, b1, b2, b3, b4⟩ := m_isWord ht (by omega) (by omega) six_2 hP a2
  obtain ⟨y3, c1, c2, c3, c4⟩ := m_isWord ht (by omega) (by omega) six_3 hP b2
  obtain ⟨y4, d1, d2, d3, d4⟩ := m_isWord ht (by omega) (by omega) six_4 hP c2
  unfold F_X10_kindHere
  rw [a1, zb_some]
  dsimp only
  rw [ibI]
  by_cases w1 : isW 1 B E P = true
  · have kd : kdS B E P = 0 := by unfold kdS; rw [if_pos w1]
    rw [w1, if_neg (by decide), kd, if_neg (by decide)]
    exact ⟨y1, rfl, a2, a3, a4⟩
  rw [Bool.eq_false_iff.mpr w1, if_pos rfl, b1, zb_some]
  dsimp only
  rw [ibI]
  by_cases w2 : isW 2 B E P = true
  · have kd : kdS B E P = 1 := by unfold kdS; rw [if_neg w1, if_pos w2]
    rw [w2, if_neg (by decide), kd, if_neg (by decide)]
    exact ⟨y2, rfl, b2, a3.trans b3, b4⟩
  rw [Bool.eq_false_iff.mpr w2, if_pos rfl, c1, zb_some]
  dsimp only
  rw [ibI]
  by_cases w3 : isW 3 B E P = true
  · have kd : kdS B E P = 2 := by unfold kdS; rw [if_neg w1, if_neg w2, if_pos w3]
    rw [w3, if_neg (by decide), kd, if_neg (by decide)]
    exact ⟨y3, rfl, c2, a3.trans (b3.trans c3), c4⟩
  rw [Bool.eq_false_iff.mpr w3, if_pos rfl, d1, zb_some]
  dsimp only
  rw [ibI]
  by_cases w4 : isW 4 B E P = true
  · have kd : kdS B E P = 3 := by unfold kdS; rw [if_neg w1, if_neg w2, if_neg w3, if_pos w4]
    rw [w4, if_neg (by decide), kd, if_neg (by decide)]
    exact ⟨y4, rfl, d2, a3.trans (b3.trans (c3.trans d3)), d4⟩
  have kd : kdS B E P = 4 := by unfold kdS; rw [if_neg w1, if_neg w2, if_neg w3, if_neg w4]
  rw [Bool.eq_false_iff.mpr w4, if_pos rfl, kd, if_pos rfl]
  exact ⟨y4, rfl, d2, a3.trans (b3.trans (c3.trans d3)), d4⟩
/-- the end of a clause -/
theorem m_267 {m : zMem} {B : Nat → Nat} {E kd n : Nat} {R : PS} (ht : okT B E) (hR : okP B E R) (hk : kd ≤ 3) (h : TM m B E R) (h3 : m.1 3 2 = nI n) :
    ∃ y, F_X10_clause_267 (nI kd) m = some y ∧ TM y B E (sgS B E 59 R) ∧ (∀ c, c ≠ 0 → c ≠ 3 → y.1 c = m.1 c) ∧ (∀ j, j ≠ 2 → y.1 3 j = m.1 3 j) ∧ frD m y ∧ y.1 0 7 = m.1 0 7 ∧ ((sgS B E 59 R).1 = 0 → y.1 3 2 = nI (if kd = 1 then n + 1 else n)) := by
  obtain ⟨y1, a1, a2, a3⟩ := m_sign (c := 59) ht hR.1 (by omega) h
  have a2' : TM y1 B E (sgS B E 59 R) := a2
  have o1 : okP B E (sgS B E 59 R) := sg_ok hR (by decide)
  have h3' : y1.1 3 2 = nI n := by rw [a3.1 3 (by omega)]; exact h3
  have ho := o1.1
  have e296 : F_X10_clause_296 (2 : Int32) (nI n) y1 = some (zI y1 3 2 (nI n)) := by
    unfold F_X10_clause_296
    rw [show (2 : Int32) = nI 2 from rfl, gin_ok (by omega) (by decide), zl_eq, nI_clamp (by omega), show nI n + (0 : Int32) = nI n from Int32.add_zero _]
  have g : ∀ v, TM (zI y1 3 2 v) B E (sgS B E 59 R) ∧ (∀ c, c ≠ 0 → c ≠ 3 → (zI y1 3 2 v).1 c = m.1 c) ∧ (∀ j, j ≠ 2 → (zI y1 3 2 v).1 3 j = m.1 3 j) ∧ frD m (zI y1 3 2 v) ∧ (zI y1 3 2 v).1 0 7 = m.1 0 7 ∧ (zI y1 3 2 v).1 3 2 = v := fun v => by
    refine ⟨a2'.zt (by omega) (by omega), fun c h1 h2 => ?_, fun j hj => ?_, a3.d.trans (frD.z (Or.inl rfl)), ?_, ?_⟩
    · rw [zI_n h2]; exact a3.1 c h1
    · rw [zI_s hj, a3.1 3 (by omega)]
    · rw [zI_n (by omega)]; exact a3.2.1 7 (by omega) (by omega) (by omega)
    · rw [zI_1, upd_s]
  unfold F_X10_clause_267
  rw [show F_X10_sign m (59 : Int32) = _ from a1, zbv_some, a2'.1, ie0 (by omega), h3', e296]
  by_cases z : (sgS B E 59 R).1 = 0
  · rw [if_pos z, show (1 : Int32) = nI 1 from rfl, ieq (by omega) (by omega)]
    by_cases k1 : kd = 1
    · obtain ⟨g1, g2, g3, g4, g5, g6⟩ := g (nI (n + 1))
      rw [if_pos k1, if_pos k1, zl_eq, nI_add]
      exact ⟨_, rfl, g1, g2, g3, g4, g5, fun _ => g6⟩
    · obtain ⟨g1, g2, g3, g4, g5, g6⟩ := g (nI n)
      rw [if_neg k1, if_neg k1]
      exact ⟨_, rfl, g1, g2, g3, g4, g5, fun _ => g6⟩
  · obtain ⟨g1, g2, g3, g4, g5, g6⟩ := g (nI n)
    rw [if_neg z]
    exact ⟨_, rfl, g1, g2, g3, g4, g5, fun w => absurd w z⟩
theorem m_56 {m : zMem} {B : Nat → Nat} {E k kd : Nat} {P : PS} {D : WD} (ht : okT B E) (hP : okP B E P) (hz : P.1 = 0) (hk : k ≤ 60) (hkd : kd ≤ 3) (hD : pn D.1 ≤ 10) (hn : kd = 1 → pn D.1 < 10) (h : TMa m B E P P.2.2) (hd : RMd m D) (h7 : m.1 0 7 = nI k) :
    ∃ y, F_X10_clause_56 (nI kd) m = some y ∧ TM y B E (clF B E kd (wdS B E P)) ∧ frD m y ∧ ((clF B E kd (wdS B E P)).1 = 0 → RMd y (clD B E kd (wdS B E P) D) ∧ y.1 0 7 = nI (k + 1)) := by
  obtain ⟨y0, a1, a2, a3⟩ := m_skipWord ht h hz
  have oQ : okP B E (wdS B E P) := wd_ok hP
  have y7 : y0.1 0 7 = nI k := by rw [a3.2.1 7 (by omega) (by omega) (by omega)]; exact h7
  have hnil : m.1 0 5 = nI P.1 := h.1
  obtain ⟨y1, hy1⟩ : ∃ y1, y1 = zI y0 0 7 (nI (k + 1)) := ⟨_, rfl⟩
  have t1 : TM y1 B E (wdS B E P) := by rw [hy1]; exact a2.t.z7 (by omega)
  have f1 : frD m y1 := by rw [hy1]; exact a3.d.trans frD.z7
  have s7 : y1.1 0 7 = nI (k + 1) := by rw [hy1, zI_1, upd_s]
  have c1 : ∀ c, c ≠ 0 → y1.1 c = m.1 c := fun c hc => by rw [hy1, zI_n hc, a3.1 c hc]
  obtain ⟨v1, v2, v3, v4, v5⟩ := hd
  unfold F_X10_clause_56
  rw [hnil, hz, if_pos (show nI 0 = 0 from rfl), a1, zbv_some, zl_eq, y7, nI_1, ← hy1]
  obtain ⟨Q, hQ⟩ : ∃ Q, Q = wdS B E P := ⟨_, rfl⟩
  rw [← hQ] at t1 oQ ⊢
  rw [show (0 : Int32) = nI 0 from rfl, ieq (by omega) (by omega)]
  by_cases k0 : kd = 0
  · subst k0
    rw [if_pos rfl]
    obtain ⟨i, x3, e1, e2, e3, e4, e5⟩ := m_num (lo := 1) (hi := 8) ht oQ.1 (by omega) (by omega) t1
    have o2 : okP B E (nuS B E 1 8 Q) := nu_ok oQ
    obtain ⟨j, x4, g1, g2, g3, g4, g5⟩ := m_num (lo := 1) (hi := 8) ht o2.1 (by omega) (by omega) (e3.zt (c := 3) (j := 0) (v := nI i) (by omega) (by omega))
    have o3 : okP B E (nuS B E 1 8 (nuS B E 1 8 Q)) := nu_ok o2
    have s32 : (zI x4 3 1 (nI j)).1 3 2 = nI (pn D.1) := by rw [zI_s (by omega), g4.1 3 (by omega), zI_s (by omega), e4.1 3 (by omega), c1 3 (by omega)]; exact v3
    obtain ⟨x5, s1, s2, s3, s4, s5, s6, s7'⟩ := m_267 (kd := 0) ht o3 (by omega) (g3.zt (c := 3) (j := 1) (v := nI j) (by omega) (by omega)) s32
    rw [show F_X10_number y1 (1 : Int32) (8 : Int32) = _ from e1, zb_some]
    dsimp only
    rw [zl_eq, show F_X10_number (zI x3 3 0 (nI i)) (1 : Int32) (8 : Int32) = _ from g1, zb_some]
    dsimp only
    unfold F_X10_clause_108 F_X10_clause_153
    rw [zl_eq, if_neg (by decide), if_pos (by decide), s1]
    refine ⟨x5, rfl, s2, f1.trans (e4.d.trans ((frD.z (Or.inl rfl)).trans (g4.d.trans ((frD.z (Or.inl rfl)).trans s5)))), fun z => ⟨?_, ?_⟩⟩
    · have z2 : (nuS B E 1 8 (nuS B E 1 8 Q)).1 = 0 := sg_0 z
      have hi : i = nuV B E Q := e5 (nu_0 z2).1
      have hj : j = nuV B E (nuS B E 1 8 Q) := g5 z2
      have g : ∀ c, c ≠ 0 → c ≠ 3 → x5.1 c = m.1 c := fun c h1 h2 => by rw [s3 c h1 h2, zI_n h2, g4.1 c h1, zI_n h2, e4.1 c h1, c1 c h1]
      unfold clD
      rw [if_pos rfl]
      refine ⟨?_, ?_, ?_, fun q hq => ?_, fun p hp => ?_⟩
      · rw [s4 0 (by omega), zI_s (by omega), g4.1 3 (by omega), zI_1, upd_s, hi]; rfl
      · rw [s4 1 (by omega), zI_1, upd_s, hj]; rfl
      · rw [s7' z, if_neg (by decide)]; rfl
      · have hq' : q < pn D.1 := hq
        rw [g _ (by omega) (by omega)]; exact v4 q hq
      · rw [g 5 (by omega) (by omega)]; exact v5 p hp
    · rw [s6, zI_n (by omega), g4.2.1 7 (by omega) (by omega) (by omega), zI_n (by omega), e4.2.1 7 (by omega) (by omega) (by omega)]; exact s7
  rw [if_neg k0]
  unfold F_X10_clause_108
  rw [show (1 : Int32) = nI 1 from rfl, ieq (by omega) (by omega)]
  by_cases k1 : kd = 1
  · subst k1
    have hn' := hn rfl
    have y32 : y1.1 3 2 = nI (pn D.1) := by rw [c1 3 (by omega)]; exact v3
    obtain ⟨i, x3, e1, e2, e3, e4, e5⟩ := m_num (lo := 0) (hi := 7) ht oQ.1 (by omega) (by omega) t1
    have o2 : okP B E (nuS B E 0 7 Q) := nu_ok oQ
    have x32 : (zI x3 (6 + (1 + 1 * pn D.1)) 0 (nI i)).1 3 2 = nI (pn D.1) := by rw [zI_n (by omega), e4.1 3 (by omega)]; exact y32
    obtain ⟨j, x4, g1, g2, g3, g4, g5⟩ := m_num (lo := 0) (hi := 40) ht o2.1 (by omega) (by omega) (e3.zt (c := 6 + (1 + 1 * pn D.1)) (j := 0) (v := nI i) (by omega) (by omega))
    have o3 : okP B E (nuS B E 0 40 (nuS B E 0 7 Q)) := nu_ok o2
    have s32 : (zI x4 (6 + (1 + 1 * pn D.1)) 1 (nI j)).1 3 2 = nI (pn D.1) := by rw [zI_n (by omega), g4.1 3 (by omega)]; exact x32
    obtain ⟨x5, s1, s2, s3, s4, s5, s6, s7'⟩ := m_267 (kd := 1) ht o3 (by omega) (g3.zt (c := 6 + (1 + 1 * pn D.1)) (j := 1) (v := nI j) (by omega) (by omega)) s32
    rw [if_pos rfl, y32, gin_ok (by omega) (by decide), show F_X10_number y1 (0 : Int32) (7 : Int32) = _ from e1, zb_some]
    dsimp only
    rw [zl_eq, nI_clamp (by omega), x32, gin_ok (by omega) (by decide), show F_X10_number (zI x3 (6 + (1 + 1 * pn D.1)) 0 (nI i)) (0 : Int32) (40 : Int32) = _ from g1, zb_some]
    dsimp only
    unfold F_X10_clause_153
    rw [zl_eq, nI_clamp (by omega), if_pos (by decide), s1]
    refine ⟨x5, rfl, s2, f1.trans (e4.d.trans ((frD.z (by omega)).trans (g4.d.trans ((frD.z (by omega)).trans s5)))), fun z => ⟨?_, ?_⟩⟩
    · have z2 : (nuS B E 0 40 (nuS B E 0 7 Q)).1 = 0 := sg_0 z
      have hi : i = nuV B E Q := e5 (nu_0 z2).1
      have hj : j = nuV B E (nuS B E 0 7 Q) := g5 z2
      have g : ∀ c, c ≠ 0 → c ≠ 3 → c ≠ 6 + (1 + 1 * pn D.1) → x5.1 c = m.1 c := fun c h1 h2 h3 => by rw [s3 c h1 h2, zI_n h3, g4.1 c h1, zI_n h3, e4.1 c h1, c1 c h1]
      unfold clD
      rw [if_neg (by decide), if_pos rfl]
      refine ⟨?_, ?_, ?_, fun q hq => ?_, fun p hp => ?_⟩
      · rw [s4 0 (by omega), zI_n (by omega), g4.1 3 (by omega), zI_n (by omega), e4.1 3 (by omega), c1 3 (by omega)]; exact v1
      · rw [s4 1 (by omega), zI_n (by omega), g4.1 3 (by omega), zI_n (by omega), e4.1 3 (by omega), c1 3 (by omega)]; exact v2
      · rw [s7' z, if_pos rfl]; rfl
      · have hq' : q < pn D.1 + 1 := hq
        show _ = nI (upN (psd D.1) (pn D.1) (nuV B E Q) q) ∧ _ = nI (upN (prc D.1) (pn D.1) (nuV B E (nuS B E 0 7 Q)) q)
        by_cases c : q = pn D.1
        · rw [c, upN_s, upN_s, s3 _ (by omega) (by omega), zI_s (by omega), g4.1 _ (by omega), zI_1, upd_s, zI_1, upd_s, hi, hj]; exact ⟨rfl, rfl⟩
        · rw [upN_n c, upN_n c, g _ (by omega) (by omega) (by omega)]; exact v4 q (by omega)
      · rw [g 5 (by omega) (by omega) (by omega)]; exact v5 p hp
    · rw [s6, zI_n (by omega), g4.2.1 7 (by omega) (by omega) (by omega), zI_n (by omega), e4.2.1 7 (by omega) (by omega) (by omega)]; exact s7
  rw [if_neg k1]
  unfold F_X10_clause_153
  rw [show (1 : Int32) = nI 1 from rfl, ile (by omega) (by omega), if_neg (by omega)]
  obtain ⟨a, x1, p1, p2, p3, p4, p5⟩ := m_num (lo := 0) (hi := 7) ht oQ.1 (by omega) (by omega) t1
  have oa : okP B E (nuS B E 0 7 Q) := nu_ok oQ
  obtain ⟨b, x2, r1, r2, r3, r4, r5⟩ := m_num (lo := 0) (hi := 7) ht oa.1 (by omega) (by omega) p3
  have ob : okP B E (nuS B E 0 7 (nuS B E 0 7 Q)) := nu_ok oa
  have c2 : ∀ c, c ≠ 0 → x2.1 c = m.1 c := fun c hc => by rw [r4.1 c hc, p4.1 c hc, c1 c hc]
  have f2 : frD m x2 := f1.trans (p4.d.trans r4.d)
  have s72 : x2.1 0 7 = nI (k + 1) := by rw [r4.2.1 7 (by omega) (by omega) (by omega), p4.2.1 7 (by omega) (by omega) (by omega)]; exact s7
  have hpp : (8 : Int32) * nI b + nI a = nI (8 * b + a) := by rw [show (8 : Int32) = nI 8 from rfl, pk_mul, nI_add]
  have hcp : (nuS B E 0 7 (nuS B E 0 7 Q)).1 = 0 → 8 * b + a = cpV B E Q := fun z => by
    rw [r5 z, p5 (nu_0 z).1]; rfl
  rw [show F_X10_number y1 (0 : Int32) (7 : Int32) = _ from p1, zb_some]
  dsimp only
  rw [show F_X10_number x1 (0 : Int32) (7 : Int32) = _ from r1, zb_some]
  dsimp only
  by_cases k2 : kd = 2
  · subst k2
    obtain ⟨i, x3, e1, e2, e3, e4, e5⟩ := m_num (lo := 0) (hi := 999) ht ob.1 (by omega) (by omega) r3
    have o2 : okP B E (nuS B E 0 999 (nuS B E 0 7 (nuS B E 0 7 Q))) := nu_ok ob
    obtain ⟨j, x4, g1, g2, g3, g4, g5⟩ := m_num (lo := 0) (hi := 999) ht o2.1 (by omega) (by omega) e3
    have o3 : okP B E (nuS B E 0 999 (nuS B E 0 999 (nuS B E 0 7 (nuS B E 0 7 Q)))) := nu_ok o2
    have ho3 := o3.1
    have c4 : ∀ c, c ≠ 0 → x4.1 c = m.1 c := fun c hc => by rw [g4.1 c hc, e4.1 c hc, c2 c hc]
    have f4 : frD m x4 := f2.trans (e4.d.trans g4.d)
    have s74 : x4.1 0 7 = nI (k + 1) := by rw [g4.2.1 7 (by omega) (by omega) (by omega), e4.2.1 7 (by omega) (by omega) (by omega)]; exact s72
    unfold F_X10_clause_186 F_X10_clause_211
    rw [if_pos (by decide), show F_X10_number x2 (0 : Int32) (999 : Int32) = _ from e1, zb_some]
    dsimp only
    rw [if_pos (by decide), show F_X10_number x3 (0 : Int32) (999 : Int32) = _ from g1, zb_some]
    dsimp only
    rw [g3.1, ie0 (by omega)]
    by_cases z : (nuS B E 0 999 (nuS B E 0 999 (nuS B E 0 7 (nuS B E 0 7 Q)))).1 = 0
    · have z2 := (nu_0 z).1
      have z1 := (nu_0 z2).1
      have hi : i = nuV B E (nuS B E 0 7 (nuS B E 0 7 Q)) := e5 z2
      have hj : j = nuV B E (nuS B E 0 999 (nuS B E 0 7 (nuS B E 0 7 Q))) := g5 z
      have hp := hcp z1
      obtain ⟨p, hpd⟩ : ∃ p, p = 8 * b + a := ⟨_, rfl⟩
      have hp64 : p < 64 := by rw [hpd]; omega
      unfold F_X10_clause_244
      rw [if_pos z, zl_eq, if_pos (by decide), hpp, ← hpd, show (0 : Int32) + nI p = nI p from Int32.zero_add _, gin_ok (by omega) (by decide), zl_eq, nI_clamp (by omega), if_pos (by decide), show (64 : Int32) = nI 64 from rfl, nI_add, gin_ok (by omega) (by decide), zl_eq, nI_clamp (by omega)]
      have s32 : (zI (zI x4 5 p (nI i)) 5 (64 + p) (nI j)).1 3 2 = nI (pn D.1) := by rw [zI_n (by omega), zI_n (by omega), c4 3 (by omega)]; exact v3
      obtain ⟨x5, s1, s2, s3, s4, s5, s6, s7'⟩ := m_267 (kd := 2) ht o3 (by omega) ((g3.zt (c := 5) (j := p) (v := nI i) (by omega) (by omega)).zt (c := 5) (j := 64 + p) (v := nI j) (by omega) (by omega)) s32
      rw [s1]
      refine ⟨x5, rfl, s2, f4.trans ((frD.z (by omega)).trans ((frD.z (by omega)).trans s5)), fun zz => ⟨?_, ?_⟩⟩
      · unfold clD
        rw [if_neg (by decide), if_neg (by decide), if_pos rfl, ← hp, ← hpd, ← hi, ← hj]
        refine ⟨?_, ?_, ?_, fun q hq => ?_, fun q hq => ?_⟩
        · rw [s4 0 (by omega), zI_n (by omega), zI_n (by omega), c4 3 (by omega)]; exact v1
        · rw [s4 1 (by omega), zI_n (by omega), zI_n (by omega), c4 3 (by omega)]; exact v2
        · rw [s7' zz, if_neg (by decide)]
        · have hq' : q < pn D.1 := hq
          rw [s3 _ (by omega) (by omega), zI_n (by omega), zI_n (by omega), c4 _ (by omega)]; exact v4 q hq
        · rw [s3 5 (by omega) (by omega), zI_1, zI_1, c4 5 (by omega)]
          dsimp only
          by_cases cc : q = 64 + p
          · rw [cc, upd_s, upN_s]
          · rw [upd_n cc, upN_n cc]
            by_cases cd : q = p
            · rw [cd, upd_s, upN_s]
            · rw [upd_n cd, upN_n cd]; exact v5 q hq
      · rw [s6, zI_n (by omega), zI_n (by omega)]; exact s74
    · rw [if_neg z]
      obtain ⟨x5, s1, s2, s3, s4, s5, s6, s7'⟩ := m_267 (kd := 2) ht o3 (by omega) g3 (by rw [c4 3 (by omega)]; exact v3)
      rw [s1]
      exact ⟨x5, rfl, s2, f4.trans s5, fun zz => absurd (sg_0 zz) z⟩
  · have k3 : kd = 3 := by omega
    subst k3
    obtain ⟨i, x4, e1, e2, e3, e4, e5⟩ := m_num (lo := 1) (hi := 999) ht ob.1 (by omega) (by omega) r3
    have o3 : okP B E (nuS B E 1 999 (nuS B E 0 7 (nuS B E 0 7 Q))) := nu_ok ob
    have ho3 := o3.1
    have c4 : ∀ c, c ≠ 0 → x4.1 c = m.1 c := fun c hc => by rw [e4.1 c hc, c2 c hc]
    have f4 : frD m x4 := f2.trans e4.d
    have s74 : x4.1 0 7 = nI (k + 1) := by rw [e4.2.1 7 (by omega) (by omega) (by omega)]; exact s72
    unfold F_X10_clause_186 F_X10_clause_211
    rw [if_neg (by decide), show F_X10_number x2 (nI 1) (999 : Int32) = _ from e1, zb_some]
    dsimp only
    rw [if_neg (by decide), e3.1, ie0 (by omega)]
    by_cases z : (nuS B E 1 999 (nuS B E 0 7 (nuS B E 0 7 Q))).1 = 0
    · have z1 := (nu_0 z).1
      have hi : i = nuV B E (nuS B E 0 7 (nuS B E 0 7 Q)) := e5 z
      have hp := hcp z1
      obtain ⟨p, hpd⟩ : ∃ p, p = 8 * b + a := ⟨_, rfl⟩
      have hp64 : p < 64 := by rw [hpd]; omega
      unfold F_X10_clause_244
      rw [if_pos z, zl_eq, if_neg (by decide), hpp, ← hpd, show (128 : Int32) = nI 128 from rfl, nI_add, gin_ok (by omega) (by decide), zl_eq, nI_clamp (by omega), if_neg (by decide)]
      have s32 : (zI x4 5 (128 + p) (nI i)).1 3 2 = nI (pn D.1) := by rw [zI_n (by omega), c4 3 (by omega)]; exact v3
      obtain ⟨x5, s1, s2, s3, s4, s5, s6, s7'⟩ := m_267 (kd := 3) ht o3 (by omega) (e3.zt (c := 5) (j := 128 + p) (v := nI i) (by omega) (by omega)) s32
      rw [s1]
      refine ⟨x5, rfl, s2, f4.trans ((frD.z (by omega)).trans s5), fun zz => ⟨?_, ?_⟩⟩
      · unfold clD
        rw [if_neg (by decide), if_neg (by decide), if_neg (by decide), ← hp, ← hpd, ← hi]
        refine ⟨?_, ?_, ?_, fun q hq => ?_, fun q hq => ?_⟩
        · rw [s4 0 (by omega), zI_n (by omega), c4 3 (by omega)]; exact v1
        · rw [s4 1 (by omega), zI_n (by omega), c4 3 (by omega)]; exact v2
        · rw [s7' zz, if_neg (by decide)]
        · have hq' : q < pn D.1 := hq
          rw [s3 _ (by omega) (by omega), zI_n (by omega), c4 _ (by omega)]; exact v4 q hq
        · rw [s3 5 (by omega) (by omega), zI_1, c4 5 (by omega)]
          dsimp only
          by_cases cc : q = 128 + p
          · rw [cc, upd_s, upN_s]
          · rw [upd_n cc, upN_n cc]; exact v5 q hq
      · rw [s6, zI_n (by omega)]; exact s74
    · rw [if_neg z]
      obtain ⟨x5, s1, s2, s3, s4, s5, s6, s7'⟩ := m_267 (kd := 3) ht o3 (by omega) e3 (by rw [c4 3 (by omega)]; exact v3)
      rw [s1]
      exact ⟨x5, rfl, s2, f4.trans s5, fun zz => absurd (sg_0 zz) z⟩
theorem m_clause {m : zMem} {B : Nat → Nat} {E k : Nat} {P : PS} {D : WD} (ht : okT B E) (hP : okP B E P) (hz : P.1 = 0) (hk : k ≤ 60) (hD : pn D.1 ≤ 10) (h : TM m B E P) (hd : RMd m D) (h7 : m.1 0 7 = nI k) :
    ∃ y, F_X10_clause m = some y ∧ TM y B E (clS B E k P D).1 ∧ frD m y ∧ ((clS B E k P D).1.1 = 0 → RMd y (clS B E k P D).2 ∧ y.1 0 7 = nI (k + 1)) := by
  obtain ⟨y1, a1, a2, a3, a4⟩ := m_kindHere ht hP.1 h
  have ta := a4 hz
  have d1 : RMd y1 D := a3.rd hd
  have s7 : y1.1 0 7 = nI k := by rw [a3.2.1 7 (by omega) (by omega) (by omega)]; exact h7
  have kd5 : kdS B E P ≤ 4 := by unfold kdS; split <;> (try split) <;> (try split) <;> (try split) <;> omega
  have stop : ∀ (kd : Int32) (c : Nat) (y : zMem), c ≠ 0 → c ≤ 3 → TM y B E (flS c (nI P.2.2) P) → F_X10_clause_56 kd y = some y := fun kd c y h1 h3 h2 => by
    unfold F_X10_clause_56
    rw [h2.1, ie0 (by have := (fl_ok (v := nI P.2.2) hP h3 h1).1; omega), if_neg (fl_n h1)]
  have bad : ∀ c, c ≠ 0 → c ≤ 3 → (clF B E (kdS B E P) (flS c (nI P.2.2) P)) = flS c (nI P.2.2) P := fun c h1 _ => clF_st (fl_n h1)
  unfold F_X10_clause clS clP
  rw [a1, zb_some]
  dsimp only
  by_cases k4 : kdS B E P = 4
  · obtain ⟨y2, b1, b2, b3⟩ := m_wrong (c := 1) (v := y1.1 0 4) a2 hP.1 (by decide)
    rw [ta.2.2.2.2.2.1] at b1 b2
    rw [if_pos k4, if_pos rfl, if_pos k4, ta.2.2.2.2.2.1, show F_X10_wrong y1 (1 : Int32) (nI P.2.2) = _ from b1, zbv_some, stop _ 1 y2 (by decide) (by decide) b2, bad 1 (by decide) (by decide)]
    exact ⟨y2, rfl, b2, a3.d.trans b3.d, fun z => absurd z (fl_n (by decide))⟩
  · rw [if_neg k4, if_neg (by rw [ya_ne_m1 (by omega)]; exact id), if_neg k4, s7, show (60 : Int32) = nI 60 from rfl, ieq (by omega) (by omega)]
    have lim : F_X10_clause_47 (nI (kdS B E P)) y1 = F_X10_clause_47 (nI (kdS B E P)) y1 := rfl
    have l47 : ∃ y2, F_X10_clause_47 (nI (kdS B E P)) y1 = some y2 ∧ TM y2 B E (flS 3 (nI P.2.2) P) ∧ frD m y2 := by
      obtain ⟨y2, b1, b2, b3⟩ := m_wrong (c := 3) (v := y1.1 0 4) a2 hP.1 (by decide)
      rw [ta.2.2.2.2.2.1] at b1 b2
      unfold F_X10_clause_47
      rw [ta.2.2.2.2.2.1, show F_X10_wrong y1 (3 : Int32) (nI P.2.2) = _ from b1, zbv_some, stop _ 3 y2 (by decide) (by decide) b2]
      exact ⟨y2, rfl, b2, a3.d.trans b3.d⟩
    obtain ⟨y2, l1, l2, l3⟩ := l47
    have limit : (60 ≤ k ∨ (kdS B E P = 1 ∧ 10 ≤ pn D.1)) → ∃ y, some y2 = some y ∧ TM y B E (clF B E (kdS B E P) (if 60 ≤ k ∨ (kdS B E P = 1 ∧ 10 ≤ pn D.1) then flS 3 (nI P.2.2) P else wdS B E P)) ∧ frD m y ∧ ((clF B E (kdS B E P) (if 60 ≤ k ∨ (kdS B E P = 1 ∧ 10 ≤ pn D.1) then flS 3 (nI P.2.2) P else wdS B E P)).1 = 0 → RMd y (clD B E (kdS B E P) (if 60 ≤ k ∨ (kdS B E P = 1 ∧ 10 ≤ pn D.1) then flS 3 (nI P.2.2) P else wdS B E P) D) ∧ y.1 0 7 = nI (k + 1)) := fun c => by
      rw [if_pos c, bad 3 (by decide) (by decide)]
      exact ⟨y2, rfl, l2, l3, fun z => absurd z (fl_n (by decide))⟩
    have free : ¬ (60 ≤ k ∨ (kdS B E P = 1 ∧ 10 ≤ pn D.1)) → ∃ y, F_X10_clause_56 (nI (kdS B E P)) y1 = some y ∧ TM y B E (clF B E (kdS B E P) (if 60 ≤ k ∨ (kdS B E P = 1 ∧ 10 ≤ pn D.1) then flS 3 (nI P.2.2) P else wdS B E P)) ∧ frD m y ∧ ((clF B E (kdS B E P) (if 60 ≤ k ∨ (kdS B E P = 1 ∧ 10 ≤ pn D.1) then flS 3 (nI P.2.2) P else wdS B E P)).1 = 0 → RMd y (clD B E (kdS B E P) (if 60 ≤ k ∨ (kdS B E P = 1 ∧ 10 ≤ pn D.1) then flS 3 (nI P.2.2) P else wdS B E P) D) ∧ y.1 0 7 = nI (k + 1)) := fun c => by
      rw [if_neg c]
      obtain ⟨y, q1, q2, q3, q4⟩ := m_56 (kd := kdS B E P) ht hP hz hk (by omega) hD (fun w => by omega) ta d1 s7
      exact ⟨y, q1, q2, a3.d.trans q3, q4⟩
    by_cases c60 : k = 60
    · rw [if_pos c60, l1]
      exact limit (Or.inl (by omega))
    · rw [if_neg c60, show (1 : Int32) = nI 1 from rfl, ieq (by omega) (by omega)]
      by_cases c1 : kdS B E P = 1
      · rw [if_pos c1, d1.2.2.1, show (10 : Int32) = nI 10 from rfl, ieq (by omega) (by omega)]
        by_cases c10 : pn D.1 = 10
        · rw [if_pos c10, l1]
          exact limit (Or.inr ⟨c1, by omega⟩)
        · rw [if_neg c10]
          exact free (by omega)
      · rw [if_neg c1]
        exact free (by omega)
