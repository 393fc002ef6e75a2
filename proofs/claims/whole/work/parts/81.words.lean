/-! words -/
theorem isLt_of {B : Nat → Nat} {E a k : Nat} (h : a ≤ E) (h1 : a ≤ k) (h2 : k < wE B E a) : isLt B E k = true := by
  have hp := wE_p (B := B) h
  have := hp.2.2.1 k h1 h2
  unfold isLt
  rw [decide_eq_true (by omega), decide_eq_true this.1, decide_eq_true this.2]; rfl
theorem x_word {x : zMem} {B : Nat → Nat} {E : Nat} {P : PS} (ht : okT B E) (hP : P.1 ≤ 3) (h : TX x B E P) :
    ∃ y, F_X8_word x 1 = some y ∧ TX y B E (wdS B E P) ∧ frTX x y ∧ (P.1 = 0 → y.1 1 4 = nI P.2.2 ∧ y.1 1 7 = nI (wE B E P.2.2) ∧ P.2.2 ≤ wE B E P.2.2 ∧ wE B E P.2.2 ≤ E) := by
  have hE := ht.1
  obtain ⟨a, ha⟩ := h.a
  have haE := ha.2.2.2.2.1
  obtain ⟨y, y1, y2, y3⟩ := x_skipBlanks ht ha
  have hw : wp (F_X8_word x 1) (fun s => TX s B E (wdS B E P) ∧ frTX x s ∧ (P.1 = 0 → s.1 1 4 = nI P.2.2 ∧ s.1 1 7 = nI (wE B E P.2.2) ∧ P.2.2 ≤ wE B E P.2.2 ∧ wE B E P.2.2 ≤ E)) := by
    unfold F_X8_word wdS
    rw [y1, zbv_some, zl_eq, y2.2.2.2.2.2.1]
    have z2 := y2.at45 (j := 4) (v := nI (sk B E a)) (Or.inl rfl)
    have z3 : frTX x (zI y 1 4 (nI (sk B E a))) := y3.x.trans (frTX.s (by omega))
    have z4 : (zI y 1 4 (nI (sk B E a))).1 1 4 = nI (sk B E a) := by rw [zI_1, upd_s]
    have zat := fun z => (TXa.at y2 haE z).1
    generalize zI y 1 4 (nI (sk B E a)) = s0 at z2 z3 z4
    by_cases z : P.1 = 0
    · rw [if_pos z]
      have hz := zat z
      rw [hz] at z2 z4
      have hp := wE_p (B := B) z2.2.2.2.2.1
      refine loopN (F_X8_word_12 _) (fun g k (s : zMem) => g s) 601 (fun k s => P.2.2 + k ≤ wE B E P.2.2 ∧ TXa s B E (0, P.2.1, sk B E (P.2.2 + k)) (P.2.2 + k) ∧ s.1 1 4 = nI P.2.2 ∧ frTX x s) _ (fun g k s hk hI ih => ?_) (fun g s hI => ?_) (k := 0) (s := s0) (by omega) ⟨hp.1, ⟨by rw [z2.1, z], z2.2.1, z2.2.2.1, z2.2.2.2.1, z2.2.2.2.2.1, z2.2.2.2.2.2.1, fun _ => rfl⟩, z4, z3⟩ (by omega)
      · obtain ⟨i1, i2, i3, i4⟩ := hI
        try dsimp only at i1 i2 i3 i4 ih ⊢
        have fin : isLt B E (P.2.2 + k) = false → wp (some s) (fun s => TX s B E (0, P.2.1, sk B E (wE B E P.2.2)) ∧ frTX x s ∧ (P.1 = 0 → s.1 1 4 = nI P.2.2 ∧ s.1 1 7 = nI (wE B E P.2.2) ∧ P.2.2 ≤ wE B E P.2.2 ∧ wE B E P.2.2 ≤ E)) := fun hl => by
          have e : wE B E P.2.2 = P.2.2 + k := by
            refine Nat.le_antisymm (Nat.le_of_not_lt (fun w => ?_)) i1
            have := isLt_of z2.2.2.2.2.1 (k := P.2.2 + k) (by omega) w
            rw [hl] at this
            cases this
          rw [wp_some, e]
          exact ⟨i2.t, i4, fun _ => ⟨i3, i2.2.2.2.2.2.1, by omega, i2.2.2.2.2.1⟩⟩
        unfold F_X8_word_12
        rw [i2.2.2.1, i2.2.2.2.2.2.1, ile (by omega) (by omega)]
        by_cases c : E ≤ P.2.2 + k
        · rw [if_pos c]
          exact fin (by unfold isLt; rw [decide_eq_false (by omega)]; rfl)
        · rw [if_neg c, x_peek ht i2, zb_some]
          dsimp only
          rw [x_isLetter ht, zb_some]
          dsimp only
          rw [ibI]
          cases hl : isLt B E (P.2.2 + k)
          · rw [if_pos rfl]
            exact fin hl
          · rw [if_neg (by decide), i2.1, if_pos (show nI ((0, P.2.1, sk B E (P.2.2 + k)) : PS).1 = 0 from rfl), zl_eq, i2.2.2.2.2.2.1, nI_1]
            have hlt : P.2.2 + k < wE B E P.2.2 := by
              refine Nat.lt_of_le_of_ne i1 (fun w => ?_)
              rw [w, hp.2.2.2] at hl
              cases hl
            have g := i2.2
            obtain ⟨q1, q2, q3, q4, q5, q6⟩ := g
            refine ih _ ⟨by omega, ⟨?_, ?_, ?_, fun j hj => ?_, by omega, ?_, fun _ => rfl⟩, ?_, i4.trans (frTX.s (by omega))⟩
            · rw [zI_s (by omega)]; exact i2.1
            · rw [zI_s (by omega)]; exact q1
            · rw [zI_s (by omega)]; exact q2
            · rw [zI_n (by omega)]; exact q3 j hj
            · rw [zI_1, upd_s]; rfl
            · rw [zI_s (by omega)]; exact i3
      · obtain ⟨i1, i2, _⟩ := hI
        have := i2.2.2.2.2.1
        omega
    · rw [if_neg z]
      have hsE := z2.2.2.2.2.1
      have hres : TX s0 B E P ∧ frTX x s0 ∧ (P.1 = 0 → s0.1 1 4 = nI P.2.2 ∧ s0.1 1 7 = nI (wE B E P.2.2) ∧ P.2.2 ≤ wE B E P.2.2 ∧ wE B E P.2.2 ≤ E) := ⟨z2.t, z3, fun w => absurd w z⟩
      refine loopN (F_X8_word_12 _) (fun g k (s : zMem) => g s) 1 (fun k s => s = s0) _ (fun g k s hk hI ih => ?_) (fun g s hI => ?_) (k := 0) (s := s0) (by omega) rfl (by omega)
      all_goals
        try dsimp only at hI ⊢
        subst hI
        unfold F_X8_word_12
        rw [z2.2.2.1, z2.2.2.2.2.2.1, ile (by omega) (by omega)]
        by_cases c : E ≤ sk B E a
        · rw [if_pos c, wp_some]; exact hres
        · rw [if_neg c, x_peek ht z2, zb_some]
          dsimp only
          rw [x_isLetter ht, zb_some]
          dsimp only
          rw [ibI]
          cases isLt B E (sk B E a)
          · rw [if_pos rfl, wp_some]; exact hres
          · rw [if_neg (by decide), z2.1, ie0 (by omega), if_neg z, wp_some]; exact hres
  exact hw
theorem x_wordIs {x : zMem} {B : Nat → Nat} {E i a e : Nat} {Q : PS} (ht : okT B E) (h1 : 1 ≤ i) (h2 : i < 19) (h : TX x B E Q) (hQ : Q.1 ≤ 3) (h4 : Q.1 = 0 → x.1 1 4 = nI a ∧ x.1 1 7 = nI e ∧ a ≤ e ∧ e ≤ E) :
    F_X8_wordIs x 1 i = some (bI (decide (Q.1 = 0) && isWd i B a (e - a)), x) := by
  have hE := ht.1
  obtain ⟨w1, w2⟩ := wd_all ⟨i, h2⟩ h1
  dsimp only at w1
  generalize hL : zLen.getD i 0 = L at w1
  obtain ⟨g1, g2, g3, g4, _⟩ := h
  unfold F_X8_wordIs
  rw [g1, ie0 (by omega)]
  by_cases z : Q.1 = 0
  · obtain ⟨k1, k2, k3, k4⟩ := h4 z
    rw [if_pos z, decide_eq_true z, Bool.true_and, k1, k2, pk_sub k3, hL, ieq (by omega) (by omega)]
    unfold isWd
    rw [hL]
    by_cases c : L = e - a
    · rw [if_pos c, decide_eq_true c.symm, Bool.true_and]
      have hw : wp (itF (fun _ _ => none) (F_X8_wordIs_27 1 i) zFuel (nI 0) x) (fun q => q = (bI (!anyN (fun k => decide (nI (B (a + k)) ≠ zCh i k)) (e - a)), x)) := by
        refine loopN (F_X8_wordIs_27 _ _) (fun g k (_ : Unit) => g (nI k) x) L (fun k _ => ∀ j, j < k → nI (B (a + j)) = zCh i j) _ (fun g k _ hk hI ih => ?_) (fun g _ hI => ?_) (k := 0) (s := ()) (by omega) (fun j hj => absurd hj (Nat.not_lt_zero _)) (by omega)
        · try dsimp only at hI ih ⊢
          unfold F_X8_wordIs_27
          rw [hL, ile (by omega) (by omega), if_neg (by omega), zl_eq, k1, nI_add, if_neg (by rw [ya_0, nI_ltI (by omega) (by omega)]; omega), ile (by omega) (by omega), if_neg (by omega), gin_ok (by omega) (by decide), gin_ok hk (by omega), nI_clamp (by omega), nI_clamp (by omega), g4 (a + k) (by omega), nI_1]
          by_cases d : nI (B (a + k)) = zCh i k
          · rw [if_pos d]
            refine ih () (fun j hj => ?_)
            by_cases cj : j = k
            · rw [cj]; exact d
            · exact hI j (by omega)
          · rw [if_neg d, wp_some, anyN_yes (k := k) (by omega) (decide_eq_true d)]; rfl
        · try dsimp only at hI ⊢
          unfold F_X8_wordIs_27
          rw [hL, if_pos (Int32.le_refl _), wp_some, anyN_no (fun k hk => decide_eq_false (fun w => w (hI k (by omega))))]; rfl
      obtain ⟨q, q1, q2⟩ := hw
      rw [q2] at q1
      exact q1
    · rw [if_neg c, decide_eq_false (fun w => c w.symm), Bool.false_and]; rfl
  · rw [if_neg z, decide_eq_false z, Bool.false_and]; rfl
theorem m_wordHere {x : zMem} {B : Nat → Nat} {E : Nat} {P : PS} (ht : okT B E) (h : TM x B E P) (z : P.1 = 0) :
    ∃ y, F_X10_wordHere x = some (if wE B E P.2.2 - P.2.2 ≤ 6 then nI (vaW (fun k => B (P.2.2 + k) - 96) (wE B E P.2.2 - P.2.2)) else -1, y) ∧ TMa y B E P P.2.2 ∧ frTM x y := by
  have hE := ht.1
  obtain ⟨y, y1, y2, y3, y4⟩ := m_rest ht h
  have ya := y4 z
  have haE := ya.2.2.2.2.1
  have hp := wE_p (B := B) haE
  refine ⟨y, ?_, ya, y3⟩
  unfold F_X10_wordHere
  rw [y1, zbv_some]
  have hw : wp (itF (fun _ _ _ => none) F_X10_wordHere_8 zFuel (nI 0) (nI 0) y) (fun q => q = (if wE B E P.2.2 - P.2.2 ≤ 6 then nI (vaW (fun k => B (P.2.2 + k) - 96) (wE B E P.2.2 - P.2.2)) else -1, y)) := by
    have hbd : ∀ j, j ≤ wE B E P.2.2 - P.2.2 → j ≤ 6 → vaW (fun k => B (P.2.2 + k) - 96) j < 27 ^ j := fun j h1 _ => vaW_le (fun k hk => by have := hp.2.2.1 (P.2.2 + k) (by omega) (by omega); omega)
    refine loopN F_X10_wordHere_8 (fun g j (_ : Unit) => g (nI (vaW (fun k => B (P.2.2 + k) - 96) (min j 6))) (nI j) y) (wE B E P.2.2 - P.2.2) (fun _ _ => True) _ (fun g j _ hj hI ih => ?_) (fun g _ hI => ?_) (k := 0) (s := ()) (by omega) trivial (by omega)
    · try dsimp only at ih ⊢
      have hl := isLt_of (B := B) haE (k := P.2.2 + j) (by omega) (by omega)
      have hb := hp.2.2.1 (P.2.2 + j) (by omega) (by omega)
      unfold F_X10_wordHere_8 F_X10_wordHere_54
      rw [ya.2.2.2.2.2.1, nI_add, m_byteAt ht ya (by omega), zb_some]
      dsimp only
      rw [m_isSmall ht, zb_some]
      dsimp only
      rw [ibI, hl, if_neg (by decide), show (6 : Int32) = nI 6 from rfl, ile (by omega) (by omega), nI_1]
      by_cases c : 6 ≤ j
      · rw [if_pos c, show min j 6 = min (j + 1) 6 by omega]
        exact ih () trivial
      · rw [if_neg c, ya.2.2.2.2.2.1, nI_add, m_byteAt ht ya (by omega), zb_some]
        dsimp only
        have h5 := hbd j (by omega) (by omega)
        have h6 : 27 ^ j ≤ 27 ^ 5 := Nat.pow_le_pow_right (by decide) (by omega)
        have h7 : (27 : Nat) ^ 5 = 14348907 := by decide
        have e1 : (27 : Int32) * nI (vaW (fun k => B (P.2.2 + k) - 96) (min j 6)) + byS B E (P.2.2 + j) - (97 : Int32) + (1 : Int32) = nI (vaW (fun k => B (P.2.2 + k) - 96) (min (j + 1) 6)) := by
          unfold byS
          rw [if_pos (by omega), show (27 : Int32) = nI 27 from rfl, show (97 : Int32) = nI 97 from rfl, pk_mul, nI_add, pk_sub (by omega), nI_1, show min j 6 = j by omega, show min (j + 1) 6 = j + 1 by omega, vaW_s]
          congr 1
          omega
        rw [e1]
        exact ih () trivial
    · try dsimp only at hI ⊢
      have hno : isLt B E (P.2.2 + (wE B E P.2.2 - P.2.2)) = false := by rw [show P.2.2 + (wE B E P.2.2 - P.2.2) = wE B E P.2.2 by omega]; exact hp.2.2.2
      unfold F_X10_wordHere_8
      rw [ya.2.2.2.2.2.1, nI_add, m_byteAt ht ya (by omega), zb_some]
      dsimp only
      rw [m_isSmall ht, zb_some]
      dsimp only
      rw [ibI, hno, if_pos rfl, show (6 : Int32) = nI 6 from rfl, ile (by omega) (by omega)]
      by_cases c : wE B E P.2.2 - P.2.2 ≤ 6
      · rw [if_pos c, if_pos c, wp_some, show min (wE B E P.2.2 - P.2.2) 6 = wE B E P.2.2 - P.2.2 by omega]
      · rw [if_neg c, if_neg c, wp_some]
  obtain ⟨q, q1, q2⟩ := hw
  rw [q2] at q1
  exact q1
/-- the word here is word i -/
def isW (i : Nat) (B : Nat → Nat) (E : Nat) (P : PS) : Bool := decide (P.1 = 0) && isWd i B P.2.2 (wE B E P.2.2 - P.2.2)
theorem m_isWord {x : zMem} {B : Nat → Nat} {E i : Nat} {P : PS} {c0 c1 c2 c3 c4 c5 : Int32} (ht : okT B E) (h1 : 1 ≤ i) (h2 : i < 19) (hs : ∀ M, F_X10_six M c0 c1 c2 c3 c4 c5 = some (nI (vaW (wc i) (zLen.getD i 0)), M)) (hP : P.1 ≤ 3) (h : TM x B E P) :
    ∃ y, F_X10_isWord x c0 c1 c2 c3 c4 c5 = some (bI (isW i B E P), y) ∧ TM y B E P ∧ frTM x y ∧ (P.1 = 0 → TMa y B E P P.2.2) := by
  have hE := ht.1
  obtain ⟨w1, w2⟩ := wd_all ⟨i, h2⟩ h1
  dsimp only at w1
  unfold F_X10_isWord isW
  obtain ⟨a, ha⟩ := h.a
  rw [ha.1, ie0 (by omega)]
  by_cases z : P.1 = 0
  · obtain ⟨y, y1, y2, y3⟩ := m_wordHere ht h z
    have haE := y2.2.2.2.2.1
    have hp := wE_p (B := B) haE
    rw [if_pos z, decide_eq_true z, Bool.true_and, y1, zb_some]
    dsimp only
    rw [hs, zb_some]
    dsimp only
    refine ⟨y, ?_, y2.t, y3, fun _ => y2⟩
    generalize hn : wE B E P.2.2 - P.2.2 = n
    have hd : ∀ k, k < n → 97 ≤ B (P.2.2 + k) ∧ B (P.2.2 + k) ≤ 122 := fun k hk => hp.2.2.1 (P.2.2 + k) (by omega) (by omega)
    have hiff := wd_iff (B := B) (i := i) (a := P.2.2) (n := n) h1 h2 hd
    have hv2 : vaW (wc i) (zLen.getD i 0) < 27 ^ (zLen.getD i 0) := vaW_le (fun k hk => by
      have := (w2 ⟨k, Nat.lt_of_lt_of_le hk w1⟩ hk).1
      unfold wc
      dsimp only at this
      omega)
    have p5 : 27 ^ (zLen.getD i 0) ≤ 27 ^ 5 := Nat.pow_le_pow_right (by decide) w1
    have p5v : (27 : Nat) ^ 5 = 14348907 := by decide
    by_cases c : n ≤ 6
    · have hv1 : vaW (fun k => B (P.2.2 + k) - 96) n < 27 ^ n := vaW_le (fun k hk => by have := hd k hk; omega)
      have p6 : 27 ^ n ≤ 27 ^ 6 := Nat.pow_le_pow_right (by decide) c
      have p6v : (27 : Nat) ^ 6 = 387420489 := by decide
      rw [if_pos c, ieq (by omega) (by omega)]
      by_cases d : vaW (fun k => B (P.2.2 + k) - 96) n = vaW (wc i) (zLen.getD i 0)
      · rw [if_pos d, hiff.mpr d]; rfl
      · rw [if_neg d]
        cases hw : isWd i B P.2.2 n
        · rfl
        · exact absurd (hiff.mp hw) d
    · rw [if_neg c, if_neg (by rw [ya_m1_ne (by omega)]; exact fun w => w)]
      have : isWd i B P.2.2 n = false := by
        unfold isWd
        rw [decide_eq_false (by omega), Bool.false_and]
      rw [this]; rfl
  · rw [if_neg z, decide_eq_false z, Bool.false_and]
    exact ⟨x, rfl, h, frTM.refl, fun w => absurd w z⟩
theorem m_skipWord {x : zMem} {B : Nat → Nat} {E : Nat} {P : PS} (ht : okT B E) (h : TMa x B E P P.2.2) (z : P.1 = 0) :
    ∃ y, F_X10_skipWord x = some y ∧ TMa y B E (wdS B E P) (wE B E P.2.2) ∧ frTM x y := by
  have hE := ht.1
  have haE := h.2.2.2.2.1
  have hp := wE_p (B := B) haE
  have hw : wp (F_X10_skipWord x) (fun y => TMa y B E (wdS B E P) (wE B E P.2.2) ∧ frTM x y) := by
    unfold F_X10_skipWord
    refine loopN F_X10_skipWord_0 (fun g k (s : zMem) => g s) (wE B E P.2.2 - P.2.2) (fun k s => TMa s B E (0, P.2.1, sk B E (P.2.2 + k)) (P.2.2 + k) ∧ frTM x s) _ (fun g k s hk hI ih => ?_) (fun g s hI => ?_) (k := 0) (s := x) (by omega) ⟨⟨by rw [h.1, z], h.2.1, h.2.2.1, h.2.2.2.1, haE, h.2.2.2.2.2.1, fun _ => rfl⟩, frTM.refl⟩ (by omega)
    · obtain ⟨i1, i2⟩ := hI
      try dsimp only at i1 i2 ih ⊢
      have hl := isLt_of (B := B) haE (k := P.2.2 + k) (by omega) (by omega)
      unfold F_X10_skipWord_0
      rw [i1.2.2.2.2.2.1, m_byteAt ht i1 (by omega), zb_some]
      dsimp only
      rw [m_isSmall ht, zb_some]
      dsimp only
      rw [ibI, hl, if_neg (by decide), zl_eq, i1.2.2.2.2.2.1, nI_1]
      exact ih _ ⟨i1.at4 (P' := (0, P.2.1, sk B E (P.2.2 + (k + 1)))) (b := P.2.2 + (k + 1)) (by omega) rfl rfl (fun _ => rfl), i2.trans (frTM.s (by omega))⟩
    · obtain ⟨i1, i2⟩ := hI
      try dsimp only at i1 i2 ⊢
      have e : P.2.2 + (wE B E P.2.2 - P.2.2) = wE B E P.2.2 := by omega
      rw [e] at i1
      unfold F_X10_skipWord_0
      rw [i1.2.2.2.2.2.1, m_byteAt ht i1 (by omega), zb_some]
      dsimp only
      rw [m_isSmall ht, zb_some]
      dsimp only
      rw [ibI, hp.2.2.2, if_pos rfl, wp_some]
      unfold wdS
      rw [if_pos z]
      exact ⟨i1, i2⟩
  exact hw
theorem bI_gd01 (b : Bool) : (bI b == 0 || bI b == 1) = true := by cases b <;> decide
theorem m_takes {x : zMem} {B : Nat → Nat} {E i : Nat} {P : PS} {c0 c1 c2 c3 c4 c5 : Int32} (ht : okT B E) (h1 : 1 ≤ i) (h2 : i < 19) (hs : ∀ M, F_X10_six M c0 c1 c2 c3 c4 c5 = some (nI (vaW (wc i) (zLen.getD i 0)), M)) (hP : P.1 ≤ 3) (h : TM x B E P) :
    ∃ y, F_X10_takes x c0 c1 c2 c3 c4 c5 = some (bI (isW i B E P), y) ∧ TM y B E (if isW i B E P = true then wdS B E P else P) ∧ frTM x y ∧ (P.1 = 0 → isW i B E P = false → TMa y B E P P.2.2) := by
  obtain ⟨y, y1, y2, y3, y4⟩ := m_isWord ht h1 h2 hs hP h
  unfold F_X10_takes
  rw [y1, zb_some]
  dsimp only
  rw [ibI]
  cases hw : isW i B E P
  · rw [if_pos rfl, gd_ok (by decide), if_neg (by decide)]
    exact ⟨y, rfl, y2, y3, fun z _ => y4 z⟩
  · have z : P.1 = 0 := by
      unfold isW at hw
      rw [Bool.and_eq_true, decide_eq_true_eq] at hw
      exact hw.1
    obtain ⟨s, s1, s2, s3⟩ := m_skipWord ht (y4 z) z
    rw [if_neg (by decide), s1, zbv_some, gd_ok (by decide), if_pos rfl]
    exact ⟨s, rfl, s2.t, y3.trans s3, fun _ w => by cases w⟩
/-! the words, by their letters -/
theorem six_1 (M : zMem) : F_X10_six M 19 9 26 5 0 0 = some (nI (vaW (wc 1) (zLen.getD 1 0)), M) := rfl
theorem six_2 (M : zMem) : F_X10_six M 8 15 21 18 0 0 = some (nI (vaW (wc 2) (zLen.getD 2 0)), M) := rfl
theorem six_3 (M : zMem) : F_X10_six M 16 1 14 0 0 0 = some (nI (vaW (wc 3) (zLen.getD 3 0)), M) := rfl
theorem six_4 (M : zMem) : F_X10_six M 8 5 1 16 0 0 = some (nI (vaW (wc 4) (zLen.getD 4 0)), M) := rfl
theorem six_5 (M : zMem) : F_X10_six M 12 5 1 19 20 0 = some (nI (vaW (wc 5) (zLen.getD 5 0)), M) := rfl
theorem six_6 (M : zMem) : F_X10_six M 13 15 19 20 0 0 = some (nI (vaW (wc 6) (zLen.getD 6 0)), M) := rfl
theorem six_7 (M : zMem) : F_X10_six M 2 18 9 14 5 0 = some (nI (vaW (wc 7) (zLen.getD 7 0)), M) := rfl
theorem six_8 (M : zMem) : F_X10_six M 19 1 12 20 0 0 = some (nI (vaW (wc 8) (zLen.getD 8 0)), M) := rfl
theorem six_9 (M : zMem) : F_X10_six M 18 5 1 3 8 0 = some (nI (vaW (wc 9) (zLen.getD 9 0)), M) := rfl
theorem six_10 (M : zMem) : F_X10_six M 19 9 4 5 0 0 = some (nI (vaW (wc 10) (zLen.getD 10 0)), M) := rfl
theorem six_11 (M : zMem) : F_X10_six M 4 1 25 0 0 0 = some (nI (vaW (wc 11) (zLen.getD 11 0)), M) := rfl
theorem six_12 (M : zMem) : F_X10_six M 3 15 12 0 0 0 = some (nI (vaW (wc 12) (zLen.getD 12 0)), M) := rfl
theorem six_13 (M : zMem) : F_X10_six M 18 15 23 0 0 0 = some (nI (vaW (wc 13) (zLen.getD 13 0)), M) := rfl
theorem six_14 (M : zMem) : F_X10_six M 12 5 20 0 0 0 = some (nI (vaW (wc 14) (zLen.getD 14 0)), M) := rfl
theorem six_15 (M : zMem) : F_X10_six M 18 1 11 5 0 0 = some (nI (vaW (wc 15) (zLen.getD 15 0)), M) := rfl
theorem six_16 (M : zMem) : F_X10_six M 3 1 18 20 0 0 = some (nI (vaW (wc 16) (zLen.getD 16 0)), M) := rfl
theorem six_17 (M : zMem) : F_X10_six M 18 1 9 14 0 0 = some (nI (vaW (wc 17) (zLen.getD 17 0)), M) := rfl
theorem six_18 (M : zMem) : F_X10_six M 1 7 1 9 14 0 = some (nI (vaW (wc 18) (zLen.getD 18 0)), M) := rfl
