/-! the reference's reader -/
def TMa (m : zMem) (B : Nat → Nat) (E : Nat) (P : PS) (a : Nat) : Prop := m.1 0 5 = nI P.1 ∧ m.1 0 6 = P.2.1 ∧ m.1 0 2 = nI E ∧ (∀ k, k < E → m.1 1 k = nI (B k)) ∧ a ≤ E ∧ m.1 0 4 = nI a ∧ (P.1 = 0 → sk B E a = P.2.2)
theorem TM.a {x : zMem} {B : Nat → Nat} {E : Nat} {P : PS} (h : TM x B E P) : ∃ a, TMa x B E P a := by
  obtain ⟨h1, h2, h3, h4, a, h5, h6, h7⟩ := h
  exact ⟨a, h1, h2, h3, h4, h5, h6, h7⟩
theorem TMa.t {x : zMem} {B : Nat → Nat} {E : Nat} {P : PS} {a : Nat} (h : TMa x B E P a) : TM x B E P := by
  obtain ⟨h1, h2, h3, h4, h5, h6, h7⟩ := h
  exact ⟨h1, h2, h3, h4, a, h5, h6, h7⟩
theorem TMa.at4 {x : zMem} {B : Nat → Nat} {E : Nat} {P P' : PS} {a b : Nat} (h : TMa x B E P a) (hb : b ≤ E) (e1 : P'.1 = P.1) (e2 : P'.2.1 = P.2.1) (hs : P'.1 = 0 → sk B E b = P'.2.2) : TMa (zI x 0 4 (nI b)) B E P' b := by
  obtain ⟨h1, h2, h3, h4, h5, h6, h7⟩ := h
  refine ⟨?_, ?_, ?_, fun k hk => ?_, hb, ?_, hs⟩
  · rw [zI_s (by omega), e1]; exact h1
  · rw [zI_s (by omega), e2]; exact h2
  · rw [zI_s (by omega)]; exact h3
  · rw [zI_n (by omega)]; exact h4 k hk
  · rw [zI_1, upd_s]
theorem frTM.s {x : zMem} {j : Nat} {v : Int32} (hj : j = 4 ∨ j = 5 ∨ j = 6) : frTM x (zI x 0 j v) := ⟨fun c hc => zI_n hc, fun i h2 h3 h4 => zI_s (by omega), rfl⟩
theorem m_byteAt {x : zMem} {B : Nat → Nat} {E : Nat} {P : PS} {a b : Nat} (ht : okT B E) (h : TMa x B E P a) (hb : b < 2000) : F_X10_byteAt x (nI b) = some (byS B E b, x) := by
  have hE := ht.1
  unfold F_X10_byteAt byS
  rw [h.2.2.1, ilt (by omega) (by omega)]
  by_cases c : b < E
  · rw [if_pos c, if_pos c, gin_ok (by omega) (by decide), nI_clamp (by omega), h.2.2.2.1 b c]
  · rw [if_neg c, if_neg c]
theorem m_isDigit {x : zMem} {B : Nat → Nat} {E a : Nat} (ht : okT B E) : F_X10_isDigit x (byS B E a) = some (bI (isDg B E a), x) := x_isDigit ht
theorem m_isSmall {x : zMem} {B : Nat → Nat} {E a : Nat} (ht : okT B E) : F_X10_isSmall x (byS B E a) = some (bI (isLt B E a), x) := x_isLetter ht
theorem m_blanks {x : zMem} {B : Nat → Nat} {E : Nat} {P : PS} {a : Nat} (ht : okT B E) (h : TMa x B E P a) :
    ∃ y, F_X10_blanks x = some y ∧ TMa y B E P (sk B E a) ∧ frTM x y ∧ y.1 0 5 = x.1 0 5 ∧ y.1 0 6 = x.1 0 6 := by
  have hE := ht.1
  have hw : wp (F_X10_blanks x) (fun y => TMa y B E P (sk B E a) ∧ frTM x y ∧ y.1 0 5 = x.1 0 5 ∧ y.1 0 6 = x.1 0 6) := by
    unfold F_X10_blanks
    refine loopN (F_X10_blanks_0) (fun g k (s : zMem) => g s) 601 (fun k s => ∃ b, a + k ≤ E ∧ b = a + k ∧ TMa s B E P b ∧ sk B E b = sk B E a ∧ frTM x s ∧ s.1 0 5 = x.1 0 5 ∧ s.1 0 6 = x.1 0 6) _ (fun g k s hk hI ih => ?_) (fun g s hI => ?_) (k := 0) (s := x) (by omega) ⟨a, h.2.2.2.2.1, rfl, h, rfl, frTM.refl, rfl, rfl⟩ (by omega)
    · obtain ⟨b, i1, i2, i3, i4, i5, i6, i7⟩ := hI
      try dsimp only at ih ⊢
      unfold F_X10_blanks_0
      rw [i3.2.2.2.2.2.1, m_byteAt ht i3 (by omega), zb_some]
      dsimp only
      have hb := bS_eq (a := b) ht (c := 32) (by omega)
      by_cases d : byS B E b = nI 32
      · have d2 := hb.mp d
        rw [if_pos (show byS B E b = (32 : Int32) from d), zl_eq, i3.2.2.2.2.2.1, nI_1]
        have hgo := sk_go (B := B) (E := E) (a := b) d2.1 d2.2
        refine ih _ ⟨b + 1, by omega, by omega, i3.at4 (by omega) rfl rfl (fun z => by rw [← hgo]; exact i3.2.2.2.2.2.2 z), by rw [← hgo]; exact i4, i5.trans (frTM.s (by omega)), ?_, ?_⟩
        · rw [zI_s (by omega)]; exact i6
        · rw [zI_s (by omega)]; exact i7
      · rw [if_neg (show ¬ byS B E b = (32 : Int32) from d), wp_some, ← i4, sk_stop (by
          by_cases e : b < E
          · exact Or.inr (fun w => d (hb.mpr ⟨e, w⟩))
          · exact Or.inl (by omega))]
        exact ⟨i3, i5, i6, i7⟩
    · obtain ⟨b, i1, _⟩ := hI
      omega
  exact hw
theorem TMa.at {x : zMem} {B : Nat → Nat} {E : Nat} {P : PS} {a : Nat} (h : TMa x B E P (sk B E a)) (ha : a ≤ E) (z : P.1 = 0) : sk B E a = P.2.2 ∧ x.1 0 4 = nI P.2.2 := by
  have h1 := h.2.2.2.2.2.2 z
  rw [sk_sk ha] at h1
  exact ⟨h1, by rw [h.2.2.2.2.2.1, h1]⟩
/-- blanks behind it: where it rests -/
theorem m_rest {x : zMem} {B : Nat → Nat} {E : Nat} {P : PS} (ht : okT B E) (h : TM x B E P) :
    ∃ y, F_X10_blanks x = some y ∧ TM y B E P ∧ frTM x y ∧ (P.1 = 0 → TMa y B E P P.2.2) := by
  obtain ⟨a, ha⟩ := h.a
  obtain ⟨y, y1, y2, y3, _⟩ := m_blanks ht ha
  exact ⟨y, y1, y2.t, y3, fun z => by rw [← (y2.at ha.2.2.2.2.1 z).1]; exact y2⟩
theorem m_wrong {x : zMem} {B : Nat → Nat} {E c : Nat} {P : PS} {v : Int32} (h : TM x B E P) (hP : P.1 ≤ 3) (hc : c ≠ 0) :
    ∃ y, F_X10_wrong x (nI c) v = some y ∧ TM y B E (flS c v P) ∧ frTM x y := by
  obtain ⟨a, h1, h2, h3, h4, h5, h6, h7⟩ := h.a
  unfold F_X10_wrong flS
  rw [h1, ie0 (by omega)]
  by_cases z : P.1 = 0
  · rw [if_pos z, if_pos z, zl_eq, zl_eq]
    refine ⟨_, rfl, TMa.t (a := a) ⟨?_, ?_, ?_, fun k hk => ?_, h5, ?_, fun w => absurd w hc⟩, (frTM.s (by omega)).trans (frTM.s (by omega))⟩
    · rw [zI_s (by omega), zI_1, upd_s]
    · rw [zI_1, upd_s]
    · rw [zI_s (by omega), zI_s (by omega)]; exact h3
    · rw [zI_n (by omega), zI_n (by omega)]; exact h4 k hk
    · rw [zI_s (by omega), zI_s (by omega)]; exact h6
  · rw [if_neg z, if_neg z]
    exact ⟨x, rfl, h, frTM.refl⟩
theorem m_sign {x : zMem} {B : Nat → Nat} {E : Nat} {P : PS} {c : Nat} (ht : okT B E) (hP : P.1 ≤ 3) (hc : c < 256) (h : TM x B E P) :
    ∃ y, F_X10_sign x (nI c) = some y ∧ TM y B E (sgS B E (nI c) P) ∧ frTM x y := by
  have hE := ht.1
  unfold F_X10_sign sgS
  obtain ⟨a, ha⟩ := h.a
  rw [ha.1, ie0 (by omega)]
  by_cases z : P.1 = 0
  · obtain ⟨y, y1, y2, y3, y4⟩ := m_rest ht h
    have ya := y4 z
    have hb := bS_eq (a := P.2.2) ht hc
    have haE := ya.2.2.2.2.1
    rw [if_pos z, if_pos z, y1, zbv_some, ya.2.2.2.2.2.1, m_byteAt ht ya (by omega), zb_some]
    dsimp only
    by_cases d : byS B E P.2.2 = nI c
    · have d2 := hb.mp d
      rw [if_pos d, if_pos d, zl_eq, ya.2.2.2.2.2.1, nI_1]
      exact ⟨_, rfl, (ya.at4 (P' := (0, P.2.1, sk B E (P.2.2 + 1))) (b := P.2.2 + 1) (by omega) z.symm rfl (fun _ => rfl)).t, y3.trans (frTM.s (by omega))⟩
    · rw [if_neg d, if_neg d, ya.2.2.2.2.2.1]
      obtain ⟨y', f1, f2, f3⟩ := m_wrong (c := 1) (v := nI P.2.2) y2 hP (by decide)
      rw [show F_X10_wrong y (1 : Int32) (nI P.2.2) = some y' from f1, zbv_some]
      unfold flS at f2
      rw [if_pos z] at f2
      exact ⟨y', rfl, f2, y3.trans f3⟩
  · rw [if_neg z, if_neg z]
    exact ⟨x, rfl, h, frTM.refl⟩
theorem m_takesSign {x : zMem} {B : Nat → Nat} {E : Nat} {P : PS} {c : Nat} (ht : okT B E) (hP : P.1 ≤ 3) (hc : c < 256) (h : TM x B E P) :
    ∃ y, F_X10_takesSign x (nI c) = some (bI (decide (P.1 = 0) && (decide (P.2.2 < E) && decide (B P.2.2 = c))), y) ∧ TM y B E (if (decide (P.1 = 0) && (decide (P.2.2 < E) && decide (B P.2.2 = c))) = true then sgS B E (nI c) P else P) ∧ frTM x y := by
  have hE := ht.1
  unfold F_X10_takesSign sgS
  obtain ⟨a, ha⟩ := h.a
  rw [ha.1, ie0 (by omega)]
  by_cases z : P.1 = 0
  · obtain ⟨y, y1, y2, y3, y4⟩ := m_rest ht h
    have ya := y4 z
    have hb := bS_eq (a := P.2.2) ht hc
    have haE := ya.2.2.2.2.1
    rw [if_pos z, y1, zbv_some, ya.2.2.2.2.2.1, m_byteAt ht ya (by omega), zb_some, decide_eq_true z, Bool.true_and]
    dsimp only
    unfold F_X10_takesSign_30
    by_cases d : byS B E P.2.2 = nI c
    · have d2 := hb.mp d
      rw [if_pos d, if_neg (by decide), zl_eq, ya.2.2.2.2.2.1, nI_1, gd_ok (by decide), decide_eq_true d2.1, decide_eq_true d2.2, if_pos (show (true && true) = true from rfl), if_pos z, if_pos d]
      exact ⟨_, rfl, (ya.at4 (P' := (0, P.2.1, sk B E (P.2.2 + 1))) (b := P.2.2 + 1) (by omega) z.symm rfl (fun _ => rfl)).t, y3.trans (frTM.s (by omega))⟩
    · have hf : (decide (P.2.2 < E) && decide (B P.2.2 = c)) = false := by
        by_cases e : P.2.2 < E
        · rw [decide_eq_true e, decide_eq_false (fun w => d (hb.mpr ⟨e, w⟩))]; rfl
        · rw [decide_eq_false e]; rfl
      rw [if_neg d, if_pos rfl, gd_ok (by decide), hf, if_neg (by decide)]
      exact ⟨y, rfl, y2, y3⟩
  · rw [if_neg z, decide_eq_false z, Bool.false_and, if_neg (by decide)]
    exact ⟨x, rfl, h, frTM.refl⟩
theorem m_num44 {y : zMem} {B : Nat → Nat} {E lo hi a st : Nat} {Q : PS} (ht : okT B E) (hQ : Q.1 ≤ 3) (hhi : hi ≤ 9999) (hlo : lo ≤ 9999) (h1 : y.1 0 5 = nI Q.1) (h2 : y.1 0 6 = Q.2.1) (h3 : y.1 0 2 = nI E) (h4 : ∀ k, k < E → y.1 1 k = nI (B k)) (h5 : a ≤ E) (h6 : y.1 0 4 = nI a) :
    wp (itF (fun _ _ _ _ _ => none) (F_X10_number_44 (nI lo) (nI hi)) zFuel (nI lo) (nI hi) (nI st) (nI 0) y) (fun s => TM s.2 B E (if lo ≤ (dgS B E a).2 ∧ (dgS B E a).2 ≤ hi then (Q.1, Q.2.1, sk B E (dgS B E a).1) else flS 2 (nI st) (Q.1, Q.2.1, sk B E (dgS B E a).1)) ∧ frTM y s.2 ∧ ((if lo ≤ (dgS B E a).2 ∧ (dgS B E a).2 ≤ hi then ((Q.1, Q.2.1, sk B E (dgS B E a).1) : PS) else flS 2 (nI st) (Q.1, Q.2.1, sk B E (dgS B E a).1)).1 = 0 → s.1 = nI (dgS B E a).2) ∧ ((if lo ≤ (dgS B E a).2 ∧ (dgS B E a).2 ≤ hi then ((Q.1, Q.2.1, sk B E (dgS B E a).1) : PS) else flS 2 (nI st) (Q.1, Q.2.1, sk B E (dgS B E a).1)).1 ≠ 0 → s.1 = 0)) := by
  have hE := ht.1
  have fin : ∀ (V b : Nat) (s : zMem), (b, V) = dgS B E a → TMa s B E (Q.1, Q.2.1, sk B E b) b → frTM y s → wp (zb (F_X10_in s (nI (min V 100000)) (nI lo) (nI hi)) fun v7 M6 => if v7 = 0 then zbv (F_X10_wrong M6 (2 : Int32) (nI st)) fun M8 => F_X10_number_122 (nI lo) (nI hi) (nI (min V 100000)) M8 else F_X10_number_122 (nI lo) (nI hi) (nI (min V 100000)) M6) (fun s => TM s.2 B E (if lo ≤ (dgS B E a).2 ∧ (dgS B E a).2 ≤ hi then (Q.1, Q.2.1, sk B E (dgS B E a).1) else flS 2 (nI st) (Q.1, Q.2.1, sk B E (dgS B E a).1)) ∧ frTM y s.2 ∧ ((if lo ≤ (dgS B E a).2 ∧ (dgS B E a).2 ≤ hi then ((Q.1, Q.2.1, sk B E (dgS B E a).1) : PS) else flS 2 (nI st) (Q.1, Q.2.1, sk B E (dgS B E a).1)).1 = 0 → s.1 = nI (dgS B E a).2) ∧ ((if lo ≤ (dgS B E a).2 ∧ (dgS B E a).2 ≤ hi then ((Q.1, Q.2.1, sk B E (dgS B E a).1) : PS) else flS 2 (nI st) (Q.1, Q.2.1, sk B E (dgS B E a).1)).1 ≠ 0 → s.1 = 0)) := fun V b s hdg hs hf => by
    rw [← hdg]
    dsimp only
    by_cases hr : lo ≤ V ∧ V ≤ hi
    · rw [if_pos hr, show min V 100000 = V by omega, m_inY s hr.1 hr.2 (by omega), zb_some]
      dsimp only
      rw [if_neg (by decide)]
      unfold F_X10_number_122
      rw [hs.1, show nI ((Q.1, Q.2.1, sk B E b) : PS).1 = nI Q.1 from rfl, ie0 (by omega)]
      by_cases z : Q.1 = 0
      · rw [if_pos z, wp_some]
        exact ⟨hs.t, hf, fun _ => rfl, fun w => absurd z w⟩
      · rw [if_neg z, wp_some]
        exact ⟨hs.t, hf, fun w => absurd w z, fun _ => rfl⟩
    · rw [if_neg hr, m_inN s (by rw [nI_ltI (by omega) (by omega), nI_ltI (by omega) (by omega)]; omega), zb_some]
      dsimp only
      rw [if_pos rfl]
      obtain ⟨y2, k1, k2, k3⟩ := m_wrong (c := 2) (v := nI st) hs.t hQ (by decide)
      rw [show F_X10_wrong s (2 : Int32) (nI st) = some y2 from k1, zbv_some]
      have hn : ((flS 2 (nI st) (Q.1, Q.2.1, sk B E b)).1 ≠ 0) := by
        unfold flS
        by_cases z : Q.1 = 0
        · rw [if_pos z]; exact fun w => absurd (show (2 : Nat) = 0 from w) (by decide)
        · rw [if_neg z]; exact z
      have hle : (flS 2 (nI st) (Q.1, Q.2.1, sk B E b)).1 ≤ 3 := by
        unfold flS
        split
        · show 2 ≤ 3; omega
        · exact hQ
      unfold F_X10_number_122
      rw [k2.1, ie0 (by omega), if_neg hn, wp_some]
      exact ⟨k2, hf.trans k3, fun w => absurd w hn, fun _ => rfl⟩
  refine loopN (F_X10_number_44 _ _) (fun g k (s : Nat × zMem) => g (nI lo) (nI hi) (nI st) (nI (min s.1 100000)) s.2) 601 (fun k s => dgF B (E - (a + k)) (a + k) s.1 = dgS B E a ∧ TMa s.2 B E (Q.1, Q.2.1, sk B E (a + k)) (a + k) ∧ frTM y s.2) _ (fun g k s hk hI ih => ?_) (fun g s hI => ?_) (k := 0) (s := ((0 : Nat), y)) (by omega) ⟨rfl, ⟨h1, h2, h3, h4, h5, h6, fun _ => rfl⟩, frTM.refl⟩ (by omega)
  · obtain ⟨V, s⟩ := s
    obtain ⟨i1, i2, i3⟩ := hI
    dsimp only at i1 i2 i3
    try dsimp only at ih ⊢
    have hle := i2.2.2.2.2.1
    unfold F_X10_number_44 F_X10_number_91
    rw [i2.2.2.2.2.2.1, m_byteAt ht i2 (by omega), zb_some]
    dsimp only
    rw [m_isDigit ht, zb_some]
    dsimp only
    rw [ibI]
    cases hdd : isDg B E (a + k)
    · rw [if_pos rfl]
      have hdg : (a + k, V) = dgS B E a := by
        rw [← i1]
        cases hn : E - (a + k) with
        | zero => rfl
        | succ n =>
          show (a + k, V) = if 48 ≤ B (a + k) ∧ B (a + k) ≤ 57 then dgF B n (a + k + 1) (10 * V + (B (a + k) - 48)) else (a + k, V)
          rw [if_neg (fun w => by
            unfold isDg at hdd
            rw [decide_eq_true (by omega), decide_eq_true w.1, decide_eq_true w.2] at hdd
            cases hdd)]
      exact fin V (a + k) s hdg i2 i3
    · have hyes : a + k < E ∧ 48 ≤ B (a + k) ∧ B (a + k) ≤ 57 := by
        unfold isDg at hdd
        simp only [Bool.and_eq_true, decide_eq_true_eq] at hdd
        exact hdd
      have hst : E - (a + k) = (E - (a + (k + 1))) + 1 := by omega
      rw [hst] at i1
      have i1' : (if 48 ≤ B (a + k) ∧ B (a + k) ≤ 57 then dgF B (E - (a + (k + 1))) (a + k + 1) (10 * V + (B (a + k) - 48)) else (a + k, V)) = dgS B E a := i1
      rw [if_pos hyes.2] at i1'
      have hst2 : TMa (zI s 0 4 (nI (a + (k + 1)))) B E (Q.1, Q.2.1, sk B E (a + (k + 1))) (a + (k + 1)) := i2.at4 (by omega) rfl rfl (fun _ => rfl)
      have ih2 := ih (10 * V + (B (a + k) - 48), zI s 0 4 (nI (a + (k + 1)))) ⟨i1', hst2, i3.trans (frTM.s (by omega))⟩
      rw [if_neg (by decide), i2.2.2.2.2.2.1, m_byteAt ht i2 (by omega), zb_some]
      dsimp only
      rw [zl_eq, i2.2.2.2.2.2.1, nI_1, zl_eq]
      have e1 : (10 : Int32) * nI (min V 100000) + byS B E (a + k) - (48 : Int32) = nI (10 * min V 100000 + (B (a + k) - 48)) := by
        unfold byS
        rw [if_pos hyes.1, show (10 : Int32) = nI 10 from rfl, show (48 : Int32) = nI 48 from rfl, pk_mul, nI_add, pk_sub (by omega)]
        congr 1
        omega
      rw [e1, show (100000 : Int32) = nI 100000 from rfl, ile (by omega) (by omega)]
      by_cases c : 10 * min V 100000 + (B (a + k) - 48) ≤ 100000
      · rw [if_pos c, show 10 * min V 100000 + (B (a + k) - 48) = min (10 * V + (B (a + k) - 48)) 100000 by omega]
        exact ih2
      · rw [if_neg c]
        rw [show min (10 * V + (B (a + k) - 48)) 100000 = 100000 by omega] at ih2
        exact ih2
  · obtain ⟨i1, i2, i3⟩ := hI
    have := i2.2.2.2.2.1
    omega
theorem TM.ign {x : zMem} {B : Nat → Nat} {E c a b : Nat} {v : Int32} (h : TM x B E (c, v, a)) (hc : c ≠ 0) : TM x B E (c, v, b) := by
  obtain ⟨h1, h2, h3, h4, q, h5, h6, h7⟩ := h
  exact ⟨h1, h2, h3, h4, q, h5, h6, fun w => absurd w hc⟩
theorem m_number {x : zMem} {B : Nat → Nat} {E lo hi : Nat} {P : PS} (ht : okT B E) (hP : P.1 ≤ 3) (hhi : hi ≤ 9999) (hlo : lo ≤ 9999) (h : TM x B E P) :
    ∃ v y, F_X10_number x (nI lo) (nI hi) = some (v, y) ∧ TM y B E (nuS B E lo hi P) ∧ frTM x y ∧ ((nuS B E lo hi P).1 = 0 → v = nI (nuV B E P)) ∧ ((nuS B E lo hi P).1 ≠ 0 → v = 0) := by
  have hE := ht.1
  have hw : wp (F_X10_number x (nI lo) (nI hi)) (fun s => TM s.2 B E (nuS B E lo hi P) ∧ frTM x s.2 ∧ ((nuS B E lo hi P).1 = 0 → s.1 = nI (nuV B E P)) ∧ ((nuS B E lo hi P).1 ≠ 0 → s.1 = 0)) := by
    unfold F_X10_number nuS nuV
    obtain ⟨a, ha⟩ := h.a
    rw [ha.1, ie0 (by omega)]
    by_cases z : P.1 = 0
    · obtain ⟨y, y1, y2, y3, y4⟩ := m_rest ht h
      have ya := y4 z
      have haE := ya.2.2.2.2.1
      rw [if_pos z, if_pos z, y1, zbv_some, zl_eq, ya.2.2.2.2.2.1, m_byteAt ht ya (by omega), zb_some]
      dsimp only
      rw [m_isDigit ht, zb_some]
      dsimp only
      rw [ibI]
      cases hd : isDg B E P.2.2
      · rw [if_pos rfl, if_neg (by decide), ya.2.2.2.2.2.1]
        have e1 : F_X10_wrong y (1 : Int32) (nI P.2.2) = some (zI (zI y 0 5 1) 0 6 (nI P.2.2)) := by
          unfold F_X10_wrong
          rw [ya.1, z, if_pos (show nI 0 = 0 from rfl), zl_eq, zl_eq]
        rw [e1, zbv_some]
        obtain ⟨s, s1, s2, s3, s4, s5⟩ := m_num44 (y := zI (zI y 0 5 1) 0 6 (nI P.2.2)) (lo := lo) (hi := hi) (st := P.2.2) (Q := (1, nI P.2.2, 0)) ht (by show 1 ≤ 3; omega) hhi hlo (by rw [zI_s (by omega), zI_1, upd_s]; rfl) (by rw [zI_1, upd_s]) (by rw [zI_s (by omega), zI_s (by omega)]; exact ya.2.2.1) (fun k hk => by rw [zI_n (by omega), zI_n (by omega)]; exact ya.2.2.2.1 k hk) haE (by rw [zI_s (by omega), zI_s (by omega)]; exact ya.2.2.2.2.2.1)
        have hfl : (if lo ≤ (dgS B E P.2.2).2 ∧ (dgS B E P.2.2).2 ≤ hi then ((1, nI P.2.2, sk B E (dgS B E P.2.2).1) : PS) else flS 2 (nI P.2.2) (1, nI P.2.2, sk B E (dgS B E P.2.2).1)) = (1, nI P.2.2, sk B E (dgS B E P.2.2).1) := by
          split
          · rfl
          · rfl
        rw [show (if lo ≤ (dgS B E P.2.2).2 ∧ (dgS B E P.2.2).2 ≤ hi then (((1, nI P.2.2, 0) : PS).1, ((1, nI P.2.2, 0) : PS).2.1, sk B E (dgS B E P.2.2).1) else flS 2 (nI P.2.2) (((1, nI P.2.2, 0) : PS).1, ((1, nI P.2.2, 0) : PS).2.1, sk B E (dgS B E P.2.2).1)) = _ from hfl] at s2 s5
        exact ⟨s, s1, s2.ign (by decide), y3.trans (((frTM.s (by omega)).trans (frTM.s (by omega))).trans s3), fun w => absurd (show (1 : Nat) = 0 from w) (by decide), fun _ => s5 (fun w => absurd (show (1 : Nat) = 0 from w) (by decide))⟩
      · rw [if_neg (by decide), if_pos rfl]
        obtain ⟨s, s1, s2, s3, s4, s5⟩ := m_num44 (y := y) (lo := lo) (hi := hi) (st := P.2.2) (Q := P) ht hP hhi hlo ya.1 ya.2.1 ya.2.2.1 ya.2.2.2.1 haE ya.2.2.2.2.2.1
        by_cases hr : lo ≤ (dgS B E P.2.2).2 ∧ (dgS B E P.2.2).2 ≤ hi
        · rw [if_pos hr] at s2 s4 s5 ⊢
          rw [z] at s2 s4 s5
          exact ⟨s, s1, s2, y3.trans s3, s4, s5⟩
        · rw [if_neg hr] at s2 s4 s5 ⊢
          unfold flS at s2 s4 s5
          rw [if_pos z] at s2 s4 s5
          exact ⟨s, s1, s2.ign (by decide), y3.trans s3, fun w => absurd (show (2 : Nat) = 0 from w) (by decide), fun _ => s5 (fun w => absurd (show (2 : Nat) = 0 from w) (by decide))⟩
    · rw [if_neg z, if_neg z, wp_some]
      exact ⟨h, frTM.refl, fun w => absurd w z, fun _ => rfl⟩
  obtain ⟨⟨v, y⟩, h1, h2⟩ := hw
  exact ⟨v, y, h1, h2⟩
