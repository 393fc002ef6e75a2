/-! the class' reader -/
/-- where it stands: at a -/
def TXa (x : zMem) (B : Nat → Nat) (E : Nat) (P : PS) (a : Nat) : Prop := x.1 1 2 = nI P.1 ∧ x.1 1 3 = P.2.1 ∧ x.1 1 6 = nI E ∧ (∀ k, k < E → x.1 2 k = nI (B k)) ∧ a ≤ E ∧ x.1 1 7 = nI a ∧ (P.1 = 0 → sk B E a = P.2.2)
theorem TX.a {x : zMem} {B : Nat → Nat} {E : Nat} {P : PS} (h : TX x B E P) : ∃ a, TXa x B E P a := by
  obtain ⟨h1, h2, h3, h4, a, h5, h6, h7⟩ := h
  exact ⟨a, h1, h2, h3, h4, h5, h6, h7⟩
theorem TXa.t {x : zMem} {B : Nat → Nat} {E : Nat} {P : PS} {a : Nat} (h : TXa x B E P a) : TX x B E P := by
  obtain ⟨h1, h2, h3, h4, h5, h6, h7⟩ := h
  exact ⟨h1, h2, h3, h4, a, h5, h6, h7⟩
theorem TXa.at7 {x : zMem} {B : Nat → Nat} {E : Nat} {P : PS} {a b : Nat} (h : TXa x B E P a) (hb : b ≤ E) (hs : P.1 = 0 → sk B E b = P.2.2) : TXa (zI x 1 7 (nI b)) B E P b := by
  obtain ⟨h1, h2, h3, h4, h5, h6, h7⟩ := h
  refine ⟨?_, ?_, ?_, fun k hk => ?_, hb, ?_, hs⟩
  · rw [zI_s (by omega)]; exact h1
  · rw [zI_s (by omega)]; exact h2
  · rw [zI_s (by omega)]; exact h3
  · rw [zI_n (by omega)]; exact h4 k hk
  · rw [zI_1, upd_s]
theorem TXa.at45 {x : zMem} {B : Nat → Nat} {E : Nat} {P : PS} {a j : Nat} {v : Int32} (h : TXa x B E P a) (hj : j = 4 ∨ j = 5) : TXa (zI x 1 j v) B E P a := by
  obtain ⟨h1, h2, h3, h4, h5, h6, h7⟩ := h
  refine ⟨?_, ?_, ?_, fun k hk => ?_, h5, ?_, h7⟩
  · rw [zI_s (by omega)]; exact h1
  · rw [zI_s (by omega)]; exact h2
  · rw [zI_s (by omega)]; exact h3
  · rw [zI_n (by omega)]; exact h4 k hk
  · rw [zI_s (by omega)]; exact h6
theorem frTX.s {x : zMem} {j : Nat} {v : Int32} (hj : j = 2 ∨ j = 3 ∨ j = 4 ∨ j = 5 ∨ j = 7) : frTX x (zI x 1 j v) := ⟨fun c hc => zI_n hc, fun i h2 h3 h4 h5 h7 => zI_s (by omega), rfl⟩
/-- only where it stands has changed -/
def fr7 (x y : zMem) : Prop := (∀ c, c ≠ 1 → y.1 c = x.1 c) ∧ (∀ j, j ≠ 7 → y.1 1 j = x.1 1 j) ∧ y.2 = x.2
theorem fr7.x {x y : zMem} (h : fr7 x y) : frTX x y := ⟨h.1, fun j _ _ _ _ h7 => h.2.1 j h7, h.2.2⟩
theorem fr7.trans {x y z : zMem} (h : fr7 x y) (k : fr7 y z) : fr7 x z := ⟨fun c hc => (k.1 c hc).trans (h.1 c hc), fun j h7 => (k.2.1 j h7).trans (h.2.1 j h7), k.2.2.trans h.2.2⟩
theorem fr7.s {x : zMem} {v : Int32} : fr7 x (zI x 1 7 v) := ⟨fun c hc => zI_n hc, fun i h7 => zI_s h7, rfl⟩
theorem x_skipBlanks {x : zMem} {B : Nat → Nat} {E : Nat} {P : PS} {a : Nat} (ht : okT B E) (h : TXa x B E P a) :
    ∃ y, F_X8_skipBlanks x 1 = some y ∧ TXa y B E P (sk B E a) ∧ fr7 x y := by
  have hE := ht.1
  have hw : wp (F_X8_skipBlanks x 1) (fun y => TXa y B E P (sk B E a) ∧ fr7 x y) := by
    unfold F_X8_skipBlanks
    refine loopN (F_X8_skipBlanks_0 _) (fun g k (s : zMem) => g s) 601 (fun k s => ∃ b, a + k ≤ E ∧ b = a + k ∧ TXa s B E P b ∧ sk B E b = sk B E a ∧ fr7 x s) _ (fun g k s hk hI ih => ?_) (fun g s hI => ?_) (k := 0) (s := x) (by omega) ⟨a, h.2.2.2.2.1, rfl, h, rfl, fun _ _ => rfl, fun _ _ => rfl, rfl⟩ (by omega)
    · obtain ⟨b, i1, i2, i3, i4, i5⟩ := hI
      try dsimp only at ih ⊢
      unfold F_X8_skipBlanks_0
      rw [i3.2.2.1, i3.2.2.2.2.2.1, ile (by omega) (by omega)]
      by_cases c : E ≤ b
      · rw [if_pos c, wp_some, ← i4, sk_stop (Or.inl c)]
        exact ⟨i3, i5⟩
      · have hb := ht.2 b (by omega)
        rw [if_neg c, gin_ok (by omega) (by decide), nI_clamp (by omega), i3.2.2.2.1 b (by omega), show (32 : Int32) = nI 32 from rfl, ieq (by omega) (by omega)]
        by_cases d : B b = 32
        · rw [if_pos d, zl_eq, nI_1]
          have hgo := sk_go (B := B) (E := E) (a := b) (by omega) d
          exact ih _ ⟨b + 1, by omega, by omega, i3.at7 (by omega) (fun z => by rw [← hgo]; exact i3.2.2.2.2.2.2 z), by rw [← hgo]; exact i4, i5.trans fr7.s⟩
        · rw [if_neg d, wp_some, ← i4, sk_stop (Or.inr d)]
          exact ⟨i3, i5⟩
    · obtain ⟨b, i1, _⟩ := hI
      omega
  exact hw
theorem TXa.at {x : zMem} {B : Nat → Nat} {E : Nat} {P : PS} {a : Nat} (h : TXa x B E P (sk B E a)) (ha : a ≤ E) (z : P.1 = 0) : sk B E a = P.2.2 ∧ x.1 1 7 = nI P.2.2 := by
  have h1 := h.2.2.2.2.2.2 z
  rw [sk_sk ha] at h1
  exact ⟨h1, by rw [h.2.2.2.2.2.1, h1]⟩
theorem bS_eq {B : Nat → Nat} {E a c : Nat} (ht : okT B E) (hc : c < 256) : byS B E a = nI c ↔ a < E ∧ B a = c := by
  unfold byS
  by_cases h : a < E
  · have := ht.2 a h
    rw [if_pos h, nI_eq (by omega) (by omega)]
    exact ⟨fun z => ⟨h, z⟩, fun z => z.2⟩
  · rw [if_neg h, ya_m1_ne (by omega)]
    exact ⟨False.elim, fun z => absurd z.1 h⟩
theorem x_peek {x : zMem} {B : Nat → Nat} {E : Nat} {P : PS} {a : Nat} (ht : okT B E) (h : TXa x B E P a) : F_X8_peek x 1 = some (byS B E a, x) := by
  have hE := ht.1
  unfold F_X8_peek byS
  rw [h.2.2.1, h.2.2.2.2.2.1, ile (by have := h.2.2.2.2.1; omega) (by have := h.2.2.2.2.1; omega)]
  by_cases c : E ≤ a
  · rw [if_pos c, if_neg (by omega)]
  · rw [if_neg c, if_pos (by omega), gin_ok (by omega) (by decide), nI_clamp (by omega), h.2.2.2.1 a (by omega)]
theorem x_isDigit {x : zMem} {B : Nat → Nat} {E a : Nat} (ht : okT B E) : F_X8_isDigit x (byS B E a) = some (bI (isDg B E a), x) := by
  unfold F_X8_isDigit byS isDg
  by_cases c : a < E
  · have hb := ht.2 a c
    rw [if_pos c, decide_eq_true c, show (48 : Int32) = nI 48 from rfl, show (57 : Int32) = nI 57 from rfl, ilt (by omega) (by omega), ilt (by omega) (by omega)]
    by_cases d : B a < 48
    · rw [if_pos d, decide_eq_false (by omega)]; rfl
    · rw [if_neg d, decide_eq_true (by omega)]
      by_cases e : 57 < B a
      · rw [if_pos e, decide_eq_false (by omega)]; rfl
      · rw [if_neg e, decide_eq_true (by omega)]; rfl
  · rw [if_neg c, decide_eq_false c, if_pos (by decide)]; rfl
theorem x_isLetter {x : zMem} {B : Nat → Nat} {E a : Nat} (ht : okT B E) : F_X8_isLetter x (byS B E a) = some (bI (isLt B E a), x) := by
  unfold F_X8_isLetter byS isLt
  by_cases c : a < E
  · have hb := ht.2 a c
    rw [if_pos c, decide_eq_true c, show (97 : Int32) = nI 97 from rfl, show (122 : Int32) = nI 122 from rfl, ilt (by omega) (by omega), ilt (by omega) (by omega)]
    by_cases d : B a < 97
    · rw [if_pos d, decide_eq_false (by omega)]; rfl
    · rw [if_neg d, decide_eq_true (by omega)]
      by_cases e : 122 < B a
      · rw [if_pos e, decide_eq_false (by omega)]; rfl
      · rw [if_neg e, decide_eq_true (by omega)]; rfl
  · rw [if_neg c, decide_eq_false c, if_pos (by decide)]; rfl
theorem x_fail {x : zMem} {B : Nat → Nat} {E c : Nat} {P : PS} {v : Int32} (h : TX x B E P) (hP : P.1 ≤ 3) (hc : c ≠ 0) :
    ∃ y, F_X8_fail x 1 (nI c) v = some y ∧ TX y B E (flS c v P) ∧ frTX x y := by
  obtain ⟨a, h1, h2, h3, h4, h5, h6, h7⟩ := h.a
  unfold F_X8_fail flS
  rw [h1, ie0 (by omega)]
  by_cases z : P.1 = 0
  · rw [if_pos z, if_pos z, zl_eq, zl_eq]
    refine ⟨_, rfl, TXa.t (a := a) ⟨?_, ?_, ?_, fun k hk => ?_, h5, ?_, fun w => absurd w hc⟩, (frTX.s (by omega)).trans (frTX.s (by omega))⟩
    · rw [zI_s (by omega), zI_1, upd_s]
    · rw [zI_1, upd_s]
    · rw [zI_s (by omega), zI_s (by omega)]; exact h3
    · rw [zI_n (by omega), zI_n (by omega)]; exact h4 k hk
    · rw [zI_s (by omega), zI_s (by omega)]; exact h6
  · rw [if_neg z, if_neg z]
    exact ⟨x, rfl, h, frTX.refl⟩
theorem x_goesOn {x : zMem} {B : Nat → Nat} {E : Nat} {P : PS} (ht : okT B E) (hP : P.1 ≤ 3) (h : TX x B E P) :
    ∃ y, F_X8_goesOn x 1 = some (bI (decide (P.1 = 0) && decide (P.2.2 < E)), y) ∧ TX y B E P ∧ frTX x y := by
  have hE := ht.1
  obtain ⟨a, ha⟩ := h.a
  have haE := ha.2.2.2.2.1
  obtain ⟨y, y1, y2, y3⟩ := x_skipBlanks ht ha
  have hsk := sk_p (B := B) haE
  unfold F_X8_goesOn
  rw [y1, zbv_some, y2.1, ie0 (by omega), y2.2.2.1, y2.2.2.2.2.2.1, ile (by omega) (by omega)]
  by_cases z : P.1 = 0
  · have hz := (y2.at haE z).1
    rw [if_pos z, decide_eq_true z, hz]
    by_cases c : E ≤ P.2.2
    · rw [if_pos c, decide_eq_false (by omega)]
      exact ⟨y, rfl, y2.t, y3.x⟩
    · rw [if_neg c, decide_eq_true (by omega)]
      exact ⟨y, rfl, y2.t, y3.x⟩
  · rw [if_neg z, decide_eq_false z]
    exact ⟨y, rfl, y2.t, y3.x⟩
theorem x_sees {x : zMem} {B : Nat → Nat} {E : Nat} {P : PS} {c : Nat} (ht : okT B E) (hP : P.1 ≤ 3) (hc : c < 256) (h : TX x B E P) :
    ∃ y, F_X8_sees x 1 (nI c) = some (bI (decide (P.1 = 0) && (decide (P.2.2 < E) && decide (B P.2.2 = c))), y) ∧ TX y B E P ∧ fr7 x y ∧ (P.1 = 0 → TXa y B E P P.2.2) := by
  obtain ⟨a, ha⟩ := h.a
  have haE := ha.2.2.2.2.1
  obtain ⟨y, y1, y2, y3⟩ := x_skipBlanks ht ha
  unfold F_X8_sees
  rw [y1, zbv_some, y2.1, ie0 (by omega)]
  by_cases z : P.1 = 0
  · have hz := (y2.at haE z).1
    rw [if_pos z, decide_eq_true z, x_peek ht y2, zb_some, hz]
    dsimp only
    have hb := bS_eq (a := P.2.2) ht hc
    by_cases d : byS B E P.2.2 = nI c
    · have d2 := hb.mp d
      rw [if_pos d, decide_eq_true d2.1, decide_eq_true d2.2]
      exact ⟨y, rfl, y2.t, y3, fun _ => by rw [← hz]; exact y2⟩
    · rw [if_neg d]
      refine ⟨y, ?_, y2.t, y3, fun _ => by rw [← hz]; exact y2⟩
      have : (decide (P.2.2 < E) && decide (B P.2.2 = c)) = false := by
        by_cases e : P.2.2 < E
        · rw [decide_eq_true e, decide_eq_false (fun w => d (hb.mpr ⟨e, w⟩))]; rfl
        · rw [decide_eq_false e]; rfl
      rw [this]; rfl
  · rw [if_neg z, decide_eq_false z]
    exact ⟨y, rfl, y2.t, y3, fun w => absurd w z⟩
theorem x_seesDigit {x : zMem} {B : Nat → Nat} {E : Nat} {P : PS} (ht : okT B E) (hP : P.1 ≤ 3) (h : TX x B E P) :
    ∃ y, F_X8_seesDigit x 1 = some (bI (decide (P.1 = 0) && isDg B E P.2.2), y) ∧ TX y B E P ∧ fr7 x y ∧ (P.1 = 0 → TXa y B E P P.2.2) := by
  obtain ⟨a, ha⟩ := h.a
  have haE := ha.2.2.2.2.1
  obtain ⟨y, y1, y2, y3⟩ := x_skipBlanks ht ha
  unfold F_X8_seesDigit
  rw [y1, zbv_some, y2.1, ie0 (by omega)]
  by_cases z : P.1 = 0
  · have hz := (y2.at haE z).1
    rw [if_pos z, decide_eq_true z, x_peek ht y2, zb_some, hz]
    dsimp only
    rw [x_isDigit ht, zb_some]
    dsimp only
    rw [ibI]
    refine ⟨y, ?_, y2.t, y3, fun _ => by rw [← hz]; exact y2⟩
    cases isDg B E P.2.2 <;> rfl
  · rw [if_neg z, decide_eq_false z]
    exact ⟨y, rfl, y2.t, y3, fun w => absurd w z⟩
theorem x_sign {x : zMem} {B : Nat → Nat} {E : Nat} {P : PS} {c : Nat} (ht : okT B E) (hP : P.1 ≤ 3) (hc : c < 256) (h : TX x B E P) :
    ∃ y, F_X8_sign x 1 (nI c) = some y ∧ TX y B E (sgS B E (nI c) P) ∧ frTX x y := by
  have hE := ht.1
  obtain ⟨y, y1, y2, y3, y4⟩ := x_sees ht hP hc h
  have hb := bS_eq (a := P.2.2) ht hc
  unfold F_X8_sign sgS
  rw [y1, zb_some]
  dsimp only
  rw [ibI]
  by_cases z : P.1 = 0
  · have ya := y4 z
    rw [decide_eq_true z, if_pos z, Bool.true_and]
    by_cases d : byS B E P.2.2 = nI c
    · have d2 := hb.mp d
      rw [decide_eq_true d2.1, decide_eq_true d2.2, if_neg (by decide), if_pos d, zl_eq, ya.2.2.2.2.2.1, nI_1]
      have h2 := ya.2.2.2.2.1
      obtain ⟨q1, q2, q3, q4, q5, q6, q7⟩ := ya
      refine ⟨_, rfl, ⟨?_, ?_, ?_, fun k hk => ?_, P.2.2 + 1, by omega, ?_, fun _ => rfl⟩, y3.x.trans (frTX.s (by omega))⟩
      · rw [zI_s (by omega), q1, z]
      · rw [zI_s (by omega)]; exact q2
      · rw [zI_s (by omega)]; exact q3
      · rw [zI_n (by omega)]; exact q4 k hk
      · rw [zI_1, upd_s]
    · have : (decide (P.2.2 < E) && decide (B P.2.2 = c)) = false := by
        by_cases e : P.2.2 < E
        · rw [decide_eq_true e, decide_eq_false (fun w => d (hb.mpr ⟨e, w⟩))]; rfl
        · rw [decide_eq_false e]; rfl
      rw [this, if_pos rfl, if_neg d, ya.2.2.2.2.2.1]
      obtain ⟨y', f1, f2, f3⟩ := x_fail (c := 1) (v := nI P.2.2) y2 hP (by decide)
      rw [show F_X8_fail y 1 (1 : Int32) (nI P.2.2) = some y' from f1, zbv_some]
      unfold flS at f2
      rw [if_pos z] at f2
      exact ⟨y', rfl, f2, y3.x.trans f3⟩
  · rw [decide_eq_false z, if_neg z, Bool.false_and, if_pos rfl]
    obtain ⟨y', f1, f2, f3⟩ := x_fail (c := 1) (v := y.1 1 7) y2 hP (by decide)
    rw [show F_X8_fail y 1 (1 : Int32) (y.1 1 7) = some y' from f1, zbv_some]
    unfold flS at f2
    rw [if_neg z] at f2
    exact ⟨y', rfl, f2, y3.x.trans f3⟩
theorem x_number {x : zMem} {B : Nat → Nat} {E lo hi : Nat} {P : PS} (ht : okT B E) (hP : P.1 ≤ 3) (hhi : hi ≤ 9999) (hlo : lo ≤ 9999) (h : TX x B E P) :
    ∃ v y, F_X8_number x 1 (nI lo) (nI hi) = some (v, y) ∧ TX y B E (nuS B E lo hi P) ∧ frTX x y ∧ ((nuS B E lo hi P).1 = 0 → v = nI (nuV B E P) ∧ y.1 1 5 = nI P.2.2) ∧ ((nuS B E lo hi P).1 ≠ 0 → v = nI lo) := by
  have hE := ht.1
  have hw : wp (F_X8_number x 1 (nI lo) (nI hi)) (fun s => TX s.2 B E (nuS B E lo hi P) ∧ frTX x s.2 ∧ ((nuS B E lo hi P).1 = 0 → s.1 = nI (nuV B E P) ∧ s.2.1 1 5 = nI P.2.2) ∧ ((nuS B E lo hi P).1 ≠ 0 → s.1 = nI lo)) := by
    obtain ⟨y, y1, y2, y3, y4⟩ := x_seesDigit ht hP h
    unfold F_X8_number nuS nuV
    rw [y1, zb_some]
    dsimp only
    rw [ibI]
    by_cases z : P.1 = 0
    · have ya := y4 z
      rw [if_pos z, decide_eq_true z, Bool.true_and]
      cases hd : isDg B E P.2.2
      · rw [if_pos rfl, if_neg (by decide), ya.2.2.2.2.2.1]
        obtain ⟨y', f1, f2, f3⟩ := x_fail (c := 1) (v := nI P.2.2) y2 hP (by decide)
        rw [show F_X8_fail y 1 (1 : Int32) (nI P.2.2) = some y' from f1, zbv_some, wp_some]
        unfold flS at f2
        rw [if_pos z] at f2
        exact ⟨f2, y3.x.trans f3, fun w => absurd (show (1 : Nat) = 0 from w) (by decide), fun _ => rfl⟩
      · have haE := ya.2.2.2.2.1
        rw [if_neg (by decide), if_pos rfl, zl_eq, ya.2.2.2.2.2.1]
        have yb : TXa (zI y 1 5 (nI P.2.2)) B E P P.2.2 := ya.at45 (Or.inr rfl)
        have h5 : (zI y 1 5 (nI P.2.2)).1 1 5 = nI P.2.2 := by rw [zI_1, upd_s]
        have f5 : frTX x (zI y 1 5 (nI P.2.2)) := y3.x.trans (frTX.s (by omega))
        generalize zI y 1 5 (nI P.2.2) = y0 at yb h5 f5
        have fin : ∀ (V b : Nat) (s : zMem), (b, V) = dgS B E P.2.2 → b ≤ E → s.1 1 2 = nI 0 → s.1 1 3 = P.2.1 → s.1 1 6 = nI E → (∀ k, k < E → s.1 2 k = nI (B k)) → s.1 1 7 = nI b → s.1 1 5 = nI P.2.2 → frTX x s → wp (F_X8_number_80 1 (nI lo) (nI hi) (nI lo) (nI hi) (nI (min V 1000000)) s) (fun s => TX s.2 B E (if lo ≤ (dgS B E P.2.2).2 ∧ (dgS B E P.2.2).2 ≤ hi then (0, P.2.1, sk B E (dgS B E P.2.2).1) else (2, nI P.2.2, P.2.2)) ∧ frTX x s.2 ∧ ((if lo ≤ (dgS B E P.2.2).2 ∧ (dgS B E P.2.2).2 ≤ hi then ((0, P.2.1, sk B E (dgS B E P.2.2).1) : PS) else (2, nI P.2.2, P.2.2)).1 = 0 → s.1 = nI (dgS B E P.2.2).2 ∧ s.2.1 1 5 = nI P.2.2) ∧ ((if lo ≤ (dgS B E P.2.2).2 ∧ (dgS B E P.2.2).2 ≤ hi then ((0, P.2.1, sk B E (dgS B E P.2.2).1) : PS) else (2, nI P.2.2, P.2.2)).1 ≠ 0 → s.1 = nI lo)) := fun V b s hdg hb g1 g2 g3 g4 g5 g6 g7 => by
          rw [← hdg]
          dsimp only
          unfold F_X8_number_80
          by_cases hr : lo ≤ V ∧ V ≤ hi
          · rw [if_pos hr, show min V 1000000 = V by omega, x_inE, m_inY s hr.1 hr.2 (by omega), zb_some]
            dsimp only
            rw [if_neg (by decide), wp_some]
            exact ⟨⟨g1, g2, g3, g4, b, hb, g5, fun _ => rfl⟩, g7, fun _ => ⟨rfl, g6⟩, fun w => absurd rfl w⟩
          · rw [if_neg hr, x_inE, m_inN s (by rw [nI_ltI (by omega) (by omega), nI_ltI (by omega) (by omega)]; omega), zb_some]
            dsimp only
            rw [if_pos rfl, g6]
            obtain ⟨y', f1, f2, f3⟩ := x_fail (x := s) (B := B) (E := E) (c := 2) (P := (0, P.2.1, sk B E b)) (v := nI P.2.2) ⟨g1, g2, g3, g4, b, hb, g5, fun _ => rfl⟩ (by show 0 ≤ 3; omega) (by decide)
            rw [show F_X8_fail s 1 (2 : Int32) (nI P.2.2) = some y' from f1, zbv_some, wp_some]
            have f2' : TX y' B E (2, nI P.2.2, sk B E b) := f2
            obtain ⟨k1, k2, k3, k4, a', k5, k6, k7⟩ := f2'
            exact ⟨⟨k1, k2, k3, k4, a', k5, k6, fun w => absurd (show (2 : Nat) = 0 from w) (by decide)⟩, g7.trans f3, fun w => absurd (show (2 : Nat) = 0 from w) (by decide), fun _ => rfl⟩
        refine loopN (F_X8_number_28 _ _ _) (fun g k (s : Nat × zMem) => g (nI lo) (nI hi) (nI (min s.1 1000000)) s.2) 601 (fun k s => P.2.2 + k ≤ E ∧ dgF B (E - (P.2.2 + k)) (P.2.2 + k) s.1 = dgS B E P.2.2 ∧ s.2.1 1 2 = nI 0 ∧ s.2.1 1 3 = P.2.1 ∧ s.2.1 1 6 = nI E ∧ (∀ k, k < E → s.2.1 2 k = nI (B k)) ∧ s.2.1 1 7 = nI (P.2.2 + k) ∧ s.2.1 1 5 = nI P.2.2 ∧ frTX x s.2) _ (fun g k s hk hI ih => ?_) (fun g s hI => ?_) (k := 0) (s := ((0 : Nat), y0)) (by omega) ⟨haE, rfl, by rw [yb.1, z], yb.2.1, yb.2.2.1, yb.2.2.2.1, yb.2.2.2.2.2.1, h5, f5⟩ (by omega)
        · obtain ⟨V, s⟩ := s
          obtain ⟨i1, i2, i3, i4, i5, i6, i7, i8, i9⟩ := hI
          dsimp only at i1 i2 i3 i4 i5 i6 i7 i8 i9
          try dsimp only at ih ⊢
          have hTa : TXa s B E (0, P.2.1, sk B E (P.2.2 + k)) (P.2.2 + k) := ⟨i3, i4, i5, i6, i1, i7, fun _ => rfl⟩
          unfold F_X8_number_28
          rw [i5, i7, ile (by omega) (by omega)]
          by_cases c : E ≤ P.2.2 + k
          · rw [if_pos c]
            rw [show E - (P.2.2 + k) = 0 by omega] at i2
            exact fin V (P.2.2 + k) s i2 i1 i3 i4 i5 i6 i7 i8 i9
          · have hb := ht.2 (P.2.2 + k) (by omega)
            rw [if_neg c, x_peek ht hTa, zb_some]
            dsimp only
            rw [x_isDigit ht, zb_some]
            dsimp only
            rw [ibI]
            have hst : E - (P.2.2 + k) = (E - (P.2.2 + (k + 1))) + 1 := by omega
            rw [hst] at i2
            have i2' : (if 48 ≤ B (P.2.2 + k) ∧ B (P.2.2 + k) ≤ 57 then dgF B (E - (P.2.2 + (k + 1))) (P.2.2 + k + 1) (10 * V + (B (P.2.2 + k) - 48)) else (P.2.2 + k, V)) = dgS B E P.2.2 := i2
            cases hdd : isDg B E (P.2.2 + k)
            · rw [if_pos rfl]
              have hno : ¬ (48 ≤ B (P.2.2 + k) ∧ B (P.2.2 + k) ≤ 57) := fun w => by
                unfold isDg at hdd
                rw [decide_eq_true (by omega), decide_eq_true w.1, decide_eq_true w.2] at hdd
                cases hdd
              rw [if_neg hno] at i2'
              exact fin V (P.2.2 + k) s i2' i1 i3 i4 i5 i6 i7 i8 i9
            · have hyes : 48 ≤ B (P.2.2 + k) ∧ B (P.2.2 + k) ≤ 57 := by
                unfold isDg at hdd
                simp only [Bool.and_eq_true, decide_eq_true_eq] at hdd
                exact hdd.2
              rw [if_pos hyes] at i2'
              rw [if_neg (by decide), x_peek ht hTa, zb_some]
              dsimp only
              rw [zl_eq, zl_eq, i7, nI_1]
              have e1 : zmin (nI (min V 1000000) * (10 : Int32) + byS B E (P.2.2 + k) - (48 : Int32)) (1000000 : Int32) = nI (min (10 * V + (B (P.2.2 + k) - 48)) 1000000) := by
                unfold byS
                rw [if_pos (by omega), show (10 : Int32) = nI 10 from rfl, show (48 : Int32) = nI 48 from rfl, show (1000000 : Int32) = nI 1000000 from rfl, pk_mul, nI_add, pk_sub (by omega), ya_min (by omega) (by omega)]
                congr 1
                omega
              rw [e1]
              have g1 : (zI s 1 7 (nI (P.2.2 + k + 1))).1 1 2 = nI 0 := by rw [zI_s (by omega)]; exact i3
              have g2 : (zI s 1 7 (nI (P.2.2 + k + 1))).1 1 3 = P.2.1 := by rw [zI_s (by omega)]; exact i4
              have g3 : (zI s 1 7 (nI (P.2.2 + k + 1))).1 1 6 = nI E := by rw [zI_s (by omega)]; exact i5
              have g4 : ∀ j, j < E → (zI s 1 7 (nI (P.2.2 + k + 1))).1 2 j = nI (B j) := fun j hj => by rw [zI_n (by omega)]; exact i6 j hj
              have g5 : (zI s 1 7 (nI (P.2.2 + k + 1))).1 1 7 = nI (P.2.2 + (k + 1)) := by rw [zI_1, upd_s]; rfl
              have g6 : (zI s 1 7 (nI (P.2.2 + k + 1))).1 1 5 = nI P.2.2 := by rw [zI_s (by omega)]; exact i8
              exact ih (10 * V + (B (P.2.2 + k) - 48), zI s 1 7 (nI (P.2.2 + k + 1))) ⟨by omega, i2', g1, g2, g3, g4, g5, g6, i9.trans (frTX.s (by omega))⟩
        · obtain ⟨i1, _⟩ := hI
          omega
    · rw [if_neg z, decide_eq_false z, Bool.false_and, if_pos rfl]
      obtain ⟨y', f1, f2, f3⟩ := x_fail (c := 1) (v := y.1 1 7) y2 hP (by decide)
      rw [show F_X8_fail y 1 (1 : Int32) (y.1 1 7) = some y' from f1, zbv_some, wp_some]
      unfold flS at f2
      rw [if_neg z] at f2
      exact ⟨f2, y3.x.trans f3, fun w => absurd w z, fun _ => rfl⟩
  obtain ⟨⟨v, y⟩, h1, h2⟩ := hw
  exact ⟨v, y, h1, h2⟩
