/-! works: all clauses; the class' square, and what it leaves out -/
def wd0 : WD := ((4, 4, 0, fun _ => 0, fun _ => 0), fun _ => 0)
def stW (B : Nat → Nat) (E k : Nat) (s : PS × WD) : PS × WD := if s.1.1 = 0 ∧ s.1.2.2 < E then clS B E k s.1 s.2 else s
def rdW (B : Nat → Nat) (E k : Nat) : PS × WD := fN (fun k s => stW B E k s) (PS0 B E, wd0) k
theorem rdW_s (B : Nat → Nat) (E k : Nat) : rdW B E (k + 1) = stW B E k (rdW B E k) := rfl
theorem wd0_ok : okW wd0 := ⟨⟨by decide, by decide, by decide, by decide, by decide, fun h hh => absurd hh (Nat.not_lt_zero _)⟩, fun _ _ => Nat.zero_le _⟩
theorem rw_ok {B : Nat → Nat} {E : Nat} : ∀ k, okP B E (rdW B E k).1 ∧ okF (rdW B E k).1 ∧ ((rdW B E k).1.1 = 0 → okW (rdW B E k).2)
  | 0 => ⟨(PS0_ok B E).1, (PS0_ok B E).2, fun _ => wd0_ok⟩
  | k + 1 => by
    obtain ⟨h1, h2, h3⟩ := rw_ok (B := B) (E := E) k
    rw [rdW_s]
    unfold stW
    by_cases c : (rdW B E k).1.1 = 0 ∧ (rdW B E k).1.2.2 < E
    · rw [if_pos c]
      refine ⟨clF_ok (clP_ok h1), clF_F (clP_F h2), fun z => ?_⟩
      have z' : (clF B E (kdS B E (rdW B E k).1) (clP B E k (pn (rdW B E k).2.1) (rdW B E k).1)).1 = 0 := z
      obtain ⟨q1, q2, q3, q4, q5⟩ := cl_0 z'
      exact clD_ok (h3 c.1) q3 z'
    · rw [if_neg c]; exact ⟨h1, h2, h3⟩
theorem rw_stop {B : Nat → Nat} {E k : Nat} (h : ¬ ((rdW B E k).1.1 = 0 ∧ (rdW B E k).1.2.2 < E)) : ∀ j, k ≤ j → rdW B E j = rdW B E k
  | 0, hj => by rw [show (0 : Nat) = k by omega]
  | j + 1, hj => by
    by_cases c : k = j + 1
    · rw [c]
    · have ih := rw_stop h j (by omega)
      rw [rdW_s, ih]
      unfold stW
      rw [if_neg h]
theorem rw_61' {B : Nat → Nat} {E k n : Nat} (hk : k = 60) (hn : n = k + 1) : ¬ ((rdW B E n).1.1 = 0 ∧ (rdW B E n).1.2.2 < E) := by
  intro h
  rw [hn] at h
  by_cases c : (rdW B E k).1.1 = 0 ∧ (rdW B E k).1.2.2 < E
  · have e := rdW_s B E k
    unfold stW at e
    rw [if_pos c] at e
    rw [e] at h
    have z' : (clF B E (kdS B E (rdW B E k).1) (clP B E k (pn (rdW B E k).2.1) (rdW B E k).1)).1 = 0 := h.1
    have := (cl_0 z').2.1
    omega
  · rw [rw_stop c (k + 1) (by omega)] at h
    exact c h
theorem rw_61 {B : Nat → Nat} {E : Nat} : ¬ ((rdW B E 61).1.1 = 0 ∧ (rdW B E 61).1.2.2 < E) := rw_61' (k := 60) (n := 61) rfl rfl
theorem x_square {x : zMem} {a b : Nat} (ha : a ≤ 8) (hb : b ≤ 8) : ∃ v, F_X5_square x (nI a) (nI b) = some (v, x) ∧ ∀ p, p < 64 → tb v p = (decide (p % 8 < a) && decide (p / 8 < b)) := by
  have hw : wp (F_X5_square x (nI a) (nI b)) (fun r => r.2 = x ∧ ∀ p, p < 64 → tb r.1 p = (decide (p % 8 < a) && decide (p / 8 < b))) := by
    unfold F_X5_square
    refine loopN (F_X5_square_5 _ _) (fun g k (s : Int64 × zMem) => g (nI a) (nI b) s.1 (nI k) s.2) b (fun k s => s.2 = x ∧ ∀ p, p < 64 → tb s.1 p = (decide (p % 8 < a) && decide (p / 8 < k))) _ (fun g k s hk hI ih => ?_) (fun g s hI => ?_) (k := 0) (s := ((0 : Int64), x)) (by omega) ⟨rfl, fun p hp => ?_⟩ (by omega)
    · obtain ⟨v, y⟩ := s
      obtain ⟨i1, i2⟩ := hI
      dsimp only at i1 i2 ih ⊢
      subst i1
      unfold F_X5_square_5
      rw [ile (by omega) (by omega), if_neg (by omega)]
      refine loopN (F_X5_square_14 _ _ _) (fun g2 i (s : Int64 × zMem) => g2 (nI a) (nI b) s.1 (nI k) (nI i) s.2) a (fun i s => s.2 = y ∧ ∀ p, p < 64 → tb s.1 p = ((decide (p % 8 < a) && decide (p / 8 < k)) || (decide (p / 8 = k) && decide (p % 8 < i)))) _ (fun g2 i s hi hI2 ih2 => ?_) (fun g2 s hI2 => ?_) (k := 0) (s := (v, y)) (by omega) ⟨rfl, fun p hp => ?_⟩ (by omega)
      · obtain ⟨w, y2⟩ := s
        obtain ⟨j1, j2⟩ := hI2
        dsimp only at j1 j2 ih2 ⊢
        subst j1
        unfold F_X5_square_14
        rw [ile (by omega) (by omega), if_neg (by omega), x_placeOf, zb_some]
        dsimp only
        rw [x_bit, zb_some]
        dsimp only
        rw [zl_eq, nI_1]
        refine ih2 (w ||| bit1 (8 * k + i), y2) ⟨rfl, fun p hp => ?_⟩
        dsimp only
        rw [tb_or, j2 p hp, tb_bit (by omega) hp, Bool.or_assoc]
        congr 1
        by_cases c : p / 8 = k
        · rw [decide_eq_true c, Bool.true_and, Bool.true_and]
          by_cases c2 : p % 8 < i
          · rw [decide_eq_true c2, decide_eq_true (show p % 8 < i + 1 by omega), Bool.true_or]
          · rw [decide_eq_false c2, Bool.false_or]
            exact decide_eq_decide.mpr ⟨fun z => by omega, fun z => by omega⟩
        · rw [decide_eq_false c, Bool.false_and, Bool.false_and, Bool.false_or, decide_eq_false (by omega)]
      · obtain ⟨w, y2⟩ := s
        obtain ⟨j1, j2⟩ := hI2
        dsimp only at j1 j2 ⊢
        subst j1
        unfold F_X5_square_14
        rw [if_pos (Int32.le_refl _), nI_1]
        refine ih (w, y2) ⟨rfl, fun p hp => ?_⟩
        dsimp only
        rw [j2 p hp]
        by_cases c : p % 8 < a
        · rw [decide_eq_true c, Bool.true_and, Bool.true_and, Bool.and_true, ← Bool.decide_or]
          exact decide_eq_decide.mpr ⟨fun z => by omega, fun z => by omega⟩
        · rw [decide_eq_false c, Bool.false_and, Bool.false_and, Bool.and_false]; rfl
      · dsimp only
        rw [i2 p hp, decide_eq_false (show ¬ p % 8 < 0 by omega), Bool.and_false, Bool.or_false]
    · obtain ⟨v, y⟩ := s
      obtain ⟨i1, i2⟩ := hI
      dsimp only at i1 i2 ⊢
      unfold F_X5_square_5
      rw [if_pos (Int32.le_refl _), wp_some]
      exact ⟨i1, i2⟩
    · dsimp only
      rw [tb_0, decide_eq_false (show ¬ p / 8 < 0 by omega), Bool.and_false]
  obtain ⟨⟨v, y⟩, h1, h2, h3⟩ := hw
  dsimp only at h2 h3
  subst h2
  exact ⟨v, h1, h3⟩
/-- outside of the works is nothing, and where a heap stands is no pan -/
theorem x_leaveOut {x : zMem} {t : Nat} : ∃ y, F_X5_leaveOut x t = some y ∧ (∀ c, c ≠ t + 3 → c ≠ t + 4 → c ≠ t + 5 → y.1 c = x.1 c) ∧ y.2 = x.2 ∧ ∀ p, p < 64 →
    y.1 (t + 5) p = (if tb (x.2.1 t 3) p = true then x.1 (t + 5) p else 0) ∧ y.1 (t + 3) p = (if tb (x.2.1 t 3) p = true ∧ x.1 (t + 5) p ≤ 0 then x.1 (t + 3) p else 0) ∧ y.1 (t + 4) p = (if tb (x.2.1 t 3) p = true ∧ x.1 (t + 5) p ≤ 0 then x.1 (t + 4) p else 0) := by
  have hw : wp (F_X5_leaveOut x t) (fun y => (∀ c, c ≠ t + 3 → c ≠ t + 4 → c ≠ t + 5 → y.1 c = x.1 c) ∧ y.2 = x.2 ∧ ∀ p, p < 64 →
    y.1 (t + 5) p = (if tb (x.2.1 t 3) p = true then x.1 (t + 5) p else 0) ∧ y.1 (t + 3) p = (if tb (x.2.1 t 3) p = true ∧ x.1 (t + 5) p ≤ 0 then x.1 (t + 3) p else 0) ∧ y.1 (t + 4) p = (if tb (x.2.1 t 3) p = true ∧ x.1 (t + 5) p ≤ 0 then x.1 (t + 4) p else 0)) := by
    unfold F_X5_leaveOut
    refine loopN (F_X5_leaveOut_2 _) (fun g k (y : zMem) => g (nI k) y) 64 (fun k y => (∀ c, c ≠ t + 3 → c ≠ t + 4 → c ≠ t + 5 → y.1 c = x.1 c) ∧ y.2 = x.2 ∧ (∀ p, p < k → y.1 (t + 5) p = (if tb (x.2.1 t 3) p = true then x.1 (t + 5) p else 0) ∧ y.1 (t + 3) p = (if tb (x.2.1 t 3) p = true ∧ x.1 (t + 5) p ≤ 0 then x.1 (t + 3) p else 0) ∧ y.1 (t + 4) p = (if tb (x.2.1 t 3) p = true ∧ x.1 (t + 5) p ≤ 0 then x.1 (t + 4) p else 0)) ∧ ∀ p, k ≤ p → y.1 (t + 5) p = x.1 (t + 5) p ∧ y.1 (t + 3) p = x.1 (t + 3) p ∧ y.1 (t + 4) p = x.1 (t + 4) p) _ (fun g k y hk hI ih => ?_) (fun g y hI => ?_) (k := 0) (s := x) (by omega) ⟨fun _ _ _ _ => rfl, rfl, fun p hp => absurd hp (Nat.not_lt_zero _), fun _ _ => ⟨rfl, rfl, rfl⟩⟩ (by omega)
    · obtain ⟨i1, i2, i3, i4⟩ := hI
      try dsimp only at i1 i2 i3 i4 ih ⊢
      obtain ⟨k5, k3, k4⟩ := i4 k (Nat.le_refl _)
      unfold F_X5_leaveOut_2 F_X5_leaveOut_26
      have h64 : ¬ (64 : Int32) ≤ nI k := by rw [show (64 : Int32) = nI 64 from rfl, nI_leI (by omega) (by omega)]; omega
      rw [if_neg h64, x_has _ _ hk, zb_some]
      dsimp only
      rw [ibI, i2]
      -- the memory behind, and what it holds
      have z46 : ∀ y2 : zMem, F_X5_leaveOut_46 t g (nI k) y2 = g (nI (k + 1)) (zI (zI y2 (t + 3) k 0) (t + 4) k 0) := fun y2 => by
        unfold F_X5_leaveOut_46 F_X5_leaveOut_60
        rw [gin_ok hk (by decide), zl_eq, zl_eq, nI_clamp (by omega), nI_1]
      cases hb : tb (x.2.1 t 3) k
      · rw [if_pos rfl, gin_ok hk (by decide), zl_eq, nI_clamp (by omega), show (zI y (t + 5) k (0 : Int32)).2.1 t 3 = x.2.1 t 3 from by show y.2.1 t 3 = _; rw [i2], x_has _ _ hk, zb_some]
        dsimp only
        rw [ibI, hb, if_pos rfl, z46]
        refine ih _ ⟨fun c h1 h2 h3 => ?_, i2, fun p hp => ?_, fun p hp => ?_⟩
        · rw [zI_n h2, zI_n h1, zI_n h3]; exact i1 c h1 h2 h3
        · rw [zI_n (a := t + 5) (k := t + 4) (by omega), zI_n (a := t + 5) (k := t + 3) (by omega), zI_1, zI_n (a := t + 3) (k := t + 4) (by omega), zI_1, zI_n (a := t + 3) (k := t + 5) (by omega), zI_1, zI_n (a := t + 4) (k := t + 3) (by omega), zI_n (a := t + 4) (k := t + 5) (by omega)]
          by_cases c : p = k
          · rw [c, upd_s, upd_s, upd_s, hb, if_neg (by decide), if_neg (fun w => absurd w.1 (by decide)), if_neg (fun w => absurd w.1 (by decide))]
            exact ⟨rfl, rfl, rfl⟩
          · rw [upd_n c, upd_n c, upd_n c]; exact i3 p (by omega)
        · rw [zI_n (a := t + 5) (k := t + 4) (by omega), zI_n (a := t + 5) (k := t + 3) (by omega), zI_1, zI_n (a := t + 3) (k := t + 4) (by omega), zI_1, zI_n (a := t + 3) (k := t + 5) (by omega), zI_1, zI_n (a := t + 4) (k := t + 3) (by omega), zI_n (a := t + 4) (k := t + 5) (by omega), upd_n (by omega), upd_n (by omega), upd_n (by omega)]
          exact i4 p (by omega)
      · rw [if_neg (by decide), x_has _ _ hk, zb_some]
        dsimp only
        rw [ibI, hb, if_neg (by decide), gin_ok hk (by decide), nI_clamp (by omega), k5]
        by_cases hg : x.1 (t + 5) k ≤ 0
        · unfold F_X5_leaveOut_60
          rw [if_pos hg, nI_1]
          refine ih y ⟨i1, i2, fun p hp => ?_, fun p hp => i4 p (by omega)⟩
          by_cases c : p = k
          · rw [c, hb, if_pos rfl, if_pos ⟨rfl, hg⟩, if_pos ⟨rfl, hg⟩]; exact ⟨k5, k3, k4⟩
          · exact i3 p (by omega)
        · rw [if_neg hg, z46]
          refine ih _ ⟨fun c h1 h2 h3 => ?_, i2, fun p hp => ?_, fun p hp => ?_⟩
          · rw [zI_n h2, zI_n h1]; exact i1 c h1 h2 h3
          · rw [zI_n (a := t + 5) (k := t + 4) (by omega), zI_n (a := t + 5) (k := t + 3) (by omega), zI_n (a := t + 3) (k := t + 4) (by omega), zI_1, zI_1, zI_n (a := t + 4) (k := t + 3) (by omega)]
            by_cases c : p = k
            · rw [c, upd_s, upd_s, hb, if_pos rfl, if_neg (fun w => hg w.2), if_neg (fun w => hg w.2)]; exact ⟨k5, rfl, rfl⟩
            · rw [upd_n c, upd_n c]; exact i3 p (by omega)
          · rw [zI_n (a := t + 5) (k := t + 4) (by omega), zI_n (a := t + 5) (k := t + 3) (by omega), zI_n (a := t + 3) (k := t + 4) (by omega), zI_1, zI_1, zI_n (a := t + 4) (k := t + 3) (by omega), upd_n (by omega), upd_n (by omega)]
            exact i4 p (by omega)
    · obtain ⟨i1, i2, i3, i4⟩ := hI
      try dsimp only at i1 i2 i3 i4 ⊢
      unfold F_X5_leaveOut_2
      rw [if_pos (by decide), wp_some]
      exact ⟨i1, i2, i3⟩
  exact hw
/-- the row that a works begins with -/
def stU (D : WD) : Nat → Nat := fun i =>
  if i < 64 then (if inW D.1 i = true ∧ D.2 (128 + i) = 0 then D.2 i else 0) else if i < 128 then (if inW D.1 (i - 64) = true ∧ D.2 (64 + i) = 0 then D.2 i else 0)
  else if i < 192 then (if inW D.1 (i - 128) = true then D.2 i else 0) else 0
theorem stU_0 (D : WD) {p : Nat} (h : p < 64) : stU D p = if inW D.1 p = true ∧ D.2 (128 + p) = 0 then D.2 p else 0 := by unfold stU; rw [if_pos h]
theorem stU_1 (D : WD) {p : Nat} (h : p < 64) : stU D (64 + p) = if inW D.1 p = true ∧ D.2 (128 + p) = 0 then D.2 (64 + p) else 0 := by
  unfold stU
  rw [if_neg (by omega), if_pos (by omega), show 64 + p - 64 = p by omega, show 64 + (64 + p) = 128 + p by omega]
theorem stU_2 (D : WD) {p : Nat} (h : p < 64) : stU D (128 + p) = if inW D.1 p = true then D.2 (128 + p) else 0 := by
  unfold stU
  rw [if_neg (by omega), if_neg (by omega), if_pos (by omega), show 128 + p - 128 = p by omega]
theorem stU_3 (D : WD) {i : Nat} (h : 192 ≤ i) : stU D i = 0 := by
  unfold stU
  rw [if_neg (by omega), if_neg (by omega), if_neg (by omega)]
theorem stU_ok {D : WD} (h : okW D) : okD D.1 (stU D) := by
  refine ⟨⟨fun i hi => ?_, fun p hp hn => ⟨?_, ?_, ?_⟩, ?_⟩, ?_⟩
  · have := h.2 i hi
    unfold stU
    repeat' split
    all_goals omega
  · rw [stU_0 D hp, if_neg (fun w => by rw [hn] at w; exact absurd w.1 (by decide))]
  · rw [stU_1 D hp, if_neg (fun w => by rw [hn] at w; exact absurd w.1 (by decide))]
  · rw [stU_2 D hp, if_neg (fun w => by rw [hn] at w; exact absurd w (by decide))]
  · rw [stU_3 D (by omega)]
    omega
  · rw [stU_3 D (by omega)]; omega
