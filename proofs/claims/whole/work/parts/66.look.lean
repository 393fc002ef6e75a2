/-! fits, look -/
theorem cnt_none {p : Nat → Bool} : ∀ {n}, (∀ j, j < n → p j = false) → cnt p n = 0
  | 0, _ => rfl
  | n + 1, h => by rw [cnt_succ, cnt_none (fun j hj => h j (by omega)), h n (by omega)]; rfl
theorem cnt_mono {p q : Nat → Bool} : ∀ {n}, (∀ j, j < n → p j = true → q j = true) → cnt p n ≤ cnt q n
  | 0, _ => Nat.le_refl _
  | n + 1, h => by
    have ih := cnt_mono (p := p) (q := q) (n := n) (fun j hj => h j (by omega))
    have hn := h n (by omega)
    rw [cnt_succ, cnt_succ]
    cases hp : p n
    · rw [if_neg (by decide)]; split <;> omega
    · rw [hn hp, if_pos rfl]; omega
def maxN (f : Nat → Nat) (n : Nat) : Nat := fN (fun k b => max b (f k)) 0 n
theorem maxN_s (f : Nat → Nat) (n : Nat) : maxN f (n + 1) = max (maxN f n) (f n) := rfl
theorem maxN_ge {f : Nat → Nat} : ∀ {n k}, k < n → f k ≤ maxN f n
  | 0, _, h => absurd h (Nat.not_lt_zero _)
  | n + 1, k, h => by
    rw [maxN_s]
    by_cases c : k = n
    · rw [c]; omega
    · have := maxN_ge (f := f) (n := n) (k := k) (by omega); omega
theorem maxN_le {f : Nat → Nat} {b : Nat} : ∀ {n}, (∀ k, k < n → f k ≤ b) → maxN f n ≤ b
  | 0, _ => Nat.zero_le _
  | n + 1, h => by
    rw [maxN_s]
    have := maxN_le (f := f) (n := n) (fun k hk => h k (by omega))
    have := h n (by omega)
    omega
def mostA (v : Nat → Nat) (n : Nat) : Nat := maxN (fun i => cnt (fun j => decide (i ≤ j) && decide (v i = v j)) n) n
def worstA (v : Nat → Nat) (n : Nat) : Nat := maxN (fun i => cnt (fun j => decide (v i = v j)) n) n
theorem mostA_le {v : Nat → Nat} {n : Nat} : mostA v n ≤ n := maxN_le (fun _ _ => cnt_le _ _)
theorem most_worst (v : Nat → Nat) (n : Nat) : mostA v n = worstA v n := by
  refine Nat.le_antisymm (maxN_le (fun i hi => ?_)) (maxN_le (fun i hi => ?_))
  · refine Nat.le_trans (cnt_mono (q := fun j => decide (v i = v j)) (fun j _ h => ?_)) (maxN_ge (f := fun i => cnt (fun j => decide (v i = v j)) n) hi)
    rw [Bool.and_eq_true] at h
    exact h.2
  · let f : Nat → Nat := fun j => if v j = v i then 0 else 1
    have hf : ∀ j, f j = 0 ↔ v j = v i := fun j => by
      show (if v j = v i then 0 else 1) = 0 ↔ _
      by_cases c : v j = v i
      · rw [if_pos c]; exact ⟨fun _ => c, fun _ => rfl⟩
      · rw [if_neg c]; exact ⟨fun z => absurd z (by decide), fun z => absurd z c⟩
    have hk : fz f (i + 1) < i + 1 := by
      have h1 := fz_le f (i + 1)
      by_cases c : fz f (i + 1) = i + 1
      · exact absurd ((hf i).mpr rfl) (fz_no (n := i + 1) (k := i) (by omega))
      · omega
    have h2 := (hf _).mp (fz_yes hk)
    generalize hkk : fz f (i + 1) = k at hk h2
    refine Nat.le_trans (Nat.le_of_eq (cnt_congr (q := fun j => decide (k ≤ j) && decide (v k = v j)) (fun j hj => ?_))) (maxN_ge (f := fun i => cnt (fun j => decide (i ≤ j) && decide (v i = v j)) n) (show k < n by omega))
    by_cases c : k ≤ j
    · rw [decide_eq_true c, Bool.true_and, h2]
    · have h3 := fz_no (f := f) (n := i + 1) (k := j) (by omega)
      rw [decide_eq_false c, Bool.false_and]
      exact decide_eq_false (fun z => h3 ((hf j).mpr z.symm))
theorem x_mostAlike {y : zMem} {v : Nat → Nat} {n : Nat} (hn : n ≤ 64) (hc : ∀ i, i < n → y.1 173 i = nI (v i)) (hv : ∀ i, i < n → v i ≤ 9999) : F_X9_mostAlike y (nI n) = some (nI (mostA v n), y) := by
  have hw : wp (F_X9_mostAlike y (nI n)) (fun q => q = (nI (mostA v n), y)) := by
    unfold F_X9_mostAlike
    refine loopN (F_X9_mostAlike_4 _) (fun g k (s : Nat) => g (nI n) (nI s) (nI k) y) n (fun k s => s = maxN (fun i => cnt (fun j => decide (i ≤ j) && decide (v i = v j)) n) k ∧ s ≤ 64) _ (fun g i s hi hI ih => ?_) (fun g s hI => ?_) (k := 0) (s := 0) (by omega) ⟨rfl, by omega⟩ (by omega)
    · obtain ⟨i1, i2⟩ := hI
      try dsimp only at i1 i2 ih ⊢
      have hle := cnt_le (fun j => decide (i ≤ j) && decide (v i = v j)) n
      unfold F_X9_mostAlike_4
      rw [ile (by omega) (by omega), if_neg (by omega)]
      refine loopN (F_X9_mostAlike_15 _ _) (fun g2 j (t : Nat) => g2 (nI n) (nI s) (nI i) (nI t) (nI j) y) n (fun j t => t = cnt (fun j => decide (i ≤ j) && decide (v i = v j)) j ∧ i ≤ j) _ (fun g2 j t hj hI2 ih2 => ?_) (fun g2 t hI2 => ?_) (k := i) (s := 0) (by omega) ⟨(cnt_none (fun j hj => by rw [decide_eq_false (by omega)]; rfl)).symm, Nat.le_refl _⟩ (by omega)
      · obtain ⟨j1, j2⟩ := hI2
        try dsimp only at j1 j2 ih2 ⊢
        have bi := hv i hi
        have bj := hv j hj
        unfold F_X9_mostAlike_15 F_X9_mostAlike_44
        rw [ile (by omega) (by omega), if_neg (by omega), gin_ok (by omega) (by decide), gin_ok (by omega) (by decide), nI_clamp (by omega), nI_clamp (by omega), hc i hi, hc j hj, ieq (by omega) (by omega), zl_eq, zl_eq, nI_1, nI_1]
        by_cases c : v i = v j
        · rw [if_pos c]
          refine ih2 (t + 1) ⟨?_, by omega⟩
          rw [cnt_succ, decide_eq_true j2, decide_eq_true c, ← j1]; rfl
        · rw [if_neg c, ya_0, nI_add]
          refine ih2 (t + 0) ⟨?_, by omega⟩
          rw [cnt_succ, decide_eq_true j2, decide_eq_false c, ← j1]; rfl
      · obtain ⟨j1, j2⟩ := hI2
        try dsimp only at j1 j2 ⊢
        unfold F_X9_mostAlike_15
        rw [if_pos (Int32.le_refl _), zl_eq, ya_max (by omega) (by omega), nI_1]
        exact ih (max s t) ⟨by rw [maxN_s, i1, j1], by omega⟩
    · obtain ⟨i1, i2⟩ := hI
      try dsimp only at i1 i2 ⊢
      unfold F_X9_mostAlike_4
      rw [if_pos (Int32.le_refl _), wp_some, i1]
      rfl
  obtain ⟨q, q1, q2⟩ := hw
  rw [q1, q2]
theorem m_worstAt {y : zMem} {v : Nat → Nat} {n q : Nat} (hn : n ≤ 64) (hq : q < 64) (hc : ∀ i, i < n → y.1 (475 + (1 + 1 * i)) q = nI (v i)) (hv : ∀ i, i < n → v i ≤ 9999) : F_X10_worstAt y (nI q) (nI n) = some (nI (worstA v n), y) := by
  have hw : wp (F_X10_worstAt y (nI q) (nI n)) (fun s => s = (nI (worstA v n), y)) := by
    unfold F_X10_worstAt
    refine loopN (F_X10_worstAt_5 _ _) (fun g k (s : Nat) => g (nI q) (nI n) (nI s) (nI k) y) n (fun k s => s = maxN (fun i => cnt (fun j => decide (v i = v j)) n) k ∧ s ≤ 64) _ (fun g i s hi hI ih => ?_) (fun g s hI => ?_) (k := 0) (s := 0) (by omega) ⟨rfl, by omega⟩ (by omega)
    · obtain ⟨i1, i2⟩ := hI
      try dsimp only at i1 i2 ih ⊢
      have hle := cnt_le (fun j => decide (v i = v j)) n
      unfold F_X10_worstAt_5
      rw [ile (by omega) (by omega), if_neg (by omega)]
      refine loopN (F_X10_worstAt_17 _ _ _) (fun g2 j (t : Nat) => g2 (nI q) (nI n) (nI s) (nI i) (nI t) (nI j) y) n (fun j t => t = cnt (fun j => decide (v i = v j)) j) _ (fun g2 j t hj hI2 ih2 => ?_) (fun g2 t hI2 => ?_) (k := 0) (s := 0) (by omega) rfl (by omega)
      · try dsimp only at hI2 ih2 ⊢
        have bi := hv i hi
        have bj := hv j hj
        unfold F_X10_worstAt_17 F_X10_worstAt_51
        rw [ile (by omega) (by omega), if_neg (by omega), gin_ok (by omega) (by decide), gin_ok hq (by decide), gin_ok (by omega) (by decide), nI_clamp (by omega), nI_clamp (by omega), nI_clamp (by omega), hc i hi, hc j hj, ieq (by omega) (by omega), zl_eq, zl_eq, nI_1, nI_1]
        by_cases c : v i = v j
        · rw [if_pos c]
          refine ih2 (t + 1) ?_
          rw [cnt_succ, decide_eq_true c, ← hI2]; rfl
        · rw [if_neg c, ya_0, nI_add]
          refine ih2 (t + 0) ?_
          rw [cnt_succ, decide_eq_false c, ← hI2]; rfl
      · try dsimp only at hI2 ⊢
        unfold F_X10_worstAt_17
        rw [if_pos (Int32.le_refl _), m_moreN _ (by omega) (by omega), zb_some, nI_1]
        exact ih (max s t) ⟨by rw [maxN_s, i1, hI2], by omega⟩
    · obtain ⟨i1, i2⟩ := hI
      try dsimp only at i1 i2 ⊢
      unfold F_X10_worstAt_5
      rw [if_pos (Int32.le_refl _), wp_some, i1]
      rfl
  obtain ⟨s, q1, q2⟩ := hw
  rw [q1, q2]
/-- the first that counts -/
def firB (c : Nat → Bool) (n : Nat) : BS := fN (fun p b => match b with
  | none => if c p then some (p, 0) else none
  | some q => some q) none n
theorem firB_s (c : Nat → Bool) (n : Nat) : firB c (n + 1) = match firB c n with
  | none => if c n then some (n, 0) else none
  | some q => some q := rfl
theorem firB_stay {c : Nat → Bool} {k : Nat} {q : Nat × Nat} (h : firB c k = some q) : ∀ n, k ≤ n → firB c n = some q
  | 0, hn => by rw [show (0 : Nat) = k by omega]; exact h
  | n + 1, hn => by
    by_cases e : k = n + 1
    · rw [← e]; exact h
    · rw [firB_s, firB_stay h n (by omega)]
theorem firB_ok {c : Nat → Bool} : ∀ {n}, n ≤ 64 → okb (firB c n)
  | 0, _ => okb_n
  | n + 1, hn => by
    have ih := firB_ok (c := c) (n := n) (by omega)
    rw [firB_s]
    cases hb : firB c n with
    | none =>
      dsimp only
      split
      · exact fun q hq => by cases hq; exact ⟨by show n < 2 ^ 31; omega, by show (0 : Nat) < 2 ^ 31; omega⟩
      · exact okb_n
    | some q => exact fun z hz => by cases hz; exact ih q hb
theorem firB_cnt {c : Nat → Bool} : ∀ {n}, (firB c n = none ↔ cnt c n = 0)
  | 0 => ⟨fun _ => rfl, fun _ => rfl⟩
  | n + 1 => by
    have ih := firB_cnt (c := c) (n := n)
    rw [firB_s, cnt_succ]
    cases hb : firB c n with
    | none =>
      have := ih.mp hb
      cases c n
      · exact ⟨fun _ => by rw [this]; rfl, fun _ => rfl⟩
      · exact ⟨fun z => (by cases z), fun z => by rw [if_pos rfl] at z; omega⟩
    | some q =>
      have : cnt c n ≠ 0 := fun z => by have := ih.mpr z; rw [hb] at this; cases this
      exact ⟨fun z => (by cases z), fun z => by omega⟩
theorem q_fits {x m : zMem} {S : SS} (a b : Int32) (hX : RXo x S) (hM : RMn m S) (ok : okS S) : same T1 (F_X9_fits x a b) (F_X10_fits m a b) := by
  obtain ⟨pl, r, n, h⟩ := hX
  have hM1 := hM.t ok
  have he := ok.1
  have hv := ok.u
  have hr := h.1.2.2.2.2.2
  have hnn := h.2.1.2.2.2.2
  have mb : F_X10_fits_31 a b a b 1 (zI m 0 0 0) = some (0, zI (zI (zI m 0 0 0) 0 0 (nI 1)) 2 1 ((zI m 0 0 0).1 2 1 + 1)) := by
    unfold F_X10_fits_31
    rw [m_bad11 t0_0, zb_some]; rfl
  have f : F_X9_fits x a b = some (1, 0, zI x 0 17 (x.1 0 17 + 1)) → F_X10_fits m a b = F_X10_fits_31 a b a b 1 (zI m 0 0 0) → same T1 (F_X9_fits x a b) (F_X10_fits m a b) := fun h1 h2 =>
    same_1 (t := 1) h hM1 ok (Or.inr ⟨rfl, rfl⟩) frQ.refl frN.refl (v := 0) (w := 0) h1 (h2.trans mb)
  unfold F_X9_fits F_X10_fits at f ⊢
  rw [zl_eq] at f ⊢
  rcases ya_rng1 a (c := 1) (b := 999) (by decide) (by decide) with ⟨z, hz1, hz, rfl⟩ | ha
  · rw [show F_X9_within x (nI z) (1 : Int32) (999 : Int32) = some (1, x) from m_inY _ hz1 hz (by decide), show F_X10_in (zI m 0 0 0) (nI z) (1 : Int32) (999 : Int32) = some (1, zI m 0 0 0) from m_inY _ hz1 hz (by decide), zb_some, zb_some] at f ⊢
    dsimp only at f ⊢
    rw [if_neg (by decide), if_neg (by decide)] at f ⊢
    rcases ya_rng b (b := 1) (by decide) with ⟨w, hw, rfl⟩ | hb
    · rw [show F_X9_within x (nI w) (0 : Int32) (1 : Int32) = some (1, x) from m_inY _ (Nat.zero_le w) hw (by decide), show F_X10_in (zI m 0 0 0) (nI w) (0 : Int32) (1 : Int32) = some (1, zI m 0 0 0) from m_inY _ (Nat.zero_le w) hw (by decide), zb_some, zb_some]
      dsimp only
      rw [if_neg (by decide), if_neg (by decide)]
      generalize hfit : fitS (sE S) (sL S) (sB S) (sN S).2.1 z = fit
      have hX1 : wp (F_X9_fits_26 (nI z) (nI w) (nI z) (nI w) 1 x) (fun q => q.1 = 0 ∧ q.2.1 = (if w = 0 then nI (cnt fit 64) else tellB (firB fit 64)) ∧ frX r (fun a => 104 ≤ a ∧ a ≤ 172) x q.2.2) := by
        obtain ⟨fm, y0, c1, c2, c3, c5⟩ := x_fittingPlaces h.1 he ok.2.1 h.u hv h.2.2.1 hnn h.2.1.2.2.1 ok.2.2.1 ⟨hz1, hz⟩
        obtain ⟨y1, d1, d2, d3⟩ := x_clear y0
        have fx : ∀ {y z : zMem}, fr172 y z → frX r (fun a => 104 ≤ a ∧ a ≤ 172) y z := fun h => ⟨fun a _ _ h3 => h.1 a (fun c => h3 ⟨by omega, by omega⟩), fun a _ => by rw [h.2], by rw [h.2]⟩
        have f0 : frX r (fun a => 104 ≤ a ∧ a ≤ 172) x y0 := c5.wid (fun a q => by unfold SL at q; exact ⟨q.1, by omega⟩)
        rw [hfit] at c2
        unfold F_X9_fits_26
        rw [x_need1, zbx_0, c1, zb_some]
        dsimp only
        rw [ie0 (by omega)]
        by_cases cw : w = 0
        · rw [if_pos cw, if_pos cw, x_bitCount, zb_some, wp_some]
          exact ⟨rfl, by dsimp only; rw [cnt_congr c2], f0⟩
        · rw [if_neg cw, if_neg cw, d1, zbv_some]
          have out : ∀ y, XB y (firB fit 64) → fr172 y0 y → wp (F_X9_fits_97 (nI z) (nI w) y) (fun q => q.1 = 0 ∧ q.2.1 = tellB (firB fit 64) ∧ frX r (fun a => 104 ≤ a ∧ a ≤ 172) x q.2.2) := fun y i1 i2 => by
            unfold F_X9_fits_97
            rw [show F_X0_placeOrAmount y 172 (0 : Int32) = _ from x_poa (w := 0) i1 (by omega), zb_some, wp_some]
            exact ⟨rfl, rfl, f0.trans (fx i2)⟩
          refine loopN (F_X9_fits_54 _ _) (fun g k (y : zMem) => g fm (nI k) y) 64 (fun k y => XB y (firB fit k) ∧ fr172 y0 y) _ (fun g k y hk hI ih => ?_) (fun g y hI => ?_) (k := 0) (s := y1) (by omega) ⟨d2, d3⟩ (by omega)
          · obtain ⟨i1, i2⟩ := hI
            try dsimp only at i1 i2 ih ⊢
            have hsk := firB_s fit k
            unfold F_X9_fits_54 F_X9_fits_91
            rw [show (64 : Int32) = nI 64 from rfl, ile (by omega) (by omega), if_neg (by omega)]
            cases hb : firB fit k with
            | some q =>
              have h64 := firB_stay hb 64 (by omega)
              rw [hb] at i1
              have hq := i1.2.2 q rfl
              have e1 : y.1 172 0 = nI q.1 := i1.1
              rw [if_neg (by rw [e1, ya_ne_m1 hq.1]; exact fun z => z)]
              exact out y (by rw [h64]; exact i1) i2
            | none =>
              rw [hb] at i1 hsk
              dsimp only at hsk
              rw [if_pos (show y.1 172 0 = -1 from i1.1), x_has y _ hk, zb_some]
              dsimp only
              rw [ibI, c2 k hk, nI_1]
              cases hf : fit k
              · rw [hf, if_neg (by decide)] at hsk
                rw [if_pos rfl]
                exact ih y ⟨by rw [hsk]; exact i1, i2⟩
              · rw [hf, if_pos rfl] at hsk
                rw [if_neg (by decide)]
                obtain ⟨y2, e1, e2, e3⟩ := x_offerLeast (p := k) (v := 0) i1 (by omega) (by omega)
                rw [show F_X0_offerLeast y 172 (nI k) (0 : Int32) = _ from e1, zbv_some]
                exact ih y2 ⟨by rw [hsk]; exact e2, i2.trans e3⟩
          · obtain ⟨i1, i2⟩ := hI
            try dsimp only at i1 i2 ⊢
            unfold F_X9_fits_54
            rw [show (64 : Int32) = nI 64 from rfl, if_pos (Int32.le_refl _)]
            exact out y i1 i2
      have hM2 : wp (F_X10_fits_31 (nI z) (nI w) (nI z) (nI w) 0 (zI m 0 0 0)) (fun q => q.1 = (if w = 0 then nI (cnt fit 64) else tellB (firB fit 64)) ∧ frM 452 (zI m 0 0 0) q.2) := by
        unfold F_X10_fits_31
        rw [m_bad0 t0_0, zb_some]
        dsimp only
        rw [if_pos rfl]
        refine loopN (F_X10_fits_49 _ _) (fun g k (s : Int32 × Int32 × zMem) => g (nI z) (nI w) s.1 s.2.1 (nI k) s.2.2) 64 (fun k s => s.1 = nI (cnt fit k) ∧ s.2.1 = bF (firB fit k) ∧ frM 452 (zI m 0 0 0) s.2.2) _ (fun g k s hk hI ih => ?_) (fun g s hI => ?_) (k := 0) (s := (0, -1, zI m 0 0 0)) (by omega) ⟨rfl, rfl, frM.refl⟩ (by omega)
        · obtain ⟨s1, s2, y⟩ := s
          obtain ⟨i1, i2, i3⟩ := hI
          try dsimp only at i1 i2 i3 ih ⊢
          have H' : RMh y (sE S) (sL S) (sN S).2.1 451 := i3.h (by omega) he ok.2.1 (by omega) (by omega) (by omega) hM1.h
          have hsk := firB_s fit k
          have hcs := cnt_succ fit k
          have hcn := firB_cnt (c := fit) (n := k)
          have hcl := cnt_le fit k
          have hfk : fit k = (freeS (sE S) (sN S).2.1 k && soS (sE S) (sL S) (sB S) (sN S).2.1 k z) := by rw [← hfit]; rfl
          have no : ∀ y2, fit k = false → frM 452 (zI m 0 0 0) y2 → wp (g (nI z) (nI w) s1 s2 (nI (k + 1)) y2) (fun q => q.1 = (if w = 0 then nI (cnt fit 64) else tellB (firB fit 64)) ∧ frM 452 (zI m 0 0 0) q.2) := fun y2 h1 h2 => by
            refine ih (s1, s2, y2) ⟨?_, ?_, h2⟩
            · rw [hcs, h1, if_neg (by decide)]; exact i1
            · rw [hsk, h1]
              dsimp only
              rw [i2]
              cases firB fit k <;> rfl
          unfold F_X10_fits_49 F_X10_fits_89 F_X10_fits_94
          rw [show (64 : Int32) = nI 64 from rfl, ile (by omega) (by omega), if_neg (by omega), m_isFree H'.1 he H'.2.2 hv.1 hk, zb_some]
          dsimp only
          rw [ibI, nI_1, show (inW (sE S) k && isFreeS (sN S).2.1 k) = freeS (sE S) (sN S).2.1 k from rfl]
          cases hf : freeS (sE S) (sN S).2.1 k
          · rw [if_pos rfl]
            exact no y (by rw [hfk, hf]; rfl) i3
          · obtain ⟨y2, d1, d2, _⟩ := m_isSo (z := z) H' (i3.b (by omega) ok.2.2.1.1 hM1.2.2.1) ok.2.2.1 he ok.2.1 hv hk (free_0 hf).2 (by omega)
            rw [if_neg (by decide), d1, zb_some]
            dsimp only
            rw [ibI]
            cases hs : soS (sE S) (sL S) (sB S) (sN S).2.1 k z
            · rw [if_pos rfl]
              exact no y2 (by rw [hfk, hs, Bool.and_false]) (i3.trans d2)
            · have hft : fit k = true := by rw [hfk, hf, hs]; rfl
              rw [hft, if_pos rfl] at hcs
              rw [hft] at hsk
              rw [if_neg (by decide), i1, ie0 (by omega), nI_1]
              by_cases c : cnt fit k = 0
              · rw [if_pos c]
                rw [hcn.mpr c] at hsk
                exact ih (_, _, y2) ⟨by rw [hcs]; rfl, by rw [hsk]; rfl, i3.trans d2⟩
              · rw [if_neg c]
                cases hb : firB fit k with
                | none => exact absurd (hcn.mp hb) c
                | some q =>
                  rw [hb] at hsk i2
                  exact ih (_, _, y2) ⟨by rw [hcs]; rfl, by rw [hsk]; exact i2, i3.trans d2⟩
        · obtain ⟨s1, s2, y⟩ := s
          obtain ⟨i1, i2, i3⟩ := hI
          try dsimp only at i1 i2 i3 ⊢
          unfold F_X10_fits_49
          rw [show (64 : Int32) = nI 64 from rfl, if_pos (Int32.le_refl _), ie0 (by omega)]
          by_cases c : w = 0
          · rw [if_pos c, if_pos c, wp_some]
            exact ⟨i1, i3⟩
          · rw [if_neg c, if_neg c, i2, m_asTold _ (firB_ok (Nat.le_refl _)), zb_some, wp_some]
            exact ⟨rfl, i3⟩
      obtain ⟨⟨k0, v0, x'⟩, g1, g2, g3, g4⟩ := hX1
      try dsimp only at g2 g3 g4
      subst g2
      subst g3
      obtain ⟨⟨v1, m'⟩, j1, j2, j3⟩ := hM2
      try dsimp only at j2 j3
      subst j2
      exact same_q h hM1 ok (Or.inl ⟨rfl, rfl⟩) g1 (g4.q (by omega) (fun a z => by have : 104 ≤ a ∧ a ≤ 172 := z; omega)) j1 (j3.q (Or.inr (Or.inl rfl))) (by rw [j3.1 0 (by omega) (by omega) (by omega)]; exact t0_0)
    · rw [show F_X9_within x b (0 : Int32) (1 : Int32) = some (0, x) from m_inN _ hb, show F_X10_in (zI m 0 0 0) b (0 : Int32) (1 : Int32) = some (0, zI m 0 0 0) from m_inN _ hb, zb_some, zb_some] at f ⊢
      exact f rfl rfl
  · rw [show F_X9_within x a (1 : Int32) (999 : Int32) = some (0, x) from m_inN _ ha, show F_X10_in (zI m 0 0 0) a (1 : Int32) (999 : Int32) = some (0, zI m 0 0 0) from m_inN _ ha, zb_some, zb_some] at f ⊢
    exact f rfl rfl
