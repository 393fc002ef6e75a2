/-! summer, span -/
def sumV (e : PL) (w : Nat → Nat) (k : Nat) : Int32 := if k = 0 then nI (sumN w 64) else if k = 1 then nI (sumN (fun p => w (64 + p)) 64) else if k = 2 then nI (w 194) else nI (cnt (fun p => inW e p && isDryS w p) 64)
theorem m_isSumY {m : zMem} {h q : Nat} (h1 : 1 ≤ h) (h2 : h ≤ 96) (h3 : q ≤ 16) : F_X10_isSummer m (nI h) (nI q) = some (1, m) := by
  unfold F_X10_isSummer
  rw [show F_X10_in m (nI h) (1 : Int32) (96 : Int32) = some (1, m) from m_inY _ h1 h2 (by decide), zb_some]
  dsimp only
  rw [if_neg (by decide), show F_X10_in m (nI q) (0 : Int32) (16 : Int32) = some (1, m) from m_inY _ (Nat.zero_le q) h3 (by decide), zb_some]; rfl
theorem m_isSumN {m : zMem} {a b : Int32} (h : (a < nI 1 ∨ nI 96 < a) ∨ (b < nI 0 ∨ nI 16 < b)) : F_X10_isSummer m a b = some (0, m) := by
  unfold F_X10_isSummer
  rcases ya_rng1 a (c := 1) (b := 96) (by decide) (by decide) with ⟨k, k1, k2, rfl⟩ | ha
  · rw [show F_X10_in m (nI k) (1 : Int32) (96 : Int32) = some (1, m) from m_inY _ k1 k2 (by decide), zb_some]
    dsimp only
    rw [if_neg (by decide)]
    rcases h with h | h
    · have h1 := m_inN m h
      rw [show F_X10_in m (nI k) (nI 1) (nI 96) = some (1, m) from m_inY _ k1 k2 (by decide)] at h1
      cases h1
    · rw [show F_X10_in m b (0 : Int32) (16 : Int32) = some (0, m) from m_inN _ h, zb_some]; rfl
  · rw [show F_X10_in m a (1 : Int32) (96 : Int32) = some (0, m) from m_inN _ ha, zb_some]; rfl
theorem q_summer {x m : zMem} {S : SS} (a b c d : Int32) (hX : RXo x S) (hM : RMn m S) (ok : okS S) : same T1 (F_X9_summer x a b c d) (F_X10_summer m a b c d) := by
  obtain ⟨pl, r, n, h⟩ := hX
  have hM1 := hM.t ok
  have he := ok.1
  have hv := ok.u
  have hpl := h.1.2.2.2.2.1
  have mb : F_X10_summer_29 a b c d a b c d 1 (zI m 0 0 0) = some (0, zI (zI (zI m 0 0 0) 0 0 (nI 1)) 2 1 ((zI m 0 0 0).1 2 1 + 1)) := by
    unfold F_X10_summer_29
    rw [m_bad11 t0_0, zb_some]; rfl
  have f : F_X9_summer x a b c d = some (1, 0, zI x 0 17 (x.1 0 17 + 1)) → F_X10_summer m a b c d = F_X10_summer_29 a b c d a b c d 1 (zI m 0 0 0) → same T1 (F_X9_summer x a b c d) (F_X10_summer m a b c d) := fun h1 h2 =>
    same_1 (t := 1) h hM1 ok (Or.inr ⟨rfl, rfl⟩) frQ.refl frN.refl (v := 0) (w := 0) h1 (h2.trans mb)
  unfold F_X9_summer F_X10_summer at f ⊢
  rw [zl_eq] at f ⊢
  rcases ya_rng1 b (c := 1) (b := 96) (by decide) (by decide) with ⟨hh, b1, b2, rfl⟩ | hb
  · rw [show F_X9_within x (nI hh) (1 : Int32) (96 : Int32) = some (1, x) from m_inY _ b1 b2 (by decide), zb_some] at f ⊢
    dsimp only at f ⊢
    rw [if_neg (by decide)] at f ⊢
    rcases ya_rng c (b := 16) (by decide) with ⟨q, c1, rfl⟩ | hc
    · rw [show F_X9_within x (nI q) (0 : Int32) (16 : Int32) = some (1, x) from m_inY _ (Nat.zero_le q) c1 (by decide), m_isSumY b1 b2 c1, zb_some, zb_some] at f ⊢
      dsimp only at f ⊢
      rw [if_neg (by decide), if_neg (by decide)] at f ⊢
      rcases ya_rng d (b := 3) (by decide) with ⟨k, d1, rfl⟩ | hd
      · rw [show F_X9_within x (nI k) (0 : Int32) (3 : Int32) = some (1, x) from m_inY _ (Nat.zero_le k) d1 (by decide), show F_X10_in (zI m 0 0 0) (nI k) (0 : Int32) (3 : Int32) = some (1, zI m 0 0 0) from m_inY _ (Nat.zero_le k) d1 (by decide), zb_some, zb_some]
        dsimp only
        rw [if_neg (by decide), if_neg (by decide)]
        obtain ⟨y, x1, x2, x3⟩ := x_runSummer (sd := a) h.1 he ok.2.1 h.u hv b2 c1
        obtain ⟨z, m1, m2, m3⟩ := m_summerBy (sd := a) hM1.h he ok.2.1 hv b2 c1
        have hok := runS_ok (L := sL S) (q := q) (sd := a) he hv hh
        generalize (runS (sE S) (sL S) q (sN S).2.1 a hh).2 = w at x2 m2 hok
        have w' := x3.q.w h.1
        have hk : k = 0 ∨ k = 1 ∨ k = 2 ∨ k = 3 := by omega
        refine same_q h hM1 ok (Or.inl ⟨rfl, rfl⟩) (v := sumV (sE S) w k) (x' := y) (m' := z) ?_ x3.q ?_ m3.q (by rw [m3.2.1 0 (by omega)]; exact t0_0)
        · unfold F_X9_summer_36
          rw [x_need1, zbx_0, x1, zbv_some]
          rcases hk with rfl | rfl | rfl | rfl
          · rw [if_pos (show nI 0 = 0 from rfl)]
            unfold F_X9_summer_76
            rw [x_sumOf (f := w) (fun p hp => (x2.1 p hp).1), zb_some]; rfl
          · rw [if_neg (show ¬ nI 1 = 0 by decide), if_pos (show nI 1 = 1 from rfl)]
            unfold F_X9_summer_87
            rw [x_sumOf (f := fun p => w (64 + p)) (fun p hp => (x2.1 p hp).2.1), zb_some]; rfl
          · rw [if_neg (show ¬ nI 2 = 0 by decide), if_neg (show ¬ nI 2 = 1 by decide), if_pos (show nI 2 = 2 from rfl)]
            unfold F_X9_summer_98
            rw [x2.2.1]; rfl
          · rw [if_neg (show ¬ nI 3 = 0 by decide), if_neg (show ¬ nI 3 = 1 by decide), if_neg (show ¬ nI 3 = 2 by decide)]
            unfold F_X9_summer_106
            rw [w'.2.2.1, gd_ok (sX_p hpl), x_dryPlaces x2.i hok.1, zb_some]
            dsimp only
            rw [x_bitCount, zb_some]
            show some (0, _, y) = some (0, nI (cnt (fun p => inW (sE S) p && isDryS w p) 64), y)
            rw [cnt_congr (fun p hp => by rw [tb_and, w'.1.2.2.2.2 p hp, tb_dry hp])]
        · unfold F_X10_summer_29
          rw [m_bad0 t0_0, zb_some]
          dsimp only
          rw [if_pos rfl, m1, zbv_some]
          rcases hk with rfl | rfl | rfl | rfl
          · rw [if_pos (show nI 0 = 0 from rfl), show F_X10_together z 452 (0 : Int32) = _ from m_together (fr := 0) m2.2.2 (by omega), zb_some]
            simp only [Nat.zero_add]; rfl
          · rw [if_neg (show ¬ nI 1 = 0 by decide), if_pos (show nI 1 = 1 from rfl), show F_X10_together z 452 (64 : Int32) = _ from m_together (fr := 64) m2.2.2 (by omega), zb_some]; rfl
          · rw [if_neg (show ¬ nI 2 = 0 by decide), if_neg (show ¬ nI 2 = 1 by decide), if_pos (show nI 2 = 2 from rfl), m2.2.2 194 (by omega)]; rfl
          · rw [if_neg (show ¬ nI 3 = 0 by decide), if_neg (show ¬ nI 3 = 1 by decide), if_neg (show ¬ nI 3 = 2 by decide), show F_X10_dryOnes z 452 (0 : Int32) = _ from m_dryOnes m2.1 he m2.2.2 hok.1 false, zb_some]
            dsimp only
            show some (_, z) = some (nI (cnt (fun p => inW (sE S) p && isDryS w p) 64), z)
            rw [cnt_congr (fun p hp => by rw [Bool.not_false, Bool.true_or, Bool.and_true])]
      · rw [show F_X9_within x d (0 : Int32) (3 : Int32) = some (0, x) from m_inN _ hd, show F_X10_in (zI m 0 0 0) d (0 : Int32) (3 : Int32) = some (0, zI m 0 0 0) from m_inN _ hd, zb_some, zb_some] at f ⊢
        exact f rfl rfl
    · rw [show F_X9_within x c (0 : Int32) (16 : Int32) = some (0, x) from m_inN _ hc, m_isSumN (Or.inr hc), zb_some, zb_some] at f ⊢
      exact f rfl rfl
  · rw [show F_X9_within x b (1 : Int32) (96 : Int32) = some (0, x) from m_inN _ hb, m_isSumN (Or.inl hb), zb_some, zb_some] at f ⊢
    exact f rfl rfl
/-- best of the summers -/
theorem most_max {v : Nat → Nat} {k : Nat} : ∀ q, selM (fun _ => true) v k = some q → q.2 = maxN v k := by
  induction k with
  | zero => intro q h; cases h
  | succ k ih =>
    intro q h
    rw [selM_s, if_pos rfl] at h
    rw [maxN_s]
    cases hb : selM (fun _ => true) v k with
    | none =>
      rw [hb] at h
      cases h
      have : k = 0 := by
        cases k with
        | zero => rfl
        | succ j =>
          rw [selM_s, if_pos rfl] at hb
          unfold offM at hb
          split at hb
          · cases hb
          · split at hb <;> cases hb
      rw [this]
      show v 0 = max 0 (v 0)
      omega
    | some z =>
      rw [hb] at h
      have hz := ih z hb
      unfold offM at h
      dsimp only at h
      split at h
      · cases h; show v k = _; omega
      · cases h; omega
theorem sel_some {v : Nat → Nat} : ∀ k, (∃ q, selM (fun _ => true) v (k + 1) = some q) ∧ ∃ q, selL (fun _ => true) v (k + 1) = some q := fun k => by
  constructor
  · rw [selM_s, if_pos rfl]
    unfold offM
    split
    · exact ⟨_, rfl⟩
    · split <;> exact ⟨_, rfl⟩
  · rw [selL_s, if_pos rfl]
    unfold offL
    split
    · exact ⟨_, rfl⟩
    · split <;> exact ⟨_, rfl⟩
def bstS (w : Nat) (v : Nat → Nat) (k : Nat) : BS := if w = 0 then selL (fun _ => true) v k else selM (fun _ => true) v k
theorem q_span {x m : zMem} {S : SS} (a b c d e f g : Int32) (hX : RXo x S) (hM : RMn m S) (ok : okS S) : same T3 (F_X9_span x a b c d e f g) (F_X10_span m a b c d e f g) := by
  obtain ⟨pl, r, n, h⟩ := hX
  have hM1 := hM.t ok
  have he := ok.1
  have hv := ok.u
  have hr := h.1.2.2.2.2.2
  have e2 := he.2.1
  have e4 := he.2.2.2.1
  have hpl := h.1.2.2.2.2.1
  rcases plc he f g with ⟨i, j, hi, hj, rfl, rfl⟩ | hb
  · have mb : F_X10_span_65 a b c d e (nI i) (nI j) a b c d e (nI i) (nI j) 1 (zI m 0 0 0) = some (0, zI (zI (zI m 0 0 0) 0 0 (nI 2)) 2 1 ((zI m 0 0 0).1 2 1 + 1)) := by
      unfold F_X10_span_65
      rw [m_bad21 t0_0, zb_some]; rfl
    have ff : F_X9_span x a b c d e (nI i) (nI j) = some (1, 0, zI x 0 17 (x.1 0 17 + 1)) → F_X10_span m a b c d e (nI i) (nI j) = F_X10_span_65 a b c d e (nI i) (nI j) a b c d e (nI i) (nI j) 1 (zI m 0 0 0) → same T3 (F_X9_span x a b c d e (nI i) (nI j)) (F_X10_span m a b c d e (nI i) (nI j)) := fun h1 h2 =>
      same_1 (t := 2) h hM1 ok (Or.inr (Or.inr ⟨rfl, rfl⟩)) frQ.refl frN.refl (v := 0) (w := 0) h1 (h2.trans mb)
    unfold F_X9_span F_X10_span F_X10_span_22 at ff ⊢
    rw [x_npY h.1 he hi hj, zbx_0, zl_eq, m_iwY hM1.1 he hi hj, zb_some] at ff ⊢
    dsimp only at ff ⊢
    rw [if_neg (by decide), m_bad0 t0_0, zb_some] at ff ⊢
    dsimp only at ff ⊢
    rw [if_pos rfl] at ff ⊢
    rcases ya_rng1 b (c := 1) (b := 10) (by decide) (by decide) with ⟨nn, b1, b2, rfl⟩ | hb
    · rw [show F_X9_within x (nI nn) (1 : Int32) (10 : Int32) = some (1, x) from m_inY _ b1 b2 (by decide), show F_X10_in (zI m 0 0 0) (nI nn) (1 : Int32) (10 : Int32) = some (1, zI m 0 0 0) from m_inY _ b1 b2 (by decide), zb_some, zb_some] at ff ⊢
      dsimp only at ff ⊢
      rw [if_neg (by decide), if_neg (by decide)] at ff ⊢
      rcases ya_rng1 c (c := 1) (b := 96) (by decide) (by decide) with ⟨hh, c1, c2, rfl⟩ | hc
      · rw [show F_X9_within x (nI hh) (1 : Int32) (96 : Int32) = some (1, x) from m_inY _ c1 c2 (by decide), zb_some] at ff ⊢
        dsimp only at ff ⊢
        rw [if_neg (by decide)] at ff ⊢
        unfold F_X9_span_34 at ff ⊢
        rw [x_need1, zbx_0] at ff ⊢
        rcases ya_rng d (b := 16) (by decide) with ⟨q, d1, rfl⟩ | hd
        · rw [show F_X9_within x (nI q) (0 : Int32) (16 : Int32) = some (1, x) from m_inY _ (Nat.zero_le q) d1 (by decide), m_isSumY c1 c2 d1, zb_some, zb_some] at ff ⊢
          dsimp only at ff ⊢
          rw [if_neg (by decide), if_neg (by decide)] at ff ⊢
          rcases ya_rng e (b := 2) (by decide) with ⟨k, k1, rfl⟩ | hd
          · rw [show F_X9_within x (nI k) (0 : Int32) (2 : Int32) = some (1, x) from m_inY _ (Nat.zero_le k) k1 (by decide), show F_X10_in (zI m 0 0 0) (nI k) (0 : Int32) (2 : Int32) = some (1, zI m 0 0 0) from m_inY _ (Nat.zero_le k) k1 (by decide), zb_some, zb_some]
            dsimp only
            rw [if_neg (by decide), if_neg (by decide)]
            clear ff
            have hp : 8 * j + i < 64 := by omega
            have hR := fun sd => runS_ok (L := sL S) (q := q) (sd := sd) he hv hh
            generalize hwt : (fun t => (runS (sE S) (sL S) q (sN S).2.1 (a + nI t) hh).2) = wt
            have hwo : ∀ t, okR (sE S) (wt t) := fun t => by rw [← hwt]; exact hR _
            have hsum : ∀ t, sumN (wt t) 64 ≤ 639936 := fun t => by
              have := sumN_le (f := wt t) (b := 9999) (n := 64) (fun p hp => (hwo t).1 p (by omega))
              omega
            have okL : ∀ t, t ≤ 10 → okb (selL (fun _ => true) (fun t => sumN (wt t) 64) t) := fun t ht => selL_ok (by omega) (fun p hp => by have := hsum p; omega)
            have okM : ∀ t, t ≤ 10 → okb (selM (fun _ => true) (fun t => sumN (wt t) 64) t) := fun t ht => selM_ok (by omega) (fun p hp => by have := hsum p; omega)
            have hmx : ∀ t, maxN (fun t => sumN (wt t) 64) t ≤ 639936 := fun t => maxN_le (fun p _ => hsum p)
            have hX1 : wp (F_X9_span_64 a (nI nn) (nI hh) (nI q) (nI k) (nI i) (nI j) a (nI nn) (nI hh) (nI q) (nI k) (nI i) (nI j) 1 x) (fun z => z.1 = 0 ∧ z.2.1 = (if k = 2 then nI (cnt (fun t => isDryS (wt t) (8 * j + i)) nn) else bA (bstS k (fun t => sumN (wt t) 64) nn)) ∧ frQ r x z.2.2) := by
              obtain ⟨x1, c1', c2', c3'⟩ := x_clear x
              unfold F_X9_span_64
              rw [x_need1, zbx_0, c1', zbv_some]
              refine loopN (F_X9_span_80 _ _ _ _ _ _ _) (fun g2 t (s : Nat × zMem) => g2 a (nI nn) (nI hh) (nI q) (nI k) (nI i) (nI j) (nI s.1) (nI t) s.2) nn (fun t s => s.1 = cnt (fun t => isDryS (wt t) (8 * j + i)) t ∧ XB s.2 (bstS k (fun t => sumN (wt t) 64) t) ∧ frQ r x s.2) _ (fun g2 t s ht hI ih => ?_) (fun g2 s hI => ?_) (k := 0) (s := (0, x1)) (by omega) ⟨rfl, by unfold bstS; split <;> exact c2', c3'.q⟩ (by omega)
              · obtain ⟨s1, y⟩ := s
                obtain ⟨i1, i2, i3⟩ := hI
                try dsimp only at i1 i2 i3 ih ⊢
                have w' := i3.w h.1
                have r' := i3.rr hr (Or.inl (by omega)) h.u
                obtain ⟨y2, r1, r2, r3⟩ := x_runSummer (sd := a + nI t) w' he ok.2.1 r' hv c2 d1
                rw [show (runS (sE S) (sL S) q (sN S).2.1 (a + nI t) hh).2 = wt t from by rw [← hwt]] at r2
                have i2' := r3.b hr i2
                have htl := hsum t
                have dry : ∀ y3, XB y3 (bstS k (fun t => sumN (wt t) 64) (t + 1)) → fr172 y2 y3 → wp (F_X9_span_143 a (nI nn) (nI hh) (nI q) (nI k) (nI i) (nI j) g2 a (nI nn) (nI hh) (nI q) (nI k) (nI i) (nI j) (nI s1) (nI t) y3) (fun z => z.1 = 0 ∧ z.2.1 = (if k = 2 then nI (cnt (fun t => isDryS (wt t) (8 * j + i)) nn) else bA (bstS k (fun t => sumN (wt t) 64) nn)) ∧ frQ r x z.2.2) := fun y3 j1 j2 => by
                  have r4 := j2.rr (t := 99) (by omega) r2
                  have i3' : frQ r x y3 := i3.trans (r3.q.trans j2.q)
                  unfold F_X9_span_143 F_X9_span_170
                  rw [x_dryPlaces r4.i (hwo t).1, zb_some]
                  dsimp only
                  rw [x_placeOf, zb_some]
                  dsimp only
                  rw [x_has y3 _ hp, zb_some]
                  dsimp only
                  rw [ibI, tb_dry hp, zl_eq, zl_eq, nI_1]
                  have ih2 := ih (s1 + if isDryS (wt t) (8 * j + i) then 1 else 0, y3) ⟨by dsimp only; rw [i1]; rfl, j1, i3'⟩
                  cases hd : isDryS (wt t) (8 * j + i)
                  · rw [hd] at ih2
                    rw [if_pos rfl, ya_0, nI_add]
                    exact ih2
                  · rw [hd] at ih2
                    rw [if_neg (by decide), nI_1]
                    exact ih2
                unfold F_X9_span_80
                rw [ile (by omega) (by omega), if_neg (by omega), r1, zbv_some, ie0 (by omega)]
                by_cases ck : k = 0
                · rw [if_pos ck, x_sumOf (f := wt t) (fun p hp => (r2.1 p hp).1), zb_some]
                  dsimp only
                  have i4 : XB y2 (selL (fun _ => true) (fun t => sumN (wt t) 64) t) := by unfold bstS at i2'; rw [if_pos ck] at i2'; exact i2'
                  obtain ⟨y3, o1, o2, o3⟩ := x_offerLeast (p := t) (v := sumN (wt t) 64) i4 (by omega) (by omega)
                  rw [o1, zbv_some]
                  exact dry y3 (by unfold bstS; rw [if_pos ck]; exact o2) o3
                · rw [if_neg ck, x_sumOf (f := wt t) (fun p hp => (r2.1 p hp).1), zb_some]
                  dsimp only
                  have i4 : XB y2 (selM (fun _ => true) (fun t => sumN (wt t) 64) t) := by unfold bstS at i2'; rw [if_neg ck] at i2'; exact i2'
                  obtain ⟨y3, o1, o2, o3⟩ := x_offerMost (p := t) (v := sumN (wt t) 64) i4 (by omega) (by omega)
                  rw [o1, zbv_some]
                  exact dry y3 (by unfold bstS; rw [if_neg ck]; exact o2) o3
              · obtain ⟨s1, y⟩ := s
                obtain ⟨i1, i2, i3⟩ := hI
                try dsimp only at i1 i2 i3 ⊢
                unfold F_X9_span_80
                rw [if_pos (Int32.le_refl _), show (2 : Int32) = nI 2 from rfl, ieq (by omega) (by omega)]
                by_cases ck : k = 2
                · rw [if_pos ck, if_pos ck, wp_some]
                  exact ⟨rfl, by dsimp only; rw [i1], i3⟩
                · rw [if_neg ck, if_neg ck, wp_some]
                  exact ⟨rfl, i2.2.1, i3⟩
            have hM2 : wp (F_X10_span_65 a (nI nn) (nI hh) (nI q) (nI k) (nI i) (nI j) a (nI nn) (nI hh) (nI q) (nI k) (nI i) (nI j) 0 (zI m 0 0 0)) (fun z => z.1 = (if k = 2 then nI (cnt (fun t => isDryS (wt t) (8 * j + i)) nn) else bA (bstS k (fun t => sumN (wt t) 64) nn)) ∧ frS (zI m 0 0 0) z.2) := by
              unfold F_X10_span_65
              rw [m_bad0 t0_0, zb_some]
              dsimp only
              rw [if_pos rfl]
              refine loopN (F_X10_span_87 _ _ _ _ _ _ _) (fun g2 t (s : Nat × zMem) => g2 a (nI nn) (nI hh) (nI q) (nI k) (nI i) (nI j) (bA (selL (fun _ => true) (fun t => sumN (wt t) 64) t)) (nI (maxN (fun t => sumN (wt t) 64) t)) (nI s.1) (nI t) s.2) nn (fun t s => s.1 = cnt (fun t => isDryS (wt t) (8 * j + i)) t ∧ frS (zI m 0 0 0) s.2) _ (fun g2 t s ht hI ih => ?_) (fun g2 s hI => ?_) (k := 0) (s := (0, zI m 0 0 0)) (by omega) ⟨rfl, frS.refl⟩ (by omega)
              · obtain ⟨s1, y⟩ := s
                obtain ⟨i1, i2⟩ := hI
                try dsimp only at i1 i2 ih ⊢
                have N' := hM1.fr ok i2.q
                obtain ⟨y2, r1, r2, r3⟩ := m_summerBy (sd := a + nI t) N'.h he ok.2.1 hv c2 d1
                rw [show (runS (sE S) (sL S) q (sN S).2.1 (a + nI t) hh).2 = wt t from by rw [← hwt]] at r2
                have htl := hsum t
                have hml := hmx t
                have hok := okL t (by omega)
                have more : ∀ l, l = bA (selL (fun _ => true) (fun t => sumN (wt t) 64) (t + 1)) → wp (F_X10_span_132 a (nI nn) (nI hh) (nI q) (nI k) (nI i) (nI j) g2 a (nI nn) (nI hh) (nI q) (nI k) (nI i) (nI j) (nI (maxN (fun t => sumN (wt t) 64) t)) (nI s1) (nI t) (nI (sumN (wt t) 64)) l y2) (fun z => z.1 = (if k = 2 then nI (cnt (fun t => isDryS (wt t) (8 * j + i)) nn) else bA (bstS k (fun t => sumN (wt t) 64) nn)) ∧ frS (zI m 0 0 0) z.2) := fun l hl => by
                  unfold F_X10_span_132 F_X10_span_168
                  rw [m_moreN _ (by omega) (by omega), zb_some]
                  dsimp only
                  rw [show (8 : Int32) = nI 8 from rfl, pk_mul, nI_add, m_isDry r2.2.2 (hwo t).1 hp, zb_some]
                  dsimp only
                  rw [ibI, zl_eq, zl_eq, nI_1]
                  have ih2 := ih (s1 + if isDryS (wt t) (8 * j + i) then 1 else 0, y2) ⟨by dsimp only; rw [i1]; rfl, i2.trans r3⟩
                  rw [← hl] at ih2
                  cases hd : isDryS (wt t) (8 * j + i)
                  · rw [hd] at ih2
                    rw [if_pos rfl, ya_0, nI_add]
                    exact ih2
                  · rw [hd] at ih2
                    rw [if_neg (by decide), nI_1]
                    exact ih2
                unfold F_X10_span_87
                rw [ile (by omega) (by omega), if_neg (by omega), r1, zbv_some, show F_X10_together y2 452 (0 : Int32) = _ from m_together (fr := 0) r2.2.2 (by omega), zb_some, show sumN (fun p => wt t (0 + p)) 64 = sumN (wt t) 64 from by simp only [Nat.zero_add]]
                dsimp only
                have hs := selL_s (fun _ => true) (fun t => sumN (wt t) 64) t
                rw [if_pos rfl] at hs
                cases hb : selL (fun _ => true) (fun t => sumN (wt t) 64) t with
                | none =>
                  rw [hb] at hs
                  rw [if_pos (show bA none = -1 from rfl)]
                  exact more _ (by rw [hs]; rfl)
                | some z =>
                  rw [hb] at hs hok
                  have hz := hok z rfl
                  rw [if_neg (show ¬ bA (some z) = -1 by show ¬ nI z.2 = -1; rw [ya_ne_m1 hz.2]; exact fun z => z), show bA (some z) = nI z.2 from rfl, m_lessN _ hz.2 (by omega), zb_some]
                  refine more _ ?_
                  rw [hs]
                  show nI (min z.2 (sumN (wt t) 64)) = bA (if sumN (wt t) 64 < z.2 then some (t, sumN (wt t) 64) else some z)
                  by_cases cc : sumN (wt t) 64 < z.2
                  · rw [if_pos cc, show min z.2 (sumN (wt t) 64) = sumN (wt t) 64 by omega]; rfl
                  · rw [if_neg cc, show min z.2 (sumN (wt t) 64) = z.2 by omega]; rfl
              · obtain ⟨s1, y⟩ := s
                obtain ⟨i1, i2⟩ := hI
                try dsimp only at i1 i2 ⊢
                unfold F_X10_span_87 bstS
                rw [if_pos (Int32.le_refl _), ie0 (by omega), show (1 : Int32) = nI 1 from rfl, ieq (by omega) (by omega)]
                by_cases c0 : k = 0
                · rw [if_pos c0, if_neg (by omega), if_pos c0, wp_some]
                  exact ⟨rfl, i2⟩
                · rw [if_neg c0, if_neg c0]
                  by_cases c1 : k = 1
                  · rw [if_pos c1, if_neg (by omega), wp_some]
                    refine ⟨?_, i2⟩
                    obtain ⟨z, hz⟩ := (sel_some (v := fun t => sumN (wt t) 64) (nn - 1)).1
                    rw [show nn - 1 + 1 = nn by omega] at hz
                    rw [hz]
                    show nI (maxN (fun t => sumN (wt t) 64) nn) = nI z.2
                    rw [most_max z hz]
                  · rw [if_neg c1, if_pos (by omega), wp_some, i1]
                    exact ⟨rfl, i2⟩
            obtain ⟨⟨k0, v0, x'⟩, g1, g2, g3, g4⟩ := hX1
            try dsimp only at g2 g3 g4
            subst g2
            subst g3
            obtain ⟨⟨v1, m'⟩, j1, j2, j3⟩ := hM2
            try dsimp only at j2 j3
            subst j2
            exact same_q h hM1 ok (Or.inl ⟨rfl, rfl⟩) g1 g4 j1 j3.q (by rw [j3.2.1 0 (by omega)]; exact t0_0)
          · rw [show F_X9_within x e (0 : Int32) (2 : Int32) = some (0, x) from m_inN _ hd, show F_X10_in (zI m 0 0 0) e (0 : Int32) (2 : Int32) = some (0, zI m 0 0 0) from m_inN _ hd, zb_some, zb_some] at ff ⊢
            exact ff rfl rfl
        · rw [show F_X9_within x d (0 : Int32) (16 : Int32) = some (0, x) from m_inN _ hd, m_isSumN (Or.inr hd), zb_some, zb_some] at ff ⊢
          exact ff rfl rfl
      · rw [show F_X9_within x c (1 : Int32) (96 : Int32) = some (0, x) from m_inN _ hc, m_isSumN (Or.inl hc), zb_some, zb_some] at ff ⊢
        exact ff rfl rfl
    · rw [show F_X9_within x b (1 : Int32) (10 : Int32) = some (0, x) from m_inN _ hb, show F_X10_in (zI m 0 0 0) b (1 : Int32) (10 : Int32) = some (0, zI m 0 0 0) from m_inN _ hb, zb_some, zb_some] at ff ⊢
      exact ff rfl rfl
  · refine same_0 (t := 1) h hM1 ok (Or.inr (Or.inl ⟨rfl, rfl⟩)) frQ.refl frN.refl (v := 0) (w := 0) ?_ ?_
    · unfold F_X9_span
      rw [x_npN h.1 hb]; rfl
    · unfold F_X10_span
      rw [zl_eq, m_iwN hM1.1 he hb, zb_some]
      dsimp only
      rw [if_pos rfl]
      unfold F_X10_span_22
      rw [m_bad10 t0_0, zb_some]; rfl
