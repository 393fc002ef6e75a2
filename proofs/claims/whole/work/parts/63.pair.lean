/-! the best two sites -/
def pinL (c : Nat → Bool) (v : Nat → Nat → Nat) (p : Nat) (b : BS) (n : Nat) : BS := fN (fun k b => if decide (p < k) && (c p && c k) then offL (64 * p + k) (v p k) b else b) b n
theorem pinL_s (c : Nat → Bool) (v : Nat → Nat → Nat) (p : Nat) (b : BS) (n : Nat) : pinL c v p b (n + 1) = if decide (p < n) && (c p && c n) then offL (64 * p + n) (v p n) (pinL c v p b n) else pinL c v p b n := rfl
theorem pinL_id (c : Nat → Bool) (v : Nat → Nat → Nat) (p : Nat) (b : BS) : ∀ n, n ≤ p + 1 → pinL c v p b n = b
  | 0, _ => rfl
  | n + 1, h => by rw [pinL_s, decide_eq_false (by omega), Bool.false_and, if_neg (by decide)]; exact pinL_id c v p b n (by omega)
theorem pinL_no {c : Nat → Bool} {v : Nat → Nat → Nat} {p : Nat} {b : BS} (h : c p = false) : ∀ n, pinL c v p b n = b
  | 0 => rfl
  | n + 1 => by rw [pinL_s, h, Bool.false_and, Bool.and_false, if_neg (by decide)]; exact pinL_no h n
theorem pinL_ok {c : Nat → Bool} {v : Nat → Nat → Nat} {p : Nat} {b : BS} (h : okb b) (hp : p < 64) (hv : ∀ q, v p q ≤ 640) : ∀ n, n ≤ 64 → okb (pinL c v p b n)
  | 0, _ => h
  | n + 1, hn => by
    have ih := pinL_ok (c := c) h hp hv n (by omega)
    have := hv n
    rw [pinL_s]
    split
    · exact okb_L ih (by omega) (by omega)
    · exact ih
def selP (c : Nat → Bool) (v : Nat → Nat → Nat) (n : Nat) : BS := fN (fun p b => pinL c v p b 64) none n
theorem selP_s (c : Nat → Bool) (v : Nat → Nat → Nat) (n : Nat) : selP c v (n + 1) = pinL c v n (selP c v n) 64 := rfl
theorem selP_ok {c : Nat → Bool} {v : Nat → Nat → Nat} (hv : ∀ p q, v p q ≤ 640) : ∀ n, n ≤ 64 → okb (selP c v n)
  | 0, _ => okb_n
  | n + 1, hn => by rw [selP_s]; exact pinL_ok (selP_ok hv n (by omega)) (by omega) (hv n) 64 (Nat.le_refl _)
def b1F (b : BS) : Int32 := match b with
  | none => -1
  | some q => nI (q.1 / 64)
def b2F (b : BS) : Int32 := match b with
  | none => -1
  | some q => nI (q.1 % 64)
def t1F (b : BS) : BS := match b with
  | none => none
  | some q => some (q.1 / 64, 0)
def t2F (b : BS) : BS := match b with
  | none => none
  | some q => some (q.1 % 64, 0)
theorem t1_ok {b : BS} (h : okb b) : okb (t1F b) := fun q hq => by
  cases b with
  | none => cases hq
  | some z => cases hq; have := h z rfl; exact ⟨by show z.1 / 64 < 2 ^ 31; omega, by show (0 : Nat) < 2 ^ 31; omega⟩
theorem t2_ok {b : BS} (h : okb b) : okb (t2F b) := fun q hq => by
  cases b with
  | none => cases hq
  | some z => cases hq; have := h z rfl; exact ⟨by show z.1 % 64 < 2 ^ 31; omega, by show (0 : Nat) < 2 ^ 31; omega⟩
def pwv (w : Nat) (b : BS) : Int32 := if w = 2 then bA b else if w = 0 then tellB (t1F b) else tellB (t2F b)
theorem q_pair {x m : zMem} {S : SS} (a b : Int32) (hX : RXo x S) (hM : RMn m S) (ok : okS S) : same T1 (F_X9_pair x a b) (F_X10_pair m a b) := by
  obtain ⟨pl, r, n, h⟩ := hX
  have hM1 := hM.t ok
  have he := ok.1
  have hv := ok.u
  have hr := h.1.2.2.2.2.2
  have mb : F_X10_pair_31 a b a b 1 (zI m 0 0 0) = some (0, zI (zI (zI m 0 0 0) 0 0 (nI 1)) 2 1 ((zI m 0 0 0).1 2 1 + 1)) := by
    unfold F_X10_pair_31
    rw [m_bad11 t0_0, zb_some]; rfl
  have f : F_X9_pair x a b = some (1, 0, zI x 0 17 (x.1 0 17 + 1)) → F_X10_pair m a b = F_X10_pair_31 a b a b 1 (zI m 0 0 0) → same T1 (F_X9_pair x a b) (F_X10_pair m a b) := fun h1 h2 =>
    same_1 (t := 1) h hM1 ok (Or.inr ⟨rfl, rfl⟩) frQ.refl frN.refl (v := 0) (w := 0) h1 (h2.trans mb)
  unfold F_X9_pair F_X10_pair at f ⊢
  rw [zl_eq] at f ⊢
  rcases ya_rng1 a (c := 1) (b := 999) (by decide) (by decide) with ⟨z, hz1, hz, rfl⟩ | ha
  · rw [show F_X9_within x (nI z) (1 : Int32) (999 : Int32) = some (1, x) from m_inY _ hz1 hz (by decide), show F_X10_in (zI m 0 0 0) (nI z) (1 : Int32) (999 : Int32) = some (1, zI m 0 0 0) from m_inY _ hz1 hz (by decide), zb_some, zb_some] at f ⊢
    dsimp only at f ⊢
    rw [if_neg (by decide), if_neg (by decide)] at f ⊢
    rcases ya_rng b (b := 2) (by decide) with ⟨w, hw, rfl⟩ | hb
    · rw [show F_X9_within x (nI w) (0 : Int32) (2 : Int32) = some (1, x) from m_inY _ (Nat.zero_le w) hw (by decide), show F_X10_in (zI m 0 0 0) (nI w) (0 : Int32) (2 : Int32) = some (1, zI m 0 0 0) from m_inY _ (Nat.zero_le w) hw (by decide), zb_some, zb_some]
      dsimp only
      rw [if_neg (by decide), if_neg (by decide)]
      have ht : ∀ p q, togS (sE S) (sN S).2.1 z p q ≤ 640 := fun p q => togS_le he
      generalize hc : freeS (sE S) (sN S).2.1 = c
      generalize htv : togS (sE S) (sN S).2.1 z = tv at ht
      have ok64 := selP_ok (c := c) ht
      have hpp : ∀ p b k, pinL c tv p b (k + 1) = if decide (p < k) && (c p && c k) then offL (64 * p + k) (tv p k) (pinL c tv p b k) else pinL c tv p b k := fun p b k => rfl
      have hX1 : wp (F_X9_pair_26 (nI z) (nI w) (nI z) (nI w) 1 x) (fun q => q.1 = 0 ∧ q.2.1 = pwv w (selP c tv 64) ∧ frX r (fun a => 104 ≤ a ∧ a ≤ 172) x q.2.2) := by
        obtain ⟨fm, y0, c1, c2, c3, c4, c5⟩ := x_layEverywhere h.1 he h.u hv ⟨hz1, hz⟩
        obtain ⟨y1, d1, d2, d3⟩ := x_clear y0
        have fx : ∀ {y z : zMem}, fr172 y z → frX r (fun a => 104 ≤ a ∧ a ≤ 172) y z := fun h => ⟨fun a _ _ h3 => h.1 a (fun c => h3 ⟨by omega, by omega⟩), fun a _ => by rw [h.2], by rw [h.2]⟩
        unfold F_X9_pair_26
        rw [x_need1, zbx_0, c1, zb_some]
        dsimp only
        rw [d1, zbv_some]
        refine loopN (F_X9_pair_45 _ _) (fun g k (y : zMem) => g (nI w) fm (nI k) y) 64 (fun k y => XB y (selP c tv k) ∧ fr172 y0 y) _ (fun g k y hk hI ih => ?_) (fun g y hI => ?_) (k := 0) (s := y1) (by omega) ⟨d2, d3⟩ (by omega)
        · obtain ⟨i1, i2⟩ := hI
          try dsimp only at i1 i2 ih ⊢
          unfold F_X9_pair_45
          rw [show (64 : Int32) = nI 64 from rfl, ile (by omega) (by omega), if_neg (by omega), zl_eq, nI_1]
          have next : ∀ y2, XB y2 (pinL c tv k (selP c tv k) 64) → fr172 y0 y2 → wp (F_X9_pair_122 (nI z) (nI w) g (nI w) fm (nI k) y2) (fun q => q.1 = 0 ∧ q.2.1 = pwv w (selP c tv 64) ∧ frX r (fun a => 104 ≤ a ∧ a ≤ 172) x q.2.2) := fun y2 j1 j2 => by
            unfold F_X9_pair_122
            rw [nI_1]
            exact ih y2 ⟨by rw [selP_s]; exact j1, j2⟩
          refine loopN (F_X9_pair_58 _ _ _) (fun g2 q (y2 : zMem) => g2 (nI w) fm (nI k) (nI q) y2) 64 (fun q y2 => XB y2 (pinL c tv k (selP c tv k) q) ∧ fr172 y0 y2 ∧ k < q) _ (fun g2 q y2 hq hI2 ih2 => ?_) (fun g2 y2 hI2 => ?_) (k := k + 1) (s := y) (by omega) ⟨by rw [pinL_id _ _ _ _ _ (Nat.le_refl _)]; exact i1, i2, by omega⟩ (by omega)
          · obtain ⟨l1, l2, l3⟩ := hI2
            try dsimp only at l1 l2 l3 ih2 ⊢
            have w' : RXw y2 (sE S) (sL S) pl r := ((c5.wid (S' := fun a => 104 ≤ a ∧ a ≤ 172) (fun a q => by unfold SL at q; exact ⟨q.1, by omega⟩)).trans (fx l2)).w (fun a h1 h2 q => by have : 104 ≤ a ∧ a ≤ 172 := q; omega) h.1
            have hsk := hpp k (selP c tv k) q
            unfold F_X9_pair_58 F_X9_pair_116
            rw [show (64 : Int32) = nI 64 from rfl, ile (by omega) (by omega), if_neg (by omega), x_has y2 _ hk, zb_some]
            dsimp only
            rw [ibI, c2 k hk, hc, nI_1]
            rw [decide_eq_true l3, Bool.true_and] at hsk
            cases hf : c k
            · rw [if_pos rfl]
              have e := pinL_no (v := tv) (b := selP c tv k) hf
              exact next y2 (by rw [e 64, ← e q]; exact l1) l2
            · rw [hf, Bool.true_and] at hsk
              rw [if_neg (by decide), x_has y2 _ hq, zb_some]
              dsimp only
              rw [ibI, c2 q hq, hc]
              cases hg : c q
              · rw [hg, if_neg (by decide)] at hsk
                rw [if_pos rfl]
                exact ih2 y2 ⟨by rw [hsk]; exact l1, l2, by omega⟩
              · rw [hg, if_pos rfl] at hsk
                rw [if_neg (by decide), w'.2.2.1, gd_ok (sX_p w'.2.2.2.2.1), w'.1.2.2.1, x_together he (c3.b l2.2) hk hq (by rw [hc]; exact hf) (by rw [hc]; exact hg), zb_some]
                dsimp only
                rw [htv, pk_mul, nI_add, Nat.mul_comm k 64]
                obtain ⟨y3, e1, e2, e3⟩ := x_offerLeast (p := 64 * k + q) (v := tv k q) l1 (by omega) (by have := ht k q; omega)
                rw [e1, zbv_some]
                exact ih2 y3 ⟨by rw [hsk]; exact e2, l2.trans e3, by omega⟩
          · obtain ⟨l1, l2, l3⟩ := hI2
            try dsimp only at l1 l2 l3 ⊢
            unfold F_X9_pair_58
            rw [show (64 : Int32) = nI 64 from rfl, if_pos (Int32.le_refl _)]
            exact next y2 l1 l2
        · obtain ⟨i1, i2⟩ := hI
          try dsimp only at i1 i2 ⊢
          have fin := (c5.wid (S' := fun a => 104 ≤ a ∧ a ≤ 172) (fun a q => by unfold SL at q; exact ⟨q.1, by omega⟩)).trans (fx i2)
          unfold F_X9_pair_45 F_X9_pair_144 F_X9_pair_179 pwv
          rw [show (64 : Int32) = nI 64 from rfl, show (2 : Int32) = nI 2 from rfl, if_pos (Int32.le_refl _), ieq (by omega) (by omega)]
          by_cases c1 : w = 2
          · rw [if_pos c1, if_pos c1, i1.2.1, wp_some]
            exact ⟨rfl, rfl, fin⟩
          · rw [if_neg c1, if_neg c1]
            obtain ⟨j1, j2, j3⟩ := i1
            cases hb : selP c tv 64 with
            | none =>
              rw [hb] at j1 j2
              rw [if_pos (show y.1 172 0 = -1 from j1), wp_some]
              refine ⟨rfl, ?_, fin⟩
              show y.1 172 1 = _
              rw [show y.1 172 1 = -1 from j2]
              by_cases c2 : w = 0
              · rw [if_pos c2]; rfl
              · rw [if_neg c2]; rfl
            | some q =>
              have hq := j3 q hb
              rw [hb] at j1
              have e1 : y.1 172 0 = nI q.1 := j1
              rw [if_neg (by rw [e1, ya_ne_m1 hq.1]; exact fun z => z), ie0 (by omega), e1, show nI q.1 / nI 64 = nI (q.1 / 64) from pk_div hq.1 (by omega) (by omega), pk_mul, pk_sub (by omega)]
              by_cases c2 : w = 0
              · rw [if_pos c2, if_pos c2, x_tellPlace _ (by omega), zb_some, wp_some]
                exact ⟨rfl, rfl, fin⟩
              · rw [if_neg c2, if_neg c2, x_tellPlace _ (by omega), zb_some, wp_some]
                refine ⟨rfl, ?_, fin⟩
                show nI (10 * ((q.1 - q.1 / 64 * 64) / 8) + (q.1 - q.1 / 64 * 64) % 8) = nI (10 * (q.1 % 64 / 8) + q.1 % 64 % 8)
                rw [show q.1 - q.1 / 64 * 64 = q.1 % 64 by omega]
      have hM2 : wp (F_X10_pair_31 (nI z) (nI w) (nI z) (nI w) 0 (zI m 0 0 0)) (fun q => q = (pwv w (selP c tv 64), zI m 0 0 0)) := by
        unfold F_X10_pair_31
        rw [m_bad0 t0_0, zb_some]
        dsimp only
        rw [if_pos rfl]
        refine loopN (F_X10_pair_52 _ _) (fun g k (s : Int32 × Int32 × Int32) => g (nI z) (nI w) s.1 s.2.1 s.2.2 (nI k) (zI m 0 0 0)) 64 (fun k s => s.1 = b1F (selP c tv k) ∧ s.2.1 = b2F (selP c tv k) ∧ s.2.2 = bA (selP c tv k)) _ (fun g k s hk hI ih => ?_) (fun g s hI => ?_) (k := 0) (s := (-1, -1, -1)) (by omega) ⟨rfl, rfl, rfl⟩ (by omega)
        · obtain ⟨s1, s2, s3⟩ := s
          obtain ⟨i1, i2, i3⟩ := hI
          try dsimp only at i1 i2 i3 ih ⊢
          unfold F_X10_pair_52
          rw [show (64 : Int32) = nI 64 from rfl, ile (by omega) (by omega), if_neg (by omega), zl_eq, nI_1]
          refine loopN (F_X10_pair_65 _ _ _) (fun g2 q (s : Int32 × Int32 × Int32) => g2 (nI z) (nI w) s.1 s.2.1 s.2.2 (nI k) (nI q) (zI m 0 0 0)) 64 (fun q s => s.1 = b1F (pinL c tv k (selP c tv k) q) ∧ s.2.1 = b2F (pinL c tv k (selP c tv k) q) ∧ s.2.2 = bA (pinL c tv k (selP c tv k) q) ∧ k < q) _ (fun g2 q s hq hI2 ih2 => ?_) (fun g2 s hI2 => ?_) (k := k + 1) (s := (s1, s2, s3)) (by omega) ⟨by rw [pinL_id _ _ _ _ _ (Nat.le_refl _)]; exact i1, by rw [pinL_id _ _ _ _ _ (Nat.le_refl _)]; exact i2, by rw [pinL_id _ _ _ _ _ (Nat.le_refl _)]; exact i3, by omega⟩ (by omega)
          · obtain ⟨s1, s2, s3⟩ := s
            obtain ⟨l1, l2, l3, l4⟩ := hI2
            try dsimp only at l1 l2 l3 l4 ih2 ⊢
            have hsk := hpp k (selP c tv k) q
            have hok := pinL_ok (c := c) (ok64 k (by omega)) hk (ht k) q (by omega)
            rw [decide_eq_true l4, Bool.true_and] at hsk
            generalize pinL c tv k (selP c tv k) q = bb at hsk l1 l2 l3 hok
            have stay : pinL c tv k (selP c tv k) (q + 1) = bb → wp (g2 (nI z) (nI w) s1 s2 s3 (nI k) (nI (q + 1)) (zI m 0 0 0)) (fun q => q = (pwv w (selP c tv 64), zI m 0 0 0)) := fun e => ih2 (s1, s2, s3) ⟨by rw [e]; exact l1, by rw [e]; exact l2, by rw [e]; exact l3, by omega⟩
            unfold F_X10_pair_65 F_X10_pair_119 F_X10_pair_130
            rw [show (64 : Int32) = nI 64 from rfl, ile (by omega) (by omega), if_neg (by omega), m_isFree hM1.1 he hM1.u hv.1 hk, zb_some]
            dsimp only
            rw [ibI, nI_1, show (inW (sE S) k && isFreeS (sN S).2.1 k) = c k from by rw [← hc]; rfl]
            cases hf : c k
            · rw [hf, Bool.false_and, if_neg (by decide)] at hsk
              rw [if_pos rfl]
              exact stay hsk
            · rw [hf, Bool.true_and] at hsk
              rw [if_neg (by decide), m_isFree hM1.1 he hM1.u hv.1 hq, zb_some]
              dsimp only
              rw [ibI, show (inW (sE S) q && isFreeS (sN S).2.1 q) = c q from by rw [← hc]; rfl]
              cases hg : c q
              · rw [hg, if_neg (by decide)] at hsk
                rw [if_pos rfl]
                exact stay hsk
              · rw [hg, if_pos rfl] at hsk
                rw [if_neg (by decide), m_shades (c2 := fun q2 h => cov (sE S) q z q2 h) hM1.1 he hM1.u hv.1 hk (by omega) (Or.inr ⟨q, hq, rfl, fun _ _ => rfl⟩), zb_some]
                dsimp only
                have et : sumN (fun h => cnt (fun q2 => inW (sE S) q2 && ((cov (sE S) k z q2 h || cov (sE S) q z q2 h) && !shd (sE S) (sN S).2.1 q2 h)) 64) (pn (sE S)) = tv k q := by rw [← htv]; rfl
                rw [et]
                have htk := ht k q
                generalize tv k q = v at hsk htk
                have e1 : (64 * k + q) / 64 = k := by omega
                have e2 : (64 * k + q) % 64 = q := by omega
                have take : pinL c tv k (selP c tv k) (q + 1) = some (64 * k + q, v) → wp (g2 (nI z) (nI w) (nI k) (nI q) (nI v) (nI k) (nI (q + 1)) (zI m 0 0 0)) (fun q => q = (pwv w (selP c tv 64), zI m 0 0 0)) := fun e => ih2 (nI k, nI q, nI v) ⟨by rw [e]; show nI k = nI ((64 * k + q) / 64); rw [e1], by rw [e]; show nI q = nI ((64 * k + q) % 64); rw [e2], by rw [e]; rfl, by omega⟩
                cases bb with
                | none =>
                  rw [if_pos (show s1 = -1 from l1)]
                  exact take hsk
                | some b0 =>
                  have hq0 := hok b0 rfl
                  have f1 : s1 = nI (b0.1 / 64) := l1
                  have f3 : s3 = nI b0.2 := l3
                  have ho : offL (64 * k + q) v (some b0) = if v < b0.2 then some (64 * k + q, v) else some b0 := rfl
                  rw [ho] at hsk
                  rw [if_neg (by rw [f1, ya_ne_m1 (by omega)]; exact fun z => z)]
                  by_cases c3 : v < b0.2
                  · rw [if_pos (by rw [f3, nI_ltI (by omega) hq0.2]; exact c3)]
                    rw [if_pos c3] at hsk
                    exact take hsk
                  · rw [if_neg (by rw [f3, nI_ltI (by omega) hq0.2]; exact c3)]
                    rw [if_neg c3] at hsk
                    exact stay hsk
          · obtain ⟨s1, s2, s3⟩ := s
            obtain ⟨l1, l2, l3, l4⟩ := hI2
            try dsimp only at l1 l2 l3 l4 ⊢
            unfold F_X10_pair_65
            rw [show (64 : Int32) = nI 64 from rfl, if_pos (Int32.le_refl _), nI_1]
            exact ih (s1, s2, s3) ⟨l1, l2, l3⟩
        · obtain ⟨s1, s2, s3⟩ := s
          obtain ⟨i1, i2, i3⟩ := hI
          try dsimp only at i1 i2 i3 ⊢
          unfold F_X10_pair_52 F_X10_pair_162 pwv
          have hok := ok64 64 (Nat.le_refl _)
          rw [show (64 : Int32) = nI 64 from rfl, show (2 : Int32) = nI 2 from rfl, if_pos (Int32.le_refl _), ieq (by omega) (by omega)]
          by_cases c1 : w = 2
          · rw [if_pos c1, if_pos c1, wp_some, i3]
          · rw [if_neg c1, if_neg c1, ie0 (by omega)]
            have f1 : s1 = bF (t1F (selP c tv 64)) := by rw [i1]; cases selP c tv 64 <;> rfl
            have f2 : s2 = bF (t2F (selP c tv 64)) := by rw [i2]; cases selP c tv 64 <;> rfl
            by_cases c2 : w = 0
            · rw [if_pos c2, if_pos c2, f1, m_asTold _ (t1_ok hok), zb_some, wp_some]
            · rw [if_neg c2, if_neg c2, f2, m_asTold _ (t2_ok hok), zb_some, wp_some]
      obtain ⟨⟨k0, v0, x'⟩, g1, g2, g3, g4⟩ := hX1
      try dsimp only at g2 g3 g4
      subst g2
      subst g3
      obtain ⟨q, q1, q2⟩ := hM2
      rw [q2] at q1
      exact same_q h hM1 ok (Or.inl ⟨rfl, rfl⟩) g1 (g4.q (by omega) (fun a z => by have : 104 ≤ a ∧ a ≤ 172 := z; omega)) q1 frN.refl t0_0
    · rw [show F_X9_within x b (0 : Int32) (2 : Int32) = some (0, x) from m_inN _ hb, show F_X10_in (zI m 0 0 0) b (0 : Int32) (2 : Int32) = some (0, zI m 0 0 0) from m_inN _ hb, zb_some, zb_some] at f ⊢
      exact f rfl rfl
  · rw [show F_X9_within x a (1 : Int32) (999 : Int32) = some (0, x) from m_inN _ ha, show F_X10_in (zI m 0 0 0) a (1 : Int32) (999 : Int32) = some (0, zI m 0 0 0) from m_inN _ ha, zb_some, zb_some] at f ⊢
    exact f rfl rfl
