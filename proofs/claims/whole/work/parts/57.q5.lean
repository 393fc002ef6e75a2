/-! line, would -/
theorem fN_add {σ : Type} (f : Nat → σ → σ) (s : σ) (a : Nat) : ∀ b, fN f s (a + b) = fN (fun k => f (a + k)) (fN f s a) b
  | 0 => rfl
  | b + 1 => by
    show f (a + b) (fN f s (a + b)) = f (a + b) (fN (fun k => f (a + k)) (fN f s a) b)
    rw [fN_add f s a b]
/-- a sum over all places, row by row -/
theorem sum_add (f : Nat → Nat) (a : Nat) : ∀ b, sumN f (a + b) = sumN f a + sumN (fun k => f (a + k)) b
  | 0 => rfl
  | b + 1 => by
    rw [← Nat.add_assoc, sumN_succ, sumN_succ, sum_add f a b, Nat.add_assoc]
theorem sum_0 {f : Nat → Nat} {n : Nat} (h : ∀ k, k < n → f k = 0) : sumN f n = 0 := by
  have := sumN_le (f := f) (b := 0) (n := n) (fun k hk => by rw [h k hk]; omega)
  omega
theorem sum_rows (f : Nat → Nat) : ∀ r, sumN f (8 * r) = sumN (fun y => sumN (fun x => f (8 * y + x)) 8) r
  | 0 => rfl
  | r + 1 => by
    rw [Nat.mul_succ, sum_add, sum_rows f r]
    rfl
theorem sum_pick (f : Nat → Nat) {k : Nat} : ∀ n, sumN (fun y => if y = k then f y else 0) n = if k < n then f k else 0
  | 0 => rfl
  | n + 1 => by
    rw [sumN_succ, sum_pick f n]
    by_cases z : n = k
    · subst z
      simp
    · rw [if_neg z]
      by_cases c : k < n
      · have : k < n + 1 := by omega
        simp [c, this]
      · have : ¬ k < n + 1 := by omega
        simp [c, this]
theorem sum_line {f : Nat → Nat} {k : Nat} (hk : k < 8) : sumN (fun p => if p / 8 = k then f p else 0) 64 = sumN (fun i => f (8 * k + i)) 8 := by
  rw [show (64 : Nat) = 8 * 8 from rfl, sum_rows]
  rw [sumN_congr (q := fun y => if y = k then sumN (fun x => f (8 * y + x)) 8 else 0) (fun y _ => ?_), sum_pick (fun y => sumN (fun x => f (8 * y + x)) 8), if_pos hk]
  by_cases z : y = k
  · rw [if_pos z]
    exact sumN_congr (fun x hx => by rw [if_pos (by omega)])
  · rw [if_neg z]
    exact sum_0 (fun x hx => by rw [if_neg (by omega)])
theorem sum_col {f : Nat → Nat} {k : Nat} (hk : k < 8) : sumN (fun p => if p % 8 = k then f p else 0) 64 = sumN (fun i => f (8 * i + k)) 8 := by
  rw [show (64 : Nat) = 8 * 8 from rfl, sum_rows]
  refine sumN_congr (fun y _ => ?_)
  rw [sumN_congr (q := fun x => if x = k then f (8 * y + x) else 0) (fun x hx => by rw [show (8 * y + x) % 8 = x by omega]), sum_pick (fun x => f (8 * y + x)), if_pos hk]
theorem line_bad {m : zMem} (a b : Int32) : F_X10_line_46 a b a b 1 (zI m 0 0 0) = some (0, zI (zI (zI m 0 0 0) 0 0 (nI 1)) 2 1 ((zI m 0 0 0).1 2 1 + 1)) := by
  unfold F_X10_line_46
  rw [m_bad11 t0_0, zb_some]; rfl
theorem line_X {x : zMem} {a : Int32} {w : Nat} (hw : w ≤ 3) : F_X9_line x a (nI w) = F_X9_line_15 a (nI w) a (nI w) 1 x := by
  unfold F_X9_line
  rw [if_neg (nI_pos (by omega)), show (3 : Int32) = nI 3 from rfl, ilt (by omega) (by omega), if_neg (by omega)]
theorem line_M {m : zMem} {a : Int32} {w : Nat} (hw : w ≤ 3) : F_X10_line m a (nI w) = if w % 2 = 0 then F_X10_line_32 a (nI w) a (nI w) a 0 1 (zI m 0 0 0) else F_X10_line_32 a (nI w) a (nI w) a 0 0 (zI m 0 0 0) := by
  unfold F_X10_line
  rw [zl_eq, show F_X10_in (zI m 0 0 0) (nI w) (0 : Int32) (3 : Int32) = some (1, zI m 0 0 0) from m_inY _ (Nat.zero_le w) hw (by decide), zb_some]
  dsimp only
  rw [if_neg (by decide), show (2 : Int32) = nI 2 from rfl, pk_rem (by omega) (by omega) (by omega), ie0 (by omega)]
theorem line_ev {w : Nat} (hw : w ≤ 3) : nI w - nI w / 2 * 2 = nI (w % 2) := pk_rem (by omega) (by decide) (by decide)
theorem line_row {x m : zMem} {S : SS} {a : Int32} {w fr c : Nat} {pl r n : Nat} (h : RXn x S pl r n) (hM : RMn m S) (ok : okS S) (hw : w ≤ 3) (hc : (w = 0 ∧ fr = 0 ∧ c = 5) ∨ (w = 2 ∧ fr = 64 ∧ c = 6)) : same T1 (F_X9_line x a (nI w)) (F_X10_line m a (nI w)) := by
  have hM1 := hM.t ok
  have he := ok.1
  have hv := ok.u
  have e1 := he.1
  have e2 := he.2.1
  have e3 := he.2.2.1
  have e4 := he.2.2.2.1
  have gp : ∀ o : Option (Nat × Int32 × zMem), gd (shX pl == 6) o = o := fun o => gd_ok (sX_p h.1.2.2.2.2.1)
  have hwi : ∀ p, p < 64 → x.1 c p = nI ((sN S).2.1 (fr + p)) := fun p hp => by
    rcases hc with ⟨_, rfl, rfl⟩ | ⟨_, rfl, rfl⟩
    · rw [Nat.zero_add]; exact (h.u.1 p hp).1
    · exact (h.u.1 p hp).2.1
  have eX2 : F_X9_line x a (nI w) = F_X9_line_57 a (nI w) a (nI w) 1 a 0 (nI (pH (sE S))) x := by
    rw [line_X hw]
    unfold F_X9_line_15
    rw [x_need1, zbx_0]
    have : F_X9_line_32 a (nI w) a (nI w) 1 x = F_X9_line_57 a (nI w) a (nI w) 1 a 0 (nI (pH (sE S))) x := by
      unfold F_X9_line_32
      rw [if_neg (by decide), h.1.2.2.1, gp, h.1.1.2.1]
    rcases hc with ⟨rfl, _⟩ | ⟨rfl, _⟩
    · rw [if_pos (show nI 0 = (0 : Int32) from rfl)]; exact this
    · rw [if_neg (by decide), if_pos (show nI 2 = (2 : Int32) from rfl)]; exact this
  have eM2 : F_X10_line m a (nI w) = F_X10_line_32 a (nI w) a (nI w) a 0 1 (zI m 0 0 0) := by
    rw [line_M hw, if_pos (by omega)]
  rcases ya_rlt a (n := pH (sE S)) (by omega) with ⟨k, hk, rfl⟩ | ha
  · refine same_q h hM1 ok (Or.inl ⟨rfl, rfl⟩) (v := nI (sumN (fun i => (sN S).2.1 (fr + (8 * k + i))) 8)) (x' := x) (m' := zI m 0 0 0) ?_ frQ.refl ?_ frN.refl t0_0
    · rw [eX2]
      unfold F_X9_line_57
      rw [x_inE, m_hinY x hk (by omega), zb_some]
      dsimp only
      rw [x_need1, zbx_0]
      have lp : F_X9_line_93 (nI k) (nI w) (nI k) 1 c x = some (0, nI (sumN (fun i => (sN S).2.1 (fr + (8 * k + i))) 8), x) := by
        unfold F_X9_line_93
        refine loopP (F_X9_line_101 _ _) (fun g i (s : Nat) => g (nI k) 1 c (nI s) (nI i) x) 8 (fun i s => s + (sN S).2.1 (fr + (8 * k + i))) (fun s => some (0, nI s, x)) (fun g i s hi => ?_) (fun g s => ?_) (s := 0) rfl (by omega)
        · show F_X9_line_101 (nI k) (nI w) g (nI k) 1 c (nI s) (nI i) x = _
          unfold F_X9_line_101
          rw [show (8 : Int32) = nI 8 from rfl, ile (by omega) (by omega), if_neg (by omega), if_neg (by decide), x_placeOf, zb_some]
          dsimp only
          unfold F_X9_line_131
          rw [gin_ok (by omega) (by decide), zl_eq, nI_clamp (by omega), hwi _ (by omega), nI_add, nI_1]
        · show F_X9_line_101 (nI k) (nI w) g (nI k) 1 c (nI s) (nI 8) x = _
          unfold F_X9_line_101
          rw [show (8 : Int32) = nI 8 from rfl, if_pos (Int32.le_refl _)]
      rcases hc with ⟨rfl, _, rfl⟩ | ⟨rfl, _, rfl⟩
      · rw [if_neg (by decide)]; exact lp
      · rw [if_pos (by decide)]; exact lp
    · rw [eM2]
      unfold F_X10_line_32
      rw [show (1 : Int32) = nI 1 from rfl, gin_ok (by omega) (by decide), nI_clamp (by omega), hM1.1.2.1, ← show (1 : Int32) = nI 1 from rfl, m_hinY _ hk (by omega), zb_some]
      dsimp only
      rw [if_neg (by decide)]
      unfold F_X10_line_46
      rw [m_bad0 t0_0, zb_some]
      dsimp only
      rw [if_pos rfl, ← sum_line (f := fun p => (sN S).2.1 (fr + p)) (show k < 8 by omega)]
      refine loopP (F_X10_line_61 _ _) (fun g p (s : Nat) => g (nI k) (nI w) (nI s) (nI p) (zI m 0 0 0)) 64 (fun p s => s + if p / 8 = k then (sN S).2.1 (fr + p) else 0) (fun s => some (nI s, zI m 0 0 0)) (fun g p s hp => ?_) (fun g s => ?_) (s := 0) rfl (by omega)
      · show F_X10_line_61 (nI k) (nI w) g (nI k) (nI w) (nI s) (nI p) (zI m 0 0 0) = _
        unfold F_X10_line_61
        rw [show (64 : Int32) = nI 64 from rfl, ile (by omega) (by omega), if_neg (by omega), line_ev hw, ie0 (by omega), if_pos (by omega), ya_div8 (by omega)]
        unfold F_X10_line_88
        rw [ieq (by omega) (by omega)]
        by_cases z : p / 8 = k
        · rw [if_pos z, if_pos z]
          have lq : F_X10_line_107 (nI k) (nI w) g (nI k) (nI w) (nI p) (nI s) (nI fr) (zI m 0 0 0) = g (nI k) (nI w) (nI (s + (sN S).2.1 (fr + p))) (nI (p + 1)) (zI m 0 0 0) := by
            unfold F_X10_line_107 F_X10_line_115
            rw [nI_add, gin_ok (by omega) (by decide), nI_clamp (by omega), hM1.u _ (by omega), zl_eq, nI_add, nI_1]
          rcases hc with ⟨rfl, rfl, _⟩ | ⟨rfl, rfl, _⟩
          · rw [if_neg (by decide)]; exact lq
          · rw [if_pos (by decide)]; exact lq
        · rw [if_neg z, if_neg z]
          unfold F_X10_line_115
          rw [zl_eq, ya_0, nI_add, nI_1]
      · show F_X10_line_61 (nI k) (nI w) g (nI k) (nI w) (nI s) (nI 64) (zI m 0 0 0) = _
        unfold F_X10_line_61
        rw [show (64 : Int32) = nI 64 from rfl, if_pos (Int32.le_refl _)]
  · refine same_1 (t := 1) h hM1 ok (Or.inr ⟨rfl, rfl⟩) frQ.refl frN.refl (v := 0) (w := 0) ?_ ?_
    · rw [eX2]
      unfold F_X9_line_57
      rw [x_inE, m_hinN x (by omega) ha, zb_some]; rfl
    · rw [eM2]
      unfold F_X10_line_32
      rw [show (1 : Int32) = nI 1 from rfl, gin_ok (by omega) (by decide), nI_clamp (by omega), hM1.1.2.1, ← show (1 : Int32) = nI 1 from rfl, m_hinN _ (by omega) ha, zb_some]
      dsimp only
      rw [if_pos rfl]
      exact line_bad a (nI w)
theorem line_col {x m : zMem} {S : SS} {a : Int32} {w fr c : Nat} {pl r n : Nat} (h : RXn x S pl r n) (hM : RMn m S) (ok : okS S) (hw : w ≤ 3) (hc : (w = 1 ∧ fr = 0 ∧ c = 5) ∨ (w = 3 ∧ fr = 64 ∧ c = 6)) : same T1 (F_X9_line x a (nI w)) (F_X10_line m a (nI w)) := by
  have hM1 := hM.t ok
  have he := ok.1
  have hv := ok.u
  have e1 := he.1
  have e2 := he.2.1
  have e3 := he.2.2.1
  have e4 := he.2.2.2.1
  have gp : ∀ o : Option (Nat × Int32 × zMem), gd (shX pl == 6) o = o := fun o => gd_ok (sX_p h.1.2.2.2.2.1)
  have hwi : ∀ p, p < 64 → x.1 c p = nI ((sN S).2.1 (fr + p)) := fun p hp => by
    rcases hc with ⟨_, rfl, rfl⟩ | ⟨_, rfl, rfl⟩
    · rw [Nat.zero_add]; exact (h.u.1 p hp).1
    · exact (h.u.1 p hp).2.1
  have eX2 : F_X9_line x a (nI w) = F_X9_line_57 a (nI w) a (nI w) 0 a 0 (nI (pW (sE S))) x := by
    rw [line_X hw]
    unfold F_X9_line_15
    rw [x_need1, zbx_0]
    have : F_X9_line_32 a (nI w) a (nI w) 0 x = F_X9_line_57 a (nI w) a (nI w) 0 a 0 (nI (pW (sE S))) x := by
      unfold F_X9_line_32
      rw [if_pos rfl, h.1.2.2.1, gp, h.1.1.1]
    rcases hc with ⟨rfl, _⟩ | ⟨rfl, _⟩
    · rw [if_neg (by decide), if_neg (by decide)]; exact this
    · rw [if_neg (by decide), if_neg (by decide)]; exact this
  have eM2 : F_X10_line m a (nI w) = F_X10_line_32 a (nI w) a (nI w) a 0 0 (zI m 0 0 0) := by
    rw [line_M hw, if_neg (by omega)]
  rcases ya_rlt a (n := pW (sE S)) (by omega) with ⟨k, hk, rfl⟩ | ha
  · refine same_q h hM1 ok (Or.inl ⟨rfl, rfl⟩) (v := nI (sumN (fun i => (sN S).2.1 (fr + (8 * i + k))) 8)) (x' := x) (m' := zI m 0 0 0) ?_ frQ.refl ?_ frN.refl t0_0
    · rw [eX2]
      unfold F_X9_line_57
      rw [x_inE, m_hinY x hk (by omega), zb_some]
      dsimp only
      rw [x_need1, zbx_0]
      have lp : F_X9_line_93 (nI k) (nI w) (nI k) 0 c x = some (0, nI (sumN (fun i => (sN S).2.1 (fr + (8 * i + k))) 8), x) := by
        unfold F_X9_line_93
        refine loopP (F_X9_line_101 _ _) (fun g i (s : Nat) => g (nI k) 0 c (nI s) (nI i) x) 8 (fun i s => s + (sN S).2.1 (fr + (8 * i + k))) (fun s => some (0, nI s, x)) (fun g i s hi => ?_) (fun g s => ?_) (s := 0) rfl (by omega)
        · show F_X9_line_101 (nI k) (nI w) g (nI k) 0 c (nI s) (nI i) x = _
          unfold F_X9_line_101
          rw [show (8 : Int32) = nI 8 from rfl, ile (by omega) (by omega), if_neg (by omega), if_pos rfl, x_placeOf, zb_some]
          dsimp only
          unfold F_X9_line_131
          rw [gin_ok (by omega) (by decide), zl_eq, nI_clamp (by omega), hwi _ (by omega), nI_add, nI_1]
        · show F_X9_line_101 (nI k) (nI w) g (nI k) 0 c (nI s) (nI 8) x = _
          unfold F_X9_line_101
          rw [show (8 : Int32) = nI 8 from rfl, if_pos (Int32.le_refl _)]
      rcases hc with ⟨rfl, _, rfl⟩ | ⟨rfl, _, rfl⟩
      · rw [if_neg (by decide)]; exact lp
      · rw [if_pos (by decide)]; exact lp
    · rw [eM2]
      unfold F_X10_line_32
      rw [show gin (0 : Int32) 3 _ = _ from gin_ok (k := 0) (by omega) (by decide), show (0 : Int32).toNatClampNeg = 0 from rfl, hM1.1.1, m_hinY _ hk (by omega), zb_some]
      dsimp only
      rw [if_neg (by decide)]
      unfold F_X10_line_46
      rw [m_bad0 t0_0, zb_some]
      dsimp only
      rw [if_pos rfl, ← sum_col (f := fun p => (sN S).2.1 (fr + p)) (show k < 8 by omega)]
      refine loopP (F_X10_line_61 _ _) (fun g p (s : Nat) => g (nI k) (nI w) (nI s) (nI p) (zI m 0 0 0)) 64 (fun p s => s + if p % 8 = k then (sN S).2.1 (fr + p) else 0) (fun s => some (nI s, zI m 0 0 0)) (fun g p s hp => ?_) (fun g s => ?_) (s := 0) rfl (by omega)
      · show F_X10_line_61 (nI k) (nI w) g (nI k) (nI w) (nI s) (nI p) (zI m 0 0 0) = _
        unfold F_X10_line_61
        rw [show (64 : Int32) = nI 64 from rfl, ile (by omega) (by omega), if_neg (by omega), line_ev hw, ie0 (by omega), if_neg (by omega), ya_rem8 (by omega)]
        unfold F_X10_line_88
        rw [ieq (by omega) (by omega)]
        by_cases z : p % 8 = k
        · rw [if_pos z, if_pos z]
          have lq : F_X10_line_107 (nI k) (nI w) g (nI k) (nI w) (nI p) (nI s) (nI fr) (zI m 0 0 0) = g (nI k) (nI w) (nI (s + (sN S).2.1 (fr + p))) (nI (p + 1)) (zI m 0 0 0) := by
            unfold F_X10_line_107 F_X10_line_115
            rw [nI_add, gin_ok (by omega) (by decide), nI_clamp (by omega), hM1.u _ (by omega), zl_eq, nI_add, nI_1]
          rcases hc with ⟨rfl, rfl, _⟩ | ⟨rfl, rfl, _⟩
          · rw [if_neg (by decide)]; exact lq
          · rw [if_pos (by decide)]; exact lq
        · rw [if_neg z, if_neg z]
          unfold F_X10_line_115
          rw [zl_eq, ya_0, nI_add, nI_1]
      · show F_X10_line_61 (nI k) (nI w) g (nI k) (nI w) (nI s) (nI 64) (zI m 0 0 0) = _
        unfold F_X10_line_61
        rw [show (64 : Int32) = nI 64 from rfl, if_pos (Int32.le_refl _)]
  · refine same_1 (t := 1) h hM1 ok (Or.inr ⟨rfl, rfl⟩) frQ.refl frN.refl (v := 0) (w := 0) ?_ ?_
    · rw [eX2]
      unfold F_X9_line_57
      rw [x_inE, m_hinN x (by omega) ha, zb_some]; rfl
    · rw [eM2]
      unfold F_X10_line_32
      rw [show gin (0 : Int32) 3 _ = _ from gin_ok (k := 0) (by omega) (by decide), show (0 : Int32).toNatClampNeg = 0 from rfl, hM1.1.1, m_hinN _ (by omega) ha, zb_some]
      dsimp only
      rw [if_pos rfl]
      exact line_bad a (nI w)
theorem q_line {x m : zMem} {S : SS} (a b : Int32) (hX : RXo x S) (hM : RMn m S) (ok : okS S) : same T1 (F_X9_line x a b) (F_X10_line m a b) := by
  obtain ⟨pl, r, n, h⟩ := hX
  have hM1 := hM.t ok
  rcases ya_rng b (b := 3) (by decide) with ⟨w, hw, rfl⟩ | hb
  · have : w = 0 ∨ w = 1 ∨ w = 2 ∨ w = 3 := by omega
    rcases this with h0 | h0 | h0 | h0
    · exact line_row (fr := 0) (c := 5) h hM ok hw (Or.inl ⟨h0, rfl, rfl⟩)
    · exact line_col (fr := 0) (c := 5) h hM ok hw (Or.inl ⟨h0, rfl, rfl⟩)
    · exact line_row (fr := 64) (c := 6) h hM ok hw (Or.inr ⟨h0, rfl, rfl⟩)
    · exact line_col (fr := 64) (c := 6) h hM ok hw (Or.inr ⟨h0, rfl, rfl⟩)
  · refine same_1 (t := 1) h hM1 ok (Or.inr ⟨rfl, rfl⟩) frQ.refl frN.refl (v := 0) (w := 0) ?_ ?_
    · unfold F_X9_line
      rcases hb with hb | hb
      · rw [if_pos hb]; rfl
      · split
        · rfl
        · rw [if_pos (show (3 : Int32) < b from hb)]; rfl
    · unfold F_X10_line
      rw [zl_eq, show F_X10_in (zI m 0 0 0) b (0 : Int32) (3 : Int32) = some (0, zI m 0 0 0) from m_inN _ hb, zb_some]
      dsimp only
      rw [if_pos rfl]
      exact line_bad a b
theorem q_would {x m : zMem} {S : SS} (a1 a2 a3 a4 a5 a6 a7 a8 : Int32) (hX : RXo x S) (hM : RMn m S) (ok : okS S) : same T1 (F_X9_would x a1 a2 a3 a4 a5 a6 a7 a8) (F_X10_would m a1 a2 a3 a4 a5 a6 a7 a8) := by
  obtain ⟨pl, r, n, h⟩ := hX
  have hM1 := hM.t ok
  have mb : F_X10_would_99 a1 a2 a3 a4 a5 a6 a7 a8 a1 a2 a3 a4 a5 a6 a7 a8 1 (zI m 0 0 0) = some (0, zI (zI (zI m 0 0 0) 0 0 (nI 1)) 2 1 ((zI m 0 0 0).1 2 1 + 1)) := by
    unfold F_X10_would_99
    rw [m_bad11 t0_0, zb_some]; rfl
  have f : F_X9_would x a1 a2 a3 a4 a5 a6 a7 a8 = some (1, 0, zI x 0 17 (x.1 0 17 + 1)) → F_X10_would m a1 a2 a3 a4 a5 a6 a7 a8 = F_X10_would_99 a1 a2 a3 a4 a5 a6 a7 a8 a1 a2 a3 a4 a5 a6 a7 a8 1 (zI m 0 0 0) → same T1 (F_X9_would x a1 a2 a3 a4 a5 a6 a7 a8) (F_X10_would m a1 a2 a3 a4 a5 a6 a7 a8) := fun h1 h2 =>
    same_1 (t := 1) h hM1 ok (Or.inr ⟨rfl, rfl⟩) frQ.refl frN.refl (v := 0) (w := 0) h1 (h2.trans mb)
  have gY : ∀ {c k b : Nat}, c ≤ k → k ≤ b → b < 2 ^ 31 → F_X9_within x (nI k) (nI c) (nI b) = some (1, x) := fun h1 h2 h3 => m_inY x h1 h2 h3
  unfold F_X9_would F_X10_would at f ⊢
  rw [zl_eq] at f ⊢
  have step : ∀ (a : Int32) (b : Nat), b < 2 ^ 31 → (∃ k, k ≤ b ∧ a = nI k ∧ F_X9_within x a 0 (nI b) = some (1, x) ∧ F_X10_in (zI m 0 0 0) a 0 (nI b) = some (1, zI m 0 0 0)) ∨ (F_X9_within x a 0 (nI b) = some (0, x) ∧ F_X10_in (zI m 0 0 0) a 0 (nI b) = some (0, zI m 0 0 0)) := fun a b hb => by
    rcases ya_rng a hb with ⟨k, hk, rfl⟩ | h
    · exact Or.inl ⟨k, hk, rfl, m_inY x (Nat.zero_le k) hk hb, m_inY _ (Nat.zero_le k) hk hb⟩
    · exact Or.inr ⟨m_inN x h, m_inN _ h⟩
  rcases step a1 9999 (by decide) with ⟨k1, _, rfl, u1, v1⟩ | ⟨u1, v1⟩
  · rw [show F_X9_within x (nI k1) 0 9999 = _ from u1, show F_X10_in (zI m 0 0 0) (nI k1) 0 9999 = _ from v1, zb_some, zb_some] at f ⊢
    dsimp only at f ⊢
    rw [if_neg (by decide), if_neg (by decide)] at f ⊢
    rcases step a2 9999 (by decide) with ⟨k2, _, rfl, u1, v1⟩ | ⟨u1, v1⟩
    · rw [show F_X9_within x (nI k2) 0 9999 = _ from u1, show F_X10_in (zI m 0 0 0) (nI k2) 0 9999 = _ from v1, zb_some, zb_some] at f ⊢
      dsimp only at f ⊢
      rw [if_neg (by decide), if_neg (by decide)] at f ⊢
      unfold F_X9_would_28 at f ⊢
      rw [x_need1, zbx_0] at f ⊢
      rcases step a3 40 (by decide) with ⟨k3, _, rfl, u1, v1⟩ | ⟨u1, v1⟩
      · rw [show F_X9_within x (nI k3) 0 40 = _ from u1, show F_X10_in (zI m 0 0 0) (nI k3) 0 40 = _ from v1, zb_some, zb_some] at f ⊢
        dsimp only at f ⊢
        rw [if_neg (by decide), if_neg (by decide)] at f ⊢
        rcases step a4 7 (by decide) with ⟨k4, _, rfl, u1, v1⟩ | ⟨u1, v1⟩
        · rw [show F_X9_within x (nI k4) 0 7 = _ from u1, show F_X10_in (zI m 0 0 0) (nI k4) 0 7 = _ from v1, zb_some, zb_some] at f ⊢
          dsimp only at f ⊢
          rw [if_neg (by decide), if_neg (by decide)] at f ⊢
          unfold F_X9_would_58 at f ⊢
          rw [x_need1, zbx_0] at f ⊢
          rcases step a5 9 (by decide) with ⟨k5, _, rfl, u1, v1⟩ | ⟨u1, v1⟩
          · rw [show F_X9_within x (nI k5) 0 9 = _ from u1, show F_X10_in (zI m 0 0 0) (nI k5) 0 9 = _ from v1, zb_some, zb_some] at f ⊢
            dsimp only at f ⊢
            rw [if_neg (by decide), if_neg (by decide)] at f ⊢
            rcases step a6 400 (by decide) with ⟨k6, _, rfl, u1, v1⟩ | ⟨u1, v1⟩
            · rw [show F_X9_within x (nI k6) 0 400 = _ from u1, show F_X10_in (zI m 0 0 0) (nI k6) 0 400 = _ from v1, zb_some, zb_some] at f ⊢
              dsimp only at f ⊢
              rw [if_neg (by decide), if_neg (by decide)] at f ⊢
              unfold F_X9_would_90 at f ⊢
              rw [x_need1, zbx_0] at f ⊢
              rcases step a7 7 (by decide) with ⟨k7, b7, rfl, u1, v1⟩ | ⟨u1, v1⟩
              · rw [show F_X9_within x (nI k7) 0 7 = _ from u1, show F_X10_in (zI m 0 0 0) (nI k7) 0 7 = _ from v1, zb_some, zb_some] at f ⊢
                dsimp only at f ⊢
                rw [if_neg (by decide), if_neg (by decide)] at f ⊢
                rcases step a8 7 (by decide) with ⟨k8, b8, rfl, u1, v1⟩ | ⟨u1, v1⟩
                · rw [show F_X9_within x (nI k8) 0 7 = _ from u1, show F_X10_in (zI m 0 0 0) (nI k8) 0 7 = _ from v1, zb_some, zb_some] at f ⊢
                  dsimp only at f ⊢
                  rw [if_neg (by decide), if_neg (by decide)] at f ⊢
                  obtain ⟨x', f1, f2⟩ := x_rate h.1.2.1 ok.2.1 (nI k1) (nI k2) (nI k3) (nI k4) (nI k5) (nI k6) (p := 8 * k8 + k7) (by omega)
                  obtain ⟨m', g1, g2⟩ := m_driesBy hM1.2.1 ok.2.1 (nI k1) (nI k2) (nI k3) (nI k4) (nI k5) (nI k6) (nI k7) (nI k8)
                  refine same_q h hM1 ok (Or.inl ⟨rfl, rfl⟩) (v := nI (rateL (sL S) (kn8 (nI k1) (nI k2) (nI k3) (nI k4) (nI k5) (nI k6) (nI k7) (nI k8)))) (x' := x') (m' := m') ?_ (f2.q (by have := h.1.2.2.2.2.2; omega) (fun _ z => z.elim)) ?_ (g2.q (Or.inl rfl)) (by rw [g2.1 0 (by omega) (by omega) (by omega)]; exact t0_0)
                  · unfold F_X9_would_121
                    rw [x_need1, zbx_0, h.1.2.2.2.1, gd_ok (sX_r h.1.2.2.2.2.2), x_placeOf, zb_some]
                    dsimp only
                    rw [f1, zb_some, show (8 * k8 + k7) % 8 = k7 by omega, show (8 * k8 + k7) / 8 = k8 by omega]
                  · unfold F_X10_would_99
                    rw [m_bad0 t0_0, zb_some]
                    dsimp only
                    rw [if_pos rfl, g1, zb_some]
                · rw [show F_X9_within x a8 0 7 = _ from u1, show F_X10_in (zI m 0 0 0) a8 0 7 = _ from v1, zb_some, zb_some] at f ⊢
                  exact f rfl rfl
              · rw [show F_X9_within x a7 0 7 = _ from u1, show F_X10_in (zI m 0 0 0) a7 0 7 = _ from v1, zb_some, zb_some] at f ⊢
                exact f rfl rfl
            · rw [show F_X9_within x a6 0 400 = _ from u1, show F_X10_in (zI m 0 0 0) a6 0 400 = _ from v1, zb_some, zb_some] at f ⊢
              exact f rfl rfl
          · rw [show F_X9_within x a5 0 9 = _ from u1, show F_X10_in (zI m 0 0 0) a5 0 9 = _ from v1, zb_some, zb_some] at f ⊢
            exact f rfl rfl
        · rw [show F_X9_within x a4 0 7 = _ from u1, show F_X10_in (zI m 0 0 0) a4 0 7 = _ from v1, zb_some, zb_some] at f ⊢
          exact f rfl rfl
      · rw [show F_X9_within x a3 0 40 = _ from u1, show F_X10_in (zI m 0 0 0) a3 0 40 = _ from v1, zb_some, zb_some] at f ⊢
        exact f rfl rfl
    · rw [show F_X9_within x a2 0 9999 = _ from u1, show F_X10_in (zI m 0 0 0) a2 0 9999 = _ from v1, zb_some, zb_some] at f ⊢
      exact f rfl rfl
  · rw [show F_X9_within x a1 0 9999 = _ from u1, show F_X10_in (zI m 0 0 0) a1 0 9999 = _ from v1, zb_some, zb_some] at f ⊢
    exact f rfl rfl
