/-! hours to come: ahead, drying, first -/
def adv (e : PL) (L : LW) (u : Nat → Nat) (k : Nat) : Nat → Nat := if pn e = 0 then u else fN (fun _ v => hourS e L v) u k
theorem adv_0 (e : PL) (L : LW) (u : Nat → Nat) : adv e L u 0 = u := by unfold adv; split <;> rfl
theorem adv_s {e : PL} {L : LW} {u : Nat → Nat} {k : Nat} (h : pn e ≠ 0) : adv e L u (k + 1) = hourS e L (adv e L u k) := by
  unfold adv
  rw [if_neg h, if_neg h]
  rfl
theorem adv_z {e : PL} {L : LW} {u : Nat → Nat} {k : Nat} (h : pn e = 0) : adv e L u k = u := by
  unfold adv
  rw [if_pos h]
theorem adv_ok {e : PL} {L : LW} {u : Nat → Nat} (h : okR e u) : ∀ k, okR e (adv e L u k)
  | 0 => by rw [adv_0]; exact h
  | k + 1 => by
    have ih := adv_ok (L := L) h k
    by_cases z : pn e = 0
    · rw [adv_z z]; exact h
    · rw [adv_s z]
      exact ih.hour (by have := ih.2.2; omega)
theorem ST_q {t : Nat} (h : 99 ≤ t ∧ t + 4 < 174) : ∀ a, ST t a → 99 ≤ a ∧ a < 174 := fun a z => by unfold ST at z; omega
theorem ST_w {t : Nat} (h : t + 4 < 174) : ∀ a, 174 ≤ a → a < 194 → ¬ ST t a := fun a h1 h2 z => by unfold ST at z; omega
def whatS (e : PL) (u : Nat → Nat) (w : Nat) : Int32 := if w = 0 then nI (sumN u 64) else if w = 1 then nI (cnt (fun p => inW e p && isDryS u p) 64) else nI (u 192)
theorem q_ahead {x m : zMem} {S : SS} (a b : Int32) (hX : RXo x S) (hM : RMn m S) (ok : okS S) : same T1 (F_X9_ahead x a b) (F_X10_ahead m a b) := by
  obtain ⟨pl, r, n, h⟩ := hX
  have hM1 := hM.t ok
  have he := ok.1
  have hn := he.2.2.2.2.1
  have hv := ok.u
  have hr := h.1.2.2.2.2.2
  have mb : F_X10_ahead_31 a b a b 1 (zI m 0 0 0) = some (0, zI (zI (zI m 0 0 0) 0 0 (nI 1)) 2 1 ((zI m 0 0 0).1 2 1 + 1)) := by
    unfold F_X10_ahead_31
    rw [m_bad11 t0_0, zb_some]; rfl
  have f : F_X9_ahead x a b = some (1, 0, zI x 0 17 (x.1 0 17 + 1)) → F_X10_ahead m a b = F_X10_ahead_31 a b a b 1 (zI m 0 0 0) → same T1 (F_X9_ahead x a b) (F_X10_ahead m a b) := fun h1 h2 =>
    same_1 (t := 1) h hM1 ok (Or.inr ⟨rfl, rfl⟩) frQ.refl frN.refl (v := 0) (w := 0) h1 (h2.trans mb)
  unfold F_X9_ahead F_X10_ahead at f ⊢
  rw [zl_eq] at f ⊢
  rcases ya_rng a (b := 500) (by decide) with ⟨k, hk, rfl⟩ | ha
  · rw [show F_X9_within x (nI k) (0 : Int32) (500 : Int32) = some (1, x) from m_inY _ (Nat.zero_le k) hk (by decide), show F_X10_in (zI m 0 0 0) (nI k) (0 : Int32) (500 : Int32) = some (1, zI m 0 0 0) from m_inY _ (Nat.zero_le k) hk (by decide), zb_some, zb_some] at f ⊢
    dsimp only at f ⊢
    rw [if_neg (by decide), if_neg (by decide)] at f ⊢
    rcases ya_rng b (b := 2) (by decide) with ⟨w, hw, rfl⟩ | hb
    · rw [show F_X9_within x (nI w) (0 : Int32) (2 : Int32) = some (1, x) from m_inY _ (Nat.zero_le w) hw (by decide), show F_X10_in (zI m 0 0 0) (nI w) (0 : Int32) (2 : Int32) = some (1, zI m 0 0 0) from m_inY _ (Nat.zero_le w) hw (by decide), zb_some, zb_some]
      dsimp only
      rw [if_neg (by decide), if_neg (by decide)]
      have hXr : wp (F_X9_ahead_26 (nI k) (nI w) (nI k) (nI w) 1 x) (fun q => q.1 = 0 ∧ q.2.1 = whatS (sE S) (adv (sE S) (sL S) (sN S).2.1 k) w ∧ frX r (ST 99) x q.2.2) := by
        obtain ⟨x1, c1, c2, c3⟩ := x_copyFrom (M := x) (t := 99) (s := 4) (r := r) (Or.inr (by omega))
        unfold F_X9_ahead_26
        rw [x_need1, zbx_0, c1, zbv_some]
        have fin : ∀ y, RXr y (sE S) (adv (sE S) (sL S) (sN S).2.1 k) 99 → frX r (ST 99) x y → wp (F_X9_ahead_74 (nI k) (nI w) (nI w) y) (fun q => q.1 = 0 ∧ q.2.1 = whatS (sE S) (adv (sE S) (sL S) (sN S).2.1 k) w ∧ frX r (ST 99) x q.2.2) := fun y i1 i2 => by
          have w' := i2.w (ST_w (by omega)) h.1
          have hv2 := adv_ok (L := sL S) hv k
          unfold F_X9_ahead_74 whatS
          rw [ie0 (by omega)]
          by_cases z0 : w = 0
          · rw [if_pos z0, if_pos z0, x_sumOf (f := adv (sE S) (sL S) (sN S).2.1 k) (fun p hp => (i1.1 p hp).1), zb_some, wp_some]
            exact ⟨rfl, rfl, i2⟩
          · rw [if_neg z0, if_neg z0, show (1 : Int32) = nI 1 from rfl, ieq (by omega) (by omega)]
            by_cases z1 : w = 1
            · rw [if_pos z1, if_pos z1, w'.2.2.1, gd_ok (sX_p w'.2.2.2.2.1), x_dryPlaces i1.i hv2.1, zb_some]
              dsimp only
              rw [x_bitCount, zb_some, wp_some]
              refine ⟨rfl, ?_, i2⟩
              dsimp only
              rw [cnt_congr (fun q hq => show tb _ q = _ by rw [tb_and, w'.1.2.2.2.2 q hq, tb_dry hq])]
            · rw [if_neg z1, if_neg z1, wp_some]
              exact ⟨rfl, i1.2.2.1, i2⟩
        refine loopN (F_X9_ahead_45 _ _) (fun g j (y : zMem) => g (nI k) (nI w) (nI j) y) k (fun j y => RXr y (sE S) (adv (sE S) (sL S) (sN S).2.1 j) 99 ∧ frX r (ST 99) x y) _ (fun g j y hj hI ih => ?_) (fun g y hI => ?_) (k := 0) (s := x1) (by omega) ⟨by rw [adv_0]; exact c3 _ _ he h.u, c2⟩ (by omega)
        · try dsimp only at hI ih ⊢
          obtain ⟨i1, i2⟩ := hI
          have w' := i2.w (ST_w (by omega)) h.1
          unfold F_X9_ahead_45
          rw [ile (by omega) (by omega), if_neg (by omega), w'.2.2.1, gd_ok (sX_p w'.2.2.2.2.1), w'.1.2.2.1]
          by_cases z : pn (sE S) = 0
          · rw [if_pos (by rw [ya_0, nI_leI (by omega) (by omega)]; omega)]
            exact fin y (by rw [adv_z z] at i1 ⊢; exact i1) i2
          · rw [if_neg (by rw [ya_0, nI_leI (by omega) (by omega)]; omega)]
            have hv2 := adv_ok (L := sL S) hv j
            obtain ⟨y', d1, d2, d3⟩ := x_passHour w' he ok.2.1 i1 hv2 (by have := hv2.2.2; omega) (by omega)
            rw [d1, zbv_some, nI_1]
            exact ih y' ⟨by rw [adv_s z]; exact d2, i2.trans d3⟩
        · try dsimp only at hI ⊢
          unfold F_X9_ahead_45
          rw [if_pos (Int32.le_refl _)]
          exact fin y hI.1 hI.2
      have hMr : wp (F_X10_ahead_31 (nI k) (nI w) (nI k) (nI w) 0 (zI m 0 0 0)) (fun q => q.1 = whatS (sE S) (adv (sE S) (sL S) (sN S).2.1 k) w ∧ frM 452 (zI m 0 0 0) q.2) := by
        obtain ⟨m1, c1, c2, c3⟩ := m_copies (M := zI m 0 0 0) (a := 451) (b := 452) (by decide)
        have H1 : RMh m1 (sE S) (sL S) (sN S).2.1 452 := ⟨c2.p (by omega) he hM1.1, c2.l (by omega) ok.2.1 hM1.2.1, fun i hi => by rw [c3 i hi]; exact hM1.u i hi⟩
        unfold F_X10_ahead_31
        rw [m_bad0 t0_0, zb_some]
        dsimp only
        rw [if_pos rfl, c1, zbv_some]
        have fin : ∀ y, RMh y (sE S) (sL S) (adv (sE S) (sL S) (sN S).2.1 k) 452 → frM 452 (zI m 0 0 0) y → wp (F_X10_ahead_82 (nI k) (nI w) (nI w) y) (fun q => q.1 = whatS (sE S) (adv (sE S) (sL S) (sN S).2.1 k) w ∧ frM 452 (zI m 0 0 0) q.2) := fun y i1 i2 => by
          have hv2 := adv_ok (L := sL S) hv k
          unfold F_X10_ahead_82 whatS
          rw [ie0 (by omega)]
          by_cases z0 : w = 0
          · rw [if_pos z0, if_pos z0, show F_X10_together y 452 (0 : Int32) = _ from m_together (fr := 0) i1.2.2 (by omega), zb_some, wp_some]
            refine ⟨?_, i2⟩
            simp only [Nat.zero_add]
          · rw [if_neg z0, if_neg z0, show (1 : Int32) = nI 1 from rfl, ieq (by omega) (by omega)]
            by_cases z1 : w = 1
            · rw [if_pos z1, if_pos z1, show F_X10_dryOnes y 452 (0 : Int32) = _ from m_dryOnes i1.1 he i1.2.2 hv2.1 false, zb_some, wp_some]
              refine ⟨?_, i2⟩
              dsimp only
              rw [cnt_congr (fun q hq => by rw [Bool.not_false, Bool.true_or, Bool.and_true])]
            · rw [if_neg z1, if_neg z1, wp_some]
              exact ⟨i1.2.2 192 (by omega), i2⟩
        refine loopN (F_X10_ahead_54 _ _) (fun g j (y : zMem) => g (nI k) (nI w) (nI j) y) k (fun j y => RMh y (sE S) (sL S) (adv (sE S) (sL S) (sN S).2.1 j) 452 ∧ frM 452 (zI m 0 0 0) y) _ (fun g j y hj hI ih => ?_) (fun g y hI => ?_) (k := 0) (s := m1) (by omega) ⟨by rw [adv_0]; exact H1, c2⟩ (by omega)
        · try dsimp only at hI ih ⊢
          obtain ⟨i1, i2⟩ := hI
          unfold F_X10_ahead_54
          rw [ile (by omega) (by omega), if_neg (by omega), i1.1.2.2.1]
          by_cases z : pn (sE S) = 0
          · rw [if_pos (by rw [ya_0, nI_leI (by omega) (by omega)]; omega)]
            exact fin y (by rw [adv_z z] at i1 ⊢; exact i1) i2
          · rw [if_neg (by rw [ya_0, nI_leI (by omega) (by omega)]; omega)]
            have hv2 := adv_ok (L := sL S) hv j
            obtain ⟨y', d1, d2, _, d3⟩ := m_hourEnds i1 he ok.2.1 hv2.1 (by have := hv2.2.2; omega) (by omega)
            rw [d1, zbv_some, nI_1]
            exact ih y' ⟨by rw [adv_s z]; exact d2, i2.trans d3⟩
        · try dsimp only at hI ⊢
          unfold F_X10_ahead_54
          rw [if_pos (Int32.le_refl _)]
          exact fin y hI.1 hI.2
      obtain ⟨⟨k0, v0, x'⟩, g1, g2, g3, g4⟩ := hXr
      obtain ⟨⟨v1, m'⟩, j1, j2, j3⟩ := hMr
      try dsimp only at g2 g3 g4 j2 j3
      subst g2
      subst g3
      subst j2
      exact same_q h hM1 ok (Or.inl ⟨rfl, rfl⟩) g1 (g4.q (by omega) (ST_q (by omega))) j1 (j3.q (Or.inr (Or.inl rfl))) (by rw [j3.1 0 (by omega) (by omega) (by omega)]; exact t0_0)
    · rw [show F_X9_within x b (0 : Int32) (2 : Int32) = some (0, x) from m_inN _ hb, show F_X10_in (zI m 0 0 0) b (0 : Int32) (2 : Int32) = some (0, zI m 0 0 0) from m_inN _ hb, zb_some, zb_some] at f ⊢
      exact f rfl rfl
  · rw [show F_X9_within x a (0 : Int32) (500 : Int32) = some (0, x) from m_inN _ ha, show F_X10_in (zI m 0 0 0) a (0 : Int32) (500 : Int32) = some (0, zI m 0 0 0) from m_inN _ ha, zb_some, zb_some] at f ⊢
    exact f rfl rfl
/-! the first zero -/
def fz (f : Nat → Nat) : Nat → Nat
  | 0 => 0
  | n + 1 => if fz f n < n then fz f n else if f n = 0 then n else n + 1
theorem fz_s (f : Nat → Nat) (n : Nat) : fz f (n + 1) = if fz f n < n then fz f n else if f n = 0 then n else n + 1 := rfl
theorem fz_le (f : Nat → Nat) : ∀ n, fz f n ≤ n
  | 0 => Nat.le_refl 0
  | n + 1 => by
    rw [fz_s]
    split
    · omega
    · split <;> omega
theorem fz_all {f : Nat → Nat} : ∀ {n}, (∀ j, j < n → f j ≠ 0) → fz f n = n
  | 0, _ => rfl
  | n + 1, h => by
    rw [fz_s, fz_all (n := n) (fun j hj => h j (by omega)), if_neg (by omega), if_neg (h n (by omega))]
theorem fz_is {f : Nat → Nat} {k : Nat} (h1 : ∀ j, j < k → f j ≠ 0) (h2 : f k = 0) : ∀ {n}, k < n → fz f n = k
  | 0, h => absurd h (Nat.not_lt_zero _)
  | n + 1, h => by
    rw [fz_s]
    by_cases c : k < n
    · rw [fz_is h1 h2 c, if_pos c]
    · have : k = n := by omega
      subst this
      rw [fz_all h1, if_neg (by omega), if_pos h2]
theorem fz_no {f : Nat → Nat} : ∀ {n k}, k < fz f n → f k ≠ 0
  | 0, k, h => absurd h (Nat.not_lt_zero _)
  | n + 1, k, h => by
    rw [fz_s] at h
    have hn := fz_le f n
    split at h
    · exact fz_no h
    · split at h
      · exact fz_no (n := n) (by omega)
      · rename_i h1 h2
        by_cases c : k = n
        · rw [c]; exact h2
        · exact fz_no (n := n) (by omega)
theorem fz_yes {f : Nat → Nat} : ∀ {n}, fz f n < n → f (fz f n) = 0
  | 0, h => absurd h (Nat.not_lt_zero _)
  | n + 1, h => by
    rw [fz_s] at h ⊢
    by_cases c : fz f n < n
    · rw [if_pos c]; exact fz_yes c
    · rw [if_neg c] at h ⊢
      by_cases z : f n = 0
      · rw [if_pos z]; exact z
      · rw [if_neg z] at h; omega
/-- one pan alone: brine, hour, day -/
def dstep (e : PL) (L : LW) (u : Nat → Nat) (p : Nat) (s : Nat × Nat × Nat) : Nat × Nat × Nat :=
  (s.1 - lossS e L u p s.1 s.2.1 (nI s.2.2), if pn e ≤ s.2.1 + 1 then 0 else s.2.1 + 1, if pn e ≤ s.2.1 + 1 then s.2.2 + 1 else s.2.2)
def dst (e : PL) (L : LW) (u : Nat → Nat) (p k : Nat) : Nat × Nat × Nat := fN (fun _ s => dstep e L u p s) (u p, u 193, u 192) k
theorem dst_s (e : PL) (L : LW) (u : Nat → Nat) (p k : Nat) : dst e L u p (k + 1) = dstep e L u p (dst e L u p k) := rfl
def dryB (e : PL) (L : LW) (u : Nat → Nat) (p k : Nat) : Nat := (dst e L u p k).1
theorem dst_h {e : PL} {L : LW} {u : Nat → Nat} {p : Nat} (h : u 193 < pn e) : ∀ k, (dst e L u p k).2.1 < pn e
  | 0 => h
  | k + 1 => by
    have ih := dst_h (L := L) (p := p) h k
    rw [dst_s]
    unfold dstep
    dsimp only
    split <;> omega
theorem dst_b {e : PL} {L : LW} {u : Nat → Nat} {p : Nat} (h : u p ≤ 9999) : ∀ k, (dst e L u p k).1 ≤ 9999
  | 0 => h
  | k + 1 => by
    have ih := dst_b (L := L) (e := e) h k
    rw [dst_s]
    unfold dstep
    dsimp only
    omega
/-- DRYING, of at most so many hours -/
def dryR (e : PL) (L : LW) (u : Nat → Nat) (p most : Nat) : Int32 :=
  if u (128 + p) = 0 then (if pn e = 0 then (if u p = 0 then 0 else -1) else if fz (dryB e L u p) (most + 1) ≤ most then nI (fz (dryB e L u p) (most + 1)) else -1) else -1
theorem x_dryingOf {x : zMem} {e : PL} {L : LW} {u : Nat → Nat} {pl r p most : Nat} (w : RXw x e L pl r) (he : okPL e) (ok : okL L) (hr : RXr x e u 4) (hv : okR e u) (hp : p < 64) (hin : inW e p = true) (hm : most ≤ 500) :
    ∃ x', F_X9_dryingOf x (nI p) (nI most) = some (dryR e L u p most, x') ∧ frX r (fun _ => False) x x' := by
  have hn := he.2.2.2.2.1
  have b1 := hv.1 p (by omega)
  have b3 := hv.1 (128 + p) (by omega)
  unfold F_X9_dryingOf dryR
  rw [gin_ok hp (by decide), zl_eq, nI_clamp (by omega), show x.1 5 p = nI (u p) from (hr.1 p hp).1, show x.1 7 p = nI (u (128 + p)) from (hr.1 p hp).2.2, hr.2.2.1, hr.2.2.2.1]
  by_cases h0 : u (128 + p) = 0
  · rw [if_pos (by rw [ya_0, nI_leI (by omega) (by omega)]; omega), if_pos h0, ie0 (by omega)]
    by_cases h1 : u p = 0
    · rw [if_pos h1]
      refine ⟨x, ?_, frX.refl⟩
      by_cases hp0 : pn e = 0
      · rw [if_pos hp0, if_pos h1]
      · have : fz (dryB e L u p) (most + 1) = 0 := fz_is (k := 0) (fun j hj => absurd hj (Nat.not_lt_zero _)) h1 (by omega)
        rw [if_neg hp0, this, if_pos (by omega)]; rfl
    · rw [if_neg h1, zl_eq, zl_eq]
      have hw : wp (itF (fun _ _ _ _ _ _ _ => none) (F_X9_dryingOf_49 (nI p) (nI most)) zFuel (nI p) (nI most) (nI (u p)) (nI (u 193)) (nI (u 192)) (nI 1) x) (fun q => q.1 = (if pn e = 0 then (if u p = 0 then 0 else -1) else if fz (dryB e L u p) (most + 1) ≤ most then nI (fz (dryB e L u p) (most + 1)) else -1) ∧ frX r (fun _ => False) x q.2) := by
        refine loopN (F_X9_dryingOf_49 _ _) (fun g k (s : (Nat × Nat × Nat) × zMem) => g (nI p) (nI most) (nI s.1.1) (nI s.1.2.1) (nI s.1.2.2) (nI k) s.2) (most + 1) (fun k s => 1 ≤ k ∧ s.1 = dst e L u p (k - 1) ∧ (∀ j, j < k → dryB e L u p j ≠ 0) ∧ frX r (fun _ => False) x s.2) _ (fun g k s hk hI ih => ?_) (fun g s hI => ?_) (k := 1) (s := ((u p, u 193, u 192), x)) (by omega) ⟨by omega, rfl, fun j hj => ?_, frX.refl⟩ (by omega)
        · obtain ⟨s, y⟩ := s
          obtain ⟨i0, i1, i2, i3⟩ := hI
          try dsimp only at i0 i1 i2 i3 ih ⊢
          have w' := i3.w (fun _ _ _ z => z) w
          have hr' := i3.rr w.2.2.2.2.2 (Or.inl (by omega)) (fun _ _ _ z => z) hr
          unfold F_X9_dryingOf_49
          rw [ilt (by omega) (by omega), if_neg (by omega), w'.2.2.1, gd_ok (sX_p w'.2.2.2.2.1), w'.1.2.2.1]
          by_cases hp0 : pn e = 0
          · rw [if_pos (by rw [ya_0, nI_leI (by omega) (by omega)]; omega), wp_some, if_pos hp0, if_neg h1]
            exact ⟨rfl, i3⟩
          · have hh : s.2.1 < pn e := by rw [i1]; exact dst_h (by have := hv.2.2; omega) _
            have hb : s.1 ≤ 9999 := by rw [i1]; exact dst_b b1 _
            rw [if_neg (by rw [ya_0, nI_leI (by omega) (by omega)]; omega)]
            obtain ⟨y', f1, f2⟩ := x_lossOf w' he ok hr' hp hb (Or.inl hin) (Or.inl hh) (nI s.2.2)
            have hle := lossS_le e L u p s.1 s.2.1 (nI s.2.2)
            rw [f1, zb_some]
            dsimp only
            rw [pk_sub hle, zl_eq, ie0 (by omega)]
            have hk1 : dst e L u p k = dstep e L u p s := by
              rw [i1, show k = (k - 1) + 1 by omega]; rfl
            have hD : dryB e L u p k = s.1 - lossS e L u p s.1 s.2.1 (nI s.2.2) := by unfold dryB; rw [hk1]; rfl
            have i3' := i3.trans f2
            by_cases z : s.1 - lossS e L u p s.1 s.2.1 (nI s.2.2) = 0
            · rw [if_pos z, wp_some, if_neg hp0]
              have : fz (dryB e L u p) (most + 1) = k := fz_is i2 (by rw [hD]; exact z) (by omega)
              rw [this, if_pos (by omega)]
              exact ⟨rfl, i3'⟩
            · have w2 := i3'.w (fun _ _ _ z => z) w
              rw [if_neg z, w2.2.2.1, gd_ok (sX_p w2.2.2.2.2.1), w2.1.2.2.1, nI_1, ilt (by omega) (by omega)]
              unfold F_X9_dryingOf_111
              have nx : ∀ j, j < k + 1 → dryB e L u p j ≠ 0 := fun j hj => by
                by_cases c : j = k
                · rw [c, hD]; exact z
                · exact i2 j (by omega)
              by_cases c : s.2.1 + 1 < pn e
              · rw [if_pos c, nI_1]
                refine ih ((s.1 - lossS e L u p s.1 s.2.1 (nI s.2.2), s.2.1 + 1, s.2.2), y') ⟨by omega, ?_, nx, i3'⟩
                show _ = dst e L u p (k + 1 - 1)
                rw [Nat.add_sub_cancel, hk1]
                unfold dstep
                rw [if_neg (by omega), if_neg (by omega)]
              · rw [if_neg c, nI_1, nI_1]
                refine ih ((s.1 - lossS e L u p s.1 s.2.1 (nI s.2.2), 0, s.2.2 + 1), y') ⟨by omega, ?_, nx, i3'⟩
                show _ = dst e L u p (k + 1 - 1)
                rw [Nat.add_sub_cancel, hk1]
                unfold dstep
                rw [if_pos (by omega), if_pos (by omega)]
        · obtain ⟨s, y⟩ := s
          obtain ⟨i0, i1, i2, i3⟩ := hI
          try dsimp only at i0 i1 i2 i3 ⊢
          unfold F_X9_dryingOf_49
          rw [ilt (by omega) (by omega), if_pos (by omega), wp_some]
          refine ⟨?_, i3⟩
          by_cases hp0 : pn e = 0
          · rw [if_pos hp0, if_neg h1]
          · rw [if_neg hp0, fz_all i2, if_neg (by omega)]
        · have : j = 0 := by omega
          subst this
          exact h1
      obtain ⟨q, q1, q2, q3⟩ := hw
      refine ⟨q.2, ?_, q3⟩
      rw [← q2]
      exact q1
  · rw [if_neg (by rw [ya_0, nI_leI (by omega) (by omega)]; omega), if_neg h0]
    exact ⟨x, rfl, frX.refl⟩
theorem lossS_congr {e : PL} {L : LW} {u w : Nat → Nat} {p b h : Nat} {d : Int32} (h1 : ∀ f, f < 64 → u (128 + f) = w (128 + f)) (h2 : u (64 + p) = w (64 + p)) : lossS e L u p b h d = lossS e L w p b h d := by
  unfold lossS
  rw [shd_congr h1, h2]
def trow (u : Nat → Nat) (p : Nat) (s : Nat × Nat × Nat) : Nat → Nat := updN (updN (updN u p s.1) 193 s.2.1) 192 s.2.2
theorem trow_p {u : Nat → Nat} {p : Nat} {s : Nat × Nat × Nat} (hp : p < 64) : trow u p s p = s.1 := by unfold trow; rw [updN_n (by omega), updN_n (by omega), updN_s]
theorem trow_h {u : Nat → Nat} {p : Nat} {s : Nat × Nat × Nat} : trow u p s 193 = s.2.1 := by unfold trow; rw [updN_n (by omega), updN_s]
theorem trow_d {u : Nat → Nat} {p : Nat} {s : Nat × Nat × Nat} : trow u p s 192 = s.2.2 := by unfold trow; rw [updN_s]
theorem trow_o {u : Nat → Nat} {p i : Nat} {s : Nat × Nat × Nat} (h1 : i ≠ p) (h2 : i ≠ 192) (h3 : i ≠ 193) : trow u p s i = u i := by unfold trow; rw [updN_n h2, updN_n h3, updN_n h1]
theorem trow_step {e : PL} {L : LW} {u : Nat → Nat} {p : Nat} {s : Nat × Nat × Nat} (hp : p < 64) : nextS e (dryS e L p (trow u p s)) = trow u p (dstep e L u p s) := by
  have hl : lossS e L (trow u p s) p s.1 s.2.1 (nI s.2.2) = lossS e L u p s.1 s.2.1 (nI s.2.2) := lossS_congr (fun f hf => trow_o (by omega) (by omega) (by omega)) (trow_o (by omega) (by omega) (by omega))
  have hd : ∀ i, dryS e L p (trow u p s) i = if i = p then s.1 - lossS e L u p s.1 s.2.1 (nI s.2.2) else trow u p s i := fun i => by
    rw [dryS_loss, trow_p hp, trow_h, trow_d, hl]
  have h193 : dryS e L p (trow u p s) 193 = s.2.1 := by rw [hd 193, if_neg (show ¬ 193 = p by omega), trow_h]
  have h192 : dryS e L p (trow u p s) 192 = s.2.2 := by rw [hd 192, if_neg (show ¬ 192 = p by omega), trow_d]
  funext i
  unfold nextS
  rw [h193, h192]
  by_cases c : pn e ≤ s.2.1 + 1
  · rw [if_pos c]
    by_cases c2 : i = 192
    · rw [c2, updN_s, trow_d]; unfold dstep; dsimp only; rw [if_pos c]
    · rw [updN_n c2]
      by_cases c3 : i = 193
      · rw [c3, updN_s, trow_h]; unfold dstep; dsimp only; rw [if_pos c]
      · rw [updN_n c3, hd]
        by_cases c4 : i = p
        · rw [if_pos c4, c4, trow_p hp]; rfl
        · rw [if_neg c4, trow_o c4 c2 c3, trow_o c4 c2 c3]
  · rw [if_neg c]
    by_cases c3 : i = 193
    · rw [c3, updN_s, trow_h]; unfold dstep; dsimp only; rw [if_neg c]
    · rw [updN_n c3, hd]
      by_cases c4 : i = p
      · rw [if_pos c4, c4, trow_p hp]; rfl
      · rw [if_neg c4]
        by_cases c2 : i = 192
        · rw [c2, trow_d, trow_d]; unfold dstep; dsimp only; rw [if_neg c]
        · rw [trow_o c4 c2 c3, trow_o c4 c2 c3]
theorem trow_V {u : Nat → Nat} {p : Nat} {s : Nat × Nat × Nat} (h : okV u) (hs : s.1 ≤ 9999) : okV (trow u p s) := ((h.set hs).set2 (by omega)).set2 (by omega)
theorem m_dryingOf {m : zMem} {e : PL} {L : LW} {u : Nat → Nat} {p : Nat} (H : RMh m e L u 451) (he : okPL e) (ok : okL L) (hv : okR e u) (hp : p < 64) :
    ∃ m', F_X10_dryingOf m (nI p) = some (dryR e L u p 500, m') ∧ frM 452 m m' := by
  have hn := he.2.2.2.2.1
  have b1 := hv.1 p (by omega)
  have b3 := hv.1 (128 + p) (by omega)
  unfold F_X10_dryingOf dryR
  rw [show (128 : Int32) + nI p = nI (128 + p) from nI_add 128 p, gin_ok (by omega) (by decide), nI_clamp (by omega), H.2.2 _ (by omega)]
  by_cases h0 : u (128 + p) = 0
  · rw [if_pos (by rw [ya_0, nI_leI (by omega) (by omega)]; omega), if_pos h0]
    obtain ⟨m1, c1, c2, c3⟩ := m_copies (M := m) (a := 451) (b := 452) (by decide)
    have H1 : RMh m1 e L (trow u p (u p, u 193, u 192)) 452 := by
      refine ⟨c2.p (by omega) he H.1, c2.l (by omega) ok H.2.1, fun i hi => ?_⟩
      rw [c3 i hi, H.2.2 i hi]
      congr 1
      unfold trow updN
      split
      · rename_i z; rw [z]
      · split
        · rename_i z; rw [z]
        · split
          · rename_i z; rw [z]
          · rfl
    rw [c1, zbv_some]
    have hw : wp (itF (fun _ _ _ => none) (F_X10_dryingOf_28 (nI p)) zFuel (nI p) (nI 0) m1) (fun q => q.1 = (if pn e = 0 then (if u p = 0 then 0 else -1) else if fz (dryB e L u p) (500 + 1) ≤ 500 then nI (fz (dryB e L u p) (500 + 1)) else -1) ∧ frM 452 m q.2) := by
      refine loopN (F_X10_dryingOf_28 _) (fun g k (y : zMem) => g (nI p) (nI k) y) 501 (fun k y => (pn e = 0 → k = 0) ∧ RMh y e L (trow u p (dst e L u p k)) 452 ∧ (∀ j, j < k → dryB e L u p j ≠ 0) ∧ frM 452 m y) _ (fun g k y hk hI ih => ?_) (fun g y hI => ?_) (k := 0) (s := m1) (by omega) ⟨fun _ => rfl, H1, fun j hj => absurd hj (Nat.not_lt_zero _), c2⟩ (by omega)
      · obtain ⟨i0, i1, i2, i3⟩ := hI
        try dsimp only at i0 i1 i2 i3 ih ⊢
        have hb := dst_b (L := L) (e := e) b1 k
        unfold F_X10_dryingOf_28
        rw [show (500 : Int32) = nI 500 from rfl, ilt (by omega) (by omega), if_neg (by omega), show (0 : Int32) + nI p = nI (0 + p) from nI_add 0 p, Nat.zero_add, gin_ok (by omega) (by decide), nI_clamp (by omega), i1.2.2 _ (by omega), trow_p hp, ie0 (by omega), i1.1.2.2.1, ie0 (by omega)]
        by_cases z : (dst e L u p k).1 = 0
        · rw [if_pos z, wp_some]
          refine ⟨?_, i3⟩
          by_cases hp0 : pn e = 0
          · have := i0 hp0
            subst this
            rw [if_pos hp0, if_pos (show u p = 0 from z)]; rfl
          · rw [if_neg hp0, fz_is i2 z (by omega), if_pos (by omega)]
        · rw [if_neg z]
          by_cases hp0 : pn e = 0
          · have := i0 hp0
            subst this
            rw [if_pos hp0, wp_some, if_pos hp0, if_neg (show ¬ u p = 0 from z)]
            exact ⟨rfl, i3⟩
          · rw [if_neg hp0]
            have hh : (trow u p (dst e L u p k)) 193 < pn e := by rw [trow_h]; exact dst_h (by have := hv.2.2; omega) _
            obtain ⟨y1, d1, d2, d3, d4⟩ := m_driesOne i1 he ok (trow_V hv.1 hb) hp (Or.inl hh) (by omega)
            rw [d1, zbv_some]
            obtain ⟨y2, e1, e2, e3⟩ := m_nextHour d2 he ok (by rw [dryS_o (by omega)]; omega) (by omega)
            rw [e1, zbv_some, nI_1]
            rw [trow_step hp, ← dst_s] at e2
            refine ih y2 ⟨fun z => absurd z hp0, e2, fun j hj => ?_, (i3.trans d4).trans e3⟩
            by_cases c : j = k
            · rw [c]; exact z
            · exact i2 j (by omega)
      · obtain ⟨i0, i1, i2, i3⟩ := hI
        try dsimp only at i0 i1 i2 i3 ⊢
        unfold F_X10_dryingOf_28
        rw [show (500 : Int32) = nI 500 from rfl, ilt (by omega) (by omega), if_pos (by omega), wp_some]
        have hp0 : pn e ≠ 0 := fun z => by have := i0 z; omega
        refine ⟨?_, i3⟩
        rw [if_neg hp0, fz_all i2, if_neg (by omega)]
    obtain ⟨q, q1, q2, q3⟩ := hw
    refine ⟨q.2, ?_, q3⟩
    rw [← q2]
    exact q1
  · rw [if_neg (by rw [ya_0, nI_leI (by omega) (by omega)]; omega), if_neg h0]
    exact ⟨m, rfl, frM.refl⟩
theorem q_drying {x m : zMem} {S : SS} (a b : Int32) (hX : RXo x S) (hM : RMn m S) (ok : okS S) : same T2 (F_X9_drying x a b) (F_X10_drying m a b) := by
  obtain ⟨pl, r, n, h⟩ := hX
  have hM1 := hM.t ok
  have he := ok.1
  have hv := ok.u
  have e2 := he.2.1
  have e4 := he.2.2.2.1
  have hr := h.1.2.2.2.2.2
  rcases plc he a b with ⟨i, j, hi, hj, rfl, rfl⟩ | hb
  · have hp : 8 * j + i < 64 := by omega
    obtain ⟨x', f1, f2⟩ := x_dryingOf (most := 500) h.1 he ok.2.1 h.u hv hp (inW_of he hi hj) (by omega)
    obtain ⟨m', g1, g2⟩ := m_dryingOf hM1.h he ok.2.1 hv hp
    refine same_q h hM1 ok (Or.inl ⟨rfl, rfl⟩) (x' := x') (m' := m') (v := dryR (sE S) (sL S) (sN S).2.1 (8 * j + i) 500) ?_ (f2.q (by omega) (fun _ z => z.elim)) ?_ (g2.q (Or.inr (Or.inl rfl))) (by rw [g2.1 0 (by omega) (by omega) (by omega)]; exact t0_0)
    · unfold F_X9_drying
      rw [x_npY h.1 he hi hj, zbx_0, x_placeOf, zb_some]
      dsimp only
      rw [show (500 : Int32) = nI 500 from rfl, f1, zb_some]
    · unfold F_X10_drying
      rw [zl_eq, m_iwY hM1.1 he hi hj, zb_some]
      dsimp only
      rw [if_neg (by decide)]
      unfold F_X10_drying_20
      rw [m_bad0 t0_0, zb_some]
      dsimp only
      rw [if_pos rfl, show (8 : Int32) = nI 8 from rfl, pk_mul, nI_add, g1, zb_some]
  · refine same_0 (t := 1) h hM1 ok (Or.inr ⟨rfl, rfl⟩) frQ.refl frN.refl (v := 0) (w := 0) ?_ ?_
    · unfold F_X9_drying
      rw [x_npN h.1 hb]; rfl
    · unfold F_X10_drying
      rw [zl_eq, m_iwN hM1.1 he hb, zb_some]
      dsimp only
      rw [if_pos rfl]
      unfold F_X10_drying_20
      rw [m_bad10 t0_0, zb_some]; rfl
