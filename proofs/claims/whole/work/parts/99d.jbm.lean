/-! work: the class' whole reading; the reference's rows -/
theorem fl_stop {B : Nat → Nat} {E : Nat} {e : PL} {W : WS} (h : (jP W).1 ≠ 0 ∨ E ≤ (jP W).2.2) : stopW E (flW B E e W) := by
  unfold flW
  by_cases z : (jP W).1 = 0
  · have hE : E ≤ (jP W).2.2 := h.elim (fun w => absurd z w) id
    rw [if_pos z, if_pos hE]
    by_cases o : jo W = 0
    · rw [if_pos o]; exact Or.inr ⟨hE, o⟩
    · rw [if_neg o]
      refine Or.inl ?_
      show (flS 1 (nI E) (jP W)).1 ≠ 0
      unfold flS
      rw [if_pos z]
      exact fun w => absurd (show (1 : Nat) = 0 from w) (by decide)
  · rw [if_neg z]; exact Or.inl z
theorem x_jbRead {x : zMem} {B : Nat → Nat} {E pl : Nat} {e : PL} (ht : okT B E) (hE : E ≤ 150) (he : okPL e) (hpl : pl = 174 ∨ pl = 180) (hp : RXp x e pl) (hT : TX x B E (PS0 B E)) :
    ∃ y, F_X2_read x 91 1 pl = some y ∧ TX y B E (jP (ruW B E e (W0 B E) 151)) ∧ frJ x y ∧ stopW E (ruW B E e (W0 B E) 151) ∧ ((jP (ruW B E e (W0 B E) 151)).1 = 0 → RXj y (ruW B E e (W0 B E) 151)) := by
  unfold F_X2_read
  rw [zl_eq, zl_eq]
  have f0 : frJ x (zI (zI x 91 8 0) 91 7 0) := (frJ.z (by omega) (by omega)).trans (frJ.z (by omega) (by omega))
  have main : wp (itF (fun _ _ => none) (F_X2_read_12 91 1 pl) zFuel (0 : Int32) (zI (zI x 91 8 0) 91 7 0)) (fun y => TX y B E (jP (ruW B E e (W0 B E) 151)) ∧ frJ x y ∧ stopW E (ruW B E e (W0 B E) 151) ∧ ((jP (ruW B E e (W0 B E) 151)).1 = 0 → RXj y (ruW B E e (W0 B E) 151))) := by
    have fin : ∀ (y : zMem) k, k ≤ 150 → TX y B E (jP (ruW B E e (W0 B E) k)) → frJ x y → ((jP (ruW B E e (W0 B E) k)).1 = 0 → RXj y (ruW B E e (W0 B E) k)) → ((jP (ruW B E e (W0 B E) k)).1 ≠ 0 ∨ E ≤ (jP (ruW B E e (W0 B E) k)).2.2) →
        wp (F_X2_read_62 91 1 pl y) (fun y => TX y B E (jP (ruW B E e (W0 B E) 151)) ∧ frJ x y ∧ stopW E (ruW B E e (W0 B E) 151) ∧ ((jP (ruW B E e (W0 B E) 151)).1 = 0 → RXj y (ruW B E e (W0 B E) 151))) := fun y k hk r1 r2 r3 r4 => by
      have st : stopW E (ruW B E e (W0 B E) (k + 1)) := by rw [ruW_s]; exact fl_stop r4
      rw [ruW_stop st 151 (by omega)]
      have hok := wf_ru he (wf_0 B E e) k
      rw [ruW_s] at st ⊢
      generalize ruW B E e (W0 B E) k = W at *
      unfold F_X2_read_62
      by_cases z : (jP W).1 = 0
      · have hEp : E ≤ (jP W).2.2 := r4.elim (fun w => absurd z w) id
        obtain ⟨j8, j7, jr⟩ := r3 z
        by_cases o : jo W = 0
        · have ef : flW B E e W = W := by unfold flW; rw [if_pos z, if_pos hEp, if_pos o]
          rw [if_pos (by rw [j7, o]; decide), wp_some, ef]
          rw [ef] at st
          exact ⟨r1, r2, st, r3⟩
        · have ef : flW B E e W = setP W (flS 1 (nI E) (jP W)) := by unfold flW; rw [if_pos z, if_pos hEp, if_neg o]
          have ho6 : jo W ≤ 6 := (hok.2.2 z).2.1
          rw [if_neg (fun w => by
            rw [j7, ya_0, nI_leI (by omega) (by omega)] at w
            omega)]
          unfold F_X8_failAtEnd
          obtain ⟨y1, a1, a2, a3⟩ := x_fail (c := 1) (v := nI E) r1 hok.1.1 (by omega)
          rw [r1.2.2.1, show (1 : Int32) = nI 1 from rfl, a1, zbv_some, zbv_some, wp_some, ef]
          rw [ef] at st
          refine ⟨a2, r2.trans a3.j, st, fun q => ?_⟩
          exfalso
          revert q
          show (flS 1 (nI E) (jP W)).1 = 0 → False
          unfold flS
          rw [if_pos z]
          exact fun w => absurd (show (1 : Nat) = 0 from w) (by decide)
      · have ef : flW B E e W = W := by unfold flW; rw [if_neg z]
        rw [ef] at st ⊢
        by_cases c : y.1 91 7 ≤ 0
        · rw [if_pos c, wp_some]
          exact ⟨r1, r2, st, fun q => absurd q z⟩
        · unfold F_X8_failAtEnd
          obtain ⟨y1, a1, a2, a3⟩ := x_fail (c := 1) (v := nI E) r1 hok.1.1 (by omega)
          rw [fl_st z] at a2
          rw [if_neg c, r1.2.2.1, show (1 : Int32) = nI 1 from rfl, a1, zbv_some, zbv_some, wp_some]
          exact ⟨a2, r2.trans a3.j, st, fun q => absurd q z⟩
    refine loopN (F_X2_read_12 91 1 pl) (fun g k (y : zMem) => g (nI k) y) 150 (fun k y => TX y B E (jP (ruW B E e (W0 B E) k)) ∧ frJ x y ∧ ((jP (ruW B E e (W0 B E) k)).1 = 0 → RXj y (ruW B E e (W0 B E) k))) _ (fun g k y hk hI ih => ?_) (fun g y hI => ?_) (k := 0) (s := zI (zI x 91 8 0) 91 7 0) (by omega) ⟨(hT.zt (by omega) (by omega)).zt (by omega) (by omega), f0, fun _ => ⟨by rw [zI_s (by omega), zI_1, upd_s]; rfl, by rw [zI_1, upd_s]; rfl, fun k hk => absurd hk (Nat.not_lt_zero _), fun i hi => absurd hi (Nat.not_lt_zero _)⟩⟩ (by omega)
    · obtain ⟨i1, i2, i3⟩ := hI
      try dsimp only at i1 i2 i3 ih ⊢
      have hwf := wf_ru he (wf_0 B E e) k
      have es := ruW_s B E e (W0 B E) k
      unfold F_X2_read_12
      obtain ⟨y1, a1, a2, a3⟩ := x_goesOn ht hwf.1.1 i1
      have rp : ∀ w, frJ x w → RXp w e pl := fun w f => by
        obtain ⟨b1, b2, b3, b4, b5⟩ := hp
        exact ⟨by rw [f.1 pl (by omega) (by omega)]; exact b1, by rw [f.1 pl (by omega) (by omega)]; exact b2, by rw [f.1 pl (by omega) (by omega)]; exact b3, fun q hq => by rw [f.1 (pl + 1) (by omega) (by omega), f.1 (pl + 2) (by omega) (by omega)]; exact b4 q hq, fun p hp => by rw [f.2.2]; exact b5 p hp⟩
      rw [show (150 : Int32) = nI 150 from rfl, ile (by omega) (by omega), if_neg (by omega), a1, zb_some]
      dsimp only
      rw [ibI]
      by_cases c : (jP (ruW B E e (W0 B E) k)).1 = 0 ∧ (jP (ruW B E e (W0 B E) k)).2.2 < E
      · obtain ⟨z, hpos⟩ := c
        rw [if_neg (by rw [decide_eq_true z, decide_eq_true hpos]; decide)]
        have hj := a3.rj (i3 z)
        have ho := (hwf.2.2 z).2.1
        have f1 := i2.trans a3.j
        generalize ruW B E e (W0 B E) k = W at *
        have go : ∀ y2, TX y2 B E (jP (flW B E e W)) ∧ frJ y1 y2 ∧ ((jP (flW B E e W)).1 = 0 → RXj y2 (flW B E e W)) → wp (F_X2_read_56 91 1 pl g (nI k) y2) (fun y => TX y B E (jP (ruW B E e (W0 B E) 151)) ∧ frJ x y ∧ stopW E (ruW B E e (W0 B E) 151) ∧ ((jP (ruW B E e (W0 B E) 151)).1 = 0 → RXj y (ruW B E e (W0 B E) 151))) := fun y2 r => by
          unfold F_X2_read_56
          rw [nI_1]
          refine ih y2 ?_
          rw [es]
          exact ⟨r.1, f1.trans r.2.1, r.2.2⟩
        have step : ∀ y2, TX y2 B E (jP W) → frJ y1 y2 → RXj y2 W → ¬ (0 < jo W ∧ hasB B E (jP W) 93 = true) → wp (F_X2_read_50 91 1 pl g (nI k) y2) (fun y => TX y B E (jP (ruW B E e (W0 B E) 151)) ∧ frJ x y ∧ stopW E (ruW B E e (W0 B E) 151) ∧ ((jP (ruW B E e (W0 B E) 151)).1 = 0 → RXj y (ruW B E e (W0 B E) 151))) := fun y2 r1 r2 r3 r4 => by
          have ef : flW B E e W = stepW B E e W := by unfold flW; rw [if_pos z, if_neg (by omega), if_neg r4]
          obtain ⟨y3, d1, d2, d3, d4⟩ := x_step ht hE he hpl hwf z (rp y2 (f1.trans r2)) r1 r3
          unfold F_X2_read_50
          rw [d1, zbv_some]
          refine go y3 ?_
          rw [ef]
          exact ⟨d2, r2.trans d3, d4⟩
        rw [hj.2.1, ya_0, ile (by omega) (by omega)]
        by_cases co : jo W = 0
        · rw [if_pos (by omega)]
          exact step y1 a2 frJ.refl hj (fun w => by omega)
        · obtain ⟨y2, b1, b2, b3⟩ := x_seesB (c := 93) ht hwf.1.1 (by omega) a2
          rw [if_neg (by omega), show (93 : Int32) = nI 93 from rfl, b1, zb_some]
          dsimp only
          rw [show nI 0 = (0 : Int32) from rfl, ibI]
          by_cases cb : hasB B E (jP W) 93 = true
          · have ef : flW B E e W = closeW B E W := by unfold flW; rw [if_pos z, if_neg (by omega), if_pos ⟨by omega, cb⟩]
            obtain ⟨y3, d1, d2, d3, d4⟩ := x_close ht hE hwf z (by omega) b2 (b3.rj hj)
            rw [if_neg (by rw [cb]; decide), d1, zbv_some]
            refine go y3 ?_
            rw [ef]
            exact ⟨d2, b3.j.trans d3, d4⟩
          · rw [if_pos (by simpa using cb)]
            exact step y2 b2 b3.j (b3.rj hj) (fun w => cb w.2)
      · rw [if_pos (by
          rw [Bool.and_eq_false_iff, decide_eq_false_iff_not, decide_eq_false_iff_not]
          by_cases kz : (jP (ruW B E e (W0 B E) k)).1 = 0
          · exact Or.inr (fun w => c ⟨kz, w⟩)
          · exact Or.inl kz)]
        exact fin y1 k (by omega) a2 (i2.trans a3.j) (fun q => a3.rj (i3 q)) (by
          by_cases kz : (jP (ruW B E e (W0 B E) k)).1 = 0
          · exact Or.inr (by
              have : ¬ (jP (ruW B E e (W0 B E) k)).2.2 < E := fun w => c ⟨kz, w⟩
              omega)
          · exact Or.inl kz)
    · obtain ⟨i1, i2, i3⟩ := hI
      try dsimp only at i1 i2 i3 ⊢
      unfold F_X2_read_12
      rw [if_pos (by decide)]
      refine fin y 150 (by omega) i1 i2 i3 ?_
      by_cases kz : (jP (ruW B E e (W0 B E) 150)).1 = 0
      · refine Or.inr ?_
        have h1 := ((wf_ru he (wf_0 B E e) 150).2.2 kz).1
        have h2 := ru_c (B := B) (E := E) (e := e) 150 kz
        omega
      · exact Or.inl kz
  obtain ⟨y, m1, m2⟩ := main
  exact ⟨y, m1, m2⟩
/-! the reference's rows -/
def rho (K : Nat → Nat) (i : Nat) : Nat := cnt (fun j => decide (K j ≠ 6)) i
theorem rho_s (K : Nat → Nat) (i : Nat) : rho K (i + 1) = rho K i + if K i ≠ 6 then 1 else 0 := by
  show cnt (fun j => decide (K j ≠ 6)) (i + 1) = _
  rw [cnt_succ]
  by_cases c : K i = 6
  · rw [if_neg (by simp [c]), if_neg (by simp [c])]; rfl
  · rw [if_pos (by simp [c]), if_pos c]; rfl
theorem rho_congr {K K' : Nat → Nat} {i : Nat} (h : ∀ j, j < i → K' j = K j) : rho K' i = rho K i := cnt_congr (fun j hj => by rw [h j hj])
theorem rho_le (K : Nat → Nat) (i : Nat) : rho K i ≤ i := cnt_le _ i
theorem rho_mono {K : Nat → Nat} {i : Nat} : ∀ {j}, i ≤ j → rho K i ≤ rho K j
  | 0, h => by rw [show i = 0 by omega]; exact Nat.le_refl _
  | j + 1, h => by
    by_cases c : i = j + 1
    · rw [c]; exact Nat.le_refl _
    · have := rho_mono (K := K) (i := i) (j := j) (by omega)
      rw [rho_s]
      omega
theorem rho_lt {K : Nat → Nat} {i j : Nat} (h : i < j) (hk : K i ≠ 6) : rho K i < rho K j := by
  have := rho_mono (K := K) (i := i + 1) (j := j) h
  rw [rho_s, if_pos hk] at this
  omega
theorem rho_inj {K : Nat → Nat} {i j : Nat} (hi : K i ≠ 6) (hj : K j ≠ 6) (h : rho K i = rho K j) : i = j := by
  rcases Nat.lt_trichotomy i j with c | c | c
  · have := rho_lt c hi; omega
  · exact c
  · have := rho_lt c hj; omega
def enW (W : WS) (i : Nat) : Nat := if jk W i = 5 then rho (jk W) (jm W i) else rho (jk W) i + 1
def rw_ (K : Nat → Nat) (i : Nat) : Nat := 370 + (1 + 1 * rho K i)
def RMj (m : zMem) (W : WS) : Prop := m.1 0 25 = nI (rho (jk W) (jc W)) ∧ ∀ i, i < jc W → jk W i ≠ 6 → m.1 (rw_ (jk W) i) 0 = nI (jk W i) ∧ (jk W i ≠ 4 → m.1 (rw_ (jk W) i) 1 = nI (ja W i)) ∧ (jk W i < 2 → m.1 (rw_ (jk W) i) 2 = nI (jb W i)) ∧ (jk W i ≠ 5 ∨ jm W i ≠ 999 → m.1 (rw_ (jk W) i) 3 = nI (enW W i))
def frMj (m y : zMem) : Prop := (∀ c, c ≠ 0 → ¬ (370 < c ∧ c < 451) → y.1 c = m.1 c) ∧ (∀ j, j ≠ 4 → j ≠ 5 → j ≠ 6 → j ≠ 8 → j ≠ 25 → y.1 0 j = m.1 0 j) ∧ y.2 = m.2
theorem frMj.refl {x : zMem} : frMj x x := ⟨fun _ _ _ => rfl, fun _ _ _ _ _ _ => rfl, rfl⟩
theorem frMj.trans {x y z : zMem} (h : frMj x y) (k : frMj y z) : frMj x z := ⟨fun c h1 h2 => (k.1 c h1 h2).trans (h.1 c h1 h2), fun j h1 h2 h3 h4 h5 => (k.2.1 j h1 h2 h3 h4 h5).trans (h.2.1 j h1 h2 h3 h4 h5), k.2.2.trans h.2.2⟩
theorem frTM.j {x y : zMem} (h : frTM x y) : frMj x y := ⟨fun c h1 _ => h.1 c h1, fun j h1 h2 h3 _ _ => h.2.1 j h1 h2 h3, h.2.2⟩
theorem frMj.z {x : zMem} {c j : Nat} {v : Int32} (h1 : 370 < c) (h2 : c < 451) : frMj x (zI x c j v) := ⟨fun a _ ha => zI_n (by omega), fun j _ _ _ _ _ => by rw [zI_n (by omega)], rfl⟩
theorem frMj.z0 {x : zMem} {j : Nat} {v : Int32} (h : j = 8 ∨ j = 25) : frMj x (zI x 0 j v) := ⟨fun a h _ => zI_n h, fun i _ _ _ _ _ => zI_s (by omega), rfl⟩
theorem frTM.rmj {x y : zMem} {W : WS} (h : frTM x y) (w : RMj x W) : RMj y W := by
  refine ⟨by rw [h.2.1 25 (by omega) (by omega) (by omega)]; exact w.1, fun i h1 h2 => ?_⟩
  unfold rw_
  rw [h.1 _ (by omega)]
  exact w.2 i h1 h2
theorem RMj.z8 {x : zMem} {v : Int32} {W : WS} (w : RMj x W) : RMj (zI x 0 8 v) W := by
  refine ⟨by rw [zI_s (by omega)]; exact w.1, fun i h1 h2 => ?_⟩
  unfold rw_
  rw [zI_n (by omega)]
  exact w.2 i h1 h2
theorem frMj.p {x y : zMem} {e : PL} (h : frMj x y) (he : okPL e) (w : RMp x e) : RMp y e := by
  have hn := he.2.2.2.2.1
  exact ⟨by rw [h.1 4 (by omega) (by omega)]; exact w.1, by rw [h.1 4 (by omega) (by omega)]; exact w.2.1, by rw [h.1 4 (by omega) (by omega)]; exact w.2.2.1, fun k hk => by rw [h.1 _ (by omega) (by omega)]; exact w.2.2.2 k hk⟩
theorem m_stepHere {m : zMem} {B : Nat → Nat} {E : Nat} {P : PS} (ht : okT B E) (hP : okP B E P) (h : TM m B E P) :
    ∃ y, F_X10_stepHere m = some (if skS B E P = 6 then -1 else nI (skS B E P), y) ∧ TM y B E P ∧ frTM m y ∧ (P.1 = 0 → TMa y B E P P.2.2) := by
  unfold F_X10_stepHere
  obtain ⟨y1, a1, a2, a3, a4⟩ := m_isWord (i := 14) ht (by omega) (by omega) six_14 hP.1 h
  rw [a1, zb_some]
  dsimp only
  rw [ibI]
  by_cases c14 : isW 14 B E P = true
  · have ek : skS B E P = 0 := by unfold skS; rw [if_pos c14]
    rw [if_neg (by rw [c14]; decide), ek, if_neg (by omega)]
    exact ⟨y1, rfl, a2, a3, a4⟩
  obtain ⟨y2, b1, b2, b3, b4⟩ := m_isWord (i := 15) ht (by omega) (by omega) six_15 hP.1 a2
  have f2 := a3.trans b3
  rw [if_pos (by simpa using c14), b1, zb_some]
  dsimp only
  rw [ibI]
  by_cases c15 : isW 15 B E P = true
  · have ek : skS B E P = 1 := by unfold skS; rw [if_neg c14, if_pos c15]
    rw [if_neg (by rw [c15]; decide), ek, if_neg (by omega)]
    exact ⟨y2, rfl, b2, f2, b4⟩
  obtain ⟨y3, d1, d2, d3, d4⟩ := m_isWord (i := 16) ht (by omega) (by omega) six_16 hP.1 b2
  have f3 := f2.trans d3
  rw [if_pos (by simpa using c15), d1, zb_some]
  dsimp only
  rw [ibI]
  by_cases c16 : isW 16 B E P = true
  · have ek : skS B E P = 2 := by unfold skS; rw [if_neg c14, if_neg c15, if_pos c16]
    rw [if_neg (by rw [c16]; decide), ek, if_neg (by omega)]
    exact ⟨y3, rfl, d2, f3, d4⟩
  obtain ⟨y4, e1, e2, e3, e4⟩ := m_isWord (i := 17) ht (by omega) (by omega) six_17 hP.1 d2
  have f4 := f3.trans e3
  rw [if_pos (by simpa using c16), e1, zb_some]
  dsimp only
  rw [ibI]
  by_cases c17 : isW 17 B E P = true
  · have ek : skS B E P = 3 := by unfold skS; rw [if_neg c14, if_neg c15, if_neg c16, if_pos c17]
    rw [if_neg (by rw [c17]; decide), ek, if_neg (by omega)]
    exact ⟨y4, rfl, e2, f4, e4⟩
  obtain ⟨y5, g1, g2, g3, g4⟩ := m_isWord (i := 2) ht (by omega) (by omega) six_2 hP.1 e2
  have f5 := f4.trans g3
  rw [if_pos (by simpa using c17), g1, zb_some]
  dsimp only
  rw [ibI]
  by_cases c2 : isW 2 B E P = true
  · have ek : skS B E P = 4 := by unfold skS; rw [if_neg c14, if_neg c15, if_neg c16, if_neg c17, if_pos c2]
    rw [if_neg (by rw [c2]; decide), ek, if_neg (by omega)]
    exact ⟨y5, rfl, g2, f5, g4⟩
  obtain ⟨y6, h1, h2, h3, h4⟩ := m_isWord (i := 18) ht (by omega) (by omega) six_18 hP.1 g2
  have f6 := f5.trans h3
  rw [if_pos (by simpa using c2), h1, zb_some]
  dsimp only
  rw [ibI]
  by_cases c18 : isW 18 B E P = true
  · have ek : skS B E P = 5 := by unfold skS; rw [if_neg c14, if_neg c15, if_neg c16, if_neg c17, if_neg c2, if_pos c18]
    rw [if_neg (by rw [c18]; decide), ek, if_neg (by omega)]
    exact ⟨y6, rfl, h2, f6, h4⟩
  · have ek : skS B E P = 6 := by unfold skS; rw [if_neg c14, if_neg c15, if_neg c16, if_neg c17, if_neg c2, if_neg c18]
    rw [if_pos (by simpa using c18), ek, if_pos rfl]
    exact ⟨y6, rfl, h2, f6, h4⟩
theorem m_placeG {m : zMem} {B : Nat → Nat} {E : Nat} {e : PL} {P : PS} (ht : okT B E) (he : okPL e) (hP : okP B E P) (h : TM m B E P) (hp : RMp m e) :
    ∃ p y, F_X10_placeHere m = some (nI p, y) ∧ TM y B E (pl2 B E e P) ∧ frTM m y ∧ ((pl2 B E e P).1 = 0 → p = plV B E e P) := by
  obtain ⟨w1, w2, h1, h2, -⟩ := he
  obtain ⟨i, y1, a1, a2, a3, a4, a5⟩ := m_num (lo := 0) (hi := pW e - 1) ht hP.1 (by omega) (by omega) h
  obtain ⟨j, y2, b1, b2, b3, b4, b5⟩ := m_num (lo := 0) (hi := pH e - 1) ht (nu_ok hP).1 (by omega) (by omega) a3
  have s1 : ∀ n, 1 ≤ n → nI n - (1 : Int32) = nI (n - 1) := fun n hn => by
    rw [show n = (n - 1) + 1 by omega, lw_sub1, show n - 1 + 1 - 1 = n - 1 by omega]
  unfold F_X10_placeHere
  rw [hp.1, s1 _ w1, show F_X10_number m (0 : Int32) (nI (pW e - 1)) = _ from a1, zb_some]
  dsimp only
  rw [a4.1 4 (by omega), hp.2.1, s1 _ h1, show F_X10_number y1 (0 : Int32) (nI (pH e - 1)) = _ from b1, zb_some]
  dsimp only
  rw [show (8 : Int32) = nI 8 from rfl, pk_mul, nI_add]
  refine ⟨8 * j + i, y2, rfl, b3, a4.trans b4, fun z => ?_⟩
  have := nu_0 z
  rw [b5 z, a5 this.1]
  rfl
