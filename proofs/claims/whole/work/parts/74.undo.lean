/-! what changes the state: undo, image, restore -/
abbrev SN (S : SS) (N : IM) (I q : Nat) : SS := (sE S, sL S, sB S, N, I, sG S, sT S, sY S, sF S, q, s0 S, s1 S)
theorem okS.setN {S : SS} {N : IM} {I q : Nat} (h : okS S) (hN : okI (sE S) N) (hI : I ≤ sI S) : okS (SN S N I q) := by
  obtain ⟨o1, o2, o3, o4, o5, o6, o7, o8⟩ := h
  exact ⟨o1, o2, o3, hN, Nat.le_trans hI o5, fun i hi => o6 i (Nat.lt_of_lt_of_le hi hI), o7, o8⟩
theorem RXr.same {x y : zMem} {e : PL} {u : Nat → Nat} {t : Nat} (h1 : ∀ a, t ≤ a → a ≤ t + 4 → y.1 a = x.1 a) (h2 : y.2.1 (t + 4) = x.2.1 (t + 4)) (w : RXr x e u t) : RXr y e u t := by
  obtain ⟨w1, w2, w3, w4, w5⟩ := w
  refine ⟨fun p hp => ?_, ?_, ?_, ?_, fun k hk q hq => ?_⟩
  · rw [h1 (t + 1) (by omega) (by omega), h1 (t + 2) (by omega) (by omega), h1 (t + 3) (by omega) (by omega)]; exact w1 p hp
  · rw [h1 t (by omega) (by omega)]; exact w2
  · rw [h1 t (by omega) (by omega)]; exact w3
  · rw [h1 t (by omega) (by omega)]; exact w4
  · rw [h2]; exact w5 k hk q hq
theorem RXs.same {x y : zMem} {e : PL} {I : IM} {t : Nat} (hi : I.1 ≤ 16) (h1 : ∀ a, t ≤ a → a ≤ t + 86 → y.1 a = x.1 a) (h2 : ∀ a, t ≤ a → a ≤ t + 86 → y.2.1 a = x.2.1 a) (w : RXs x e I t) : RXs y e I t := by
  obtain ⟨w1, w2, w3⟩ := w
  refine ⟨by rw [h1 t (by omega) (by omega)]; exact w1, w2.same (fun a a1 a2 => h1 a (by omega) (by omega)) (h2 _ (by omega) (by omega)), fun k hk => (w3 k hk).same (fun a a1 a2 => h1 a (by omega) (by omega)) (h2 _ (by omega) (by omega))⟩
theorem RXw.same {x y : zMem} {e : PL} {L : LW} {pl r : Nat} (h1 : ∀ a, 174 ≤ a → a < 194 → y.1 a = x.1 a) (h2 : ∀ a, 174 ≤ a → a < 194 → y.2.1 a = x.2.1 a) (h3 : y.2.2 = x.2.2) (w : RXw x e L pl r) : RXw y e L pl r :=
  frX.w (S := fun a => ¬ (174 ≤ a ∧ a < 194)) ⟨fun a _ _ h => h1 a (by omega) (by omega), fun a h => h2 a (by omega) (by omega), h3⟩ (fun a a1 a2 h => h ⟨a1, a2⟩) w
theorem RXn.setN {x y : zMem} {S : SS} {pl r n I q : Nat} {N : IM} (h : RXn x S pl r n) (ok : okS S) (f1 : ∀ a, a ≠ 0 → ¬ (3 ≤ a ∧ a < 90) → y.1 a = x.1 a) (f2 : ∀ j, j ≠ 14 → j ≠ 15 → y.1 0 j = x.1 0 j) (f3 : ∀ a, ¬ (3 ≤ a ∧ a < 90) → y.2.1 a = x.2.1 a) (f4 : y.2.2 = x.2.2)
    (hN : RXs y (sE S) N 3) (hI : y.1 0 14 = nI I) (hI2 : I ≤ sI S) (hq : y.1 0 15 = nI q) : RXn y (SN S N I q) pl r n := by
  obtain ⟨a1, ⟨b1, b2, b3, b4, b5⟩, ⟨c1, c2, c3⟩, d1, e1, e2, g1, g2, g3, g4, g5, g6⟩ := h
  obtain ⟨o1, o2, o3, o4, o5, o6, o7, o8⟩ := ok
  refine ⟨a1.same (fun a a1 a2 => f1 a (by omega) (by omega)) (fun a a1 a2 => f3 a (by omega)) f4, ⟨?_, ?_, ?_, ?_, b5⟩, ⟨?_, fun k hk => ?_, fun p hp => ?_⟩, hN, hI, fun i hi => (e2 i (Nat.lt_of_lt_of_le hi hI2)).same (o6 i (Nat.lt_of_lt_of_le hi hI2)).1 (fun a a1 a2 => f1 a (by omega) (by omega)) (fun a a1 a2 => f3 a (by omega)), ?_, fun k hk => ?_, ?_, hq, ?_, ?_⟩
  · rw [f4]; exact b1
  · rw [f4]; exact b2
  · rw [f4]; exact b3
  · rw [f4]; exact b4
  · rw [f1 n (by omega) (by omega)]; exact c1
  · rw [f1 (n + 1) (by omega) (by omega), f1 (n + 2) (by omega) (by omega)]; exact c2 k hk
  · rw [f3 n (by omega)]; exact c3 p hp
  · rw [f1 1 (by omega) (by omega)]; exact g1
  · rw [f1 2 (by omega) (by omega)]; exact g2 k hk
  · rw [f1 1 (by omega) (by omega)]; exact g3
  · rw [f2 16 (by omega) (by omega)]; exact g5
  · rw [f2 17 (by omega) (by omega)]; exact g6
theorem RMn.setN {m y : zMem} {S : SS} {I q : Nat} {N : IM} (h : RMn m S) (ok : okS S) (f1 : ∀ a, a ≠ 0 → (a < 368 ∨ (470 ≤ a ∧ a < 474)) → y.1 a = m.1 a) (f2 : ∀ j, 0 < j → j < 34 → j ≠ 31 → j ≠ 32 → j ≠ 33 → y.1 0 j = m.1 0 j)
    (hN : RMi y N) (hI : y.1 0 33 = nI I) (hI2 : I ≤ sI S) (hq : y.1 0 32 = nI q) : RMn y (SN S N I q) := by
  obtain ⟨a1, ⟨l1, l2⟩, ⟨c1, c2⟩, d1, e1, e2, g1, g2, g3, g4, g5, g6⟩ := h
  obtain ⟨o1, o2, o3, o4, o5, o6, o7, o8⟩ := ok
  have hl := o2.1
  have hb := o3.1
  have hn := o1.2.2.2.2.1
  refine ⟨⟨?_, ?_, ?_, fun k hk => ?_⟩, ⟨?_, fun k hk => ?_⟩, ⟨?_, fun k hk => ?_⟩, hN, hI, fun i hi => ?_, ?_, fun k hk => ?_, ?_, hq, ?_, ?_⟩
  · rw [f1 4 (by omega) (by omega)]; exact a1.1
  · rw [f1 4 (by omega) (by omega)]; exact a1.2.1
  · rw [f1 4 (by omega) (by omega)]; exact a1.2.2.1
  · have hk' : k < pn (sE S) := hk
    rw [f1 (17 + (1 + 1 * k)) (by omega) (by omega)]; exact a1.2.2.2 k hk
  · rw [f2 16 (by omega) (by omega) (by omega) (by omega) (by omega)]; exact l1
  · have hk' : k < lk (sL S) := hk
    rw [f1 (28 + (1 + 1 * k)) (by omega) (by omega)]; exact l2 k hk
  · rw [f2 30 (by omega) (by omega) (by omega) (by omega) (by omega)]; exact c1
  · have hk' : k < bn (sB S) := hk
    rw [f1 (350 + (1 + 1 * k)) (by omega) (by omega)]; exact c2 k hk
  · have hi3 : i < sI S := Nat.lt_of_lt_of_le hi hI2
    obtain ⟨q1, q2, q3⟩ := e2 i hi3
    refine ⟨?_, fun j hj => ?_, fun k hk j hj => ?_⟩
    · rw [f1 (470 + (1 + 1 * i)) (by omega) (by omega)]; exact q1
    · rw [f1 (470 + (1 + 1 * i)) (by omega) (by omega)]; exact q2 j hj
    · rw [f1 (470 + (1 + 1 * i)) (by omega) (by omega)]; exact q3 k hk j hj
  · rw [f2 1 (by omega) (by omega) (by omega) (by omega) (by omega)]; exact g1
  · rw [f1 1 (by omega) (by omega)]; exact g2 k hk
  · rw [f2 3 (by omega) (by omega) (by omega) (by omega) (by omega)]; exact g3
  · rw [f1 2 (by omega) (by omega)]; exact g5
  · rw [f1 2 (by omega) (by omega)]; exact g6
/-- a copy, and nothing else -/
theorem x_copyAll {M : zMem} {t s : Nat} (hd : t + 4 < s ∨ s + 4 < t) : ∃ M', F_X4_copyFrom M t s = some M' ∧ (∀ a, ¬ ST t a → M'.1 a = M.1 a ∧ M'.2.1 a = M.2.1 a) ∧ M'.2.2 = M.2.2 ∧ ∀ e u, okPL e → RXr M e u s → RXr M' e u t := by
  obtain ⟨M1, c1, c2, c3⟩ := x_copyFrom (M := M) (r := 0) hd
  refine ⟨M1, c1, fun a ha => ?_, c2.2.2, c3⟩
  obtain ⟨M2, d1, d2, _⟩ := x_copyFrom (M := M) (r := a) hd
  rw [c1] at d1
  cases d1
  exact ⟨d2.1 a (by omega) (by omega) ha, d2.2.1 a ha⟩
theorem q_undo {x m : zMem} {S : SS} (hX : RXo x S) (hM : RMn m S) (ok : okS S) : same0 (F_X9_undo x) (F_X10_undo m) := by
  obtain ⟨pl, r, n, h⟩ := hX
  have hM1 := hM.t ok
  have he := ok.1
  have hN := ok.2.2.2.1
  have hk := hN.1
  obtain ⟨xs1, xs2, xs3⟩ := h.2.2.2.1
  obtain ⟨ms1, ms2, ms3⟩ := hM1.2.2.2.1
  unfold F_X9_undo F_X7_takeBack F_X7_takeBack_30 F_X10_undo
  rw [zl_eq, ms1, xs1, ie0 (by omega)]
  by_cases z : (sN S).1 = 0
  · rw [if_pos z, if_pos (by rw [ya_0, nI_leI (by omega) (by omega)]; omega), zb_some]
    exact ⟨_, _, _, S, rfl, rfl, ⟨pl, r, n, h⟩, hM1, ok⟩
  · obtain ⟨k, hk1⟩ : ∃ k, (sN S).1 = k + 1 := ⟨(sN S).1 - 1, by omega⟩
    rw [if_neg z, if_neg (by rw [ya_0, nI_leI (by omega) (by omega)]; omega), hk1, show (16 : Int32) = nI 16 from rfl, ilt (by omega) (by omega), if_neg (by omega), show nI (k + 1) - (1 : Int32) = nI k from by rw [show (1 : Int32) = nI 1 from rfl, pk_sub (by omega), Nat.add_sub_cancel], gin_ok (by omega) (by decide), nI_clamp (by omega), zl_eq]
    obtain ⟨x1, c1, c2, c3, c4⟩ := x_copyAll (M := x) (t := 3 + 1) (s := (3 + 6) + (1 + 5 * k)) (Or.inl (by omega))
    have d0 : (zI (zI m 0 0 0) 0 31 (nI k)).1 0 31 = nI k := by rw [zI_1, upd_s]
    rw [c1, zbv_some, zl_eq, zb_some, show x1.1 3 1 = nI (k + 1) from by rw [(c2 3 (by unfold ST; omega)).1, xs1, hk1], show nI (k + 1) - (1 : Int32) = nI k from by rw [show (1 : Int32) = nI 1 from rfl, pk_sub (by omega), Nat.add_sub_cancel], d0, gin_ok (by omega) (by decide), nI_clamp (by omega)]
    dsimp only
    rw [if_neg (by decide), zl_eq]
    obtain ⟨m1, e1, e2, e3⟩ := m_copies (M := zI (zI m 0 0 0) 0 31 (nI k)) (a := 453 + (1 + 1 * k)) (b := 451) (by omega)
    rw [e1, zbv_some, zl_eq]
    have m31 : m1.1 0 31 = nI k := by rw [e2.1 0 (by omega) (by omega) (by omega)]; exact d0
    have hX' : RXn (zI (zI x1 3 1 (nI k)) 0 15 0) (SN S (k, (sN S).2.2 k, (sN S).2.2) (sI S) 0) pl r n := by
      refine h.setN ok (fun a h1 h2 => ?_) (fun j h1 h2 => ?_) (fun a h2 => ?_) ?_ ⟨?_, ?_, fun j hj => ?_⟩ ?_ (Nat.le_refl _) ?_
      · rw [zI_n h1, zI_n (by omega)]; exact (c2 a (by unfold ST; omega)).1
      · rw [zI_s h2, zI_n (by omega), (c2 0 (by unfold ST; omega)).1]
      · exact (c2 a (by unfold ST; omega)).2
      · exact c3
      · rw [zI_n (by omega), zI_1, upd_s]
      · have := c4 _ _ he (xs3 k (by omega))
        exact this.same (fun a h1 h2 => by rw [zI_n (by omega), zI_n (by omega)]) rfl
      · dsimp only at hj
        exact (xs3 j (by omega)).same (fun a h1 h2 => by rw [zI_n (by omega), zI_n (by omega)]; exact (c2 a (by unfold ST; omega)).1) (c2 _ (by unfold ST; omega)).2
      · rw [zI_s (by omega), zI_n (by omega), (c2 0 (by unfold ST; omega)).1]; exact h.2.2.2.2.1
      · rw [zI_1, upd_s]; rfl
    have hM' : RMn (zI m1 0 32 0) (SN S (k, (sN S).2.2 k, (sN S).2.2) (sI S) 0) := by
      refine hM1.setN ok (fun a h1 h2 => ?_) (fun j h1 h2 h3 h4 h5 => ?_) ⟨?_, fun i hi => ?_, fun j hj i hi => ?_⟩ ?_ (Nat.le_refl _) ?_
      · rw [zI_n h1, e2.1 a (by omega) (by omega) (by omega), zI_n h1]
      · rw [zI_s h4, e2.1 0 (by omega) (by omega) (by omega), zI_s h3]
      · rw [zI_s (by omega)]; exact m31
      · rw [zI_n (by omega), e3 i hi, zI_n (by omega)]; exact ms3 k (by omega) i hi
      · dsimp only at hj
        rw [zI_n (by omega), e2.1 _ (by omega) (by omega) (by omega), zI_n (by omega)]; exact ms3 j (by omega) i hi
      · rw [zI_s (by omega), e2.1 0 (by omega) (by omega) (by omega), zI_s (by omega)]; exact hM1.2.2.2.2.1
      · rw [zI_1, upd_s]; rfl
    refine ⟨nI k, _, _, _, ?_, ?_, ⟨pl, r, n, hX'⟩, hM', ok.setN ⟨?_, hN.2.2 k (by omega), fun j hj => hN.2.2 j (by dsimp only at hj; omega)⟩ (Nat.le_refl _)⟩
    · rw [show (zI (zI x1 3 1 (nI k)) 0 15 0).1 3 1 = nI k from by rw [zI_n (by omega), zI_1, upd_s]]
    · rw [show (zI m1 0 32 0).1 0 31 = nI k from by rw [zI_s (by omega)]; exact m31]
    · dsimp only; omega
