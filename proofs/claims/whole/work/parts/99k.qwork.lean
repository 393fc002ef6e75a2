/-! work, the call -/
theorem RXn.zn {x y : zMem} {S : SS} {pl r n q : Nat} {F : Int32} {N : IM} (h : RXn x S pl r n) (ok : okS S) (c1 : ∀ c, c ≠ 0 → c ≠ 1 → ¬ (3 ≤ c ∧ c < 90) → ¬ spare pl r n c → y.1 c = x.1 c) (c0 : ∀ j, j ≠ 15 → y.1 0 j = x.1 0 j)
    (c2 : ∀ c, ¬ (3 ≤ c ∧ c < 90) → ¬ spare pl r n c → y.2.1 c = x.2.1 c) (c3 : y.2.2 = x.2.2) (hT : y.1 1 1 = 0) (hF : y.1 1 3 = F) (hN : RXs y (sE S) N 3) (hq : y.1 0 15 = nI q) : RXn y (SN (SZ S F) N (sI S) q) pl r n := by
  obtain ⟨z, hz⟩ : ∃ z : zMem, z = (fun a => if (3 ≤ a ∧ a < 90) ∨ a = 0 then x.1 a else y.1 a, fun a => if 3 ≤ a ∧ a < 90 then x.2.1 a else y.2.1 a, x.2.2) := ⟨_, rfl⟩
  have z1 : ∀ a, (3 ≤ a ∧ a < 90) ∨ a = 0 → z.1 a = x.1 a := fun a ha => by rw [hz]; exact if_pos ha
  have z2 : ∀ a, ¬ ((3 ≤ a ∧ a < 90) ∨ a = 0) → z.1 a = y.1 a := fun a ha => by rw [hz]; exact if_neg ha
  have z3 : ∀ a, 3 ≤ a ∧ a < 90 → z.2.1 a = x.2.1 a := fun a ha => by rw [hz]; exact if_pos ha
  have z4 : ∀ a, ¬ (3 ≤ a ∧ a < 90) → z.2.1 a = y.2.1 a := fun a ha => by rw [hz]; exact if_neg ha
  have z5 : z.2.2 = x.2.2 := by rw [hz]
  have hsz : RXn z (SZ S F) pl r n := by
    refine h.setZ ok ⟨fun c k1 k2 => ?_, fun c k2 => ?_, z5⟩ ?_ ?_
    · by_cases k : (3 ≤ c ∧ c < 90) ∨ c = 0
      · exact z1 c k
      · rw [z2 c k]; exact c1 c (by omega) k1 (by omega) k2
    · by_cases k : 3 ≤ c ∧ c < 90
      · exact z3 c k
      · rw [z4 c k]; exact c2 c k k2
    · rw [z2 1 (by omega)]; exact hT
    · rw [z2 1 (by omega)]; exact hF
  refine hsz.setN ok.setZ (fun a h1 h2 => (z2 a (by omega)).symm) (fun j h1 h2 => by rw [z1 0 (Or.inr rfl)]; exact c0 j h2) (fun a h2 => (z4 a h2).symm) (by rw [z5]; exact c3) hN ?_ (Nat.le_refl _) hq
  rw [c0 14 (by omega)]; exact h.2.2.2.2.1
theorem x_keep {x : zMem} {e : PL} {I : IM} (he : okPL e) (h : RXs x e I 3) (hk : I.1 < 16) :
    ∃ y, F_X7_keep x 3 = some y ∧ RXs y e (I.1 + 1, I.2.1, fun j => if j = I.1 then I.2.1 else I.2.2 j) 3 ∧ (∀ c, ¬ (3 ≤ c ∧ c < 90) → y.1 c = x.1 c ∧ y.2.1 c = x.2.1 c) ∧ y.2.2 = x.2.2 := by
  obtain ⟨h1, h2, h3⟩ := h
  unfold F_X7_keep
  rw [h1, if_neg (by rw [ya_0, nI_ltI (by omega) (by omega)]; omega), show (16 : Int32) = nI 16 from rfl, ile (by omega) (by omega), if_neg (by omega), gin_ok hk (by decide), nI_clamp (by omega)]
  obtain ⟨y, c1, c2, c3, c4⟩ := x_copyAll (M := x) (t := (3 + 6) + (1 + 5 * I.1)) (s := 3 + 1) (Or.inr (by omega))
  rw [c1, zbv_some, zl_eq, (c2 3 (by unfold ST; omega)).1, h1, nI_1]
  refine ⟨_, rfl, ⟨by rw [zI_1, upd_s], ?_, fun k hk2 => ?_⟩, fun c hc => ⟨by rw [zI_n (by omega)]; exact (c2 c (by unfold ST; omega)).1, (c2 c (by unfold ST; omega)).2⟩, c3⟩
  · exact h2.same (fun a a1 a2 => by rw [zI_n (by omega)]; exact (c2 a (by unfold ST; omega)).1) (c2 _ (by unfold ST; omega)).2
  · have hk3 : k < I.1 + 1 := hk2
    by_cases c : k = I.1
    · have e1 : (I.1 + 1, I.2.1, fun j => if j = I.1 then I.2.1 else I.2.2 j).2.2 k = I.2.1 := if_pos c
      rw [e1, c]
      exact RXr.same (x := y) (fun a a1 a2 => by rw [zI_n (by omega)]) rfl (c4 e _ he h2)
    · have e1 : (I.1 + 1, I.2.1, fun j => if j = I.1 then I.2.1 else I.2.2 j).2.2 k = I.2.2 k := if_neg c
      rw [e1]
      exact (h3 k (by omega)).same (fun a a1 a2 => by rw [zI_n (by omega)]; exact (c2 a (by unfold ST; omega)).1) (c2 _ (by unfold ST; omega)).2
theorem q_work {x m : zMem} {S : SS} (a : Int32) (hX : RXo x S) (hM : RMn m S) (ok : okS S) : same T1 (F_X9_work x a) (F_X10_work m a) := by
  obtain ⟨pl, r, n, h⟩ := hX
  have hM1 := hM.t ok
  have x11 := h.2.2.2.2.2.2.1
  have x2 := h.2.2.2.2.2.2.2.1
  have m01 := hM1.2.2.2.2.2.2.1
  have m1 := hM1.2.2.2.2.2.2.2.1
  have hT := ok.2.2.2.2.2.2.1
  have hpl := h.1.2.2.2.2.1
  have hr := h.1.2.2.2.2.2
  have h8 := h.1.2.2.1
  have hn := h.2.1.2.2.2.2
  have he := ok.1
  have hN := ok.2.2.2.1
  obtain ⟨xs1, xs2, xs3⟩ := h.2.2.2.1
  obtain ⟨ms1, ms2, ms3⟩ := hM1.2.2.2.1
  unfold F_X9_work F_X10_work
  rw [zl_eq, m01, show (150 : Int32) = nI 150 from rfl]
  rcases txt_rng a (M := 150) (T := sT S) (by omega) (by omega) with ⟨E, h1, h2, rfl⟩ | ⟨hne, hb⟩
  · have ht := ok.txt h2
    have em : (zb (F_X10_in (zI m 0 0 0) (nI E) 0 (nI (sT S))) fun v21 M20 => if v21 = 0 then F_X10_work_30 (nI E) (nI E) 1 M20 else if nI E ≤ nI 150 then F_X10_work_30 (nI E) (nI E) 0 M20 else F_X10_work_30 (nI E) (nI E) 1 M20) = (if (sN S).1 = 16 then some (-20, zI (zI (zI m 0 0 0) 0 1 0) 0 3 (-1)) else zbv (F_X10_starts (zI m 0 0 0) (nI E)) fun M15 => itF (fun _ => none) (F_X10_work_72 (nI E)) zFuel (zI M15 0 25 0)) := by
      rw [show F_X10_in (zI m 0 0 0) (nI E) (0 : Int32) (nI (sT S)) = _ from m_inY _ (Nat.zero_le _) h2 (by omega), zb_some]
      dsimp only
      rw [if_neg (by decide), ile (by omega) (by omega), if_pos h1]
      unfold F_X10_work_30
      rw [m_bad0 t0_0, zb_some]
      dsimp only
      have := hN.1
      rw [if_pos rfl, ms1, show (16 : Int32) = nI 16 from rfl, ieq (by omega) (by omega)]
      rfl
    have hk16 := hN.1
    rw [x_ntY h1 h2 (by omega) (by omega) x11, zbx_0, em, xs1, show (16 : Int32) = nI 16 from rfl, ilt (by omega) (by omega)]
    by_cases c16 : (sN S).1 = 16
    · obtain ⟨x1, a1, a2, a3, a4, a5⟩ := x_open (x := x) (B := sY S) (E := 0) (by omega) (fun k hk => absurd hk (Nat.not_lt_zero _))
      rw [if_neg (by omega), if_pos c16, show (0 : Int32) = nI 0 from rfl, a1, zbv_some]
      have fz : frZ pl r n x x1 := ⟨fun c k1 _ => a4 c k1, fun c _ => by rw [a5], by rw [a5]⟩
      refine ⟨0, _, _, _, _, 0, SZ S (-1), rfl, rfl, ?_, Or.inl ⟨rfl, rfl⟩, fun _ => rfl, ⟨pl, r, n, h.setZ ok fz a3 a2.2.1⟩, ?_, ok.setZ⟩
      · rw [zI_s (by omega), zI_s (by omega)]; exact t0_0
      · refine hM1.setZ ok (fun c k1 k2 => by rw [zI_n k1, zI_n k1]; rfl) (fun j k1 => by rw [zI_s (by omega), zI_s (by omega)]; rfl) ?_ ?_
        · rw [zI_s (by omega), zI_1, upd_s]; rfl
        · rw [zI_1, upd_s]
    · have hkl : (sN S).1 < 16 := by omega
      rw [if_pos hkl, if_neg c16]
      obtain ⟨x1, a1, a2, a3, a4, a5⟩ := x_open (x := x) (B := sY S) (E := E) ht.1 (fun k hk => x2 k (by omega))
      have kp : RXp x1 (sE S) pl := by
        obtain ⟨b1, b2, b3, b4, b5⟩ := h.1.1
        exact ⟨by rw [a4 pl (by omega)]; exact b1, by rw [a4 pl (by omega)]; exact b2, by rw [a4 pl (by omega)]; exact b3, fun q hq => by rw [a4 (pl + 1) (by omega), a4 (pl + 2) (by omega)]; exact b4 q hq, fun p hp => by rw [a5]; exact b5 p hp⟩
      obtain ⟨x2', b1, b2, b3, bst, b4⟩ := x_jbRead ht h1 he hpl kp a2
      obtain ⟨y1, d1, d2, d3, d4, d5, d6, d7⟩ := m_starts (x := zI m 0 0 0) ht (fun k hk => m1 k (by omega))
      have hwf := wf_ru (B := sY S) (E := E) he (wf_0 (sY S) E (sE S)) 151
      have mp : RMp (zI y1 0 25 0) (sE S) := by
        obtain ⟨e1, e2, e3, e4⟩ := hM1.1
        exact ⟨by rw [zI_n (by omega), d6 4 (by omega)]; exact e1, by rw [zI_n (by omega), d6 4 (by omega)]; exact e2, by rw [zI_n (by omega), d6 4 (by omega)]; exact e3, fun q hq => by rw [zI_n (by omega), d6 _ (by omega)]; exact e4 q hq⟩
      have ta : TMa (zI y1 0 25 0) (sY S) E (PS0 (sY S) E) (PS0 (sY S) E).2.2 := by
        obtain ⟨q1, q2, q3, q4, q5, q6, q7⟩ := d2
        exact ⟨by rw [zI_s (by omega)]; exact q1, by rw [zI_s (by omega)]; exact q2, by rw [zI_s (by omega)]; exact q3, fun j hj => by rw [zI_n (by omega)]; exact q4 j hj, q5, by rw [zI_s (by omega)]; exact q6, q7⟩
      have jr := fun Q => m_jbRead (m := zI y1 0 25 0) (a := nI E) (Q := Q) ht h1 he mp ta (by rw [zI_s (by omega)]; exact d5) (by rw [zI_1, upd_s]) bst
      generalize ruW (sY S) E (sE S) (W0 (sY S) E) 151 = W at *
      have xT : x2'.1 1 1 = 0 := by rw [b3.2.1 1 (by omega) (by omega) (by omega) (by omega) (by omega)]; exact a3
      have fz : frZ pl r n x x2' := by
        refine ⟨fun c k1 k2 => ?_, fun c k2 => ?_, ?_⟩
        · unfold spare at k2
          rw [b3.1 c k1 (by omega), a4 c k1]
        · rw [b3.2.2, a5]
        · rw [b3.2.2, a5]
      have xz : RXn x2' (SZ S (jP W).2.1) pl r n := h.setZ ok fz xT b2.2.1
      have r8 : x1.2.2 0 8 = pl := by rw [a5]; exact h8
      have hP3 := hwf.1.1
      rw [a1, zbv_some, r8, gd_ok (by rcases hpl with rfl | rfl <;> rfl), b1, zbv_some, b2.1, ie0 (by omega), d1, zbv_some]
      -- the reference before its doing
      have yf : ∀ y, frMj (zI y1 0 25 0) y → ∀ c, c ≠ 0 → ¬ (370 < c ∧ c < 451) → y.1 c = m.1 c := fun y f c k1 k2 => by rw [f.1 c k1 k2, zI_n k1, d6 c k1, zI_n k1]
      have y0 : ∀ y, frMj (zI y1 0 25 0) y → ∀ j, j = 0 ∨ j = 3 ∨ (8 < j ∧ j ≠ 25) → y.1 0 j = (zI m 0 0 0).1 0 j := fun y f j hj => by rw [f.2.1 j (by omega) (by omega) (by omega) (by omega) (by omega), zI_s (by omega), d7 j (by omega)]
      have mz : ∀ y, frMj (zI y1 0 25 0) y → ∀ F, RMn (zI y 0 3 F) (SZ S F) := fun y f F => by
        refine hM1.setZ ok (fun c k1 k2 => ?_) (fun j k1 => ?_) ?_ ?_
        · rw [zI_n k1, yf y f c k1 (by omega), zI_n k1]
        · rw [zI_s (by omega), y0 y f j (by omega)]
        · rw [zI_s (by omega), f.2.1 1 (by omega) (by omega) (by omega) (by omega) (by omega), zI_s (by omega)]; exact d3
        · rw [zI_1, upd_s]
      by_cases z : (jP W).1 = 0
      · -- the class to its doing
        obtain ⟨g1, g2, g3, g4, g5⟩ := hwf.2.2 z
        have gp := (hwf.1.2 z).1
        have hF := hwf.2.1 z
        have hc75 : jc W ≤ 75 := by omega
        have hj := b4 z
        obtain ⟨x3, k1, k2, k3, k4⟩ := x_keep he xz.2.2.2.1 hkl
        rw [if_pos z, k1, zbv_some]
        unfold F_X9_doJob
        rw [zl_eq]
        obtain ⟨x4, hx4⟩ : ∃ x4, x4 = zI x3 0 15 0 := ⟨_, rfl⟩
        rw [← hx4]
        have f4 : ∀ c, c ≠ 0 → ¬ (3 ≤ c ∧ c < 90) → x4.1 c = x2'.1 c := fun c c1 c2 => by rw [hx4, zI_n c1]; exact (k3 c c2).1
        have f42 : ∀ c, ¬ (3 ≤ c ∧ c < 90) → x4.2.1 c = x2'.2.1 c := fun c c2 => by rw [hx4]; exact (k3 c c2).2
        have f43 : x4.2.2 = x2'.2.2 := by rw [hx4]; exact k4
        have x415 : x4.1 0 15 = 0 := by rw [hx4, zI_1, upd_s]
        have w4 : RXw x4 (sE S) (sL S) pl r := xz.1.same (fun c c1 c2 => f4 c (by omega) (by omega)) (fun c c1 c2 => f42 c (by omega)) f43
        have s4 : RXs x4 (sE S) ((sN S).1 + 1, (sN S).2.1, fun j => if j = (sN S).1 then (sN S).2.1 else (sN S).2.2 j) 3 := by
          rw [hx4]; exact k2.i0 (by omega)
        have j4 : RXj x4 W := by
          unfold RXj
          rw [f4 91 (by omega) (by omega), f4 92 (by omega) (by omega), f4 93 (by omega) (by omega), f4 94 (by omega) (by omega), f4 95 (by omega) (by omega), f4 96 (by omega) (by omega), f4 98 (by omega) (by omega)]
          exact hj
        have o0 : jo W = 0 := bst.elim (fun w => absurd z w) (fun w => w.2)
        have hseg : SegI (itD (jk W) (jm W) 6) 0 (jc W) := by
          have := g4 0 (Nat.zero_le _)
          unfold loS hiS at this
          rw [if_pos rfl, if_pos o0.symm] at this
          exact this
        have hu := hN.2.1
        have main := jr (fun q => ∃ x' U', itF (fun _ _ _ _ _ => none) (F_X9_doJob_14) zFuel 0 0 0 0 x4 = some (nI (ud U'), x') ∧ XS x4 r (sE S) x' U' ∧ okU (sE S) U' ∧ q.1 = nI (ud U') ∧ q.2.1 0 0 = 0 ∧ RMn q.2 (SN (SZ S (-1)) ((sN S).1 + 1, uu U', fun j => if j = (sN S).1 then (sN S).2.1 else (sN S).2.2 j) (sI S) (uq U'))) (fun y t1 t2 t3 => by
          have rj := t3 z
          have mzz := mz y t2 (-1)
          have okz : okS (SZ S (-1)) := ok.setZ
          unfold F_X10_work_101
          have q31 : (zI y 0 3 (-1)).1 0 31 = nI (sN S).1 := mzz.2.2.2.1.1
          rw [t1.1, ie0 (by omega), if_pos z, zl_eq, q31, gin_ok hkl (by decide), nI_clamp (by omega)]
          obtain ⟨M3, e1, e2, e3⟩ := m_copies (M := zI y 0 3 (-1)) (a := 451) (b := 453 + (1 + 1 * (sN S).1)) (by omega)
          rw [e1, zbv_some, zl_eq, zl_eq, zl_eq, zl_eq, show M3.1 0 31 = nI (sN S).1 by rw [e2.1 0 (by omega) (by omega) (by omega)]; exact q31, nI_1]
          obtain ⟨m4, hm4⟩ : ∃ m4, m4 = zI (zI (zI (zI M3 0 31 (nI ((sN S).1 + 1))) 0 35 0) 0 36 0) 0 32 0 := ⟨_, rfl⟩
          rw [← hm4]
          have fc : ∀ c, c ≠ 0 → c ≠ 368 → c ≠ 369 → c ≠ 453 + (1 + 1 * (sN S).1) → m4.1 c = y.1 c := fun c c1 c2 c3 c4 => by rw [hm4, zI_n c1, zI_n c1, zI_n c1, zI_n c1, e2.1 c c2 c3 c4, zI_n c1]
          have f0 : ∀ j, j ≠ 31 → j ≠ 32 → j ≠ 35 → j ≠ 36 → m4.1 0 j = (zI y 0 3 (-1)).1 0 j := fun j c1 c2 c3 c4 => by rw [hm4, zI_s c2, zI_s c4, zI_s c3, zI_s c1, e2.1 0 (by omega) (by omega) (by omega)]
          have hmp := mzz.1
          have hml := mzz.2.1
          have hpn := he.2.2.2.2.1
          have hll := ok.2.1.1
          have cx : CX x4 m4 (sE S) (sL S) pl r W := by
            refine ⟨w4, j4, ⟨?_, ?_, ?_, fun k hk => ?_⟩, ⟨?_, fun k hk => ?_⟩, ⟨?_, fun i hi hk => ?_⟩, he, ok.2.1, hc75, g5⟩
            · rw [fc 4 (by omega) (by omega) (by omega) (by omega), ← zI_n (M := y) (k := 0) (j := 3) (v := -1) (by omega)]; exact hmp.1
            · rw [fc 4 (by omega) (by omega) (by omega) (by omega), ← zI_n (M := y) (k := 0) (j := 3) (v := -1) (by omega)]; exact hmp.2.1
            · rw [fc 4 (by omega) (by omega) (by omega) (by omega), ← zI_n (M := y) (k := 0) (j := 3) (v := -1) (by omega)]; exact hmp.2.2.1
            · rw [fc (17 + (1 + 1 * k)) (by omega) (by omega) (by omega) (by omega), ← zI_n (M := y) (k := 0) (j := 3) (v := -1) (by omega)]; exact hmp.2.2.2 k hk
            · rw [f0 16 (by omega) (by omega) (by omega) (by omega)]; exact hml.1
            · rw [fc (28 + (1 + 1 * k)) (by omega) (by omega) (by omega) (by omega), ← zI_n (M := y) (k := 0) (j := 3) (v := -1) (by omega)]; exact hml.2 k hk
            · rw [f0 25 (by omega) (by omega) (by omega) (by omega), zI_s (by omega)]; exact rj.1
            · have hb := rw_b (W := W) (i := i) hc75 (by omega)
              rw [fc _ (by omega) (by omega) (by omega) (by omega)]; exact rj.2 i hi hk
          have r451 : RMr m4 (sN S).2.1 451 := fun i hi => by
            rw [fc 451 (by omega) (by omega) (by omega) (by omega), ← zI_n (M := y) (k := 0) (j := 3) (v := -1) (by omega)]; exact mzz.2.2.2.1.2.1 i hi
          obtain ⟨x', m', U', l1, l2, l3, l4, l5⟩ := job_done cx hseg s4.2.1 x415 r451 (by rw [hm4, zI_s (by omega), zI_s (by omega), zI_1, upd_s]) (by rw [hm4, zI_s (by omega), zI_1, upd_s]) (by rw [hm4, zI_1, upd_s]) hu
          rw [(l4.w cx).2.1.symm.trans (l4.1.2.1 25 (by omega) (by omega) (by omega)) |> fun w => w.symm, l2, zbv_some, wp_some]
          refine ⟨x', U', l1, l3, l5, l4.2.2.2.1, ?_, ?_⟩
          · rw [l4.1.2.1 0 (by omega) (by omega) (by omega), f0 0 (by omega) (by omega) (by omega) (by omega), zI_s (by omega), y0 y t2 0 (by omega)]; exact t0_0
          · refine mzz.setN okz (fun c c1 c2 => ?_) (fun j j1 j2 j3 j4 j5 => ?_) ⟨?_, l4.2.1, fun k hk i hi => ?_⟩ ?_ (Nat.le_refl _) l4.2.2.2.2
            · rw [l4.1.1 c c1 (by omega) (by omega) (by omega), fc c c1 (by omega) (by omega) (by omega), zI_n c1]
            · rw [l4.1.2.1 j j4 (by omega) (by omega), f0 j j3 j4 (by omega) (by omega)]
            · rw [l4.1.2.1 31 (by omega) (by omega) (by omega), hm4, zI_s (by omega), zI_s (by omega), zI_s (by omega), zI_1, upd_s]
            · have hk' : k < (sN S).1 + 1 := hk
              rw [l4.1.1 _ (by omega) (by omega) (by omega) (by omega)]
              show m4.1 (453 + (1 + 1 * k)) i = nI ((if k = (sN S).1 then (sN S).2.1 else (sN S).2.2 k) i)
              by_cases ck : k = (sN S).1
              · rw [if_pos ck, ck, hm4, zI_n (by omega), zI_n (by omega), zI_n (by omega), zI_n (by omega), e3 i hi]
                exact mzz.2.2.2.1.2.1 i hi
              · rw [if_neg ck, fc _ (by omega) (by omega) (by omega) (by omega), ← zI_n (M := y) (k := 0) (j := 3) (v := -1) (by omega)]
                exact mzz.2.2.2.1.2.2 k (show k < (sN S).1 by omega) i hi
            · rw [l4.1.2.1 33 (by omega) (by omega) (by omega), f0 33 (by omega) (by omega) (by omega) (by omega)]; exact mzz.2.2.2.2.1)
        obtain ⟨⟨v, y⟩, j1, x', U', p1, p2, p3, p4, p5, p6⟩ := main
        dsimp only at p4 p5 p6
        rw [j1, p1, zb_some]
        have xq := fun c (c1 : c ≠ 0) (c2 : ¬ (3 ≤ c ∧ c < 90)) (c3 : ¬ spare pl r n c) => show x'.1 c = x2'.1 c by
          unfold spare at c3
          rw [p2.1.1 c c1 (by omega) (by omega) (by omega) (by omega), f4 c c1 c2]
        refine ⟨0, _, _, _, _, 0, SN (SZ S (-1)) ((sN S).1 + 1, uu U', fun j => if j = (sN S).1 then (sN S).2.1 else (sN S).2.2 j) (sI S) (uq U'), rfl, rfl, p5, Or.inl ⟨rfl, rfl⟩, fun _ => p4.symm, ⟨pl, r, n, ?_⟩, p6, ok.setZ.setN ⟨?_, p3.2.2, fun k hk => ?_⟩ (Nat.le_refl _)⟩
        · refine h.zn ok (fun c c1 c2 c3 c4 => ?_) (fun j hj => ?_) (fun c c3 c4 => ?_) ?_ ?_ ?_ ⟨?_, p2.2.1, fun k hk => ?_⟩ p2.2.2
          · rw [xq c c1 c3 c4]; exact fz.1 c c2 c4
          · rw [p2.1.2.1 j hj, hx4, zI_s hj, (k3 0 (by omega)).1]
            rw [b3.1 0 (by omega) (by omega), a4 0 (by omega)]
          · rw [p2.1.2.2.1 c (by omega), f42 c c3]; exact fz.2.1 c c4
          · rw [p2.1.2.2.2, f43]; exact fz.2.2
          · rw [xq 1 (by omega) (by omega) (by unfold spare; omega)]; exact xT
          · rw [xq 1 (by omega) (by omega) (by unfold spare; omega), b2.2.1]; exact hF
          · rw [p2.1.1 3 (by omega) (by omega) (by omega) (by omega) (by omega)]; exact s4.1
          · exact (s4.2.2 k hk).same (fun c c1 c2 => by
              have hk' : k < (sN S).1 + 1 := hk
              exact p2.1.1 c (by omega) (by omega) (by omega) (by omega) (by omega)) (p2.1.2.2.1 _ (by omega))
        · show (sN S).1 + 1 ≤ 16
          omega
        · have hk' : k < (sN S).1 + 1 := hk
          show okD (sE S) (if k = (sN S).1 then (sN S).2.1 else (sN S).2.2 k)
          by_cases ck : k = (sN S).1
          · rw [if_pos ck]; exact hu
          · rw [if_neg ck]; exact hN.2.2 k (by omega)
      · have main := jr (fun q => q.1 = nI (jP W).1 - 10 ∧ q.2.1 0 0 = 0 ∧ RMn q.2 (SZ S (jP W).2.1)) (fun y t1 t2 t3 => by
          unfold F_X10_work_101 F_X10_ends
          rw [t1.1, ie0 (by omega), if_neg z, zl_eq, zb_some, wp_some]
          dsimp only
          refine ⟨by rw [zI_s (by omega), t1.1], ?_, by rw [t1.2.1]; exact mz y t2 _⟩
          rw [zI_s (by omega), y0 y t2 0 (by omega)]; exact t0_0)
        obtain ⟨⟨v, y⟩, j1, p1, p2, p3⟩ := main
        dsimp only at p1 p2 p3
        rw [if_neg z, j1]
        exact ⟨0, _, _, _, _, 0, _, rfl, rfl, p2, Or.inl ⟨rfl, rfl⟩, fun _ => p1.symm, ⟨pl, r, n, xz⟩, p3, ok.setZ⟩
  · have bad : F_X10_work_30 a a 1 (zI m 0 0 0) = some (0, zI (zI (zI m 0 0 0) 0 0 (nI 1)) 2 1 ((zI m 0 0 0).1 2 1 + 1)) := by
      unfold F_X10_work_30
      rw [m_bad11 t0_0, zb_some]
      rfl
    have em : (zb (F_X10_in (zI m 0 0 0) a 0 (nI (sT S))) fun v21 M20 => if v21 = 0 then F_X10_work_30 a a 1 M20 else if a ≤ nI 150 then F_X10_work_30 a a 0 M20 else F_X10_work_30 a a 1 M20) = some (0, zI (zI (zI m 0 0 0) 0 0 (nI 1)) 2 1 ((zI m 0 0 0).1 2 1 + 1)) := by
      rcases hb with hb | ⟨k, k1, k2, rfl⟩
      · rw [m_inN _ hb, zb_some]
        dsimp only
        rw [if_pos rfl, bad]
      · rw [show F_X10_in (zI m 0 0 0) (nI k) (0 : Int32) (nI (sT S)) = _ from m_inY _ (Nat.zero_le _) k1 (by omega), zb_some]
        dsimp only
        rw [if_neg (by decide), ile (by omega) (by omega), if_neg (by omega), bad]
    rw [em, x_ntN (by omega) (by omega) x11 hne]
    exact same_1 h hM1 ok (Or.inr ⟨rfl, rfl⟩) (frQ.refl) (frN.refl) rfl rfl
