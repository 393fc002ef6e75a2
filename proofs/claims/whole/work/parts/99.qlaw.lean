/-! law, the call -/
abbrev SLw (S : SS) (L : LW) : SS := (sE S, L, sB S, sN S, sI S, sG S, sT S, sY S, sF S, sQ S, s0 S, s1 S)
theorem okS.setL {S : SS} {L : LW} (h : okS S) (hb : okL L) : okS (SLw S L) := by
  obtain ⟨o1, o2, o3, o4, o5, o6, o7, o8⟩ := h
  exact ⟨o1, hb, o3, o4, o5, o6, o7, o8⟩
theorem RXn.setL {x : zMem} {S : SS} {pl r n : Nat} {L : LW} (h : RXn x S pl r n) (hb : RXl x L (376 - r)) : RXn (zR (zR x 0 11 r) 0 10 (376 - r)) (SLw S L) pl (376 - r) n := by
  obtain ⟨⟨p, l, w1, w2, w3, w4⟩, ⟨b1, b2, b3, b4, b5⟩, c, d1, e1, e2, g1, g2, g3, g4, g5, g6⟩ := h
  refine ⟨⟨p, hb, ?_, ?_, w3, by omega⟩, ⟨?_, ?_, ?_, ?_, b5⟩, c, d1, e1, e2, g1, g2, g3, g4, g5, g6⟩
  · rw [zR22j (by omega), zR22j (by omega)]; exact w1
  · rw [zR22e]
  · rw [zR22j (by omega), zR22j (by omega)]; exact b1
  · rw [zR22j (by omega), zR22e]; omega
  · rw [zR22j (by omega), zR22j (by omega)]; exact b3
  · rw [zR22j (by omega), zR22j (by omega)]; exact b4
theorem RMn.setL {m y : zMem} {S : SS} {L : LW} (h : RMn m S) (ok : okS S) (f1 : ∀ c, c ≠ 0 → ¬ (28 < c ∧ c < 189) → y.1 c = m.1 c) (f2 : ∀ j, j ≠ 16 → y.1 0 j = m.1 0 j) (hb : RMl y L) : RMn y (SLw S L) := by
  obtain ⟨a1, ⟨l1, l2⟩, ⟨c1, c2⟩, ⟨d1, d2, d3⟩, e1, e2, g1, g2, g3, g4, g5, g6⟩ := h
  obtain ⟨o1, o2, o3, o4, o5, o6, o7, o8⟩ := ok
  have hb' := o3.1
  have hn := o1.2.2.2.2.1
  have hi := o4.1
  refine ⟨⟨?_, ?_, ?_, fun k hk => ?_⟩, hb, ⟨?_, fun k hk => ?_⟩, ⟨?_, fun i hi => ?_, fun k hk i hi => ?_⟩, ?_, fun i hi => ?_, ?_, fun k hk => ?_, ?_, ?_, ?_, ?_⟩
  · rw [f1 4 (by omega) (by omega)]; exact a1.1
  · rw [f1 4 (by omega) (by omega)]; exact a1.2.1
  · rw [f1 4 (by omega) (by omega)]; exact a1.2.2.1
  · have hk' : k < pn (sE S) := hk
    rw [f1 (17 + (1 + 1 * k)) (by omega) (by omega)]; exact a1.2.2.2 k hk
  · rw [f2 30 (by omega)]; exact c1
  · have hk' : k < bn (sB S) := hk
    rw [f1 (350 + (1 + 1 * k)) (by omega) (by omega)]; exact c2 k hk
  · rw [f2 31 (by omega)]; exact d1
  · rw [f1 451 (by omega) (by omega)]; exact d2 i hi
  · have hk' : k < (sN S).1 := hk
    rw [f1 (453 + (1 + 1 * k)) (by omega) (by omega)]; exact d3 k hk i hi
  · rw [f2 33 (by omega)]; exact e1
  · obtain ⟨q1, q2, q3⟩ := e2 i hi
    refine ⟨?_, fun j hj => ?_, fun k hk j hj => ?_⟩
    · rw [f1 (470 + (1 + 1 * i)) (by omega) (by omega)]; exact q1
    · rw [f1 (470 + (1 + 1 * i)) (by omega) (by omega)]; exact q2 j hj
    · rw [f1 (470 + (1 + 1 * i)) (by omega) (by omega)]; exact q3 k hk j hj
  · rw [f2 1 (by omega)]; exact g1
  · rw [f1 1 (by omega) (by omega)]; exact g2 k hk
  · rw [f2 3 (by omega)]; exact g3
  · rw [f2 32 (by omega)]; exact g4
  · rw [f1 2 (by omega) (by omega)]; exact g5
  · rw [f1 2 (by omega) (by omega)]; exact g6
theorem m_lwRead {m : zMem} {B : Nat → Nat} {E : Nat} {z : ZL} (ht : okT B E) (hE : E ≤ 150) (h : TM m B E (PS0 B E)) (h8 : m.1 0 8 = 0) (hz : z = lawZ B E) :
    ∃ y, F_X10_sum (zI m 0 17 0) = some y ∧ TM y B E z.1 ∧ frMl m y ∧ RMq y z := by
  obtain ⟨o1, o2⟩ := PS0_ok B E
  have hx := mg_su ht hE 6 (by omega) 48 (by omega) (zI m 0 17 0) (PS0 B E, lw0) o1 o2 (fun _ => Nat.zero_le _) (h.z7 (by omega)) (fun _ => ⟨by rw [zI_1, upd_s]; rfl, fun k hk => absurd hk (Nat.not_lt_zero _)⟩) (fun _ => by rw [zI_s (by omega), h8]; rfl)
  rw [show suS B E 6 (PS0 B E, lw0) = z from hz.symm] at hx
  obtain ⟨y, a1, a2, a3, a4, a5⟩ := hx
  exact ⟨y, a1, a2, ⟨fun c h1 h2 => by rw [a3.1 c h1 h2, zI_n h1], fun j h1 h2 h3 h4 h5 => by rw [a3.2.1 j h1 h2 h3 h4 h5, zI_s h5], a3.2.2⟩, a4⟩
theorem q_law {x m : zMem} {S : SS} (a : Int32) (hX : RXo x S) (hM : RMn m S) (ok : okS S) : same T1 (F_X9_law x a) (F_X10_law m a) := by
  obtain ⟨pl, r, n, h⟩ := hX
  have hM1 := hM.t ok
  have x11 := h.2.2.2.2.2.2.1
  have x2 := h.2.2.2.2.2.2.2.1
  have m01 := hM1.2.2.2.2.2.2.1
  have m1 := hM1.2.2.2.2.2.2.2.1
  have hT := ok.2.2.2.2.2.2.1
  have hpl := h.1.2.2.2.2.1
  have hr := h.1.2.2.2.2.2
  have h10 := h.1.2.2.2.1
  have h11 := h.2.1.2.1
  have hn := h.2.1.2.2.2.2
  unfold F_X9_law F_X10_law
  rw [zl_eq, m01, show (150 : Int32) = nI 150 from rfl]
  rcases txt_rng a (M := 150) (T := sT S) (by omega) (by omega) with ⟨E, h1, h2, rfl⟩ | ⟨hne, hb⟩
  · have ht := ok.txt h2
    obtain ⟨x1, a1, a2, a3, a4, a5⟩ := x_open (x := x) (B := sY S) (E := E) ht.1 (fun k hk => x2 k (by omega))
    obtain ⟨z, hz⟩ : ∃ z, z = lawZ (sY S) E := ⟨_, rfl⟩
    obtain ⟨x2', b1, b2, b3, b4⟩ := x_lwRead (x := x1) (t := 376 - r) ht h1 (by omega) a2 hz
    obtain ⟨y1, c1, c2, c3, c4, c5, c6, c7⟩ := m_starts (x := zI m 0 0 0) ht (fun k hk => m1 k (by omega))
    obtain ⟨y2, t1, t2, t3, t4⟩ := m_lwRead ht h1 c2.t c5 hz
    obtain ⟨y3, s1, s2, s3, s4⟩ := m_rest ht t2
    have hg := lawZ_ok (sY S) E
    rw [← hz] at hg
    clear hz
    obtain ⟨oP, oF⟩ := lawF_ok hg
    have zP := hg.1
    have zP3 := zP.1
    have hP3 := oP.1
    have xT : x2'.1 1 1 = 0 := by rw [b3.2.1 1 (by omega) (by omega) (by omega) (by omega) (by omega)]; exact a3
    have fz : frZ pl r n x x2' := by
      refine ⟨fun c k1 k2 => ?_, fun c k2 => ?_, ?_⟩
      · unfold spare at k2
        rw [b3.1 c k1 (by omega) (by omega), a4 c k1]
      · rw [b3.2.2, a5]
      · rw [b3.2.2, a5]
    have xz : RXn x2' (SZ S (lawF E z).1.2.1) pl r n := h.setZ ok fz xT b2.2.1
    -- the reference behind its reading
    obtain ⟨y, u1, u2, u3, u4⟩ : ∃ y, ((if y3.1 0 5 = 0 then (if y3.1 0 2 ≤ y3.1 0 4 then F_X10_law_85 (nI E) y3 else zbv (F_X10_wrong y3 1 (y3.1 0 4)) fun M12 => F_X10_law_85 (nI E) M12) else F_X10_law_85 (nI E) y3) = F_X10_law_85 (nI E) y) ∧ TM y (sY S) E (lawF E z).1 ∧ frMl y1 y ∧ RMq y (lawF E z) := by
      have f3 : frMl y1 y3 := t3.trans s3.l
      have q3 := s3.rq t4
      rw [s2.1, ie0 (by omega)]
      by_cases q : z.1.1 = 0
      · rw [if_pos q, (s4 q).2.2.2.2.2.1, s2.2.2.1, ile (by omega) (by have := (zP.2 q).1; omega)]
        by_cases e : E ≤ z.1.2.2
        · have er : lawF E z = z := lawF_n (fun w => by omega)
          rw [if_pos e, er]
          exact ⟨y3, rfl, s2, f3, q3⟩
        · have er : lawF E z = (flS 1 (nI z.1.2.2) z.1, z.2) := lawF_y ⟨q, by omega⟩
          obtain ⟨y4, v1, v2, v3⟩ := m_wrong (c := 1) (v := nI z.1.2.2) s2 zP3 (by omega)
          rw [if_neg e, show (1 : Int32) = nI 1 from rfl, v1, zbv_some, er]
          exact ⟨y4, rfl, v2, f3.trans v3.l, (v3.rq q3).ch (fun _ => ⟨q, rfl⟩)⟩
      · have er : lawF E z = z := lawF_n (fun w => q w.1)
        rw [if_neg q, er]
        exact ⟨y3, rfl, s2, f3, q3⟩
    have yf : ∀ c, c ≠ 0 → ¬ (189 < c ∧ c < 350) → y.1 c = m.1 c := fun c k1 k2 => by rw [u3.1 c k1 k2, c6 c k1, zI_n k1]
    have y0 : ∀ j, j = 0 ∨ j = 3 ∨ (8 < j ∧ j ≠ 17) → y.1 0 j = (zI m 0 0 0).1 0 j := fun j hj => by rw [u3.2.1 j (by omega) (by omega) (by omega) (by omega) (by omega), c7 j (by omega)]
    have y00 : y.1 0 0 = 0 := by rw [y0 0 (by omega)]; exact t0_0
    have y01 : y.1 0 1 = 0 := by rw [u3.2.1 1 (by omega) (by omega) (by omega) (by omega) (by omega)]; exact c3
    have mz : ∀ F, RMn (zI y 0 3 F) (SZ S F) := fun F => by
      refine hM1.setZ ok (fun c k1 k2 => ?_) (fun j k1 => ?_) ?_ ?_
      · rw [zI_n k1, yf c k1 (by omega), zI_n k1]
      · rw [zI_s (by omega), y0 j (by omega)]
      · rw [zI_s (by omega)]; exact y01
      · rw [zI_1, upd_s]
    have em : (zb (F_X10_in (zI m 0 0 0) (nI E) 0 (nI (sT S))) fun v15 M14 => if v15 = 0 then F_X10_law_30 (nI E) (nI E) 1 M14 else if nI E ≤ nI 150 then F_X10_law_30 (nI E) (nI E) 0 M14 else F_X10_law_30 (nI E) (nI E) 1 M14) = F_X10_law_85 (nI E) y := by
      rw [show F_X10_in (zI m 0 0 0) (nI E) (0 : Int32) (nI (sT S)) = _ from m_inY _ (Nat.zero_le _) h2 (by omega), zb_some]
      dsimp only
      rw [if_neg (by decide), ile (by omega) (by omega), if_pos h1]
      unfold F_X10_law_30
      rw [m_bad0 t0_0, zb_some]
      dsimp only
      rw [if_pos rfl, c1, zbv_some, zl_eq, t1, zbv_some, s1, zbv_some]
      exact u1
    rw [x_ntY h1 h2 (by omega) (by omega) x11, zbx_0, a1, zbv_some]
    have r11 : x1.2.2 0 11 = 376 - r := by rw [a5]; exact h11
    have fs : ∀ j, x2'.2.2 0 j = x.2.2 0 j := fun j => by rw [b3.2.2, a5]
    rw [r11, gd_ok (by rcases hr with rfl | rfl <;> rfl), b1, zbv_some, b2.1, ie0 (by omega), em]
    unfold F_X10_law_85
    rw [u2.1, ie0 (by omega)]
    by_cases zz : (lawF E z).1.1 = 0
    · obtain ⟨f1, f2, f3⟩ := lawF_0 zz
      obtain ⟨l1, l2⟩ := lawF_L h1 hg f2
      rw [← f1] at l1 l2
      have xb := xz.setL (b4 zz)
      obtain ⟨q1, q2⟩ := u4 zz
      rw [if_pos zz, if_pos zz, fs, fs, h11, h10, gd_ok (by rcases hr with rfl | rfl <;> rfl), gd_ok (by rcases hr with rfl | rfl <;> rfl), zl_eq, zl_eq, zl_eq, zl_eq, zI_s (i := 17) (j := 3) (by omega), q1]
      have hl := l1.1
      obtain ⟨y5, j1, j2, j3, j4⟩ := m_lays (m := zI (zI y 0 3 (-1)) 0 16 (nI (lk (lawF E z).2))) (s := 189) (l1 := 160) (d := 28) (l2 := 160) (n := lk (lawF E z).2) (by omega) (by omega) (by omega) (by omega) (by omega)
      rw [show (zI (zI y 0 3 (-1)) 0 16 (nI (lk (lawF E z).2))).1 0 16 = nI (lk (lawF E z).2) by rw [zI_1, upd_s], j1, zbv_some]
      refine ⟨0, _, _, _, _, 0, _, rfl, rfl, ?_, Or.inl ⟨rfl, rfl⟩, fun _ => rfl, ⟨pl, 376 - r, n, xb⟩, ?_, ok.setZ.setL l1⟩
      · rw [j2 0 (by omega), zI_s (by omega), zI_s (by omega)]; exact y00
      · have mm := mz (-1)
        rw [← oF zz] at mm
        refine mm.setL ok.setZ (fun c k1 k2 => ?_) (fun j k1 => ?_) ⟨?_, fun k hk => ?_⟩
        · rw [j2 c (by omega), zI_n k1, oF zz]
        · rw [j2 0 (by omega), zI_s k1, oF zz]
        · rw [j2 0 (by omega), zI_1, upd_s]
        · obtain ⟨k1, k2⟩ := j4 k hk
          obtain ⟨k3, k4⟩ := q2 k hk
          rw [k1, k2, zI_n (by omega), zI_n (by omega)]
          exact ⟨k3, k4⟩
    · unfold F_X10_ends
      rw [if_neg zz, if_neg zz, zl_eq, zb_some]
      dsimp only
      refine ⟨0, _, _, _, _, 0, _, rfl, rfl, ?_, Or.inl ⟨rfl, rfl⟩, fun _ => ?_, ⟨pl, r, n, xz⟩, ?_, ok.setZ⟩
      · rw [zI_s (by omega)]; exact y00
      · rw [zI_s (by omega), u2.1]
      · rw [u2.2.1]; exact mz _
  · have bad : F_X10_law_30 a a 1 (zI m 0 0 0) = some (0, zI (zI (zI m 0 0 0) 0 0 (nI 1)) 2 1 ((zI m 0 0 0).1 2 1 + 1)) := by
      unfold F_X10_law_30
      rw [m_bad11 t0_0, zb_some]
      rfl
    have em : (zb (F_X10_in (zI m 0 0 0) a 0 (nI (sT S))) fun v15 M14 => if v15 = 0 then F_X10_law_30 a a 1 M14 else if a ≤ nI 150 then F_X10_law_30 a a 0 M14 else F_X10_law_30 a a 1 M14) = some (0, zI (zI (zI m 0 0 0) 0 0 (nI 1)) 2 1 ((zI m 0 0 0).1 2 1 + 1)) := by
      rcases hb with hb | ⟨k, k1, k2, rfl⟩
      · rw [m_inN _ hb, zb_some]
        dsimp only
        rw [if_pos rfl, bad]
      · rw [show F_X10_in (zI m 0 0 0) (nI k) (0 : Int32) (nI (sT S)) = _ from m_inY _ (Nat.zero_le _) k1 (by omega), zb_some]
        dsimp only
        rw [if_neg (by decide), ile (by omega) (by omega), if_neg (by omega), bad]
    rw [em, x_ntN (by omega) (by omega) x11 hne]
    exact same_1 h hM1 ok (Or.inr ⟨rfl, rfl⟩) (frQ.refl) (frN.refl) rfl rfl
