/-! book; the state behind a text -/
def spare (pl r n c : Nat) : Prop := (354 - pl ≤ c ∧ c ≤ 359 - pl) ∨ (376 - r ≤ c ∧ c ≤ 379 - r) ∨ (391 - n ≤ c ∧ c ≤ 393 - n) ∨ (r + 2 ≤ c ∧ c ≤ r + 3) ∨ (91 ≤ c ∧ c < 174)
abbrev SZ (S : SS) (F : Int32) : SS := (sE S, sL S, sB S, sN S, sI S, sG S, 0, sY S, F, sQ S, s0 S, s1 S)
abbrev SBk (S : SS) (Bk : BK) : SS := (sE S, sL S, Bk, sN S, sI S, sG S, sT S, sY S, sF S, sQ S, s0 S, s1 S)
theorem okS.setZ {S : SS} {F : Int32} (h : okS S) : okS (SZ S F) := by
  obtain ⟨o1, o2, o3, o4, o5, o6, o7, o8⟩ := h
  exact ⟨o1, o2, o3, o4, o5, o6, Nat.zero_le _, fun k hk => absurd hk (Nat.not_lt_zero _)⟩
theorem okS.setB {S : SS} {Bk : BK} (h : okS S) (hb : okB (sE S) Bk) : okS (SBk S Bk) := by
  obtain ⟨o1, o2, o3, o4, o5, o6, o7, o8⟩ := h
  exact ⟨o1, o2, hb, o4, o5, o6, o7, o8⟩
def frZ (pl r n : Nat) (x y : zMem) : Prop := (∀ c, c ≠ 1 → ¬ spare pl r n c → y.1 c = x.1 c) ∧ (∀ c, ¬ spare pl r n c → y.2.1 c = x.2.1 c) ∧ y.2.2 = x.2.2
theorem frZ.trans {pl r n : Nat} {x y z : zMem} (h : frZ pl r n x y) (k : frZ pl r n y z) : frZ pl r n x z := ⟨fun c h1 h2 => (k.1 c h1 h2).trans (h.1 c h1 h2), fun c h2 => (k.2.1 c h2).trans (h.2.1 c h2), k.2.2.trans h.2.2⟩
theorem RXn.setZ {x y : zMem} {S : SS} {pl r n : Nat} {F : Int32} (h : RXn x S pl r n) (ok : okS S) (f : frZ pl r n x y) (hT : y.1 1 1 = 0) (hF : y.1 1 3 = F) : RXn y (SZ S F) pl r n := by
  obtain ⟨⟨⟨p1, p2, p3, p4, p5⟩, ⟨l1, l2⟩, w1, w2, w3, w4⟩, ⟨b1, b2, b3, b4, b5⟩, ⟨c1, c2, c3⟩, d1, e1, e2, g1, g2, g3, g4, g5, g6⟩ := h
  obtain ⟨o1, o2, o3, o4, o5, o6, o7, o8⟩ := ok
  have ns : ∀ c, c = 0 ∨ (3 ≤ c ∧ c < 90) ∨ c = pl ∨ c = pl + 1 ∨ c = pl + 2 ∨ c = r ∨ c = r + 1 ∨ c = n ∨ c = n + 1 ∨ c = n + 2 ∨ 200 ≤ c → ¬ spare pl r n c := fun c hc => by unfold spare; omega
  have i1 : ∀ c, c = 0 ∨ (3 ≤ c ∧ c < 90) ∨ c = pl ∨ c = pl + 1 ∨ c = pl + 2 ∨ c = r ∨ c = r + 1 ∨ c = n ∨ c = n + 1 ∨ c = n + 2 ∨ 200 ≤ c → y.1 c = x.1 c := fun c hc => f.1 c (by omega) (ns c hc)
  have i2 : ∀ c, c = 0 ∨ (3 ≤ c ∧ c < 90) ∨ c = pl ∨ c = pl + 1 ∨ c = pl + 2 ∨ c = r ∨ c = r + 1 ∨ c = n ∨ c = n + 1 ∨ c = n + 2 ∨ 200 ≤ c → y.2.1 c = x.2.1 c := fun c hc => f.2.1 c (ns c hc)
  have f4 := f.2.2
  refine ⟨⟨⟨?_, ?_, ?_, fun q hq => ?_, fun p hp => ?_⟩, ⟨?_, fun q hq => ?_⟩, ?_, ?_, w3, w4⟩, ⟨?_, ?_, ?_, ?_, b5⟩, ⟨?_, fun k hk => ?_, fun p hp => ?_⟩, d1.same o4.1 (fun a a1 a2 => i1 a (by omega)) (fun a a1 a2 => i2 a (by omega)), ?_, fun i hi => (e2 i hi).same (o6 i hi).1 (fun a a1 a2 => i1 a (by omega)) (fun a a1 a2 => i2 a (by omega)), hT, fun k hk => absurd hk (Nat.not_lt_zero _), hF, ?_, ?_, ?_⟩
  · rw [i1 pl (by omega)]; exact p1
  · rw [i1 pl (by omega)]; exact p2
  · rw [i1 pl (by omega)]; exact p3
  · rw [i1 (pl + 1) (by omega), i1 (pl + 2) (by omega)]; exact p4 q hq
  · rw [i2 pl (by omega)]; exact p5 p hp
  · rw [i1 r (by omega)]; exact l1
  · rw [i1 (r + 1) (by omega)]; exact l2 q hq
  · rw [f4]; exact w1
  · rw [f4]; exact w2
  · rw [f4]; exact b1
  · rw [f4]; exact b2
  · rw [f4]; exact b3
  · rw [f4]; exact b4
  · rw [i1 n (by omega)]; exact c1
  · rw [i1 (n + 1) (by omega), i1 (n + 2) (by omega)]; exact c2 k hk
  · rw [i2 n (by omega)]; exact c3 p hp
  · rw [i1 0 (by omega)]; exact e1
  · rw [i1 0 (by omega)]; exact g4
  · rw [i1 0 (by omega)]; exact g5
  · rw [i1 0 (by omega)]; exact g6
theorem RMn.setZ {m y : zMem} {S : SS} {F : Int32} (h : RMn m S) (ok : okS S) (f1 : ∀ c, c ≠ 0 → (c = 2 ∨ c = 4 ∨ (17 ≤ c ∧ c < 189) ∨ (350 ≤ c ∧ c < 359) ∨ c = 451 ∨ (453 ≤ c ∧ c < 474)) → y.1 c = m.1 c) (f2 : ∀ j, j = 16 ∨ (30 ≤ j ∧ j < 34) → y.1 0 j = m.1 0 j) (hT : y.1 0 1 = 0) (hF : y.1 0 3 = F) : RMn y (SZ S F) := by
  obtain ⟨a1, ⟨l1, l2⟩, ⟨c1, c2⟩, ⟨d1, d2, d3⟩, e1, e2, g1, g2, g3, g4, g5, g6⟩ := h
  obtain ⟨o1, o2, o3, o4, o5, o6, o7, o8⟩ := ok
  have hl := o2.1
  have hb := o3.1
  have hn := o1.2.2.2.2.1
  have hi := o4.1
  refine ⟨⟨?_, ?_, ?_, fun k hk => ?_⟩, ⟨?_, fun k hk => ?_⟩, ⟨?_, fun k hk => ?_⟩, ⟨?_, fun i hi => ?_, fun k hk i hi => ?_⟩, ?_, fun i hi => ?_, hT, fun k hk => absurd hk (Nat.not_lt_zero _), hF, ?_, ?_, ?_⟩
  · rw [f1 4 (by omega) (by omega)]; exact a1.1
  · rw [f1 4 (by omega) (by omega)]; exact a1.2.1
  · rw [f1 4 (by omega) (by omega)]; exact a1.2.2.1
  · have hk' : k < pn (sE S) := hk
    rw [f1 (17 + (1 + 1 * k)) (by omega) (by omega)]; exact a1.2.2.2 k hk
  · rw [f2 16 (by omega)]; exact l1
  · have hk' : k < lk (sL S) := hk
    rw [f1 (28 + (1 + 1 * k)) (by omega) (by omega)]; exact l2 k hk
  · rw [f2 30 (by omega)]; exact c1
  · have hk' : k < bn (sB S) := hk
    rw [f1 (350 + (1 + 1 * k)) (by omega) (by omega)]; exact c2 k hk
  · rw [f2 31 (by omega)]; exact d1
  · rw [f1 451 (by omega) (by omega)]; exact d2 i hi
  · have hk' : k < (sN S).1 := hk
    rw [f1 (453 + (1 + 1 * k)) (by omega) (by omega)]; exact d3 k hk i hi
  · rw [f2 33 (by omega)]; exact e1
  · have hi' : i < sI S := hi
    obtain ⟨q1, q2, q3⟩ := e2 i hi
    refine ⟨?_, fun j hj => ?_, fun k hk j hj => ?_⟩
    · rw [f1 (470 + (1 + 1 * i)) (by omega) (by omega)]; exact q1
    · rw [f1 (470 + (1 + 1 * i)) (by omega) (by omega)]; exact q2 j hj
    · rw [f1 (470 + (1 + 1 * i)) (by omega) (by omega)]; exact q3 k hk j hj
  · rw [f2 32 (by omega)]; exact g4
  · rw [f1 2 (by omega) (by omega)]; exact g5
  · rw [f1 2 (by omega) (by omega)]; exact g6
theorem RXn.setB {x : zMem} {S : SS} {pl r n : Nat} {Bk : BK} (h : RXn x S pl r n) (hb : RXb x Bk (391 - n)) : RXn (zR (zR x 0 13 n) 0 12 (391 - n)) (SBk S Bk) pl r (391 - n) := by
  obtain ⟨⟨p, l, w1, w2, w3, w4⟩, ⟨b1, b2, b3, b4, b5⟩, c, d1, e1, e2, g1, g2, g3, g4, g5, g6⟩ := h
  refine ⟨⟨p, l, ?_, ?_, w3, w4⟩, ⟨?_, ?_, ?_, ?_, by omega⟩, hb, d1, e1, e2, g1, g2, g3, g4, g5, g6⟩
  · rw [zR22j (by omega), zR22j (by omega)]; exact w1
  · rw [zR22j (by omega), zR22j (by omega)]; exact w2
  · rw [zR22j (by omega), zR22j (by omega)]; exact b1
  · rw [zR22j (by omega), zR22j (by omega)]; exact b2
  · rw [zR22e]
  · rw [zR22j (by omega), zR22e]; omega
theorem RMn.setB {m y : zMem} {S : SS} {Bk : BK} (h : RMn m S) (ok : okS S) (f1 : ∀ c, c ≠ 0 → ¬ (350 < c ∧ c < 359) → y.1 c = m.1 c) (f2 : ∀ j, j ≠ 30 → y.1 0 j = m.1 0 j) (hb : RMb y Bk) : RMn y (SBk S Bk) := by
  obtain ⟨a1, ⟨l1, l2⟩, ⟨c1, c2⟩, ⟨d1, d2, d3⟩, e1, e2, g1, g2, g3, g4, g5, g6⟩ := h
  obtain ⟨o1, o2, o3, o4, o5, o6, o7, o8⟩ := ok
  have hl := o2.1
  have hn := o1.2.2.2.2.1
  refine ⟨⟨?_, ?_, ?_, fun k hk => ?_⟩, ⟨?_, fun k hk => ?_⟩, hb, ⟨?_, fun i hi => ?_, fun k hk i hi => ?_⟩, ?_, fun i hi => ?_, ?_, fun k hk => ?_, ?_, ?_, ?_, ?_⟩
  · rw [f1 4 (by omega) (by omega)]; exact a1.1
  · rw [f1 4 (by omega) (by omega)]; exact a1.2.1
  · rw [f1 4 (by omega) (by omega)]; exact a1.2.2.1
  · have hk' : k < pn (sE S) := hk
    rw [f1 (17 + (1 + 1 * k)) (by omega) (by omega)]; exact a1.2.2.2 k hk
  · rw [f2 16 (by omega)]; exact l1
  · have hk' : k < lk (sL S) := hk
    rw [f1 (28 + (1 + 1 * k)) (by omega) (by omega)]; exact l2 k hk
  · rw [f2 31 (by omega)]; exact d1
  · rw [f1 451 (by omega) (by omega)]; exact d2 i hi
  · rw [f1 (453 + (1 + 1 * k)) (by omega) (by omega)]; exact d3 k hk i hi
  · rw [f2 33 (by omega)]; exact e1
  · obtain ⟨q1, q2, q3⟩ := e2 i hi
    refine ⟨?_, fun j hj => ?_, fun k hk j hj => ?_⟩
    · rw [f1 (470 + (1 + 1 * i)) (by omega) (by omega)]; exact q1
    · rw [f1 (470 + (1 + 1 * i)) (by omega) (by omega)]; exact q2 j hj
    · rw [f1 (470 + (1 + 1 * i)) (by omega) (by omega)]; exact q3 k hk j hj
  · rw [f2 1 (by omega)]; exact g1
  · rw [f1 1 (by omega) (by omega)]; exact g2 k hk
  · rw [f2 3 (by omega)]; exact g3
  · rw [f2 32 (by omega)]; exact g4
  · rw [f1 2 (by omega) (by omega)]; exact g5
  · rw [f1 2 (by omega) (by omega)]; exact g6
/-- the length that is told -/
theorem txt_rng (a : Int32) {M T : Nat} (hM : M < 2 ^ 31) (hT : T < 2 ^ 31) : (∃ E, E ≤ M ∧ E ≤ T ∧ a = nI E) ∨ ((∀ E, E ≤ M → E ≤ T → a ≠ nI E) ∧ ((a < 0 ∨ nI T < a) ∨ ∃ k, k ≤ T ∧ M < k ∧ a = nI k)) := by
  rcases ya_rng a (b := T) hT with ⟨k, hk, rfl⟩ | hb
  · by_cases c : k ≤ M
    · exact Or.inl ⟨k, c, hk, rfl⟩
    · refine Or.inr ⟨fun E h1 h2 h3 => ?_, Or.inr ⟨k, hk, by omega, rfl⟩⟩
      rw [nI_eq (by omega) (by omega)] at h3
      omega
  · refine Or.inr ⟨fun E h1 h2 h3 => ?_, Or.inl hb⟩
    subst h3
    rcases hb with hb | hb
    · rw [ya_0, nI_ltI (by omega) (by omega)] at hb; omega
    · rw [nI_ltI (by omega) (by omega)] at hb; omega
theorem okS.txt {S : SS} {E : Nat} (ok : okS S) (h : E ≤ sT S) : okT (sY S) E := ⟨Nat.le_trans h ok.2.2.2.2.2.2.1, fun k hk => ok.2.2.2.2.2.2.2 k (Nat.lt_of_lt_of_le hk h)⟩
theorem q_book {x m : zMem} {S : SS} (a : Int32) (hX : RXo x S) (hM : RMn m S) (ok : okS S) : same T1 (F_X9_book x a) (F_X10_book m a) := by
  obtain ⟨pl, r, n, h⟩ := hX
  have hM1 := hM.t ok
  have x11 := h.2.2.2.2.2.2.1
  have x2 := h.2.2.2.2.2.2.2.1
  have m01 := hM1.2.2.2.2.2.2.1
  have m1 := hM1.2.2.2.2.2.2.2.1
  have hT := ok.2.2.2.2.2.2.1
  have hpl := h.1.2.2.2.2.1
  have hr := h.1.2.2.2.2.2
  have h8 := h.1.2.2.1
  have h12 := h.2.1.2.2.1
  have h13 := h.2.1.2.2.2.1
  have hn := h.2.1.2.2.2.2
  have he := ok.1
  unfold F_X9_book F_X10_book
  rw [zl_eq, m01, show (60 : Int32) = nI 60 from rfl]
  rcases txt_rng a (M := 60) (T := sT S) (by omega) (by omega) with ⟨E, h1, h2, rfl⟩ | ⟨hne, hb⟩
  · have ht := ok.txt h2
    obtain ⟨x1, a1, a2, a3, a4, a5⟩ := x_open (x := x) (B := sY S) (E := E) ht.1 (fun k hk => x2 k (by omega))
    have kp : RXp x1 (sE S) pl := by
      obtain ⟨b1, b2, b3, b4, b5⟩ := h.1.1
      exact ⟨by rw [a4 pl (by omega)]; exact b1, by rw [a4 pl (by omega)]; exact b2, by rw [a4 pl (by omega)]; exact b3, fun q hq => by rw [a4 (pl + 1) (by omega), a4 (pl + 2) (by omega)]; exact b4 q hq, fun p hp => by rw [a5]; exact b5 p hp⟩
    obtain ⟨x2', b1, b2, b3, b4⟩ := x_bkRead (pl := pl) (t := 391 - n) ht he hpl (by omega) a2 kp
    obtain ⟨y1, c1, c2, c3, c4, c5, c6, c7⟩ := m_starts (x := zI m 0 0 0) ht (fun k hk => m1 k (by omega))
    obtain ⟨oP, oF, oB⟩ := rd_ok (B := sY S) (E := E) he 9
    have mp : RMp y1 (sE S) := by
      obtain ⟨d1, d2, d3, d4⟩ := hM1.1
      exact ⟨by rw [c6 4 (by omega)]; exact d1, by rw [c6 4 (by omega)]; exact d2, by rw [c6 4 (by omega)]; exact d3, fun q hq => by rw [c6 _ (by omega)]; exact d4 q hq⟩
    generalize hrk : rdB (sY S) E (sE S) 9 = rk at *
    obtain ⟨P, Bk⟩ := rk
    dsimp only at *
    have hP3 := oP.1
    have n8 := oB.1
    have t2 := a5
    have fz : frZ pl r n x x2' := by
      refine ⟨fun c k1 k2 => ?_, fun c k2 => ?_, ?_⟩
      · unfold spare at k2
        rw [b3.1 c k1 (by omega) (by omega) (by omega), a4 c k1]
      · unfold spare at k2
        rw [b3.2.2.1 c (by omega), a5]
      · rw [b3.2.2.2, a5]
    have xz : RXn x2' (SZ S P.2.1) pl r n := h.setZ ok fz (by rw [b3.2.1 1 (by omega) (by omega) (by omega) (by omega) (by omega)]; exact a3) b2.2.1
    have hw : wp (itF (fun _ _ => none) (F_X10_book_46 (nI E)) zFuel (nI 0) y1) (fun q => q.2.1 0 0 = 0 ∧ (P.1 = 0 → q.1 = nI (bn Bk) ∧ RMn q.2 (SBk (SZ S P.2.1) Bk)) ∧ (P.1 ≠ 0 → q.1 = nI P.1 - 10 ∧ RMn q.2 (SZ S P.2.1))) := by
      refine m_bkRead ht he c2 mp ?_
      rw [hrk]
      dsimp only
      intro y2 t1 t2 t3
      have y00 : y2.1 0 0 = 0 := by rw [t2.2.1 0 (by omega) (by omega) (by omega), c7 0 (by omega)]; exact t0_0
      have mz : ∀ F, RMn (zI y2 0 3 F) (SZ S F) := fun F => by
        refine hM1.setZ ok (fun c k1 k2 => ?_) (fun j k1 => ?_) ?_ ?_
        · rw [zI_n k1, t2.1 c k1 (by omega), c6 c k1]
        · rw [zI_s (by omega), t2.2.1 j (by omega) (by omega) (by omega), c7 j (by omega)]
        · rw [zI_s (by omega), t2.2.1 1 (by omega) (by omega) (by omega)]; exact c3
        · rw [zI_1, upd_s]
      unfold F_X10_book_240
      rw [t1.1, ie0 (by omega)]
      by_cases z : P.1 = 0
      · obtain ⟨y3, l1, l2, l3, l4⟩ := m_lays (m := zI (zI y2 0 3 (-1)) 0 30 (nI (bn Bk))) (s := 359) (l1 := 8) (d := 350) (l2 := 8) (n := bn Bk) (by omega) (by omega) (by omega) (by omega) (by omega)
        rw [if_pos z, zl_eq, zl_eq, l1, zbv_some, wp_some]
        refine ⟨?_, fun _ => ⟨rfl, ?_⟩, fun w => absurd z w⟩
        · rw [l2 0 (by omega), zI_s (by omega), zI_s (by omega)]; exact y00
        · have := mz (-1)
          rw [← oF z] at this
          refine this.setB ok.setZ (fun c k1 k2 => ?_) (fun j k1 => ?_) ⟨?_, fun k hk => ?_⟩
          · rw [l2 c (by omega), zI_n k1, oF z]
          · rw [l2 0 (by omega), zI_s k1, oF z]
          · rw [l2 0 (by omega), zI_1, upd_s]
          · obtain ⟨q1, q2⟩ := l4 k hk
            obtain ⟨q3, q4⟩ := t3 k hk
            rw [q1, q2, zI_n (by omega), zI_n (by omega)]
            exact ⟨q3, q4⟩
      · unfold F_X10_ends
        rw [if_neg z, zl_eq, zb_some, wp_some]
        dsimp only
        refine ⟨?_, fun w => absurd w z, fun _ => ⟨?_, ?_⟩⟩
        · rw [zI_s (by omega)]; exact y00
        · rw [zI_s (by omega), t1.1]
        · rw [t1.2.1]; exact mz P.2.1
    obtain ⟨⟨v, y⟩, j1, j2, j3, j4⟩ := hw
    dsimp only at j2 j3 j4
    have em : (zb (F_X10_in (zI m 0 0 0) (nI E) 0 (nI (sT S))) fun v29 M28 => if v29 = 0 then F_X10_book_29 (nI E) (nI E) 1 M28 else if nI E ≤ nI 60 then F_X10_book_29 (nI E) (nI E) 0 M28 else F_X10_book_29 (nI E) (nI E) 1 M28) = some (v, y) := by
      rw [show F_X10_in (zI m 0 0 0) (nI E) (0 : Int32) (nI (sT S)) = _ from m_inY _ (Nat.zero_le _) h2 (by omega), zb_some]
      dsimp only
      rw [if_neg (by decide), ile (by omega) (by omega), if_pos h1]
      unfold F_X10_book_29
      rw [m_bad0 t0_0, zb_some]
      dsimp only
      rw [if_pos rfl, c1, zbv_some]
      exact j1
    rw [x_ntY h1 h2 (by omega) (by omega) x11, zbx_0, a1, zbv_some]
    have r8 : x1.2.2 0 8 = pl := by rw [a5]; exact h8
    have r13 : x1.2.2 0 13 = 391 - n := by rw [a5]; exact h13
    have s12 : x2'.2.2 0 12 = n := by rw [b3.2.2.2, a5]; exact h12
    have s13 : x2'.2.2 0 13 = 391 - n := by rw [b3.2.2.2, a5]; exact h13
    rw [r8, r13, gd_ok (by rcases hn with rfl | rfl <;> rfl), gd_ok (by rcases hpl with rfl | rfl <;> rfl), b1, zbv_some, b2.1, ie0 (by omega), em]
    by_cases z : P.1 = 0
    · obtain ⟨k1, k2⟩ := j3 z
      have xb := xz.setB (b4 z)
      rw [if_pos z, s12, s13, gd_ok (by rcases hn with rfl | rfl <;> rfl), gd_ok (by rcases hn with rfl | rfl <;> rfl), zl_eq, zl_eq, zR22e, gd_ok (by rcases hn with rfl | rfl <;> rfl)]
      refine ⟨0, _, _, _, _, 0, _, rfl, rfl, j2, Or.inl ⟨rfl, rfl⟩, fun _ => ?_, ⟨pl, r, 391 - n, xb⟩, k2, ok.setZ.setB oB⟩
      rw [k1]
      exact (b4 z).1
    · obtain ⟨k1, k2⟩ := j4 z
      rw [if_neg z]
      exact ⟨0, _, _, _, _, 0, _, rfl, rfl, j2, Or.inl ⟨rfl, rfl⟩, fun _ => k1.symm, ⟨pl, r, n, xz⟩, k2, ok.setZ⟩
  · have bad : F_X10_book_29 a a 1 (zI m 0 0 0) = some (0, zI (zI (zI m 0 0 0) 0 0 (nI 1)) 2 1 ((zI m 0 0 0).1 2 1 + 1)) := by
      unfold F_X10_book_29
      rw [m_bad11 t0_0, zb_some]
      rfl
    have em : (zb (F_X10_in (zI m 0 0 0) a 0 (nI (sT S))) fun v29 M28 => if v29 = 0 then F_X10_book_29 a a 1 M28 else if a ≤ nI 60 then F_X10_book_29 a a 0 M28 else F_X10_book_29 a a 1 M28) = some (0, zI (zI (zI m 0 0 0) 0 0 (nI 1)) 2 1 ((zI m 0 0 0).1 2 1 + 1)) := by
      rcases hb with hb | ⟨k, k1, k2, rfl⟩
      · rw [m_inN _ hb, zb_some]
        dsimp only
        rw [if_pos rfl, bad]
      · rw [show F_X10_in (zI m 0 0 0) (nI k) (0 : Int32) (nI (sT S)) = _ from m_inY _ (Nat.zero_le _) k1 (by omega), zb_some]
        dsimp only
        rw [if_neg (by decide), ile (by omega) (by omega), if_neg (by omega), bad]
    rw [em, x_ntN (by omega) (by omega) x11 hne]
    exact same_1 h hM1 ok (Or.inr ⟨rfl, rfl⟩) (frQ.refl) (frN.refl) rfl rfl
