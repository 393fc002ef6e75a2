/-! works, the call -/
abbrev SW (S : SS) (D : WD) (F : Int32) : SS := (D.1, lw0, (0, fun _ => 0, fun _ => 0), (0, stU D, fun _ _ => 0), 0, sG S, 0, sY S, F, 0, s0 S, s1 S)
theorem okS.setW {S : SS} {D : WD} {F : Int32} (h : okW D) : okS (SW S D F) :=
  ⟨h.1, ⟨Nat.zero_le _, fun k hk => absurd hk (Nat.not_lt_zero _)⟩, ⟨Nat.zero_le _, fun k hk => absurd hk (Nat.not_lt_zero _)⟩, ⟨Nat.zero_le _, stU_ok h, fun k hk => absurd hk (Nat.not_lt_zero _)⟩, Nat.zero_le _, fun k hk => absurd hk (Nat.not_lt_zero _), Nat.zero_le _, fun k hk => absurd hk (Nat.not_lt_zero _)⟩
noncomputable def F_wk2 (M8 : zMem) : Option (Nat × Int32 × zMem) :=
    gd (shX (M8.2.2 0 9) == 6) <|
    gd (shX (M8.2.2 0 8) == 6) <|
    zl (zR M8 0 9 (M8.2.2 0 8)) fun M11 =>
    zl (zR M11 0 8 (M8.2.2 0 9)) fun M12 =>
    gd (shX (M12.2.2 0 10) == 4) <|
    zbv (F_X3_reset M12 (M12.2.2 0 10)) fun M14 =>
    gd (shX (M14.2.2 0 12) == 2) <|
    zbv (F_X1_clear M14 (M14.2.2 0 12)) fun M16 =>
    gd (shX (M16.2.2 0 8) == 6) <|
    zbv (F_X7_start M16 3 (M16.2.2 0 8)) fun M18 =>
    zl (zI M18 0 14 (0 : Int32)) fun M19 =>
    zl (zI M19 0 15 (0 : Int32)) fun M20 =>
    gd (shX (M20.2.2 0 8) == 6) <|
    some (0, (M20.1 (M20.2.2 0 8) 2), M20)
theorem x_wk2 {x : zMem} {S : SS} {D : WD} {pl r n : Nat} {F : Int32} (hw : okW D) (hpl : pl = 174 ∨ pl = 180) (hr : r = 186 ∨ r = 190) (hn : n = 194 ∨ n = 197) (hp : RXp x D.1 (354 - pl))
    (hc : ∀ p, p < 64 → x.1 (354 - pl + 3) p = nI (stU D p) ∧ x.1 (354 - pl + 4) p = nI (stU D (64 + p)) ∧ x.1 (354 - pl + 5) p = nI (stU D (128 + p)))
    (r8 : x.2.2 0 8 = pl) (r9 : x.2.2 0 9 = 354 - pl) (r10 : x.2.2 0 10 = r) (r11 : x.2.2 0 11 = 376 - r) (r12 : x.2.2 0 12 = n) (r13 : x.2.2 0 13 = 391 - n)
    (hT : x.1 1 1 = 0) (hF : x.1 1 3 = F) (h16 : x.1 0 16 = nI (s0 S)) (h17 : x.1 0 17 = nI (s1 S)) : ∃ y, F_wk2 x = some (0, nI (pn D.1), y) ∧ RXn y (SW S D F) (354 - pl) r n := by
  unfold F_wk2
  rw [r9, gd_ok (by rcases hpl with rfl | rfl <;> rfl), r8, gd_ok (by rcases hpl with rfl | rfl <;> rfl), zl_eq, zl_eq]
  obtain ⟨x3, hx3⟩ : ∃ x3, x3 = zR (zR x 0 9 pl) 0 8 (354 - pl) := ⟨_, rfl⟩
  have i1 : x3.1 = x.1 := by rw [hx3]; rfl
  have i2 : x3.2.1 = x.2.1 := by rw [hx3]; rfl
  have k8 : x3.2.2 0 8 = 354 - pl := by rw [hx3, zR22e]
  have k9 : x3.2.2 0 9 = pl := by rw [hx3, zR22j (by omega), zR22e]
  have k10 : x3.2.2 0 10 = r := by rw [hx3, zR22j (by omega), zR22j (by omega)]; exact r10
  have k11 : x3.2.2 0 11 = 376 - r := by rw [hx3, zR22j (by omega), zR22j (by omega)]; exact r11
  have k12 : x3.2.2 0 12 = n := by rw [hx3, zR22j (by omega), zR22j (by omega)]; exact r12
  have k13 : x3.2.2 0 13 = 391 - n := by rw [hx3, zR22j (by omega), zR22j (by omega)]; exact r13
  rw [← hx3, k10, gd_ok (by rcases hr with rfl | rfl <;> rfl)]
  obtain ⟨x4, a1, a2, a3, a4⟩ := x_reset (x := x3) (r := r)
  rw [a1, zbv_some]
  have j12 : x4.2.2 0 12 = n := by rw [a4]; exact k12
  rw [j12, gd_ok (by rcases hn with rfl | rfl <;> rfl)]
  unfold F_X1_clear
  rw [zl_eq, zl_eq, zbv_some]
  obtain ⟨x5, hx5⟩ : ∃ x5, x5 = zL (zI x4 n 2 0) n 3 0 := ⟨_, rfl⟩
  rw [← hx5]
  have b1 : ∀ c, c ≠ n → x5.1 c = x4.1 c := fun c hc => by rw [hx5]; exact zI_n hc
  have b2 : ∀ c, c ≠ n → x5.2.1 c = x4.2.1 c := fun c hc => by rw [hx5, zL_n hc]; rfl
  have b3 : x5.2.2 = x4.2.2 := by rw [hx5]; rfl
  have b4 : x5.1 n 2 = 0 := by rw [hx5]; show (zI x4 n 2 0).1 n 2 = 0; rw [zI_1, upd_s]
  have b5 : x5.2.1 n 3 = 0 := by rw [hx5, zL_1, updL_s]
  have j8 : x5.2.2 0 8 = 354 - pl := by rw [b3, a4]; exact k8
  rw [j8, gd_ok (by rcases hpl with rfl | rfl <;> rfl)]
  unfold F_X7_start
  have hpl' : 354 - pl = 174 ∨ 354 - pl = 180 := by omega
  have q1 : ∀ c, c ≠ n → c ≠ r → c ≠ r + 1 → x5.1 c = x.1 c := fun c h1 h2 h3 => by rw [b1 c h1, a3 c h2 h3, i1]
  have q2 : ∀ c, c ≠ n → x5.2.1 c = x.2.1 c := fun c h1 => by rw [b2 c h1, a4, i2]
  have p5 : RXp x5 D.1 (354 - pl) := by
    obtain ⟨d1, d2, d3, d4, d5⟩ := hp
    exact ⟨by rw [q1 (354 - pl) (by omega) (by omega) (by omega)]; exact d1, by rw [q1 (354 - pl) (by omega) (by omega) (by omega)]; exact d2, by rw [q1 (354 - pl) (by omega) (by omega) (by omega)]; exact d3, fun q hq => by rw [q1 (354 - pl + 1) (by omega) (by omega) (by omega), q1 (354 - pl + 2) (by omega) (by omega) (by omega)]; exact d4 q hq, fun p hp => by rw [q2 (354 - pl) (by omega)]; exact d5 p hp⟩
  obtain ⟨y, c1, c2, c3, c4, c5⟩ := x_start4 (x := x5) (u := stU D) (pl := 354 - pl) hw.1 p5 hpl' (stU_ok hw).1 (stU_3 D (by omega)) (stU_3 D (by omega)) (stU_3 D (by omega)) (fun p hp => by rw [q1 (354 - pl + 3) (by omega) (by omega) (by omega), q1 (354 - pl + 4) (by omega) (by omega) (by omega), q1 (354 - pl + 5) (by omega) (by omega) (by omega)]; exact hc p hp)
  rw [show F_X4_start x5 (3 + 1) (354 - pl) = F_X4_start x5 4 (354 - pl) from rfl, c1, zbv_some, zl_eq, zbv_some, zl_eq, zl_eq]
  obtain ⟨z, hz⟩ : ∃ z, z = zI (zI (zI y 3 1 0) 0 14 0) 0 15 0 := ⟨_, rfl⟩
  rw [← hz]
  have e1 : ∀ c, c ≠ 0 → c ≠ 3 → z.1 c = y.1 c := fun c h1 h2 => by rw [hz, zI_n h1, zI_n h1, zI_n h2]
  have e2 : z.2 = y.2 := by rw [hz]; rfl
  have e3 : ∀ j, j ≠ 14 → j ≠ 15 → z.1 0 j = x.1 0 j := fun j h1 h2 => by rw [hz, zI_s h2, zI_s h1, zI_n (by omega), c3 0 (by omega), q1 0 (by omega) (by omega) (by omega)]
  have e4 : z.2.2 = x3.2.2 := by rw [e2, c5, b3, a4]
  have e5 : ∀ c, c ≠ 0 → ¬ (3 ≤ c ∧ c ≤ 7) → c ≠ n → c ≠ r → c ≠ r + 1 → z.1 c = x.1 c := fun c h1 h2 h3 h4 h5 => by rw [e1 c h1 (by omega), c3 c (by omega), q1 c h3 h4 h5]
  have z8 : z.2.2 0 8 = 354 - pl := by rw [e4]; exact k8
  rw [z8, gd_ok (by rcases hpl with rfl | rfl <;> rfl)]
  have zp : RXp z D.1 (354 - pl) := by
    obtain ⟨d1, d2, d3, d4, d5⟩ := hp
    refine ⟨?_, ?_, ?_, fun q hq => ?_, fun p hp => ?_⟩
    · rw [e5 (354 - pl) (by omega) (by omega) (by omega) (by omega) (by omega)]; exact d1
    · rw [e5 (354 - pl) (by omega) (by omega) (by omega) (by omega) (by omega)]; exact d2
    · rw [e5 (354 - pl) (by omega) (by omega) (by omega) (by omega) (by omega)]; exact d3
    · rw [e5 (354 - pl + 1) (by omega) (by omega) (by omega) (by omega) (by omega), e5 (354 - pl + 2) (by omega) (by omega) (by omega) (by omega) (by omega)]; exact d4 q hq
    · rw [e2, c4 (354 - pl) (by omega), q2 (354 - pl) (by omega)]; exact d5 p hp
  refine ⟨z, by rw [zp.2.2.1], ⟨zp, ⟨?_, fun k hk => ?_⟩, z8, by rw [e4]; exact k10, hpl', hr⟩, ⟨?_, by rw [e4]; exact k11, by rw [e4]; exact k12, by rw [e4]; exact k13, hn⟩, ⟨?_, fun k hk => absurd hk (Nat.not_lt_zero _), fun p hp => ?_⟩, ⟨?_, ?_, fun k hk => absurd hk (Nat.not_lt_zero _)⟩, ?_, fun i hi => absurd hi (Nat.not_lt_zero _), ?_, fun k hk => absurd hk (Nat.not_lt_zero _), ?_, ?_, ?_, ?_⟩
  · rw [e1 r (by omega) (by omega), c3 r (by omega), b1 r (by omega)]; exact a2.1
  · rw [e1 (r + 1) (by omega) (by omega), c3 (r + 1) (by omega), b1 (r + 1) (by omega)]; exact a2.2 k hk
  · rw [e4, k9]; omega
  · rw [e1 n (by omega) (by omega), c3 n (by omega), b4]; rfl
  · rw [e2, c4 n (by omega), b5, tb_0]; rfl
  · rw [hz, zI_n (by omega), zI_n (by omega), zI_1, upd_s]; rfl
  · exact RXr.same (x := y) (fun a h1 h2 => e1 a (by omega) (by omega)) (by rw [e2]) c2
  · rw [hz, zI_s (by omega), zI_1, upd_s]; rfl
  · rw [e5 1 (by omega) (by omega) (by omega) (by omega) (by omega)]; exact hT
  · rw [e5 1 (by omega) (by omega) (by omega) (by omega) (by omega)]; exact hF
  · rw [hz, zI_1, upd_s]; rfl
  · rw [e3 16 (by omega) (by omega)]; exact h16
  · rw [e3 17 (by omega) (by omega)]; exact h17
theorem q_works {x m : zMem} {S : SS} (a : Int32) (hX : RXo x S) (hM : RMn m S) (ok : okS S) : same T1 (F_X9_works x a) (F_X10_works m a) := by
  obtain ⟨pl, r, n, h⟩ := hX
  have hM1 := hM.t ok
  have x11 := h.2.2.2.2.2.2.1
  have x2 := h.2.2.2.2.2.2.2.1
  have m01 := hM1.2.2.2.2.2.2.1
  have m1 := hM1.2.2.2.2.2.2.2.1
  have hT := ok.2.2.2.2.2.2.1
  have hpl := h.1.2.2.2.2.1
  have hr := h.1.2.2.2.2.2
  have h8 := h.1.2.2.1
  have h9 := h.2.1.1
  have hn := h.2.1.2.2.2.2
  unfold F_X9_works F_X10_works
  rw [zl_eq, m01, show (600 : Int32) = nI 600 from rfl]
  rcases txt_rng a (M := 600) (T := sT S) (by omega) (by omega) with ⟨E, h1, h2, rfl⟩ | ⟨hne, hb⟩
  · have ht := ok.txt h2
    obtain ⟨x1, a1, a2, a3, a4, a5⟩ := x_open (x := x) (B := sY S) (E := E) ht.1 (fun k hk => x2 k (by omega))
    obtain ⟨x2', b1, b2, b3, b4⟩ := x_wkRead (x := x1) (t := 354 - pl) ht (by omega) a2
    obtain ⟨y1, c1, c2, c3, c4, c5, c6, c7⟩ := m_starts (x := zI m 0 0 0) ht (fun k hk => m1 k (by omega))
    obtain ⟨y2, t1, t2, t3, t4⟩ := m_tellsNothing (m := y1)
    obtain ⟨oP, oF, oW⟩ := rw_ok (B := sY S) (E := E) 61
    have mr := m_wkRead (m := y2) (B := sY S) (E := E) (a := nI E) (Q := fun q => q.2.1 0 0 = 0 ∧ ((rdW (sY S) E 61).1.1 = 0 → q.1 = nI (pn (rdW (sY S) E 61).2.1) ∧ RMn q.2 (SW S (rdW (sY S) E 61).2 (-1))) ∧ ((rdW (sY S) E 61).1.1 ≠ 0 → q.1 = nI (rdW (sY S) E 61).1.1 - 10 ∧ RMn q.2 (SZ S (rdW (sY S) E 61).1.2.1))) ht
      (by
        obtain ⟨d1, d2, d3, d4, d5, d6, d7⟩ := c2
        exact ⟨by rw [t3 0 (by omega) (by omega)]; exact d1, by rw [t3 0 (by omega) (by omega)]; exact d2, by rw [t3 0 (by omega) (by omega)]; exact d3, fun k hk => by rw [t3 1 (by omega) (by omega)]; exact d4 k hk, d5, by rw [t3 0 (by omega) (by omega)]; exact d6, d7⟩) t2 (by rw [t3 0 (by omega) (by omega)]; exact c4)
    generalize hrk : rdW (sY S) E 61 = rk at *
    obtain ⟨P, D⟩ := rk
    dsimp only at *
    have hP3 := oP.1
    have fz : frZ pl r n x x2' := by
      refine ⟨fun c k1 k2 => ?_, fun c k2 => ?_, ?_⟩
      · unfold spare at k2
        rw [b3.1 c k1 (by omega), a4 c k1]
      · unfold spare at k2
        rw [b3.2.2.1 c (by omega), a5]
      · rw [b3.2.2.2, a5]
    have xT : x2'.1 1 1 = 0 := by rw [b3.2.1 1 (by omega) (by omega) (by omega) (by omega) (by omega)]; exact a3
    have hw := mr (fun y g1 g2 g3 => by
      have yf : ∀ c, c ≠ 0 → c ≠ 3 → c ≠ 5 → ¬ (6 < c ∧ c < 17) → y.1 c = m.1 c := fun c k1 k2 k3 k4 => by rw [g2.1 c k1 k2 k3 k4, t3 c k2 k3, c6 c k1, zI_n k1]
      have y0 : ∀ j, j = 0 ∨ j = 3 ∨ 8 < j → y.1 0 j = (zI m 0 0 0).1 0 j := fun j hj => by rw [g2.2.1 j (by omega) (by omega) (by omega) (by omega), t3 0 (by omega) (by omega), c7 j hj]
      have y00 : y.1 0 0 = 0 := by rw [y0 0 (by omega)]; exact t0_0
      have y01 : y.1 0 1 = 0 := by rw [g2.2.1 1 (by omega) (by omega) (by omega) (by omega), t3 0 (by omega) (by omega)]; exact c3
      unfold F_X10_works_71
      rw [g1.1, ie0 (by omega)]
      by_cases z : P.1 = 0
      · obtain ⟨d1, d2, d3, d4, d5⟩ := g3 z
        have gd' : RMd (zI y 0 3 (-1)) D := ⟨by rw [zI_n (by omega)]; exact d1, by rw [zI_n (by omega)]; exact d2, by rw [zI_n (by omega)]; exact d3, fun h hh => by rw [zI_n (by omega)]; exact d4 h hh, fun i hi => by rw [zI_n (by omega)]; exact d5 i hi⟩
        obtain ⟨y3, l1, l2, l3, l4, l5, l6, l7, l8, l9, l10⟩ := m_begins gd' (oW z)
        rw [if_pos z, zl_eq, l1, zbv_some, wp_some]
        have mm := hM1.2.2.2.2.2.2.2.2.2.2
        refine ⟨?_, fun _ => ⟨l2.2.2.1, l2, ⟨l6, fun k hk => absurd hk (Nat.not_lt_zero _)⟩, ⟨l7, fun k hk => absurd hk (Nat.not_lt_zero _)⟩, ⟨l8, l3, fun k hk => absurd hk (Nat.not_lt_zero _)⟩, l10, fun i hi => absurd hi (Nat.not_lt_zero _), ?_, fun k hk => absurd hk (Nat.not_lt_zero _), ?_, l9, ?_, ?_⟩, fun w => absurd z w⟩
        · rw [l5 0 (by omega) (by omega) (by omega) (by omega) (by omega), zI_s (by omega)]; exact y00
        · rw [l5 1 (by omega) (by omega) (by omega) (by omega) (by omega), zI_s (by omega)]; exact y01
        · rw [l5 3 (by omega) (by omega) (by omega) (by omega) (by omega), zI_1, upd_s]; rfl
        · rw [l4 2 (by omega) (by omega) (by omega) (by omega), zI_n (by omega), yf 2 (by omega) (by omega) (by omega) (by omega)]; exact hM.2.2.2.2.2.2.2.2.2.2.1
        · rw [l4 2 (by omega) (by omega) (by omega) (by omega), zI_n (by omega), yf 2 (by omega) (by omega) (by omega) (by omega)]; exact hM.2.2.2.2.2.2.2.2.2.2.2
      · unfold F_X10_ends
        rw [if_neg z, zl_eq, zb_some, wp_some]
        dsimp only
        refine ⟨?_, fun w => absurd w z, fun _ => ⟨?_, ?_⟩⟩
        · rw [zI_s (by omega)]; exact y00
        · rw [zI_s (by omega), g1.1]
        · rw [g1.2.1]
          refine hM1.setZ ok (fun c k1 k2 => ?_) (fun j k1 => ?_) ?_ ?_
          · rw [zI_n k1, yf c k1 (by omega) (by omega) (by omega), zI_n k1]
          · rw [zI_s (by omega), y0 j (by omega)]
          · rw [zI_s (by omega)]; exact y01
          · rw [zI_1, upd_s])
    obtain ⟨⟨v, y⟩, j1, j2, j3, j4⟩ := hw
    dsimp only at j2 j3 j4
    have em : (zb (F_X10_in (zI m 0 0 0) (nI E) 0 (nI (sT S))) fun v13 M12 => if v13 = 0 then F_X10_works_23 (nI E) (nI E) 1 M12 else F_X10_works_23 (nI E) (nI E) 0 M12) = some (v, y) := by
      rw [show F_X10_in (zI m 0 0 0) (nI E) (0 : Int32) (nI (sT S)) = _ from m_inY _ (Nat.zero_le _) h2 (by omega), zb_some]
      dsimp only
      rw [if_neg (by decide)]
      unfold F_X10_works_23
      rw [m_bad0 t0_0, zb_some]
      dsimp only
      rw [if_pos rfl, c1, zbv_some, t1, zbv_some]
      exact j1
    rw [x_ntY h1 h2 (by omega) (by omega) x11, zbx_0, a1, zbv_some]
    have r9 : x1.2.2 0 9 = 354 - pl := by rw [a5]; exact h9
    have fs : ∀ j, x2'.2.2 0 j = x.2.2 0 j := fun j => by rw [b3.2.2.2, a5]
    rw [r9, gd_ok (by rcases hpl with rfl | rfl <;> rfl), b1, zbv_some, b2.1, ie0 (by omega), em]
    by_cases z : P.1 = 0
    · obtain ⟨k1, k2⟩ := j3 z
      obtain ⟨w1, w2⟩ := b4 z
      obtain ⟨u, u1, u2⟩ := x_wk2 (x := x2') (S := S) (D := D) (F := -1) (oW z) hpl hr hn w1 w2 (by rw [fs]; exact h8) (by rw [fs]; exact h9) (by rw [fs]; exact h.1.2.2.2.1) (by rw [fs]; exact h.2.1.2.1) (by rw [fs]; exact h.2.1.2.2.1) (by rw [fs]; exact h.2.1.2.2.2.1) xT (by rw [b2.2.1]; exact oF z)
        (by rw [b3.1 0 (by omega) (by omega), a4 0 (by omega)]; exact h.2.2.2.2.2.2.2.2.2.2.1) (by rw [b3.1 0 (by omega) (by omega), a4 0 (by omega)]; exact h.2.2.2.2.2.2.2.2.2.2.2)
      unfold F_wk2 at u1
      rw [if_pos z, u1]
      exact ⟨0, _, _, _, _, 0, _, rfl, rfl, j2, Or.inl ⟨rfl, rfl⟩, fun _ => k1.symm, ⟨354 - pl, r, n, u2⟩, k2, okS.setW (oW z)⟩
    · obtain ⟨k1, k2⟩ := j4 z
      have xz : RXn x2' (SZ S P.2.1) pl r n := h.setZ ok fz xT b2.2.1
      rw [if_neg z]
      exact ⟨0, _, _, _, _, 0, _, rfl, rfl, j2, Or.inl ⟨rfl, rfl⟩, fun _ => k1.symm, ⟨pl, r, n, xz⟩, k2, ok.setZ⟩
  · have bad : F_X10_works_23 a a 1 (zI m 0 0 0) = some (0, zI (zI (zI m 0 0 0) 0 0 (nI 1)) 2 1 ((zI m 0 0 0).1 2 1 + 1)) := by
      unfold F_X10_works_23
      rw [m_bad11 t0_0, zb_some]
      rfl
    have em : (zb (F_X10_in (zI m 0 0 0) a 0 (nI (sT S))) fun v13 M12 => if v13 = 0 then F_X10_works_23 a a 1 M12 else F_X10_works_23 a a 0 M12) = some (0, zI (zI (zI m 0 0 0) 0 0 (nI 1)) 2 1 ((zI m 0 0 0).1 2 1 + 1)) := by
      rcases hb with hb | ⟨k, k1, k2, rfl⟩
      · rw [m_inN _ hb, zb_some]
        dsimp only
        rw [if_pos rfl, bad]
      · omega
    rw [em, x_ntN (by omega) (by omega) x11 hne]
    exact same_1 h hM1 ok (Or.inr ⟨rfl, rfl⟩) (frQ.refl) (frN.refl) rfl rfl
