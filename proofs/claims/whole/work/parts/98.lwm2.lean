/-! law: the reference's units, its recursion -/
theorem m_opensY {m : zMem} {B : Nat → Nat} {E o : Nat} {P : PS} (h : TMa m B E P P.2.2) (z : P.1 = 0) (h8 : m.1 0 8 = nI o) (ho : o < 6) : F_X10_opensOne m = some (1, zI m 0 8 (nI (o + 1))) := by
  unfold F_X10_opensOne
  have h5 := h.1
  rw [h5, ie0 (by omega), if_pos z, h8, show (6 : Int32) = nI 6 from rfl, ieq (by omega) (by omega), if_neg (by omega)]
  unfold F_X10_opensOne_28
  rw [h5, ie0 (by omega), if_pos z, h8, zl_eq, nI_1]
  unfold F_X10_opensOne_45
  rw [zI_s (by omega), h5, ie0 (by omega), if_pos z]
theorem m_opensN {m : zMem} {B : Nat → Nat} {E : Nat} {P : PS} (h : TMa m B E P P.2.2) (z : P.1 = 0) (h8 : m.1 0 8 = nI 6) : ∃ y, F_X10_opensOne m = some (0, y) ∧ TM y B E (flS 3 (nI P.2.2) P) ∧ frTM m y := by
  unfold F_X10_opensOne
  have h5 := h.1
  obtain ⟨y, a1, a2, a3⟩ := m_wrong (c := 3) (v := nI P.2.2) h.t (by omega) (by omega)
  rw [h5, ie0 (by omega), if_pos z, h8, show (6 : Int32) = nI 6 from rfl, if_pos rfl, show (3 : Int32) = nI 3 from rfl, h.2.2.2.2.2.1, a1, zbv_some]
  unfold F_X10_opensOne_45
  have a21 := a2.1
  have e : (flS 3 (nI P.2.2) P).1 = 3 := by unfold flS; rw [if_pos z]
  rw [e] at a21
  rw [a21, ie0 (by omega), if_neg (by omega)]
  exact ⟨y, rfl, a2, a3⟩
theorem m_known {m : zMem} {B : Nat → Nat} {E : Nat} {P : PS} (ht : okT B E) (hP : okP B E P) (h : TM m B E P) :
    ∃ y, F_X10_knownHere m = some (if nmS B E P = 8 then -1 else nI (nmS B E P), y) ∧ TM y B E (if nmS B E P = 8 then P else wdS B E P) ∧ frTM m y := by
  unfold F_X10_knownHere
  obtain ⟨y7, a1, a2, a3, -⟩ := m_takes (i := 7) ht (by omega) (by omega) six_7 hP.1 h
  rw [a1, zb_some]
  dsimp only
  rw [ibI]
  by_cases c7 : isW 7 B E P = true
  · have e : nmS B E P = 0 := by unfold nmS; rw [if_pos c7]
    rw [if_pos c7] at a2
    rw [if_neg (by rw [c7]; decide), e, if_neg (by omega), if_neg (by omega)]
    exact ⟨y7, rfl, a2, a3⟩
  rw [if_neg c7] at a2
  obtain ⟨y8, b1, b2, b3, -⟩ := m_takes (i := 8) ht (by omega) (by omega) six_8 hP.1 a2
  have f8 := a3.trans b3
  rw [if_pos (by simpa using c7), b1, zb_some]
  dsimp only
  rw [ibI]
  by_cases c8 : isW 8 B E P = true
  · have e : nmS B E P = 1 := by unfold nmS; rw [if_neg c7, if_pos c8]
    rw [if_pos c8] at b2
    rw [if_neg (by rw [c8]; decide), e, if_neg (by omega), if_neg (by omega)]
    exact ⟨y8, rfl, b2, f8⟩
  rw [if_neg c8] at b2
  obtain ⟨y9, d1, d2, d3, -⟩ := m_takes (i := 9) ht (by omega) (by omega) six_9 hP.1 b2
  have f9 := f8.trans d3
  rw [if_pos (by simpa using c8), d1, zb_some]
  dsimp only
  rw [ibI]
  by_cases c9 : isW 9 B E P = true
  · have e : nmS B E P = 2 := by unfold nmS; rw [if_neg c7, if_neg c8, if_pos c9]
    rw [if_pos c9] at d2
    rw [if_neg (by rw [c9]; decide), e, if_neg (by omega), if_neg (by omega)]
    exact ⟨y9, rfl, d2, f9⟩
  rw [if_neg c9] at d2
  obtain ⟨y10, e1, e2, e3, -⟩ := m_takes (i := 10) ht (by omega) (by omega) six_10 hP.1 d2
  have f10 := f9.trans e3
  rw [if_pos (by simpa using c9), e1, zb_some]
  dsimp only
  rw [ibI]
  by_cases c10 : isW 10 B E P = true
  · have e : nmS B E P = 3 := by unfold nmS; rw [if_neg c7, if_neg c8, if_neg c9, if_pos c10]
    rw [if_pos c10] at e2
    rw [if_neg (by rw [c10]; decide), e, if_neg (by omega), if_neg (by omega)]
    exact ⟨y10, rfl, e2, f10⟩
  rw [if_neg c10] at e2
  obtain ⟨y2, g1, g2, g3, -⟩ := m_takes (i := 2) ht (by omega) (by omega) six_2 hP.1 e2
  have f2 := f10.trans g3
  rw [if_pos (by simpa using c10), g1, zb_some]
  dsimp only
  rw [ibI]
  by_cases c2 : isW 2 B E P = true
  · have e : nmS B E P = 4 := by unfold nmS; rw [if_neg c7, if_neg c8, if_neg c9, if_neg c10, if_pos c2]
    rw [if_pos c2] at g2
    rw [if_neg (by rw [c2]; decide), e, if_neg (by omega), if_neg (by omega)]
    exact ⟨y2, rfl, g2, f2⟩
  rw [if_neg c2] at g2
  obtain ⟨y11, i1, i2, i3, -⟩ := m_takes (i := 11) ht (by omega) (by omega) six_11 hP.1 g2
  have f11 := f2.trans i3
  rw [if_pos (by simpa using c2), i1, zb_some]
  dsimp only
  rw [ibI]
  by_cases c11 : isW 11 B E P = true
  · have e : nmS B E P = 5 := by unfold nmS; rw [if_neg c7, if_neg c8, if_neg c9, if_neg c10, if_neg c2, if_pos c11]
    rw [if_pos c11] at i2
    rw [if_neg (by rw [c11]; decide), e, if_neg (by omega), if_neg (by omega)]
    exact ⟨y11, rfl, i2, f11⟩
  rw [if_neg c11] at i2
  obtain ⟨y12, j1, j2, j3, -⟩ := m_takes (i := 12) ht (by omega) (by omega) six_12 hP.1 i2
  have f12 := f11.trans j3
  rw [if_pos (by simpa using c11), j1, zb_some]
  dsimp only
  rw [ibI]
  by_cases c12 : isW 12 B E P = true
  · have e : nmS B E P = 6 := by unfold nmS; rw [if_neg c7, if_neg c8, if_neg c9, if_neg c10, if_neg c2, if_neg c11, if_pos c12]
    rw [if_pos c12] at j2
    rw [if_neg (by rw [c12]; decide), e, if_neg (by omega), if_neg (by omega)]
    exact ⟨y12, rfl, j2, f12⟩
  rw [if_neg c12] at j2
  obtain ⟨y13, k1, k2, k3, -⟩ := m_takes (i := 13) ht (by omega) (by omega) six_13 hP.1 j2
  have f13 := f12.trans k3
  rw [if_pos (by simpa using c12), k1, zb_some]
  dsimp only
  rw [ibI]
  by_cases c13 : isW 13 B E P = true
  · have e : nmS B E P = 7 := by unfold nmS; rw [if_neg c7, if_neg c8, if_neg c9, if_neg c10, if_neg c2, if_neg c11, if_neg c12, if_pos c13]
    rw [if_pos c13] at k2
    rw [if_neg (by rw [c13]; decide), e, if_neg (by omega), if_neg (by omega)]
    exact ⟨y13, rfl, k2, f13⟩
  rw [if_neg c13] at k2
  have e : nmS B E P = 8 := by unfold nmS; rw [if_neg c7, if_neg c8, if_neg c9, if_neg c10, if_neg c2, if_neg c11, if_neg c12, if_neg c13]
  rw [if_pos (by simpa using c13), e, if_pos rfl, if_pos rfl]
  exact ⟨y13, rfl, k2, f13⟩
theorem lw_sub1 (o : Nat) : nI (o + 1) - 1 = nI o := by
  rw [show (1 : Int32) = nI 1 from rfl, iI_subN, iI_nat]
  congr 1
  omega
theorem mg_tw {m : zMem} {B : Nat → Nat} {E o f i k : Nat} {u : ZL → ZL} {z : ZL} {p : zMem → Option zMem} (ht : okT B E) (hE : E ≤ 150) (hof : o + f = 6) (hu : f ≠ 0 → GG B E u) (hp : f ≠ 0 → MG B E (o + 1) u p) (h1 : okP B E z.1) (h2 : okF z.1) (hl : lq z)
    (hw : isW i B E z.1 = true) (i1 : 1 ≤ i) (i2 : i < 19) (k1 : 2 ≤ k) (k2 : k ≤ 8) (hT : TMa m B E z.1 z.1.2.2) (hq : RMq m z) (h8 : m.1 0 8 = nI o) :
    ∃ y, F_X10_one_56 p (nI k) m = some y ∧ TM y B E (twS B E f u z k).1 ∧ frMl m y ∧ RMq y (twS B E f u z k) ∧ ((twS B E f u z k).1.1 = 0 → y.1 0 8 = nI o) := by
  have z0 := (isW_lt hw i1 i2 h1).1
  unfold F_X10_one_56 twS
  rw [if_neg (fun q => (ya_ne_m1 (a := k) (by omega)).mp q)]
  by_cases c : f = 0
  · obtain ⟨y, a1, a2, a3⟩ := m_opensN hT z0 (by rw [h8]; congr 1; omega)
    rw [a1, zb_some]
    dsimp only
    rw [if_pos rfl, if_pos c]
    have ne : ¬ (flS 3 (nI z.1.2.2) z.1).1 = 0 := by unfold flS; rw [if_pos z0]; exact fun w => absurd (show (3 : Nat) = 0 from w) (by decide)
    exact ⟨y, rfl, a2, a3.l, fun q => absurd q ne, fun q => absurd q ne⟩
  · have hu := hu c
    have hp := hp c
    rw [m_opensY hT z0 h8 (by omega), zb_some]
    dsimp only
    rw [if_neg (by decide), if_neg c]
    have g1 := pg_wd h1 h2 hw i1 i2
    have g2 := pg_sg (B := B) (E := E) (c := 91) (z := (wdS B E z.1, z.2)) g1.1 g1.2.1 (by omega)
    have g12 := g1.trans g2
    have g3 := (hu _ g2.1 g2.2.1).1
    have g13 := g12.trans g3
    have g4 := pg_sg (B := B) (E := E) (c := 44) g3.1 g3.2.1 (by omega)
    have g14 := g13.trans g4
    have g5 := (hu _ g4.1 g4.2.1).1
    have g15 := g14.trans g5
    have g6 := pg_sg (B := B) (E := E) (c := 93) g5.1 g5.2.1 (by omega)
    have g7 : PG B E 2 4 z (twE B E u z) := g15.trans g6
    have t1 : TMa (zI m 0 8 (nI (o + 1))) B E z.1 z.1.2.2 := by
      obtain ⟨e1, e2, e3, e4, e5, e6, e7⟩ := hT
      exact ⟨by rw [zI_s (by omega)]; exact e1, by rw [zI_s (by omega)]; exact e2, by rw [zI_s (by omega)]; exact e3, fun j hj => by rw [zI_n (by omega)]; exact e4 j hj, e5, by rw [zI_s (by omega)]; exact e6, e7⟩
    obtain ⟨y1, b1, b2, b3⟩ := m_skipWord ht t1 z0
    have o1 : y1.1 0 8 = nI (o + 1) := by rw [b3.o8, zI_1, upd_s]
    obtain ⟨y2, c1, c2, c3⟩ := m_sign (c := 91) ht g1.1.1 (by omega) b2.t
    obtain ⟨y3, d1, d2, d3, d4, d5⟩ := hp y2 (sgS B E (nI 91) (wdS B E z.1), z.2) g2.1 g2.2.1 (g12.lq hl) c2 ((c3.rq (b3.rq hq.z8)).ch (fun q => ⟨z0, rfl⟩)) (fun _ => by rw [c3.o8]; exact o1)
    obtain ⟨y4, e1, e2, e3⟩ := m_sign (c := 44) ht g3.1.1 (by omega) d2
    obtain ⟨y5, f1, f2, f3, f4, f5⟩ := hp y4 _ g4.1 g4.2.1 (g14.lq hl) e2 ((e3.rq d4).ch (fun q => ⟨sg_0 q, rfl⟩)) (fun q => by rw [e3.o8]; exact d5 (sg_0 q))
    obtain ⟨y6, j1, j2, j3⟩ := m_sign (c := 93) ht g5.1.1 (by omega) f2
    obtain ⟨y7, l1, l2, l3, l4, l5⟩ := m_notes (z := twE B E u z) (ki := k) (va := 0) (v := 0) j2 g7.1.1 ((j3.rq f4).ch (fun q => ⟨sg_0 q, rfl⟩)) (PG.room (e := 3) g7 hl hE) (fun _ => rfl)
    rw [b1, zbv_some, show (91 : Int32) = nI 91 from rfl, c1, zbv_some, d1, zbv_some, show (44 : Int32) = nI 44 from rfl, e1, zbv_some, f1, zbv_some, show (93 : Int32) = nI 93 from rfl, j1, zbv_some, l1, zbv_some, zl_eq]
    refine ⟨_, rfl, l2.z7 (by omega), ?_, l4.z8, fun q => ?_⟩
    · exact (((((((frMl.z8.trans b3.l).trans c3.l).trans d3).trans e3.l).trans f3).trans j3.l).trans l3).trans frMl.z8
    · have q' : (twE B E u z).1.1 = 0 := q
      rw [zI_1, upd_s, l5, j3.o8, f5 (sg_0 q'), lw_sub1]
theorem mg_un {B : Nat → Nat} {E o f : Nat} {u : ZL → ZL} {p : zMem → Option zMem} (ht : okT B E) (hE : E ≤ 150) (hof : o + f = 6) (hu : f ≠ 0 → GG B E u) (hp : f ≠ 0 → MG B E (o + 1) u p) : MG B E o (unS B E f u) (fun M => F_X10_one_r M p) := by
  intro m z h1 h2 hl hT hq h8
  show ∃ y, F_X10_one_r m p = some y ∧ _
  unfold F_X10_one_r
  have hP3 := h1.1
  rw [hT.1, ie0 (by omega)]
  by_cases z0 : z.1.1 = 0
  · obtain ⟨y1, a1, a2, a3, a4⟩ := m_rest ht hT
    obtain ⟨y2, b1, b2, b3, b4⟩ := m_isWord (i := 5) ht (by omega) (by omega) six_5 h1.1 a2
    have f2 := a3.trans b3
    have o2 : y2.1 0 8 = nI o := by rw [f2.o8]; exact h8 z0
    rw [if_pos z0, a1, zbv_some, b1, zb_some]
    dsimp only
    rw [ibI]
    by_cases c5 : isW 5 B E z.1 = true
    · obtain ⟨-, -, w3⟩ := isW_lt c5 (by omega) (by omega) h1
      obtain ⟨n1, n2⟩ := lt_no w3
      have e : unS B E f u z = twS B E f u z 7 := by
        unfold unS
        rw [if_pos z0, if_neg (by rw [n1]; decide), if_neg (fun q => n2 (hasB_0 q).2.2), if_pos c5]
      obtain ⟨y, d1, d2, d3, d4, d5⟩ := mg_tw (k := 7) ht hE hof hu hp h1 h2 hl c5 (by omega) (by omega) (by omega) (by omega) (b4 z0) (f2.rq hq) o2
      rw [if_neg (by rw [c5]; decide), show (7 : Int32) = nI 7 from rfl, d1, e]
      exact ⟨y, rfl, d2, f2.l.trans d3, d4, d5⟩
    obtain ⟨y3, d1, d2, d3, d4⟩ := m_isWord (i := 6) ht (by omega) (by omega) six_6 h1.1 b2
    have f3 := f2.trans d3
    have o3 : y3.1 0 8 = nI o := by rw [f3.o8]; exact h8 z0
    rw [if_pos (by simpa using c5), d1, zb_some]
    dsimp only
    rw [ibI]
    by_cases c6 : isW 6 B E z.1 = true
    · obtain ⟨-, -, w3⟩ := isW_lt c6 (by omega) (by omega) h1
      obtain ⟨n1, n2⟩ := lt_no w3
      have e : unS B E f u z = twS B E f u z 8 := by
        unfold unS
        rw [if_pos z0, if_neg (by rw [n1]; decide), if_neg (fun q => n2 (hasB_0 q).2.2), if_neg c5, if_pos c6]
      obtain ⟨y, e1, e2, e3, e4, e5⟩ := mg_tw (k := 8) ht hE hof hu hp h1 h2 hl c6 (by omega) (by omega) (by omega) (by omega) (d4 z0) (f3.rq hq) o3
      rw [if_neg (by rw [c6]; decide), show (8 : Int32) = nI 8 from rfl, e1, e]
      exact ⟨y, rfl, e2, f3.l.trans e3, e4, e5⟩
    have ta := d4 z0
    have hpos := (h1.2 z0).1
    have hE600 := ht.1
    rw [if_pos (by simpa using c6)]
    unfold F_X10_one_56
    rw [if_pos rfl, ta.2.2.2.2.2.1, m_byteAt ht ta (by omega), zb_some]
    dsimp only
    by_cases ch : hasB B E z.1 40 = true
    · obtain ⟨-, p1, p2⟩ := hasB_0 ch
      have nd : isDg B E z.1.2.2 = false := by
        unfold isDg
        rw [p2, decide_eq_false (p := 48 ≤ 40) (by omega), Bool.false_and, Bool.and_false]
      have e : unS B E f u z = paS B E f u z := by unfold unS; rw [if_pos z0, if_neg (by rw [nd]; decide), if_pos ch]
      rw [if_pos (show byS B E z.1.2.2 = 40 from (bS_eq ht (c := 40) (by omega)).mpr ⟨p1, p2⟩), e]
      unfold paS
      by_cases c : f = 0
      · obtain ⟨y, e1, e2, e3⟩ := m_opensN ta z0 (by rw [o3]; congr 1; omega)
        rw [e1, zb_some]
        dsimp only
        rw [if_pos rfl, if_pos c]
        have ne : ¬ (flS 3 (nI z.1.2.2) z.1).1 = 0 := by unfold flS; rw [if_pos z0]; exact fun w => absurd (show (3 : Nat) = 0 from w) (by decide)
        exact ⟨y, rfl, e2, f3.l.trans e3.l, fun q => absurd q ne, fun q => absurd q ne⟩
      · have hu := hu c
        have hp := hp c
        rw [m_opensY ta z0 o3 (by omega), zb_some]
        dsimp only
        rw [if_neg (by decide), if_neg c, zI_s (by omega), ta.2.2.2.2.2.1, zl_eq, nI_1]
        have g2 := pg_sg (B := B) (E := E) (c := 40) (z := z) h1 h2 (by omega)
        have g3 := (hu _ g2.1 g2.2.1).1
        have sk' := sk_p (B := B) (E := E) (a := z.1.2.2 + 1) (by omega)
        have es : sgS B E (nI 40) z.1 = (0, z.1.2.1, sk B E (z.1.2.2 + 1)) := by unfold sgS; rw [if_pos z0, if_pos ((bS_eq ht (by omega)).mpr ⟨p1, p2⟩)]
        have t1 : TM (zI (zI y3 0 8 (nI (o + 1))) 0 4 (nI (z.1.2.2 + 1))) B E (sgS B E (nI 40) z.1) := by
          rw [es]
          obtain ⟨e1, e2, e3, e4, e5, e6, e7⟩ := ta
          refine ⟨?_, ?_, ?_, fun j hj => ?_, z.1.2.2 + 1, by omega, by rw [zI_1, upd_s], fun _ => rfl⟩
          · rw [zI_s (by omega), zI_s (by omega), e1, z0]
          · rw [zI_s (by omega), zI_s (by omega)]; exact e2
          · rw [zI_s (by omega), zI_s (by omega)]; exact e3
          · rw [zI_n (by omega), zI_n (by omega)]; exact e4 j hj
        have fz : frMl m (zI (zI y3 0 8 (nI (o + 1))) 0 4 (nI (z.1.2.2 + 1))) := (f3.l.trans frMl.z8).trans (frTM.s (by omega)).l
        have rz : RMq (zI (zI y3 0 8 (nI (o + 1))) 0 4 (nI (z.1.2.2 + 1))) z := (frTM.s (by omega)).rq (f3.rq hq).z8
        obtain ⟨y4, j1, j2, j3, j4, j5⟩ := hp _ (sgS B E (nI 40) z.1, z.2) g2.1 g2.2.1 (g2.lq hl) t1 (rz.ch (fun q => ⟨z0, rfl⟩)) (fun _ => by rw [zI_s (by omega), zI_1, upd_s])
        obtain ⟨y5, l1, l2, l3⟩ := m_sign (c := 41) ht g3.1.1 (by omega) j2
        rw [j1, zbv_some, show (41 : Int32) = nI 41 from rfl, l1, zbv_some, zl_eq]
        refine ⟨_, rfl, l2.z7 (by omega), ((fz.trans j3).trans l3.l).trans frMl.z8, RMq.z8 ((l3.rq j4).ch (fun q => ⟨sg_0 q, rfl⟩)), fun q => ?_⟩
        rw [zI_1, upd_s, l3.o8, j5 (sg_0 q), lw_sub1]
    · obtain ⟨y4, e1, e2, e3⟩ := m_known ht h1 d2
      have f4 := f3.trans e3
      have o4 : y4.1 0 8 = nI o := by rw [f4.o8]; exact h8 z0
      rw [if_neg (fun q => ch (by
        obtain ⟨p1, p2⟩ := (bS_eq ht (by omega)).mp (show byS B E z.1.2.2 = nI 40 from q)
        unfold hasB
        rw [decide_eq_true z0, decide_eq_true p1, decide_eq_true p2]
        rfl)), e1, zb_some]
      dsimp only
      by_cases c8 : nmS B E z.1 = 8
      · rw [if_pos c8] at e2
        rw [if_pos c8, if_pos rfl]
        obtain ⟨v, y5, j1, j2, j3, j4, j5⟩ := m_number (lo := 0) (hi := 999) ht h1.1 (by omega) (by omega) e2
        have g1 := pg_nu (B := B) (E := E) (lo := 0) (hi := 999) (z := z) h1 h2
        obtain ⟨y6, l1, l2, l3, l4, l5⟩ := m_notes (z := (nuS B E 0 999 z.1, z.2)) (ki := 0) (va := nuV B E z.1) (v := v) j2 g1.1.1 ((j3.rq (f4.rq hq)).ch (fun q => ⟨z0, rfl⟩)) (PG.room (e := 0) g1 hl hE) (fun q => j4 q)
        rw [show (999 : Int32) = nI 999 from rfl, show (0 : Int32) = nI 0 from rfl, j1, zb_some]
        dsimp only
        rw [l1, zbv_some]
        by_cases cd : isDg B E z.1.2.2 = true
        · have e : unS B E f u z = psh (nuS B E 0 999 z.1, z.2) 0 (nuV B E z.1) := by unfold unS; rw [if_pos z0, if_pos cd]
          rw [e]
          exact ⟨y6, rfl, l2, (f4.l.trans j3.l).trans l3, l4, fun q => by rw [l5, j3.o8]; exact o4⟩
        · have e : unS B E f u z = (flS 1 (nI z.1.2.2) z.1, z.2) := by unfold unS; rw [if_pos z0, if_neg cd, if_neg ch, if_neg c5, if_neg c6, if_pos c8]
          have en : nuS B E 0 999 z.1 = flS 1 (nI z.1.2.2) z.1 := by unfold nuS flS; rw [if_pos z0, if_neg cd, if_pos z0]
          have ne : ¬ (flS 1 (nI z.1.2.2) z.1).1 = 0 := by unfold flS; rw [if_pos z0]; exact fun w => absurd (show (1 : Nat) = 0 from w) (by decide)
          rw [e]
          refine ⟨y6, rfl, ?_, (f4.l.trans j3.l).trans l3, fun q => absurd q ne, fun q => absurd q ne⟩
          rw [← en]; exact l2
      · obtain ⟨i, i1, i2, i3⟩ := nm_w c8
        obtain ⟨-, -, w3⟩ := isW_lt i3 i1 i2 h1
        obtain ⟨n1, n2⟩ := lt_no w3
        rw [if_neg c8] at e2
        rw [if_neg c8, if_neg (fun q => (ya_ne_m1 (a := nmS B E z.1) (by have := nm_le B E z.1; omega)).mp q)]
        have e : unS B E f u z = psh (wdS B E z.1, z.2) 1 (nmS B E z.1) := by unfold unS; rw [if_pos z0, if_neg (by rw [n1]; decide), if_neg ch, if_neg c5, if_neg c6, if_neg c8]
        have g1 := pg_wd h1 h2 i3 i1 i2
        obtain ⟨y6, l1, l2, l3, l4, l5⟩ := m_notes (z := (wdS B E z.1, z.2)) (ki := 1) (va := nmS B E z.1) (v := nI (nmS B E z.1)) e2 g1.1.1 ((f4.rq hq).ch (fun q => ⟨z0, rfl⟩)) (PG.room (e := 0) g1 hl hE) (fun q => rfl)
        rw [show (1 : Int32) = nI 1 from rfl, l1, zbv_some, e]
        exact ⟨y6, rfl, l2, f4.l.trans l3, l4, fun q => by rw [l5]; exact o4⟩
  · have e : unS B E f u z = z := by unfold unS; rw [if_neg z0]
    rw [if_neg z0, e]
    exact ⟨m, rfl, hT, frMl.refl, hq, h8⟩
theorem mg_lvl {B : Nat → Nat} {E f o n : Nat} {u : ZL → ZL} (ht : okT B E) (hE : E ≤ 150) (hof : o + f = 6) (hu : f ≠ 0 → GG B E u) (hp : f ≠ 0 → ∀ j, 3 * f ≤ j → MG B E (o + 1) u (FG_X10_sum j).1) (hn : 3 * f + 3 ≤ n) :
    MG B E o (smS B E (prS B E (unS B E f u))) (FG_X10_sum n).1 := by
  obtain ⟨k, rfl⟩ : ∃ k, n = k + 3 := ⟨n - 3, by omega⟩
  rw [show (FG_X10_sum (k + 3)).1 = (fun M => F_X10_sum_r M ((fun M => F_X10_product_r M ((fun M => F_X10_one_r M ((FG_X10_sum k).1)))))) from rfl]
  exact mg_sm ht hE (gg_pr (gg_un hu)) (mg_pr ht hE (gg_un hu) (mg_un ht hE hof hu (fun c => hp c k (by omega))))
theorem mg_su {B : Nat → Nat} {E : Nat} (ht : okT B E) (hE : E ≤ 150) : ∀ f, f ≤ 6 → ∀ n, 3 * f + 3 ≤ n → MG B E (6 - f) (suS B E f) (FG_X10_sum n).1
  | 0, _, n, hn => mg_lvl (f := 0) (o := 6) ht hE (by omega) (fun w => absurd rfl w) (fun w => absurd rfl w) hn
  | f + 1, hf, n, hn => mg_lvl (f := f + 1) (o := 6 - (f + 1)) ht hE (by omega) (fun _ => gg_su f) (fun _ j hj => by
      have := mg_su ht hE f (by omega) j (by omega)
      rw [show 6 - (f + 1) + 1 = 6 - f by omega]
      exact this) hn
