/-! law: units, words, the recursion of the class' reader -/
theorem x_wis {x : zMem} {B : Nat → Nat} {E i : Nat} {P : PS} (ht : okT B E) (h1 : 1 ≤ i) (h2 : i < 19) (hP : okP B E P) (h : TX x B E (wdS B E P)) (h4 : P.1 = 0 → x.1 1 4 = nI P.2.2 ∧ x.1 1 7 = nI (wE B E P.2.2) ∧ P.2.2 ≤ wE B E P.2.2 ∧ wE B E P.2.2 ≤ E) :
    F_X8_wordIs x 1 i = some (bI (isW i B E P), x) := by
  rw [x_wordIs (a := P.2.2) (e := wE B E P.2.2) ht h1 h2 h (wd_ok hP).1 (fun q => h4 (wd_0' q))]
  unfold isW
  rw [show decide ((wdS B E P).1 = 0) = decide (P.1 = 0) by
    unfold wdS
    by_cases z : P.1 = 0
    · rw [if_pos z, decide_eq_true z]; rfl
    · rw [if_neg z]]
theorem x_nameOf {x : zMem} {B : Nat → Nat} {E : Nat} {P : PS} (ht : okT B E) (hP : okP B E P) (h : TX x B E (wdS B E P)) (h4 : P.1 = 0 → x.1 1 4 = nI P.2.2 ∧ x.1 1 7 = nI (wE B E P.2.2) ∧ P.2.2 ≤ wE B E P.2.2 ∧ wE B E P.2.2 ≤ E) :
    F_X3_nameOf x 1 = some (if nmS B E P = 8 then -1 else nI (nmS B E P), x) := by
  have w : ∀ i, 1 ≤ i → i < 19 → F_X8_wordIs x 1 i = some (bI (isW i B E P), x) := fun i i1 i2 => x_wis ht i1 i2 hP h h4
  unfold F_X3_nameOf nmS
  simp only [w 7 (by omega) (by omega), w 8 (by omega) (by omega), w 9 (by omega) (by omega), w 10 (by omega) (by omega), w 2 (by omega) (by omega), w 11 (by omega) (by omega), w 12 (by omega) (by omega), w 13 (by omega) (by omega), zb_some]
  cases isW 7 B E P
  · cases isW 8 B E P
    · cases isW 9 B E P
      · cases isW 10 B E P
        · cases isW 2 B E P
          · cases isW 11 B E P
            · cases isW 12 B E P
              · cases isW 13 B E P
                · rfl
                · rfl
              · rfl
            · rfl
          · rfl
        · rfl
      · rfl
    · rfl
  · rfl
theorem isW_n {B : Nat → Nat} {E i : Nat} {P : PS} (h : P.1 ≠ 0) : isW i B E P = false := by
  unfold isW
  rw [decide_eq_false h, Bool.false_and]
theorem nm_n {B : Nat → Nat} {E : Nat} {P : PS} (h : P.1 ≠ 0) : nmS B E P = 8 := by
  unfold nmS
  simp only [isW_n h]
  rfl
/-- what stands in brackets behind least, most -/
theorem x_two {x : zMem} {B : Nat → Nat} {E t o f i : Nat} {u : ZL → ZL} {z : ZL} {p : zMem → Nat → Nat → Int32 → Option zMem} (ht : okT B E) (htt : t = 186 ∨ t = 190) (hof : o + f = 6) (hu : f ≠ 0 → GG B E u) (hp : f ≠ 0 → XG B E t (o + 1) u p)
    (h1 : okP B E z.1) (h2 : okF z.1) (hl : lq z) (hw : isW i B E z.1 = true) (i1 : 1 ≤ i) (i2 : i < 19) (hT : TX x B E (wdS B E z.1)) (h4 : x.1 1 4 = nI z.1.2.2) (hq : RXq x t z) :
    ∃ y, F_X3_readTwo_r x p t 1 (nI o) = some y ∧ TX y B E (if f = 0 then (flS 3 (nI z.1.2.2) z.1) else (twE B E u z).1) ∧ frL t x y ∧ RXq y t (if f = 0 then (flS 3 (nI z.1.2.2) z.1, z.2) else twE B E u z) := by
  unfold F_X3_readTwo_r
  have z0 := (isW_lt hw i1 i2 h1).1
  rw [show (6 : Int32) = nI 6 from rfl, ilt (by omega) (by omega)]
  by_cases c : f = 0
  · obtain ⟨y, a1, a2, a3⟩ := x_fail (c := 3) (v := x.1 1 4) hT (wd_ok h1).1 (by omega)
    rw [if_neg (by omega), if_pos c, if_pos c, show (3 : Int32) = nI 3 from rfl, a1, zbv_some]
    refine ⟨y, rfl, ?_, a3.l, (a3.rq (by omega) hq).ch (fun q => ?_)⟩
    · rw [h4] at a2
      unfold flS wdS at a2
      rw [if_pos z0, if_pos rfl] at a2
      unfold flS
      rw [if_pos z0]
      exact a2.ign (by omega)
    · exfalso
      revert q
      show (flS 3 (nI z.1.2.2) z.1).1 = 0 → False
      unfold flS
      rw [if_pos z0]
      exact fun w => absurd (show (3 : Nat) = 0 from w) (by decide)
  · have hu := hu c
    have hp := hp c
    have a1 := pg_wd h1 h2 hw i1 i2
    have a2 := pg_sg (B := B) (E := E) (c := 91) (z := (wdS B E z.1, z.2)) a1.1 a1.2.1 (by omega)
    have a12 := a1.trans a2
    have a3 := (hu _ a2.1 a2.2.1).1
    have a13 := a12.trans a3
    have a4 := pg_sg (B := B) (E := E) (c := 44) a3.1 a3.2.1 (by omega)
    have a14 := a13.trans a4
    have a5 := (hu _ a4.1 a4.2.1).1
    obtain ⟨y1, b1, b2, b3⟩ := x_sign (c := 91) ht a1.1.1 (by omega) hT
    obtain ⟨y2, c1, c2, c3, c4⟩ := hp y1 (sgS B E (nI 91) (wdS B E z.1), z.2) a2.1 a2.2.1 (a12.lq hl) b2 ((b3.rq (by omega) hq).ch (fun q => ⟨z0, rfl⟩))
    obtain ⟨y3, d1, d2, d3⟩ := x_sign (c := 44) ht a3.1.1 (by omega) c2
    obtain ⟨y4, e1, e2, e3, e4⟩ := hp y3 _ a4.1 a4.2.1 (a14.lq hl) d2 ((d3.rq (by omega) c4).ch (fun q => ⟨sg_0 q, rfl⟩))
    obtain ⟨y5, f1, f2, f3⟩ := x_sign (c := 93) ht a5.1.1 (by omega) e2
    rw [if_pos (by omega), if_neg c, if_neg c, show (91 : Int32) = nI 91 from rfl, b1, zbv_some, nI_1, c1, zbv_some, show (44 : Int32) = nI 44 from rfl, d1, zbv_some, e1, zbv_some, show (93 : Int32) = nI 93 from rfl, f1, zbv_some]
    exact ⟨y5, rfl, f2, (((b3.l.trans c3).trans d3.l).trans e3).trans f3.l, (f3.rq (by omega) e4).ch (fun q => ⟨sg_0 q, rfl⟩)⟩
def noDg (B : Nat → Nat) (E : Nat) (P : PS) : Prop := P.1 = 0 → isDg B E P.2.2 = false ∧ hasB B E P 40 = false
theorem xg_word {x : zMem} {B : Nat → Nat} {E t o f : Nat} {u : ZL → ZL} {z : ZL} {p : zMem → Nat → Nat → Int32 → Option zMem} (ht : okT B E) (hE : E ≤ 150) (htt : t = 186 ∨ t = 190) (hof : o + f = 6) (hu : f ≠ 0 → GG B E u) (hp : f ≠ 0 → XG B E t (o + 1) u p)
    (h1 : okP B E z.1) (h2 : okF z.1) (hl : lq z) (hT : TX x B E z.1) (hq : RXq x t z) (hn : noDg B E z.1) :
    ∃ y, F_X3_readWord_r x (fun M t p0 p1 => F_X3_readTwo_r M p t p0 p1) t 1 (nI o) = some y ∧ TX y B E (unS B E f u z).1 ∧ frL t x y ∧ RXq y t (unS B E f u z) := by
  obtain ⟨x1, a1, a2, a3, a4⟩ := x_word ht h1.1 hT
  have w : ∀ i, 1 ≤ i → i < 19 → F_X8_wordIs x1 1 i = some (bI (isW i B E z.1), x1) := fun i i1 i2 => x_wis ht i1 i2 h1 a2 a4
  have q1 := a3.rq (z := z) (t := t) (by omega) hq
  unfold F_X3_readWord_r
  rw [a1, zbv_some, w 5 (by omega) (by omega), zb_some]
  dsimp only
  rw [ibI]
  have tw : ∀ i k, 1 ≤ i → i < 19 → 2 ≤ k → k ≤ 8 → isW i B E z.1 = true → unS B E f u z = twS B E f u z k → ∃ y, (zbv (F_X3_readTwo_r x1 p t 1 (nI o)) fun M12 => zbv (F_X3_emit M12 t (nI (1006 + k))) fun M13 => some M13) = some y ∧ TX y B E (unS B E f u z).1 ∧ frL t x y ∧ RXq y t (unS B E f u z) := fun i k i1 i2 k1 k2 hw hun => by
    have z0 := (isW_lt hw i1 i2 h1).1
    obtain ⟨y, b1, b2, b3, b4⟩ := x_two ht htt hof hu hp h1 h2 hl hw i1 i2 a2 (a4 z0).1 q1
    rw [b1, zbv_some, hun]
    unfold twS
    by_cases c : f = 0
    · rw [if_pos c] at b2 b4 ⊢
      obtain ⟨y', c1, c2, c3, c4⟩ := x_emitq (ki := k) (va := 0) (v := nI (1006 + k)) (z := (flS 3 (nI z.1.2.2) z.1, z.2)) htt b2 b4 (fun q => by
        exfalso
        revert q
        show (flS 3 (nI z.1.2.2) z.1).1 = 0 → False
        unfold flS
        rw [if_pos z0]
        exact fun w => absurd (show (3 : Nat) = 0 from w) (by decide)) (fun _ => by unfold enc; rw [if_neg (by omega), if_neg (by omega)])
      rw [c1, zbv_some]
      refine ⟨y', rfl, c2, (a3.l.trans b3).trans c3, c4.ch (fun q => ?_)⟩
      exfalso
      revert q
      show (flS 3 (nI z.1.2.2) z.1).1 = 0 → False
      unfold flS
      rw [if_pos z0]
      exact fun w => absurd (show (3 : Nat) = 0 from w) (by decide)
    · rw [if_neg c] at b2 b4 ⊢
      have hu := hu c
      have g1 := pg_wd h1 h2 hw i1 i2
      have g2 := pg_sg (B := B) (E := E) (c := 91) (z := (wdS B E z.1, z.2)) g1.1 g1.2.1 (by omega)
      have g3 := (hu _ g2.1 g2.2.1).1
      have g4 := pg_sg (B := B) (E := E) (c := 44) g3.1 g3.2.1 (by omega)
      have g5 := (hu _ g4.1 g4.2.1).1
      have g6 := pg_sg (B := B) (E := E) (c := 93) g5.1 g5.2.1 (by omega)
      have g7 : PG B E 2 4 z (twE B E u z) := ((((g1.trans g2).trans g3).trans g4).trans g5).trans g6
      obtain ⟨y', c1, c2, c3, c4⟩ := x_emitq (ki := k) (va := 0) (v := nI (1006 + k)) htt b2 b4 (PG.room (e := 3) g7 hl hE) (fun _ => by unfold enc; rw [if_neg (by omega), if_neg (by omega)])
      rw [c1, zbv_some]
      exact ⟨y', rfl, c2, (a3.l.trans b3).trans c3, c4⟩
  by_cases c5 : isW 5 B E z.1 = true
  · rw [if_neg (by rw [c5]; decide)]
    have z0 := (isW_lt c5 (by omega) (by omega) h1).1
    obtain ⟨n1, n2⟩ := hn z0
    exact tw 5 7 (by omega) (by omega) (by omega) (by omega) c5 (by unfold unS; rw [if_pos z0, if_neg (by rw [n1]; decide), if_neg (by rw [n2]; decide), if_pos c5])
  rw [if_pos (by simpa using c5), w 6 (by omega) (by omega), zb_some]
  dsimp only
  rw [ibI]
  by_cases c6 : isW 6 B E z.1 = true
  · rw [if_neg (by rw [c6]; decide)]
    have z0 := (isW_lt c6 (by omega) (by omega) h1).1
    obtain ⟨n1, n2⟩ := hn z0
    exact tw 6 8 (by omega) (by omega) (by omega) (by omega) c6 (by unfold unS; rw [if_pos z0, if_neg (by rw [n1]; decide), if_neg (by rw [n2]; decide), if_neg c5, if_pos c6])
  rw [if_pos (by simpa using c6), x_nameOf ht h1 a2 a4, zb_some]
  dsimp only
  by_cases c8 : nmS B E z.1 = 8
  · obtain ⟨y, b1, b2, b3⟩ := x_fail (c := 1) (v := x1.1 1 4) a2 (wd_ok h1).1 (by omega)
    rw [if_pos c8, if_pos rfl, show (1 : Int32) = nI 1 from rfl, b1, zbv_some]
    by_cases z0 : z.1.1 = 0
    · obtain ⟨n1, n2⟩ := hn z0
      have e : unS B E f u z = (flS 1 (nI z.1.2.2) z.1, z.2) := by unfold unS; rw [if_pos z0, if_neg (by rw [n1]; decide), if_neg (by rw [n2]; decide), if_neg c5, if_neg c6, if_pos c8]
      rw [e]
      refine ⟨y, rfl, ?_, a3.l.trans b3.l, (b3.rq (by omega) q1).ch (fun q => ?_)⟩
      · rw [(a4 z0).1] at b2
        unfold flS wdS at b2
        rw [if_pos z0, if_pos rfl] at b2
        unfold flS
        rw [if_pos z0]
        exact b2.ign (by omega)
      · exfalso
        revert q
        show (flS 1 (nI z.1.2.2) z.1).1 = 0 → False
        unfold flS
        rw [if_pos z0]
        exact fun w => absurd (show (1 : Nat) = 0 from w) (by decide)
    · have e : unS B E f u z = z := by unfold unS; rw [if_neg z0]
      rw [e]
      refine ⟨y, rfl, ?_, a3.l.trans b3.l, b3.rq (by omega) q1⟩
      have ew : wdS B E z.1 = z.1 := by unfold wdS; rw [if_neg z0]
      rw [ew, fl_st z0] at b2
      exact b2
  · obtain ⟨i, i1, i2, i3⟩ := nm_w c8
    have z0 := (isW_lt i3 i1 i2 h1).1
    obtain ⟨n1, n2⟩ := hn z0
    have hle := nm_le B E z.1
    have e : unS B E f u z = psh (wdS B E z.1, z.2) 1 (nmS B E z.1) := by unfold unS; rw [if_pos z0, if_neg (by rw [n1]; decide), if_neg (by rw [n2]; decide), if_neg c5, if_neg c6, if_neg c8]
    have g1 := pg_wd h1 h2 i3 i1 i2
    obtain ⟨y', d1, d2, d3, d4⟩ := x_emitq (ki := 1) (va := nmS B E z.1) (v := 1000 + nI (nmS B E z.1)) (z := (wdS B E z.1, z.2)) htt a2 (q1.ch (fun q => ⟨z0, rfl⟩)) (PG.room (e := 0) g1 hl hE) (fun _ => by
      unfold enc
      rw [if_neg (by omega), if_pos rfl, show (1000 : Int32) = nI 1000 from rfl, nI_add])
    rw [if_neg c8, if_neg (fun q => (ya_ne_m1 (a := nmS B E z.1) (by omega)).mp q), d1, zbv_some, e]
    exact ⟨y', rfl, d2, a3.l.trans d3, d4⟩
theorem xg_un {B : Nat → Nat} {E t o f : Nat} {u : ZL → ZL} {p : zMem → Nat → Nat → Int32 → Option zMem} (ht : okT B E) (hE : E ≤ 150) (htt : t = 186 ∨ t = 190) (hof : o + f = 6) (hu : f ≠ 0 → GG B E u) (hp : f ≠ 0 → XG B E t (o + 1) u p) (pw : zMem → Nat → Nat → Int32 → Option zMem)
    (hw : ∀ x z, okP B E z.1 → okF z.1 → lq z → TX x B E z.1 → RXq x t z → noDg B E z.1 → ∃ y, pw x t 1 (nI o) = some y ∧ TX y B E (unS B E f u z).1 ∧ frL t x y ∧ RXq y t (unS B E f u z)) (ps : zMem → Nat → Nat → Int32 → Option zMem) (hps : f ≠ 0 → XG B E t (o + 1) u ps) :
    XG B E t o (unS B E f u) (fun M t p0 p1 => F_X3_readUnit_r M ps pw t p0 p1) := by
  intro x z h1 h2 hl hT hq
  show ∃ y, F_X3_readUnit_r x ps pw t 1 (nI o) = some y ∧ _
  unfold F_X3_readUnit_r
  obtain ⟨x1, a1, a2, a3, a4⟩ := x_seesDigit ht h1.1 hT
  have q1 := a3.x.rq (z := z) (t := t) (by omega) hq
  rw [a1, zb_some]
  dsimp only
  rw [ibI]
  by_cases cd : (decide (z.1.1 = 0) && isDg B E z.1.2.2) = true
  · rw [if_neg (by rw [cd]; decide)]
    have cd' := cd
    rw [Bool.and_eq_true, decide_eq_true_eq] at cd'
    obtain ⟨z0, cd'⟩ := cd'
    obtain ⟨v, y, b1, b2, b3, b4, b5⟩ := x_number (lo := 0) (hi := 999) ht h1.1 (by omega) (by omega) a2
    have e : unS B E f u z = psh (nuS B E 0 999 z.1, z.2) 0 (nuV B E z.1) := by unfold unS; rw [if_pos z0, if_pos cd']
    have g1 := pg_nu (B := B) (E := E) (lo := 0) (hi := 999) h1 h2
    obtain ⟨y', d1, d2, d3, d4⟩ := x_emitq (ki := 0) (va := nuV B E z.1) (v := v) (z := (nuS B E 0 999 z.1, z.2)) htt b2 ((b3.rq (by omega) q1).ch (fun q => ⟨z0, rfl⟩)) (PG.room (e := 0) g1 hl hE) (fun q => by
      unfold enc
      rw [if_pos rfl]
      exact (b4 q).1)
    rw [show (0 : Int32) = nI 0 from rfl, show (999 : Int32) = nI 999 from rfl, b1, zb_some]
    dsimp only
    rw [d1, zbv_some, e]
    exact ⟨y', rfl, d2, (a3.x.l.trans b3.l).trans d3, d4⟩
  · have cdf : (decide (z.1.1 = 0) && isDg B E z.1.2.2) = false := by simpa using cd
    obtain ⟨x2, b1, b2, b3⟩ := x_seesB (c := 40) ht h1.1 (by omega) a2
    have q2 := b3.rq (z := z) (t := t) (by omega) q1
    rw [if_pos cdf, show (40 : Int32) = nI 40 from rfl, b1, zb_some]
    dsimp only
    rw [ibI]
    by_cases ch : hasB B E z.1 40 = true
    · obtain ⟨z0, -, -⟩ := hasB_0 ch
      have nd : isDg B E z.1.2.2 = false := by rw [decide_eq_true z0, Bool.true_and] at cdf; exact cdf
      have e : unS B E f u z = paS B E f u z := by unfold unS; rw [if_pos z0, if_neg (by rw [nd]; decide), if_pos ch]
      rw [if_neg (by rw [ch]; decide), e, show (6 : Int32) = nI 6 from rfl, ilt (by omega) (by omega)]
      unfold paS
      by_cases c : f = 0
      · rw [if_pos c, if_neg (by omega)]
        obtain ⟨s, s1⟩ := TX.a b2
        obtain ⟨x3, c1, c2, c3⟩ := x_skipBlanks ht s1
        unfold F_X8_here
        rw [c1, zbv_some, zb_some]
        dsimp only
        obtain ⟨t1, t2⟩ := c2.at s1.2.2.2.2.1 z0
        rw [t2]
        obtain ⟨y, d1, d2, d3⟩ := x_fail (c := 3) (v := nI z.1.2.2) c2.t h1.1 (by omega)
        rw [show (3 : Int32) = nI 3 from rfl, d1, zbv_some]
        refine ⟨y, rfl, d2, ((a3.x.l.trans b3.l).trans c3.x.l).trans d3.l, (d3.rq (by omega) (c3.x.rq (by omega) q2)).ch (fun q => ?_)⟩
        exfalso
        revert q
        show (flS 3 (nI z.1.2.2) z.1).1 = 0 → False
        unfold flS
        rw [if_pos z0]
        exact fun w => absurd (show (3 : Nat) = 0 from w) (by decide)
      · rw [if_neg c, if_pos (by omega)]
        have hu := hu c
        have hp := hps c
        have g2 := pg_sg (B := B) (E := E) (c := 40) (z := z) h1 h2 (by omega)
        have g3 := (hu _ g2.1 g2.2.1).1
        obtain ⟨y1, c1, c2, c3⟩ := x_sign (c := 40) ht h1.1 (by omega) b2
        obtain ⟨y2, d1, d2, d3, d4⟩ := hp y1 (sgS B E (nI 40) z.1, z.2) g2.1 g2.2.1 (g2.lq hl) c2 ((c3.rq (by omega) q2).ch (fun q => ⟨z0, rfl⟩))
        obtain ⟨y3, e1, e2, e3⟩ := x_sign (c := 41) ht g3.1.1 (by omega) d2
        rw [c1, zbv_some, nI_1, d1, zbv_some, show (41 : Int32) = nI 41 from rfl, e1, zbv_some]
        exact ⟨y3, rfl, e2, (((a3.x.l.trans b3.l).trans c3.l).trans d3).trans e3.l, (e3.rq (by omega) d4).ch (fun q => ⟨sg_0 q, rfl⟩)⟩
    · have chf : hasB B E z.1 40 = false := by simpa using ch
      rw [if_pos chf]
      obtain ⟨y, c1, c2, c3, c4⟩ := hw x2 z h1 h2 hl b2 q2 (fun z0 => ⟨by rw [decide_eq_true z0, Bool.true_and] at cdf; exact cdf, chf⟩)
      rw [c1, zbv_some]
      exact ⟨y, rfl, c2, (a3.x.l.trans b3.l).trans c3, c4⟩
theorem FGX_s (n : Nat) : FG_X3_readSum (n + 1) = ((fun M t p0 p1 => F_X3_readSum_r M ((FG_X3_readSum n).2.1) t p0 p1), (fun M t p0 p1 => F_X3_readProduct_r M ((FG_X3_readSum n).2.2.1) t p0 p1), (fun M t p0 p1 => F_X3_readUnit_r M ((FG_X3_readSum n).1) ((FG_X3_readSum n).2.2.2.1) t p0 p1), (fun M t p0 p1 => F_X3_readWord_r M ((FG_X3_readSum n).2.2.2.2) t p0 p1), (fun M t p0 p1 => F_X3_readTwo_r M ((FG_X3_readSum n).1) t p0 p1)) := rfl
theorem xg_lvl {B : Nat → Nat} {E t f o n : Nat} {u : ZL → ZL} (ht : okT B E) (hE : E ≤ 150) (htt : t = 186 ∨ t = 190) (hof : o + f = 6) (hu : f ≠ 0 → GG B E u) (hp : f ≠ 0 → ∀ j, 5 * f ≤ j → XG B E t (o + 1) u (FG_X3_readSum j).1) (hn : 5 * f + 5 ≤ n) :
    XG B E t o (smS B E (prS B E (unS B E f u))) (FG_X3_readSum n).1 := by
  obtain ⟨k, rfl⟩ : ∃ k, n = k + 5 := ⟨n - 5, by omega⟩
  rw [show (FG_X3_readSum (k + 5)).1 = (fun M t p0 p1 => F_X3_readSum_r M ((fun M t p0 p1 => F_X3_readProduct_r M ((fun M t p0 p1 => F_X3_readUnit_r M ((FG_X3_readSum (k + 2)).1) ((fun M t p0 p1 => F_X3_readWord_r M ((fun M t p0 p1 => F_X3_readTwo_r M ((FG_X3_readSum k).1) t p0 p1)) t p0 p1)) t p0 p1)) t p0 p1)) t p0 p1) from rfl]
  refine xg_sm ht hE htt (gg_pr (gg_un hu)) (xg_pr ht hE htt (gg_un hu) (xg_un ht hE htt hof hu (fun c => hp c k (by omega)) _ (fun x z h1 h2 hl hT hq hnd => xg_word ht hE htt hof hu (fun c => hp c k (by omega)) h1 h2 hl hT hq hnd) _ (fun c => hp c (k + 2) (by omega))))
theorem xg_su {B : Nat → Nat} {E t : Nat} (ht : okT B E) (hE : E ≤ 150) (htt : t = 186 ∨ t = 190) : ∀ f, f ≤ 6 → ∀ n, 5 * f + 5 ≤ n → XG B E t (6 - f) (suS B E f) (FG_X3_readSum n).1
  | 0, _, n, hn => xg_lvl (f := 0) (o := 6) ht hE htt (by omega) (fun w => absurd rfl w) (fun w => absurd rfl w) hn
  | f + 1, hf, n, hn => xg_lvl (f := f + 1) (o := 6 - (f + 1)) ht hE htt (by omega) (fun _ => gg_su f) (fun _ j hj => by
      have := xg_su ht hE htt f (by omega) j (by omega)
      rw [show 6 - (f + 1) + 1 = 6 - f by omega]
      exact this) hn
