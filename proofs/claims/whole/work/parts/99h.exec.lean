/-! work being done: the class' flat run, the reference's recursion; begun, done, refused, row -/
abbrev US := Nat × Nat × Nat × (Nat → Nat)
def ub (U : US) : Nat := U.1
def ud (U : US) : Nat := U.2.1
def uq (U : US) : Nat := U.2.2.1
def uu (U : US) : Nat → Nat := U.2.2.2
def okU (e : PL) (U : US) : Prop := ud U + uq U ≤ ub U ∧ ub U ≤ 200 ∧ okD e (uu U)
def beU (U : US) : US := (ub U + 1, ud U, uq U, uu U)
def tkU (e : PL) (L : LW) (W : WS) (i : Nat) (U : US) : US := (ub U + 1, ud U + (if doR e L W i (uu U) = true then 1 else 0), uq U + (if doR e L W i (uu U) = true then 0 else 1), doU e L W i (uu U))
def frE (r : Nat) (x y : zMem) : Prop := (∀ a, a ≠ 0 → a ≠ r + 2 → a ≠ r + 3 → ¬ (4 ≤ a ∧ a ≤ 8) → a ≠ 97 → y.1 a = x.1 a) ∧ (∀ j, j ≠ 15 → y.1 0 j = x.1 0 j) ∧ (∀ a, ¬ (4 ≤ a ∧ a ≤ 8) → y.2.1 a = x.2.1 a) ∧ y.2.2 = x.2.2
theorem frE.refl {r : Nat} {x : zMem} : frE r x x := ⟨fun _ _ _ _ _ _ => rfl, fun _ _ => rfl, fun _ _ => rfl, rfl⟩
theorem frE.trans {r : Nat} {x y z : zMem} (h : frE r x y) (k : frE r y z) : frE r x z := ⟨fun a h1 h2 h3 h4 h5 => (k.1 a h1 h2 h3 h4 h5).trans (h.1 a h1 h2 h3 h4 h5), fun j hj => (k.2.1 j hj).trans (h.2.1 j hj), fun a ha => (k.2.2.1 a ha).trans (h.2.2.1 a ha), k.2.2.2.trans h.2.2.2⟩
theorem frX.e {r : Nat} {x y : zMem} (h : frX r (ST 4) x y) (hr : r = 186 ∨ r = 190) : frE r x y := ⟨fun a h1 h2 h3 h4 h5 => h.1 a h2 h3 (fun q => h4 (by unfold ST at q; omega)), fun j _ => by rw [h.1 0 (by omega) (by omega) (by unfold ST; omega)], fun a h4 => h.2.1 a (fun q => h4 (by unfold ST at q; omega)), h.2.2⟩
theorem frE.z97 {r j : Nat} {x : zMem} {v : Int32} : frE r x (zI x 97 j v) := ⟨fun a h1 _ _ _ h5 => zI_n h5, fun i _ => by rw [zI_n (by omega)], fun _ _ => rfl, rfl⟩
def frF (x y : zMem) : Prop := (∀ a, a ≠ 0 → a ≠ 368 → a ≠ 369 → a ≠ 451 → y.1 a = x.1 a) ∧ (∀ j, j ≠ 32 → j ≠ 35 → j ≠ 36 → y.1 0 j = x.1 0 j) ∧ y.2 = x.2
theorem frF.refl {x : zMem} : frF x x := ⟨fun _ _ _ _ _ => rfl, fun _ _ _ _ => rfl, rfl⟩
theorem frF.trans {x y z : zMem} (h : frF x y) (k : frF y z) : frF x z := ⟨fun a h1 h2 h3 h4 => (k.1 a h1 h2 h3 h4).trans (h.1 a h1 h2 h3 h4), fun j h1 h2 h3 => (k.2.1 j h1 h2 h3).trans (h.2.1 j h1 h2 h3), k.2.2.trans h.2.2⟩
theorem frM.f {x y : zMem} (h : frM 451 x y) : frF x y := ⟨fun a _ h2 h3 h4 => h.1 a h2 h3 h4, fun j _ _ _ => by rw [h.1 0 (by omega) (by omega) (by omega)], h.2⟩
theorem frF.z {x : zMem} {j : Nat} {v : Int32} (h : j = 32 ∨ j = 35 ∨ j = 36) : frF x (zI x 0 j v) := ⟨fun a h1 _ _ _ => zI_n h1, fun i h1 h2 h3 => zI_s (by omega), rfl⟩
def XS (x0 : zMem) (r : Nat) (e : PL) (x : zMem) (U : US) : Prop := frE r x0 x ∧ RXr x e (uu U) 4 ∧ x.1 0 15 = nI (uq U)
def MS (m0 m : zMem) (U : US) : Prop := frF m0 m ∧ RMr m (uu U) 451 ∧ m.1 0 35 = nI (ub U) ∧ m.1 0 36 = nI (ud U) ∧ m.1 0 32 = nI (uq U)
def CX (x0 m0 : zMem) (e : PL) (L : LW) (pl r : Nat) (W : WS) : Prop := RXw x0 e L pl r ∧ RXj x0 W ∧ RMp m0 e ∧ RMl m0 L ∧ RMj m0 W ∧ okPL e ∧ okL L ∧ jc W ≤ 75 ∧ ∀ i, i < jc W → okK e W i
theorem XS.z97 {x0 x : zMem} {r j : Nat} {e : PL} {U : US} {v : Int32} (h : XS x0 r e x U) : XS x0 r e (zI x 97 j v) U :=
  ⟨h.1.trans frE.z97, RXr.same (fun a h1 h2 => zI_n (by omega)) rfl h.2.1, by rw [zI_n (by omega)]; exact h.2.2⟩
theorem XS.w {x0 m0 x : zMem} {r pl : Nat} {e : PL} {L : LW} {W : WS} {U : US} (c : CX x0 m0 e L pl r W) (h : XS x0 r e x U) : RXw x e L pl r ∧ RXj x W := by
  obtain ⟨c1, c2, -⟩ := c
  obtain ⟨⟨p1, p2, p3, p4, p5⟩, ⟨l1, l2⟩, w1, w2, w3, w4⟩ := c1
  obtain ⟨f1, f2, f3, f4⟩ := h.1
  refine ⟨⟨⟨?_, ?_, ?_, fun q hq => ?_, fun p hp => ?_⟩, ⟨?_, fun q hq => ?_⟩, by rw [f4]; exact w1, by rw [f4]; exact w2, w3, w4⟩, ?_⟩
  · rw [f1 pl (by omega) (by omega) (by omega) (by omega) (by omega)]; exact p1
  · rw [f1 pl (by omega) (by omega) (by omega) (by omega) (by omega)]; exact p2
  · rw [f1 pl (by omega) (by omega) (by omega) (by omega) (by omega)]; exact p3
  · rw [f1 (pl + 1) (by omega) (by omega) (by omega) (by omega) (by omega), f1 (pl + 2) (by omega) (by omega) (by omega) (by omega) (by omega)]; exact p4 q hq
  · rw [f3 pl (by omega)]; exact p5 p hp
  · rw [f1 r (by omega) (by omega) (by omega) (by omega) (by omega)]; exact l1
  · rw [f1 (r + 1) (by omega) (by omega) (by omega) (by omega) (by omega)]; exact l2 q hq
  · unfold RXj
    rw [f1 91 (by omega) (by omega) (by omega) (by omega) (by omega), f1 92 (by omega) (by omega) (by omega) (by omega) (by omega), f1 93 (by omega) (by omega) (by omega) (by omega) (by omega), f1 94 (by omega) (by omega) (by omega) (by omega) (by omega), f1 95 (by omega) (by omega) (by omega) (by omega) (by omega), f1 96 (by omega) (by omega) (by omega) (by omega) (by omega), f1 98 (by omega) (by omega) (by omega) (by omega) (by omega)]
    exact c2
theorem MS.w {x0 m0 m : zMem} {r pl : Nat} {e : PL} {L : LW} {W : WS} {U : US} (c : CX x0 m0 e L pl r W) (h : MS m0 m U) : RMh m e L (uu U) 451 ∧ RMj m W := by
  obtain ⟨-, -, c1, c2, c3, he, ok, hc, -⟩ := c
  obtain ⟨f1, f2, f3⟩ := h.1
  have hn := he.2.2.2.2.1
  have hl := ok.1
  refine ⟨⟨⟨?_, ?_, ?_, fun k hk => ?_⟩, ⟨?_, fun k hk => ?_⟩, h.2.1⟩, ?_, fun i hi hk => ?_⟩
  · rw [f1 4 (by omega) (by omega) (by omega) (by omega)]; exact c1.1
  · rw [f1 4 (by omega) (by omega) (by omega) (by omega)]; exact c1.2.1
  · rw [f1 4 (by omega) (by omega) (by omega) (by omega)]; exact c1.2.2.1
  · rw [f1 _ (by omega) (by omega) (by omega) (by omega)]; exact c1.2.2.2 k hk
  · rw [f2 16 (by omega) (by omega) (by omega)]; exact c2.1
  · rw [f1 _ (by omega) (by omega) (by omega) (by omega)]; exact c2.2 k hk
  · rw [f2 25 (by omega) (by omega) (by omega)]; exact c3.1
  · have hb := rw_b (W := W) (i := i) hc (by omega)
    rw [f1 _ (by omega) (by omega) (by omega) (by omega)]; exact c3.2 i hi hk
noncomputable def gJ (N : Nat) : Int32 → Int32 → Int32 → Int32 → zMem → Option (Int32 × zMem) := itF (fun _ _ _ _ _ => none) (F_X9_doJob_14) N
noncomputable def GJ (N d b a k : Nat) (x : zMem) : Option (Int32 × zMem) := gJ N (nI d) (nI b) (nI a) (nI k) x
theorem gj_s (N d b a k : Nat) (x : zMem) : GJ (N + 1) d b a k x = F_X9_doJob_14 (gJ N) (nI d) (nI b) (nI a) (nI k) x := rfl
theorem x_isAt {x : zMem} {W : WS} {a : Nat} (h : RXj x W) (hc : jc W ≤ 75) (ha : a ≤ jc W) : F_X2_isAt x 91 (nI a) = some (bI (decide (a < jc W)), x) := by
  unfold F_X2_isAt
  rw [ya_0, ilt (by omega) (by omega), if_neg (by omega), h.1, ile (by omega) (by omega), show (150 : Int32) = nI 150 from rfl, ile (by omega) (by omega)]
  by_cases c : a < jc W
  · rw [if_neg (by omega), if_neg (by omega), decide_eq_true c]; rfl
  · rw [if_pos (by omega), decide_eq_false c]; rfl
theorem gj_simple {x0 m0 x : zMem} {r pl i k : Nat} {e : PL} {L : LW} {W : WS} {U : US} (c : CX x0 m0 e L pl r W) (h : XS x0 r e x U) (o : okU e U) (hi : i < jc W) (hK : jk W i < 5) (hb : ub U < 200) (hk : k < 1000000) :
    ∃ x', XS x0 r e x' (tkU e L W i U) ∧ (∀ a, x'.1 97 a = x.1 97 a) ∧ ∀ N, GJ (N + 1) (ud U) (ub U) i k x = GJ N (ud (tkU e L W i U)) (ub U + 1) (i + 1) (k + 1) x' := by
  obtain ⟨w1, w2⟩ := h.w c
  obtain ⟨-, -, -, -, -, he, ok, hc, hok⟩ := c
  obtain ⟨j0, j1, j2, j3, j4⟩ := w2.2.2.2 i hi
  obtain ⟨o1, o2, o3⟩ := o
  obtain ⟨y, a1, a2, a3⟩ := x_doStep w1 he ok h.2.1 o3 (hok i hi) hK j1 j2 j3
  have a3e := a3.e w1.2.2.2.2.2
  have hh : h.1.trans a3e = h.1.trans a3e := rfl
  have y15 : y.1 0 15 = nI (uq U) := by rw [a3.1 0 (by have := w1.2.2.2.2.2; omega) (by omega) (by unfold ST; omega)]; exact h.2.2
  have y97 : ∀ a, y.1 97 a = x.1 97 a := fun a => by rw [a3.1 97 (by have := w1.2.2.2.2.2; omega) (by have := w1.2.2.2.2.2; omega) (by unfold ST; omega)]
  have base : ∀ N, GJ (N + 1) (ud U) (ub U) i k x = (if bI (doR e L W i (uu U)) = 0 then F_X9_doJob_146 (gJ N) (nI (ud U)) (nI (ub U) + 1) (nI i) (nI k) (zI y 0 15 (y.1 0 15 + 1)) else F_X9_doJob_146 (gJ N) (nI (ud U) + 1) (nI (ub U) + 1) (nI i) (nI k) y) := fun N => by
    rw [gj_s]
    unfold F_X9_doJob_14
    rw [show (1000000 : Int32) = nI 1000000 from rfl, ile (by omega) (by omega), if_neg (by omega), x_isAt w2 hc (by omega), zb_some]
    dsimp only
    rw [decide_eq_true hi, if_neg (by decide), gin_ok (by omega) (by decide), zl_eq, nI_clamp (by omega), j0, show (6 : Int32) = nI 6 from rfl, ieq (by omega) (by omega), if_neg (by omega), show (200 : Int32) = nI 200 from rfl, ilt (by omega) (by omega), if_pos hb, show (5 : Int32) = nI 5 from rfl, ieq (by omega) (by omega), if_neg (by omega), a1, zb_some, zl_eq]
  by_cases cd : doR e L W i (uu U) = true
  · refine ⟨y, ⟨h.1.trans a3e, a2, ?_⟩, y97, fun N => ?_⟩
    · show y.1 0 15 = nI (uq U + if doR e L W i (uu U) = true then 0 else 1)
      rw [if_pos cd]; exact y15
    · rw [base N, cd, if_neg (by decide), nI_1, nI_1]
      unfold F_X9_doJob_146 F_X9_doJob_149
      rw [nI_1, nI_1, show ud (tkU e L W i U) = ud U + 1 from by show ud U + (if doR e L W i (uu U) = true then 1 else 0) = _; rw [if_pos cd]]
      rfl
  · have cf : doR e L W i (uu U) = false := by simpa using cd
    refine ⟨zI y 0 15 (y.1 0 15 + 1), ⟨(h.1.trans a3e).trans ⟨fun a h1 _ _ _ _ => zI_n h1, fun j hj => zI_s hj, fun _ _ => rfl, rfl⟩, RXr.same (fun a h1 h2 => zI_n (by omega)) rfl a2, ?_⟩, fun a => by rw [zI_n (by omega)]; exact y97 a, fun N => ?_⟩
    · show (zI y 0 15 (y.1 0 15 + 1)).1 0 15 = nI (uq U + if doR e L W i (uu U) = true then 0 else 1)
      rw [if_neg cd, zI_1, upd_s, y15, nI_1]
    · rw [base N, cf, if_pos (by decide), nI_1]
      unfold F_X9_doJob_146 F_X9_doJob_149
      rw [nI_1, nI_1, show ud (tkU e L W i U) = ud U from by show ud U + (if doR e L W i (uu U) = true then 1 else 0) = _; rw [if_neg cd]; rfl]
      rfl
theorem gj_again {x0 m0 x : zMem} {r pl i k : Nat} {e : PL} {L : LW} {W : WS} {U : US} (c : CX x0 m0 e L pl r W) (h : XS x0 r e x U) (hi : i < jc W) (hK : jk W i = 5) (hm : jm W i ≠ 999) (hb : ub U < 200) (hd : ud U ≤ 200) (hk : k < 1000000) :
    ∀ N, GJ (N + 1) (ud U) (ub U) i k x = if ja W i = 0 then GJ N (ud U) (ub U + 1) (jm W i + 1) (k + 1) x else GJ N (ud U) (ub U + 1) (i + 1) (k + 1) (zI x 97 i (nI (ja W i))) := by
  intro N
  obtain ⟨w1, w2⟩ := h.w c
  obtain ⟨-, -, -, -, -, he, ok, hc, hok⟩ := c
  obtain ⟨j0, j1, j2, j3, j4⟩ := w2.2.2.2 i hi
  have hko := hok i hi
  have ha := hko.2.2.2.2.2.1 hK
  have hmj := hko.2.2.2.2.2.2.2.2
  rw [hK] at j3 j0
  rw [if_neg (by omega), if_pos (by omega)] at j3
  rw [gj_s]
  unfold F_X9_doJob_14
  rw [show (1000000 : Int32) = nI 1000000 from rfl, ile (by omega) (by omega), if_neg (by omega), x_isAt w2 hc (by omega), zb_some]
  dsimp only
  rw [decide_eq_true hi, if_neg (by decide), gin_ok (by omega) (by decide), zl_eq, nI_clamp (by omega), j0, if_neg (by decide), show (200 : Int32) = nI 200 from rfl, ilt (by omega) (by omega), if_pos hb, if_pos (by decide)]
  unfold F_X2_behindAgain
  rw [gin_ok (by omega) (by decide), nI_clamp (by omega), show 91 + 4 = 95 from rfl, show 91 + 5 = 96 from rfl, show 91 + 6 = 97 from rfl, j3, ie0 (by omega)]
  by_cases cz : ja W i = 0
  · rw [if_pos cz, if_pos cz, zb_some]
    dsimp only
    unfold F_X9_doJob_149
    rw [j4 hm, nI_1, nI_1, nI_1]
    rfl
  · rw [if_neg cz, if_neg cz, zl_eq, zb_some]
    dsimp only
    unfold F_X9_doJob_149
    rw [nI_1, nI_1, nI_1]
    rfl
theorem gj_close {x0 m0 x : zMem} {r pl q i k l : Nat} {e : PL} {L : LW} {W : WS} {U : US} (c : CX x0 m0 e L pl r W) (h : XS x0 r e x U) (hq : q < jc W) (hK : jk W q = 6) (hm : jm W q = i) (hi : i < q) (hl : x.1 97 i = nI (l + 1)) (hl2 : l < 1000) (hd : ud U ≤ 200) (hb : ub U ≤ 200) (hk : k < 1000000) :
    ∀ N, GJ (N + 1) (ud U) (ub U) q k x = GJ N (ud U) (ub U) (if l = 0 then q + 1 else i + 1) (k + 1) (zI x 97 i (nI l)) := by
  intro N
  obtain ⟨w1, w2⟩ := h.w c
  obtain ⟨-, -, -, -, -, he, ok, hc, hok⟩ := c
  obtain ⟨j0, j1, j2, j3, j4⟩ := w2.2.2.2 q hq
  rw [hm] at j4
  have j4 := j4 (by omega)
  rw [hK] at j0
  rw [gj_s]
  unfold F_X9_doJob_14
  rw [show (1000000 : Int32) = nI 1000000 from rfl, ile (by omega) (by omega), if_neg (by omega), x_isAt w2 hc (by omega), zb_some]
  dsimp only
  rw [decide_eq_true hq, if_neg (by decide), gin_ok (by omega) (by decide), zl_eq, nI_clamp (by omega), j0, if_pos (by decide)]
  unfold F_X2_behindClose
  rw [gin_ok (by omega) (by decide), nI_clamp (by omega), show 91 + 5 = 96 from rfl, show 91 + 6 = 97 from rfl, j4, zl_eq, x_isAt w2 hc (by omega), zb_some]
  dsimp only
  rw [decide_eq_true (show i < jc W by omega), if_neg (by decide), gin_ok (by omega) (by decide), nI_clamp (by omega), zl_eq, hl, lw_sub1, zI_1, upd_s, ya_0, ile (by omega) (by omega)]
  by_cases cl : l = 0
  · rw [if_pos (by omega), if_pos cl, zb_some]
    dsimp only
    unfold F_X9_doJob_149
    rw [nI_1, nI_1]
    rfl
  · rw [if_neg (by omega), if_neg cl, zb_some]
    dsimp only
    unfold F_X9_doJob_149
    rw [nI_1, nI_1]
    rfl
/-- two hundred are begun: it ends, nothing but left changes -/
theorem gj_stop {x0 m0 : zMem} {r pl : Nat} {e : PL} {L : LW} {W : WS} {U : US} (c : CX x0 m0 e L pl r W) (hb : ub U = 200) (hd : ud U ≤ 200) : ∀ (μ N : Nat) (x : zMem) (a k : Nat), XS x0 r e x U → a ≤ jc W → k ≤ 1000000 → 1000000 - k ≤ μ → μ + 1 ≤ N →
    ∃ x', GJ N (ud U) (ub U) a k x = some (nI (ud U), x') ∧ XS x0 r e x' U
  | 0, N, x, a, k, h, ha, hk, hμ, hN => by
    obtain ⟨M, rfl⟩ : ∃ M, N = M + 1 := ⟨N - 1, by omega⟩
    refine ⟨x, ?_, h⟩
    rw [gj_s]
    unfold F_X9_doJob_14
    rw [show (1000000 : Int32) = nI 1000000 from rfl, ile (by omega) (by omega), if_pos (by omega)]
  | μ + 1, N, x, a, k, h, ha, hk, hμ, hN => by
    obtain ⟨M, rfl⟩ : ∃ M, N = M + 1 := ⟨N - 1, by omega⟩
    have ih := gj_stop c hb hd μ M
    obtain ⟨w1, w2⟩ := h.w c
    obtain ⟨-, -, -, -, -, he, ok, hc, hok⟩ := c
    rw [gj_s]
    unfold F_X9_doJob_14
    rw [show (1000000 : Int32) = nI 1000000 from rfl, ile (by omega) (by omega)]
    by_cases ck : 1000000 ≤ k
    · rw [if_pos ck]
      exact ⟨x, rfl, h⟩
    rw [if_neg ck, x_isAt w2 hc ha, zb_some]
    dsimp only
    by_cases ca : a < jc W
    · obtain ⟨j0, j1, j2, j3, j4⟩ := w2.2.2.2 a ca
      have hko := hok a ca
      have hk6 := hko.1
      rw [decide_eq_true ca, if_neg (by decide), gin_ok (by omega) (by decide), zl_eq, nI_clamp (by omega), j0, show (6 : Int32) = nI 6 from rfl, ieq (by omega) (by omega)]
      by_cases c6 : jk W a = 6
      · have hma := hko.2.2.2.2.2.2.1 c6
        rw [if_pos c6]
        unfold F_X2_behindClose
        rw [gin_ok (by omega) (by decide), nI_clamp (by omega), show 91 + 5 = 96 from rfl, show 91 + 6 = 97 from rfl, j4 (by omega), zl_eq, x_isAt w2 hc (by omega), zb_some]
        dsimp only
        rw [decide_eq_true (show jm W a < jc W by omega), if_neg (by decide), gin_ok (by omega) (by decide), nI_clamp (by omega), zl_eq]
        by_cases cl : (zI x 97 (jm W a) (x.1 97 (jm W a) - 1)).1 97 (jm W a) ≤ 0
        · rw [if_pos cl, zb_some]
          dsimp only
          unfold F_X9_doJob_149
          rw [nI_1, nI_1]
          exact ih _ (a + 1) (k + 1) h.z97 (by omega) (by omega) (by omega) (by omega)
        · rw [if_neg cl, zb_some]
          dsimp only
          unfold F_X9_doJob_149
          rw [nI_1, nI_1]
          exact ih _ (jm W a + 1) (k + 1) h.z97 (by omega) (by omega) (by omega) (by omega)
      · rw [if_neg c6, hb, if_neg (by decide)]
        exact ⟨x, rfl, h⟩
    · rw [decide_eq_false ca, if_pos (by decide)]
      exact ⟨x, rfl, h⟩
