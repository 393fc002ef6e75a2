/-! THE STATE: what both memories hold. A stand: how many works can be undone, the row now, the rows ahead of each work -/
abbrev BK := Nat × (Nat → Nat) × (Nat → Nat)
def bn (B : BK) : Nat := B.1
def bpl (B : BK) : Nat → Nat := B.2.1
def bbr (B : BK) : Nat → Nat := B.2.2
def okB (e : PL) (B : BK) : Prop := bn B ≤ 8 ∧ ∀ k, k < bn B → bpl B k < 64 ∧ inW e (bpl B k) = true ∧ bbr B k ≤ 9999
def inB (B : BK) (p : Nat) : Bool := anyN (fun k => decide (bpl B k = p)) (bn B)
def RMb (m : zMem) (B : BK) : Prop := m.1 0 30 = nI (bn B) ∧ ∀ k, k < bn B → m.1 (350 + (1 + 1 * k)) 0 = nI (bpl B k) ∧ m.1 (350 + (1 + 1 * k)) 1 = nI (bbr B k)
def RXb (x : zMem) (B : BK) (n : Nat) : Prop := x.1 n 2 = nI (bn B) ∧ (∀ k, k < bn B → x.1 (n + 1) k = nI (bpl B k) ∧ x.1 (n + 2) k = nI (bbr B k)) ∧ ∀ p, p < 64 → tb (x.2.1 n 3) p = inB B p
abbrev IM := Nat × (Nat → Nat) × (Nat → Nat → Nat)
def RMi (m : zMem) (I : IM) : Prop := m.1 0 31 = nI I.1 ∧ RMr m I.2.1 451 ∧ ∀ k, k < I.1 → RMr m (I.2.2 k) (453 + (1 + 1 * k))
def RMg (m : zMem) (I : IM) (c : Nat) : Prop := m.1 c 0 = nI I.1 ∧ (∀ i, i < 195 → m.1 c (1 + i) = nI (I.2.1 i)) ∧ ∀ k, k < I.1 → ∀ i, i < 195 → m.1 c (196 + 195 * k + i) = nI (I.2.2 k i)
def RXs (x : zMem) (e : PL) (I : IM) (t : Nat) : Prop := x.1 t 1 = nI I.1 ∧ RXr x e I.2.1 (t + 1) ∧ ∀ k, k < I.1 → RXr x e (I.2.2 k) ((t + 6) + (1 + 5 * k))
def okD (e : PL) (u : Nat → Nat) : Prop := okR e u ∧ u 192 ≤ 400
def okI (e : PL) (I : IM) : Prop := I.1 ≤ 16 ∧ okD e I.2.1 ∧ ∀ k, k < I.1 → okD e (I.2.2 k)
abbrev SS := PL × LW × BK × IM × Nat × (Nat → IM) × Nat × (Nat → Nat) × Int32 × Nat × Nat × Nat
def sE (S : SS) : PL := S.1
def sL (S : SS) : LW := S.2.1
def sB (S : SS) : BK := S.2.2.1
def sN (S : SS) : IM := S.2.2.2.1
def sI (S : SS) : Nat := S.2.2.2.2.1
def sG (S : SS) : Nat → IM := S.2.2.2.2.2.1
def sT (S : SS) : Nat := S.2.2.2.2.2.2.1
def sY (S : SS) : Nat → Nat := S.2.2.2.2.2.2.2.1
def sF (S : SS) : Int32 := S.2.2.2.2.2.2.2.2.1
def sQ (S : SS) : Nat := S.2.2.2.2.2.2.2.2.2.1
def s0 (S : SS) : Nat := S.2.2.2.2.2.2.2.2.2.2.1
def s1 (S : SS) : Nat := S.2.2.2.2.2.2.2.2.2.2.2
def okS (S : SS) : Prop := okPL (sE S) ∧ okL (sL S) ∧ okB (sE S) (sB S) ∧ okI (sE S) (sN S) ∧ sI S ≤ 3 ∧ (∀ i, i < sI S → okI (sE S) (sG S i)) ∧ sT S ≤ 600 ∧ ∀ k, k < sT S → sY S k < 256
def RMn (m : zMem) (S : SS) : Prop := RMp m (sE S) ∧ RMl m (sL S) ∧ RMb m (sB S) ∧ RMi m (sN S) ∧ m.1 0 33 = nI (sI S) ∧ (∀ i, i < sI S → RMg m (sG S i) (470 + (1 + 1 * i))) ∧ m.1 0 1 = nI (sT S) ∧ (∀ k, k < sT S → m.1 1 k = nI (sY S k)) ∧ m.1 0 3 = sF S ∧ m.1 0 32 = nI (sQ S) ∧ m.1 2 0 = nI (s0 S) ∧ m.1 2 1 = nI (s1 S)
def RXn (x : zMem) (S : SS) (pl r n : Nat) : Prop := RXw x (sE S) (sL S) pl r ∧ (x.2.2 0 9 = 354 - pl ∧ x.2.2 0 11 = 376 - r ∧ x.2.2 0 12 = n ∧ x.2.2 0 13 = 391 - n ∧ (n = 194 ∨ n = 197)) ∧ RXb x (sB S) n ∧ RXs x (sE S) (sN S) 3 ∧ x.1 0 14 = nI (sI S) ∧ (∀ i, i < sI S → RXs x (sE S) (sG S i) (90 + (110 + 87 * i))) ∧ x.1 1 1 = nI (sT S) ∧ (∀ k, k < sT S → x.1 2 k = nI (sY S k)) ∧ x.1 1 3 = sF S ∧ x.1 0 15 = nI (sQ S) ∧ x.1 0 16 = nI (s0 S) ∧ x.1 0 17 = nI (s1 S)
def RXo (x : zMem) (S : SS) : Prop := ∃ pl r n, RXn x S pl r n
/-! what a question leaves: all but its own scratch cells -/
def frQ (r : Nat) (x x' : zMem) : Prop := (∀ a, a ≠ 0 → a ≠ r + 2 → a ≠ r + 3 → ¬ (99 ≤ a ∧ a < 174) → x'.1 a = x.1 a) ∧ (∀ j, j ≠ 18 → x'.1 0 j = x.1 0 j) ∧ (∀ a, ¬ (99 ≤ a ∧ a < 174) → x'.2.1 a = x.2.1 a) ∧ x'.2.2 = x.2.2
def frN (m m' : zMem) : Prop := (∀ a, a ≠ 0 → (a < 368 ∨ (370 ≤ a ∧ a < 452) ∨ (453 ≤ a ∧ a < 474)) → m'.1 a = m.1 a) ∧ ∀ j, 0 < j → j < 34 → m'.1 0 j = m.1 0 j
theorem frQ.refl {r : Nat} {x : zMem} : frQ r x x := ⟨fun _ _ _ _ _ => rfl, fun _ _ => rfl, fun _ _ => rfl, rfl⟩
theorem frQ.trans {r : Nat} {x y z : zMem} (h : frQ r x y) (k : frQ r y z) : frQ r x z := ⟨fun a h1 h2 h3 h4 => (k.1 a h1 h2 h3 h4).trans (h.1 a h1 h2 h3 h4), fun j hj => (k.2.1 j hj).trans (h.2.1 j hj), fun a ha => (k.2.2.1 a ha).trans (h.2.2.1 a ha), k.2.2.2.trans h.2.2.2⟩
theorem frX.q {r : Nat} {T : Nat → Prop} {x x' : zMem} (h : frX r T x x') (hr : r ≠ 0) (hT : ∀ a, T a → 99 ≤ a ∧ a < 174) : frQ r x x' :=
  ⟨fun a _ h2 h3 h4 => h.1 a h2 h3 (fun z => h4 (hT a z)), fun j _ => by rw [h.1 0 (by omega) (by omega) (fun z => by have := hT 0 z; omega)], fun a h4 => h.2.1 a (fun z => h4 (hT a z)), h.2.2⟩
theorem frN.refl {m : zMem} : frN m m := ⟨fun _ _ _ => rfl, fun _ _ _ => rfl⟩
theorem frN.trans {x y z : zMem} (h : frN x y) (k : frN y z) : frN x z := ⟨fun a h1 h2 => (k.1 a h1 h2).trans (h.1 a h1 h2), fun j h1 h2 => (k.2 j h1 h2).trans (h.2 j h1 h2)⟩
theorem frM.q {c : Nat} {m m' : zMem} (h : frM c m m') (hc : c = 368 ∨ c = 452 ∨ 474 ≤ c) : frN m m' :=
  ⟨fun a h1 h2 => h.1 a (by omega) (by omega) (by omega), fun j _ _ => by rw [h.1 0 (by omega) (by omega) (by omega)]⟩
theorem frQ.w {r : Nat} {M M' : zMem} {e : PL} {L : LW} {pl : Nat} (h : frQ r M M') (w : RXw M e L pl r) : RXw M' e L pl r := by
  obtain ⟨⟨p1, p2, p3, p4, p5⟩, ⟨l1, l2⟩, w1, w2, w3, w4⟩ := w
  refine ⟨⟨?_, ?_, ?_, fun k hk => ?_, fun p hp => ?_⟩, ⟨?_, fun k hk => ?_⟩, ?_, ?_, w3, w4⟩
  · rw [h.1 pl (by omega) (by omega) (by omega) (by omega)]; exact p1
  · rw [h.1 pl (by omega) (by omega) (by omega) (by omega)]; exact p2
  · rw [h.1 pl (by omega) (by omega) (by omega) (by omega)]; exact p3
  · rw [h.1 (pl + 1) (by omega) (by omega) (by omega) (by omega), h.1 (pl + 2) (by omega) (by omega) (by omega) (by omega)]; exact p4 k hk
  · rw [h.2.2.1 pl (by omega)]; exact p5 p hp
  · rw [h.1 r (by omega) (by omega) (by omega) (by omega)]; exact l1
  · rw [h.1 (r + 1) (by omega) (by omega) (by omega) (by omega)]; exact l2 k hk
  · rw [h.2.2.2]; exact w1
  · rw [h.2.2.2]; exact w2
theorem frQ.rr {r : Nat} {M M' : zMem} {e : PL} {u : Nat → Nat} {t : Nat} (h : frQ r M M') (hr : r = 186 ∨ r = 190) (ht : (0 < t ∧ t + 4 < 99) ∨ 194 ≤ t) (w : RXr M e u t) : RXr M' e u t := by
  obtain ⟨w1, w2, w3, w4, w5⟩ := w
  have g : ∀ a, t ≤ a → a ≤ t + 4 → M'.1 a = M.1 a := fun a h1 h2 => h.1 a (by omega) (by omega) (by omega) (by omega)
  refine ⟨fun p hp => ?_, ?_, ?_, ?_, fun k hk q hq => ?_⟩
  · rw [g (t + 1) (by omega) (by omega), g (t + 2) (by omega) (by omega), g (t + 3) (by omega) (by omega)]; exact w1 p hp
  · rw [g t (by omega) (by omega)]; exact w2
  · rw [g t (by omega) (by omega)]; exact w3
  · rw [g t (by omega) (by omega)]; exact w4
  · rw [h.2.2.1 (t + 4) (by omega)]; exact w5 k hk q hq
theorem frQ.s {r : Nat} {M M' : zMem} {e : PL} {I : IM} {t : Nat} (h : frQ r M M') (hr : r = 186 ∨ r = 190) (hi : I.1 ≤ 16) (ht : t = 3 ∨ 194 ≤ t) (w : RXs M e I t) : RXs M' e I t := by
  obtain ⟨w1, w2, w3⟩ := w
  refine ⟨?_, h.rr hr (by omega) w2, fun k hk => h.rr hr (by omega) (w3 k hk)⟩
  rw [h.1 t (by omega) (by omega) (by omega) (by omega)]; exact w1
theorem RXn.fr {r : Nat} {x x' : zMem} {S : SS} {pl n : Nat} (h : RXn x S pl r n) (ok : okS S) (f : frQ r x x') : RXn x' S pl r n := by
  obtain ⟨a1, ⟨b1, b2, b3, b4, b5⟩, ⟨c1, c2, c3⟩, d1, e1, e2, g1, g2, g3, g4, g5, g6⟩ := h
  have hr := a1.2.2.2.2.2
  obtain ⟨o1, o2, o3, o4, o5, o6, o7, o8⟩ := ok
  refine ⟨f.w a1, ⟨?_, ?_, ?_, ?_, b5⟩, ⟨?_, fun k hk => ?_, fun p hp => ?_⟩, f.s hr o4.1 (Or.inl rfl) d1, ?_, fun i hi => f.s hr (o6 i hi).1 (Or.inr (by omega)) (e2 i hi), ?_, fun k hk => ?_, ?_, ?_, ?_, ?_⟩
  · rw [f.2.2.2]; exact b1
  · rw [f.2.2.2]; exact b2
  · rw [f.2.2.2]; exact b3
  · rw [f.2.2.2]; exact b4
  · rw [f.1 n (by omega) (by omega) (by omega) (by omega)]; exact c1
  · rw [f.1 (n + 1) (by omega) (by omega) (by omega) (by omega), f.1 (n + 2) (by omega) (by omega) (by omega) (by omega)]; exact c2 k hk
  · rw [f.2.2.1 n (by omega)]; exact c3 p hp
  · rw [f.2.1 14 (by omega)]; exact e1
  · rw [f.1 1 (by omega) (by omega) (by omega) (by omega)]; exact g1
  · rw [f.1 2 (by omega) (by omega) (by omega) (by omega)]; exact g2 k hk
  · rw [f.1 1 (by omega) (by omega) (by omega) (by omega)]; exact g3
  · rw [f.2.1 15 (by omega)]; exact g4
  · rw [f.2.1 16 (by omega)]; exact g5
  · rw [f.2.1 17 (by omega)]; exact g6
theorem frN.rr {M M' : zMem} {u : Nat → Nat} {c : Nat} (h : frN M M') (hc : c ≠ 0 ∧ (c < 368 ∨ (370 ≤ c ∧ c < 452) ∨ (453 ≤ c ∧ c < 474))) (w : RMr M u c) : RMr M' u c := fun i hi => by rw [h.1 c hc.1 hc.2]; exact w i hi
theorem frN.p {M M' : zMem} {e : PL} (h : frN M M') (he : okPL e) (w : RMp M e) : RMp M' e := by
  have hn := he.2.2.2.2.1
  refine ⟨?_, ?_, ?_, fun k hk => ?_⟩
  · rw [h.1 4 (by omega) (by omega)]; exact w.1
  · rw [h.1 4 (by omega) (by omega)]; exact w.2.1
  · rw [h.1 4 (by omega) (by omega)]; exact w.2.2.1
  · rw [h.1 (17 + (1 + 1 * k)) (by omega) (by omega)]; exact w.2.2.2 k hk
theorem RMn.fr {m m' : zMem} {S : SS} (h : RMn m S) (ok : okS S) (f : frN m m') : RMn m' S := by
  obtain ⟨a1, ⟨l1, l2⟩, ⟨c1, c2⟩, ⟨d1, d2, d3⟩, e1, e2, g1, g2, g3, g4, g5, g6⟩ := h
  obtain ⟨o1, o2, o3, o4, o5, o6, o7, o8⟩ := ok
  have hl := o2.1
  have hb := o3.1
  have hk := o4.1
  refine ⟨f.p o1 a1, ⟨?_, fun k hk => ?_⟩, ⟨?_, fun k hk => ?_⟩, ⟨?_, f.rr (by omega) d2, fun k hk => f.rr (by omega) (d3 k hk)⟩, ?_, fun i hi => ?_, ?_, fun k hk => ?_, ?_, ?_, ?_, ?_⟩
  · rw [f.2 16 (by omega) (by omega)]; exact l1
  · rw [f.1 (28 + (1 + 1 * k)) (by omega) (by omega)]; exact l2 k hk
  · rw [f.2 30 (by omega) (by omega)]; exact c1
  · rw [f.1 (350 + (1 + 1 * k)) (by omega) (by omega)]; exact c2 k hk
  · rw [f.2 31 (by omega) (by omega)]; exact d1
  · rw [f.2 33 (by omega) (by omega)]; exact e1
  · obtain ⟨q1, q2, q3⟩ := e2 i hi
    refine ⟨?_, fun j hj => ?_, fun k hk j hj => ?_⟩
    · rw [f.1 (470 + (1 + 1 * i)) (by omega) (by omega)]; exact q1
    · rw [f.1 (470 + (1 + 1 * i)) (by omega) (by omega)]; exact q2 j hj
    · rw [f.1 (470 + (1 + 1 * i)) (by omega) (by omega)]; exact q3 k hk j hj
  · rw [f.2 1 (by omega) (by omega)]; exact g1
  · rw [f.1 1 (by omega) (by omega)]; exact g2 k hk
  · rw [f.2 3 (by omega) (by omega)]; exact g3
  · rw [f.2 32 (by omega) (by omega)]; exact g4
  · rw [f.1 2 (by omega) (by omega)]; exact g5
  · rw [f.1 2 (by omega) (by omega)]; exact g6
/-! refusals -/
def S0 (S : SS) : SS := (sE S, sL S, sB S, sN S, sI S, sG S, sT S, sY S, sF S, sQ S, s0 S + 1, s1 S)
def S1 (S : SS) : SS := (sE S, sL S, sB S, sN S, sI S, sG S, sT S, sY S, sF S, sQ S, s0 S, s1 S + 1)
theorem okS.z0 {S : SS} (h : okS S) : okS (S0 S) := h
theorem okS.z1 {S : SS} (h : okS S) : okS (S1 S) := h
theorem zI_s {M : zMem} {k j i : Nat} {v : Int32} (h : i ≠ j) : (zI M k j v).1 k i = M.1 k i := by rw [zI_1, upd_n h]
theorem frx_0 {r j : Nat} {x : zMem} {v : Int32} {a : Nat} (h : a ≠ 0) : (zI x 0 j v).1 a = x.1 a := zI_n h
theorem RXs.i0 {x : zMem} {e : PL} {I : IM} {t j : Nat} {v : Int32} (ht : 0 < t) (w : RXs x e I t) : RXs (zI x 0 j v) e I t := by
  have g : ∀ {u : Nat → Nat} {s : Nat}, 0 < s → RXr x e u s → RXr (zI x 0 j v) e u s := fun hs w => by
    obtain ⟨w1, w2, w3, w4, w5⟩ := w
    refine ⟨fun p hp => ?_, ?_, ?_, ?_, w5⟩
    · rw [zI_n (by omega), zI_n (by omega), zI_n (by omega)]; exact w1 p hp
    · rw [zI_n (by omega)]; exact w2
    · rw [zI_n (by omega)]; exact w3
    · rw [zI_n (by omega)]; exact w4
  refine ⟨?_, g (by omega) w.2.1, fun k hk => g (by omega) (w.2.2 k hk)⟩
  rw [zI_n (by omega)]; exact w.1
theorem RXw.i0 {x : zMem} {e : PL} {L : LW} {pl r j : Nat} {v : Int32} (w : RXw x e L pl r) : RXw (zI x 0 j v) e L pl r := by
  obtain ⟨⟨p1, p2, p3, p4, p5⟩, ⟨l1, l2⟩, w1, w2, w3, w4⟩ := w
  refine ⟨⟨?_, ?_, ?_, fun k hk => ?_, p5⟩, ⟨?_, fun k hk => ?_⟩, w1, w2, w3, w4⟩
  · rw [zI_n (by omega)]; exact p1
  · rw [zI_n (by omega)]; exact p2
  · rw [zI_n (by omega)]; exact p3
  · rw [zI_n (by omega), zI_n (by omega)]; exact p4 k hk
  · rw [zI_n (by omega)]; exact l1
  · rw [zI_n (by omega)]; exact l2 k hk
theorem RXn.z0 {x : zMem} {S : SS} {pl r n : Nat} (h : RXn x S pl r n) : RXn (zI x 0 16 (x.1 0 16 + 1)) (S0 S) pl r n := by
  obtain ⟨a1, b, ⟨c1, c2, c3⟩, d1, e1, e2, g1, g2, g3, g4, g5, g6⟩ := h
  have hn := b.2.2.2.2
  refine ⟨a1.i0, b, ⟨?_, fun k hk => ?_, c3⟩, d1.i0 (by omega), ?_, fun i hi => (e2 i hi).i0 (by omega), ?_, fun k hk => ?_, ?_, ?_, ?_, ?_⟩
  · rw [zI_n (by omega)]; exact c1
  · rw [zI_n (by omega), zI_n (by omega)]; exact c2 k hk
  · rw [zI_s (by omega)]; exact e1
  · rw [zI_n (by omega)]; exact g1
  · rw [zI_n (by omega)]; exact g2 k hk
  · rw [zI_n (by omega)]; exact g3
  · rw [zI_s (by omega)]; exact g4
  · rw [zI_1, upd_s, g5, nI_1]; rfl
  · rw [zI_s (by omega)]; exact g6
theorem RXn.z1 {x : zMem} {S : SS} {pl r n : Nat} (h : RXn x S pl r n) : RXn (zI x 0 17 (x.1 0 17 + 1)) (S1 S) pl r n := by
  obtain ⟨a1, b, ⟨c1, c2, c3⟩, d1, e1, e2, g1, g2, g3, g4, g5, g6⟩ := h
  have hn := b.2.2.2.2
  refine ⟨a1.i0, b, ⟨?_, fun k hk => ?_, c3⟩, d1.i0 (by omega), ?_, fun i hi => (e2 i hi).i0 (by omega), ?_, fun k hk => ?_, ?_, ?_, ?_, ?_⟩
  · rw [zI_n (by omega)]; exact c1
  · rw [zI_n (by omega), zI_n (by omega)]; exact c2 k hk
  · rw [zI_s (by omega)]; exact e1
  · rw [zI_n (by omega)]; exact g1
  · rw [zI_n (by omega)]; exact g2 k hk
  · rw [zI_n (by omega)]; exact g3
  · rw [zI_s (by omega)]; exact g4
  · rw [zI_s (by omega)]; exact g5
  · rw [zI_1, upd_s, g6, nI_1]; rfl
theorem frN_t {m : zMem} {v : Int32} : frN m (zI m 0 0 v) := ⟨fun a h _ => zI_n h, fun j h _ => zI_s (by omega)⟩
theorem RMn.z {m : zMem} {S : SS} (h : RMn m S) (ok : okS S) {k : Nat} (hk : k < 2) : RMn (zI m 2 k (m.1 2 k + 1)) (if k = 0 then S0 S else S1 S) := by
  have hS : ∀ P : SS → Prop, P (S0 S) → P (S1 S) → P (if k = 0 then S0 S else S1 S) := fun P a b => by split <;> assumption
  obtain ⟨a1, ⟨l1, l2⟩, ⟨c1, c2⟩, ⟨d1, d2, d3⟩, e1, e2, g1, g2, g3, g4, g5, g6⟩ := h
  have f : ∀ a, a ≠ 2 → (zI m 2 k (m.1 2 k + 1)).1 a = m.1 a := fun a h => zI_n h
  have fp : RMp (zI m 2 k (m.1 2 k + 1)) (sE S) := ⟨by rw [f 4 (by omega)]; exact a1.1, by rw [f 4 (by omega)]; exact a1.2.1, by rw [f 4 (by omega)]; exact a1.2.2.1, fun h hh => by rw [f _ (by omega)]; exact a1.2.2.2 h hh⟩
  have fr : ∀ {u : Nat → Nat} {c : Nat}, c ≠ 2 → RMr m u c → RMr (zI m 2 k (m.1 2 k + 1)) u c := fun hc w i hi => by rw [f _ hc]; exact w i hi
  have fg : ∀ i, i < sI S → RMg (zI m 2 k (m.1 2 k + 1)) (sG S i) (470 + (1 + 1 * i)) := fun i hi => by
    obtain ⟨q1, q2, q3⟩ := e2 i hi
    exact ⟨by rw [f _ (by omega)]; exact q1, fun j hj => by rw [f _ (by omega)]; exact q2 j hj, fun k hk j hj => by rw [f _ (by omega)]; exact q3 k hk j hj⟩
  by_cases z : k = 0
  · subst z
    rw [if_pos rfl]
    exact ⟨fp, ⟨by rw [f 0 (by omega)]; exact l1, fun k hk => by rw [f _ (by omega)]; exact l2 k hk⟩, ⟨by rw [f 0 (by omega)]; exact c1, fun k hk => by rw [f _ (by omega)]; exact c2 k hk⟩, ⟨by rw [f 0 (by omega)]; exact d1, fr (by omega) d2, fun k hk => fr (by omega) (d3 k hk)⟩, by rw [f 0 (by omega)]; exact e1, fg, by rw [f 0 (by omega)]; exact g1, fun k hk => by rw [f 1 (by omega)]; exact g2 k hk, by rw [f 0 (by omega)]; exact g3, by rw [f 0 (by omega)]; exact g4, by rw [zI_1, upd_s, g5, nI_1]; rfl, by rw [zI_s (by omega)]; exact g6⟩
  · have : k = 1 := by omega
    subst this
    rw [if_neg (by omega)]
    exact ⟨fp, ⟨by rw [f 0 (by omega)]; exact l1, fun k hk => by rw [f _ (by omega)]; exact l2 k hk⟩, ⟨by rw [f 0 (by omega)]; exact c1, fun k hk => by rw [f _ (by omega)]; exact c2 k hk⟩, ⟨by rw [f 0 (by omega)]; exact d1, fr (by omega) d2, fun k hk => fr (by omega) (d3 k hk)⟩, by rw [f 0 (by omega)]; exact e1, fg, by rw [f 0 (by omega)]; exact g1, fun k hk => by rw [f 1 (by omega)]; exact g2 k hk, by rw [f 0 (by omega)]; exact g3, by rw [f 0 (by omega)]; exact g4, by rw [zI_s (by omega)]; exact g5, by rw [zI_1, upd_s, g6, nI_1]; rfl⟩
theorem m_bad0 {m : zMem} (h : m.1 0 0 = 0) (w k : Int32) : F_X10_bad m 0 w k = some (0, m) := by
  unfold F_X10_bad F_X10_bad_26
  rw [if_pos rfl, if_pos h]
theorem m_bad1 {m : zMem} (h : m.1 0 0 = 0) {w k : Nat} (hw : 0 < w) (hw2 : w < 9) (hk : k < 2) : F_X10_bad m 1 (nI w) (nI k) = some (1, zI (zI m 0 0 (nI w)) 2 k (m.1 2 k + 1)) := by
  unfold F_X10_bad F_X10_bad_26
  rw [if_neg (by decide), if_pos h, zl_eq, gin_ok hk (by decide), zl_eq, nI_clamp (by omega), zI_n (a := 2) (k := 0) (by omega), zI_n (a := 0) (k := 2) (by omega), zI_1, upd_s, ie0 (by omega), if_neg (by omega)]
theorem x_need1 {x : zMem} : F_X9_need x 1 = some (0, 0, x) := rfl
theorem x_need0 {x : zMem} : F_X9_need x 0 = some (1, 0, zI x 0 17 (x.1 0 17 + 1)) := rfl
theorem x_needThing {x : zMem} (b : Bool) : F_X9_needThing x (bI b) = if b then some (0, 0, x) else some (2, 0, zI x 0 16 (x.1 0 16 + 1)) := by cases b <;> rfl
/-- both answer alike, and stand alike behind it; T: the class' way to end and what the reference says of it -/
def same (T : Nat → Nat → Prop) (ox : Option (Nat × Int32 × zMem)) (om : Option (Int32 × zMem)) : Prop :=
  ∃ k v x' w m' t S', ox = some (k, v, x') ∧ om = some (w, m') ∧ m'.1 0 0 = nI t ∧ T k t ∧ (k = 0 → v = w) ∧ RXo x' S' ∧ RMn m' S' ∧ okS S'
def T1 (k t : Nat) : Prop := (k = 0 ∧ t = 0) ∨ (k = 1 ∧ t = 1)
def T2 (k t : Nat) : Prop := (k = 0 ∧ t = 0) ∨ (k = 2 ∧ t = 1)
def T3 (k t : Nat) : Prop := (k = 0 ∧ t = 0) ∨ (k = 2 ∧ t = 1) ∨ (k = 1 ∧ t = 2)
def same0 (ox om : Option (Int32 × zMem)) : Prop := ∃ v x' m' S', ox = some (v, x') ∧ om = some (v, m') ∧ RXo x' S' ∧ RMn m' S' ∧ okS S'
theorem same_q {T : Nat → Nat → Prop} {ox : Option (Nat × Int32 × zMem)} {om : Option (Int32 × zMem)} {x x' m m' : zMem} {S : SS} {pl r n : Nat} {v : Int32} (hX : RXn x S pl r n) (hM : RMn m S) (ok : okS S) (hT : T 0 0)
    (e1 : ox = some (0, v, x')) (f1 : frQ r x x') (e2 : om = some (v, m')) (f2 : frN m m') (h0 : m'.1 0 0 = 0) : same T ox om :=
  ⟨0, v, x', v, m', 0, S, e1, e2, h0, hT, fun _ => rfl, ⟨pl, r, n, hX.fr ok f1⟩, hM.fr ok f2, ok⟩
/-- refused: by its argument, by no such place -/
theorem same_1 {T : Nat → Nat → Prop} {ox : Option (Nat × Int32 × zMem)} {om : Option (Int32 × zMem)} {x x' m m' : zMem} {S : SS} {pl r n t : Nat} {v w : Int32} (hX : RXn x S pl r n) (hM : RMn m S) (ok : okS S) (hT : T 1 t)
    (f1 : frQ r x x') (f2 : frN m m') (e1 : ox = some (1, v, zI x' 0 17 (x'.1 0 17 + 1))) (e2 : om = some (w, zI (zI m' 0 0 (nI t)) 2 1 (m'.1 2 1 + 1))) : same T ox om := by
  refine ⟨1, v, _, w, _, t, S1 S, e1, e2, ?_, hT, fun h => absurd h (by decide), ⟨pl, r, n, (hX.fr ok f1).z1⟩, ?_, ok⟩
  · rw [zI_n (by omega), zI_1, upd_s]
  · have := ((hM.fr ok f2).fr ok (frN_t (v := nI t))).z ok (k := 1) (by omega)
    rw [zI_n (by omega)] at this
    exact this
theorem same_0 {T : Nat → Nat → Prop} {ox : Option (Nat × Int32 × zMem)} {om : Option (Int32 × zMem)} {x x' m m' : zMem} {S : SS} {pl r n t : Nat} {v w : Int32} (hX : RXn x S pl r n) (hM : RMn m S) (ok : okS S) (hT : T 2 t)
    (f1 : frQ r x x') (f2 : frN m m') (e1 : ox = some (2, v, zI x' 0 16 (x'.1 0 16 + 1))) (e2 : om = some (w, zI (zI m' 0 0 (nI t)) 2 0 (m'.1 2 0 + 1))) : same T ox om := by
  refine ⟨2, v, _, w, _, t, S0 S, e1, e2, ?_, hT, fun h => absurd h (by decide), ⟨pl, r, n, (hX.fr ok f1).z0⟩, ?_, ok⟩
  · rw [zI_n (by omega), zI_1, upd_s]
  · have := ((hM.fr ok f2).fr ok (frN_t (v := nI t))).z ok (k := 0) (by omega)
    rw [zI_n (by omega)] at this
    exact this
