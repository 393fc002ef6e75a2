/-! law: the class' whole reading; the reference's reader -/
def lawF (E : Nat) (z : ZL) : ZL := (if z.1.1 = 0 ∧ z.1.2.2 < E then flS 1 (nI z.1.2.2) z.1 else z.1, z.2)
theorem lawF_n {E : Nat} {z : ZL} (h : ¬ (z.1.1 = 0 ∧ z.1.2.2 < E)) : lawF E z = z := by
  unfold lawF
  rw [if_neg h]
theorem lawF_y {E : Nat} {z : ZL} (h : z.1.1 = 0 ∧ z.1.2.2 < E) : lawF E z = (flS 1 (nI z.1.2.2) z.1, z.2) := by
  unfold lawF
  rw [if_pos h]
theorem lawF_0 {E : Nat} {z : ZL} (h : (lawF E z).1.1 = 0) : lawF E z = z ∧ z.1.1 = 0 ∧ E ≤ z.1.2.2 := by
  by_cases c : z.1.1 = 0 ∧ z.1.2.2 < E
  · exfalso
    rw [lawF_y c] at h
    revert h
    show (flS 1 (nI z.1.2.2) z.1).1 = 0 → False
    unfold flS
    rw [if_pos c.1]
    exact fun w => absurd (show (1 : Nat) = 0 from w) (by decide)
  · rw [lawF_n c] at h ⊢
    exact ⟨rfl, h, by omega⟩
theorem lawF_ok {B : Nat → Nat} {E : Nat} {s z : ZL} (h : PG B E 1 0 s z) : okP B E (lawF E z).1 ∧ okF (lawF E z).1 := by
  by_cases c : z.1.1 = 0 ∧ z.1.2.2 < E
  · rw [lawF_y c]
    exact ⟨fl_ok h.1 (by omega) (by omega), fl_F h.2.1 (by omega)⟩
  · rw [lawF_n c]
    exact ⟨h.1, h.2.1⟩
theorem lawF_L {B : Nat → Nat} {E : Nat} {z : ZL} {P : PS} (hE : E ≤ 150) (h : PG B E 1 0 (P, lw0) z) (q : z.1.1 = 0) : okL z.2 ∧ 1 ≤ lk z.2 := by
  obtain ⟨h1, h2, h3⟩ := h
  obtain ⟨p1, p2, p3, p4⟩ := h3 q
  have k0 : okLh lw0 0 := ⟨fun k hk => absurd hk (Nat.not_lt_zero _), rfl⟩
  have k1 := (h1.2 q).1
  have e0 : lk lw0 = 0 := rfl
  have p2' : P.2.2 + 0 + lk z.2 ≤ z.1.2.2 + lk lw0 := p2
  have p3' : lk lw0 + 1 ≤ lk z.2 := p3
  exact ⟨⟨by omega, fun k hk => (p4 0 k0).1 k hk⟩, by omega⟩
def lawZ (B : Nat → Nat) (E : Nat) : ZL := suS B E 6 (PS0 B E, lw0)
theorem lawZ_ok (B : Nat → Nat) (E : Nat) : PG B E 1 0 (PS0 B E, lw0) (lawZ B E) := (gg_su 6 _ (PS0_ok B E).1 (PS0_ok B E).2).1
theorem x_lwRead {x : zMem} {B : Nat → Nat} {E t : Nat} {z : ZL} (ht : okT B E) (hE : E ≤ 150) (htt : t = 186 ∨ t = 190) (h : TX x B E (PS0 B E)) (hz : z = lawZ B E) :
    ∃ y, F_X3_read x t 1 = some y ∧ TX y B E (lawF E z).1 ∧ frL t x y ∧ ((lawF E z).1.1 = 0 → RXl y (lawF E z).2 t) := by
  obtain ⟨o1, o2⟩ := PS0_ok B E
  have hx := xg_su (t := t) ht hE htt 6 (by omega) 48 (by omega) (zI x t 3 0) (PS0 B E, lw0) o1 o2 (fun _ => Nat.zero_le _) (h.zt (by omega) (by omega)) ⟨⟨0, by omega, by rw [zI_1, upd_s]; rfl⟩, fun _ => ⟨by rw [zI_1, upd_s]; rfl, fun k hk => absurd hk (Nat.not_lt_zero _)⟩⟩
  have hg := lawZ_ok B E
  rw [← hz] at hg
  rw [show suS B E 6 (PS0 B E, lw0) = z from hz.symm] at hx
  obtain ⟨y, a1, a2, a3, a4⟩ := hx
  clear hz
  have a5 : frL t x y := ⟨fun c h1 h2 h3 => by rw [a3.1 c h1 h2 h3, zI_n h2], fun j h1 h2 h3 h4 h5 => by rw [a3.2.1 j h1 h2 h3 h4 h5, zI_n (by omega)], a3.2.2⟩
  have h1 := hg.1
  obtain ⟨y1, b1, b2, b3⟩ := x_goesOn ht h1.1 a2
  have q1 := b3.rq (t := t) (by omega) a4
  have lx : (lawF E z).1.1 = 0 → ∀ w, RXq w t z → RXl w (lawF E z).2 t := fun q w hw => by
    obtain ⟨f1, f2, f3⟩ := lawF_0 q
    obtain ⟨r1, r2⟩ := lawF_L hE hg f2
    rw [f1]
    have e : LX z.2 = z.2 := by unfold LX; rw [if_neg (by omega)]
    unfold RXl
    rw [e]
    exact hw.2 f2
  unfold F_X3_read F_X3_readSum
  have a1' : (FG_X3_readSum 48).1 (zI x t 3 0) t 1 0 = some y := a1
  rw [zl_eq, a1', zbv_some, b1, zb_some]
  dsimp only
  rw [ibI]
  by_cases c : z.1.1 = 0 ∧ z.1.2.2 < E
  · have er := lawF_y c
    obtain ⟨s, s1⟩ := TX.a b2
    obtain ⟨x3, c1, c2, c3⟩ := x_skipBlanks ht s1
    obtain ⟨t1, t2⟩ := c2.at s1.2.2.2.2.1 c.1
    obtain ⟨y2, d1, d2, d3⟩ := x_fail (c := 1) (v := nI z.1.2.2) c2.t h1.1 (by omega)
    rw [if_neg (by rw [decide_eq_true c.1, decide_eq_true c.2]; decide)]
    unfold F_X8_failHere
    rw [c1, zbv_some, t2, show (1 : Int32) = nI 1 from rfl, d1, zbv_some, zbv_some]
    refine ⟨y2, rfl, ?_, ((a5.trans b3.l).trans c3.x.l).trans d3.l, fun q => lx q _ ?_⟩
    · rw [er]; exact d2
    · exact d3.rq (by omega) (c3.x.rq (by omega) q1)
  · have er := lawF_n c
    rw [if_pos (by
      rw [Bool.and_eq_false_iff, decide_eq_false_iff_not, decide_eq_false_iff_not]
      by_cases k : z.1.1 = 0
      · exact Or.inr (fun w => c ⟨k, w⟩)
      · exact Or.inl k)]
    refine ⟨y1, rfl, ?_, a5.trans b3.l, fun q => lx q _ q1⟩
    rw [er]; exact b2
/-! the reference -/
def RMq (m : zMem) (z : ZL) : Prop := z.1.1 = 0 → m.1 0 17 = nI (lk z.2) ∧ ∀ k, k < lk z.2 → m.1 (189 + (1 + 1 * k)) 0 = nI (lki z.2 k) ∧ m.1 (189 + (1 + 1 * k)) 1 = nI (lva z.2 k)
def frMl (m y : zMem) : Prop := (∀ c, c ≠ 0 → ¬ (189 < c ∧ c < 350) → y.1 c = m.1 c) ∧ (∀ j, j ≠ 4 → j ≠ 5 → j ≠ 6 → j ≠ 8 → j ≠ 17 → y.1 0 j = m.1 0 j) ∧ y.2 = m.2
theorem frMl.refl {x : zMem} : frMl x x := ⟨fun _ _ _ => rfl, fun _ _ _ _ _ _ => rfl, rfl⟩
theorem frMl.trans {x y z : zMem} (h : frMl x y) (k : frMl y z) : frMl x z := ⟨fun c h1 h2 => (k.1 c h1 h2).trans (h.1 c h1 h2), fun j h1 h2 h3 h4 h5 => (k.2.1 j h1 h2 h3 h4 h5).trans (h.2.1 j h1 h2 h3 h4 h5), k.2.2.trans h.2.2⟩
theorem frTM.l {x y : zMem} (h : frTM x y) : frMl x y := ⟨fun c h1 _ => h.1 c h1, fun j h1 h2 h3 _ _ => h.2.1 j h1 h2 h3, h.2.2⟩
theorem frTM.rq {x y : zMem} {z : ZL} (h : frTM x y) (w : RMq x z) : RMq y z := by
  intro q
  obtain ⟨w1, w2⟩ := w q
  refine ⟨by rw [h.2.1 17 (by omega) (by omega) (by omega)]; exact w1, fun k hk => ?_⟩
  rw [h.1 _ (by omega)]; exact w2 k hk
theorem frTM.o8 {x y : zMem} (h : frTM x y) : y.1 0 8 = x.1 0 8 := h.2.1 8 (by omega) (by omega) (by omega)
theorem frMl.z8 {x : zMem} {v : Int32} : frMl x (zI x 0 8 v) := ⟨fun a h _ => zI_n h, fun i _ _ _ h _ => zI_s h, rfl⟩
theorem RMq.z8 {x : zMem} {v : Int32} {z : ZL} (w : RMq x z) : RMq (zI x 0 8 v) z := by
  intro q
  obtain ⟨w1, w2⟩ := w q
  refine ⟨by rw [zI_s (by omega)]; exact w1, fun k hk => ?_⟩
  rw [zI_n (by omega)]; exact w2 k hk
theorem RMq.ch {x : zMem} {z z' : ZL} (w : RMq x z) (h : z'.1.1 = 0 → z.1.1 = 0 ∧ z'.2 = z.2) : RMq x z' := fun q => by
  obtain ⟨h1, h2⟩ := h q
  rw [h2]
  exact w h1
theorem m_notes {m : zMem} {B : Nat → Nat} {E ki va : Nat} {z : ZL} {v : Int32} (h : TM m B E z.1) (hP : z.1.1 ≤ 3) (hq : RMq m z) (hr : z.1.1 = 0 → lk z.2 < 150) (hv : z.1.1 = 0 → v = nI va) :
    ∃ y, F_X10_notes m (nI ki) v = some y ∧ TM y B E z.1 ∧ frMl m y ∧ RMq y (psh z ki va) ∧ y.1 0 8 = m.1 0 8 := by
  unfold F_X10_notes
  rw [h.1, ie0 (by omega)]
  by_cases c : z.1.1 = 0
  · obtain ⟨q1, q2⟩ := hq c
    have hr := hr c
    have hv := hv c
    rw [if_pos c, q1, gin_ok (by omega) (by decide), zl_eq, nI_clamp (by omega), zI_n (a := 0) (k := 189 + (1 + 1 * lk z.2)) (by omega), q1, gin_ok (by omega) (by decide), zl_eq, nI_clamp (by omega), zI_n (a := 0) (k := 189 + (1 + 1 * lk z.2)) (by omega), zI_n (a := 0) (k := 189 + (1 + 1 * lk z.2)) (by omega), q1, zl_eq, nI_1]
    have e2 : (psh z ki va).2 = pshL z.2 ki va := if_pos c
    refine ⟨_, rfl, TM.z7 ((h.zt (by omega) (by omega)).zt (by omega) (by omega)) (by omega), ⟨fun a h1 h2 => by rw [zI_n h1, zI_n (by omega), zI_n (by omega)], fun j _ _ _ _ h5 => by rw [zI_s h5, zI_n (by omega), zI_n (by omega)], rfl⟩, fun _ => ?_, by rw [zI_s (by omega), zI_n (by omega), zI_n (by omega)]⟩
    rw [e2]
    refine ⟨by rw [zI_1, upd_s]; rfl, fun j hj => ?_⟩
    have hj' : j < lk z.2 + 1 := hj
    rw [zI_n (by omega)]
    by_cases cj : j = lk z.2
    · rw [cj, psh_ki, psh_va, zI_s (by omega), zI_1, upd_s, zI_1, upd_s, hv]
      exact ⟨rfl, rfl⟩
    · rw [zI_n (by omega), zI_n (by omega), show lki (pshL z.2 ki va) j = lki z.2 j from upN_n cj, show lva (pshL z.2 ki va) j = lva z.2 j from upN_n cj]
      exact q2 j (by omega)
  · rw [if_neg c]
    exact ⟨m, rfl, h, frMl.refl, fun q => absurd q c, rfl⟩
def MG (B : Nat → Nat) (E o : Nat) (g : ZL → ZL) (p : zMem → Option zMem) : Prop :=
  ∀ m z, okP B E z.1 → okF z.1 → lq z → TM m B E z.1 → RMq m z → (z.1.1 = 0 → m.1 0 8 = nI o) → ∃ y, p m = some y ∧ TM y B E (g z).1 ∧ frMl m y ∧ RMq y (g z) ∧ ((g z).1.1 = 0 → y.1 0 8 = nI o)
theorem m_takesB {x : zMem} {B : Nat → Nat} {E : Nat} {P : PS} {c : Nat} (ht : okT B E) (hP : P.1 ≤ 3) (hc : c < 256) (h : TM x B E P) :
    ∃ y, F_X10_takesSign x (nI c) = some (bI (hasB B E P c), y) ∧ TM y B E (if hasB B E P c = true then sgS B E (nI c) P else P) ∧ frTM x y := m_takesSign ht hP hc h
theorem jn_pos {B : Nat → Nat} {E c k : Nat} {u : ZL → ZL} {z : ZL} (hu : GG B E u) (h1 : okP B E z.1) (h2 : okF z.1) (hc : c < 256) (q : (jn B E u c k z).1.1 = 0) : z.1.2.2 + 1 ≤ (jn B E u c k z).1.2.2 := by
  have g1 := pg_sg (B := B) (E := E) (c := c) (z := z) h1 h2 hc
  have g2 := (hu _ g1.1 g1.2.1).1
  obtain ⟨p1, p2, p3, p4⟩ := (g1.trans g2).2.2 q
  show z.1.2.2 + 1 ≤ (u (sgS B E (nI c) z.1, z.2)).1.2.2
  omega
theorem itP_pos {B : Nat → Nat} {E : Nat} {u : ZL → ZL} {s z : ZL} (hu : GG B E u) (h : PG B E 1 0 s z) : ∀ k, (hasB B E (itS (stP B E u) z k).1 42 = true ∨ hasB B E (itS (stP B E u) z k).1 47 = true ∨ hasB B E (itS (stP B E u) z k).1 37 = true) → k ≤ (itS (stP B E u) z k).1.2.2
  | 0, _ => Nat.zero_le _
  | k + 1, hc => by
    have ih := itP_pos hu h k
    have gk := pg_itP hu h k
    rw [itS_s] at hc ⊢
    generalize itS (stP B E u) z k = w at *
    have hz : (stP B E u w).1.1 = 0 := by
      rcases hc with hc | hc | hc <;> exact (hasB_0 hc).1
    by_cases d1 : hasB B E w.1 42 = true
    · have e : stP B E u w = jn B E u 42 4 w := by unfold stP; rw [if_pos d1]
      rw [e] at hz ⊢
      have := jn_pos hu gk.1 gk.2.1 (by omega) hz
      have := ih (Or.inl d1)
      omega
    by_cases d2 : hasB B E w.1 47 = true
    · have e : stP B E u w = jn B E u 47 5 w := by unfold stP; rw [if_neg d1, if_pos d2]
      rw [e] at hz ⊢
      have := jn_pos hu gk.1 gk.2.1 (by omega) hz
      have := ih (Or.inr (Or.inl d2))
      omega
    by_cases d3 : hasB B E w.1 37 = true
    · have e : stP B E u w = jn B E u 37 6 w := by unfold stP; rw [if_neg d1, if_neg d2, if_pos d3]
      rw [e] at hz ⊢
      have := jn_pos hu gk.1 gk.2.1 (by omega) hz
      have := ih (Or.inr (Or.inr d3))
      omega
    · have e : stP B E u w = w := by unfold stP; rw [if_neg d1, if_neg d2, if_neg d3]
      rw [e] at hc
      rcases hc with hc | hc | hc
      · exact absurd hc d1
      · exact absurd hc d2
      · exact absurd hc d3
theorem itM_pos {B : Nat → Nat} {E : Nat} {u : ZL → ZL} {s z : ZL} (hu : GG B E u) (h : PG B E 1 0 s z) : ∀ k, (hasB B E (itS (stM B E u) z k).1 43 = true ∨ hasB B E (itS (stM B E u) z k).1 45 = true) → k ≤ (itS (stM B E u) z k).1.2.2
  | 0, _ => Nat.zero_le _
  | k + 1, hc => by
    have ih := itM_pos hu h k
    have gk := pg_itM hu h k
    rw [itS_s] at hc ⊢
    generalize itS (stM B E u) z k = w at *
    have hz : (stM B E u w).1.1 = 0 := by
      rcases hc with hc | hc <;> exact (hasB_0 hc).1
    by_cases d1 : hasB B E w.1 43 = true
    · have e : stM B E u w = jn B E u 43 2 w := by unfold stM; rw [if_pos d1]
      rw [e] at hz ⊢
      have := jn_pos hu gk.1 gk.2.1 (by omega) hz
      have := ih (Or.inl d1)
      omega
    by_cases d2 : hasB B E w.1 45 = true
    · have e : stM B E u w = jn B E u 45 3 w := by unfold stM; rw [if_neg d1, if_pos d2]
      rw [e] at hz ⊢
      have := jn_pos hu gk.1 gk.2.1 (by omega) hz
      have := ih (Or.inr d2)
      omega
    · have e : stM B E u w = w := by unfold stM; rw [if_neg d1, if_neg d2]
      rw [e] at hc
      rcases hc with hc | hc
      · exact absurd hc d1
      · exact absurd hc d2
theorem m_jn {y : zMem} {B : Nat → Nat} {E o c k : Nat} {u : ZL → ZL} {z : ZL} {p : zMem → Option zMem} (hE : E ≤ 150) (hc : c < 256) (hu : GG B E u) (hp : MG B E o u p) (h1 : okP B E z.1) (h2 : okF z.1) (hl : lq z) (hT : TM y B E (sgS B E (nI c) z.1)) (hq : RMq y z) (h8 : z.1.1 = 0 → y.1 0 8 = nI o) :
    ∃ y1 y2, p y = some y1 ∧ F_X10_notes y1 (nI k) 0 = some y2 ∧ TM y2 B E (jn B E u c k z).1 ∧ frMl y y2 ∧ RMq y2 (jn B E u c k z) ∧ ((jn B E u c k z).1.1 = 0 → y2.1 0 8 = nI o) := by
  have g1 := pg_sg (B := B) (E := E) (c := c) h1 h2 hc
  have g2 := (hu _ g1.1 g1.2.1).1
  obtain ⟨y1, b1, b2, b3, b4, b5⟩ := hp y (sgS B E (nI c) z.1, z.2) g1.1 g1.2.1 (g1.lq hl) hT (hq.ch (fun q => ⟨sg_0 q, rfl⟩)) (fun q => h8 (sg_0 q))
  obtain ⟨y2, c1, c2, c3, c4, c5⟩ := m_notes (ki := k) (va := 0) (v := 0) b2 g2.1.1 b4 (PG.room (e := 0) (g1.trans g2) hl hE) (fun _ => rfl)
  exact ⟨y1, y2, b1, c1, c2, b3.trans c3, c4, fun q => by rw [c5]; exact b5 q⟩
theorem mg_pr {B : Nat → Nat} {E o : Nat} {u : ZL → ZL} {p : zMem → Option zMem} (ht : okT B E) (hE : E ≤ 150) (hu : GG B E u) (hp : MG B E o u p) : MG B E o (prS B E u) (fun M => F_X10_product_r M p) := by
  intro x z h1 h2 hl hT hq h8
  obtain ⟨x1, a1, a2, a3, a4, a5⟩ := hp x z h1 h2 hl hT hq h8
  have gu := (hu z h1 h2).1
  have body : ∀ (g : zMem → Option zMem) (k : Nat) (y : zMem), k ≤ 150 → TM y B E (itS (stP B E u) (u z) k).1 → frMl x y → RMq y (itS (stP B E u) (u z) k) → ((itS (stP B E u) (u z) k).1.1 = 0 → y.1 0 8 = nI o) →
      (k < 150 → ∀ s', TM s' B E (itS (stP B E u) (u z) (k + 1)).1 ∧ frMl x s' ∧ RMq s' (itS (stP B E u) (u z) (k + 1)) ∧ ((itS (stP B E u) (u z) (k + 1)).1.1 = 0 → s'.1 0 8 = nI o) → wp (g s') (fun y => TM y B E (prS B E u z).1 ∧ frMl x y ∧ RMq y (prS B E u z) ∧ ((prS B E u z).1.1 = 0 → y.1 0 8 = nI o))) →
      wp (F_X10_product_4 p g y) (fun y => TM y B E (prS B E u z).1 ∧ frMl x y ∧ RMq y (prS B E u z) ∧ ((prS B E u z).1.1 = 0 → y.1 0 8 = nI o)) := fun g k y hk i1 i2 i3 i4 ih => by
    have gk := pg_itP hu gu k
    have es := itS_s (stP B E u) (u z) k
    have hpos := itP_pos hu gu k
    have fin : stP B E u (itS (stP B E u) (u z) k) = itS (stP B E u) (u z) k → prS B E u z = itS (stP B E u) (u z) k := fun e => itS_stop e 150 (by omega)
    generalize itS (stP B E u) (u z) k = w at *
    have hlt : (hasB B E w.1 42 = true ∨ hasB B E w.1 47 = true ∨ hasB B E w.1 37 = true) → k < 150 := fun hc => by
      have h3 := hpos hc
      have h4 : w.1.2.2 < E := by
        rcases hc with hc | hc | hc <;> exact (hasB_0 hc).2.1
      omega
    have jj : ∀ c kk (y' : zMem), c < 256 → nI kk ≠ (-1 : Int32) → k < 150 → TM y' B E (sgS B E (nI c) w.1) → frMl x y' → RMq y' w → (w.1.1 = 0 → y'.1 0 8 = nI o) → stP B E u w = jn B E u c kk w → wp (F_X10_product_52 p g (nI kk) y') (fun y => TM y B E (prS B E u z).1 ∧ frMl x y ∧ RMq y (prS B E u z) ∧ ((prS B E u z).1.1 = 0 → y.1 0 8 = nI o)) := fun c kk y' hc hkk hk1 r1 r2 r3 r5 r4 => by
      obtain ⟨y1, y2, s1, s2, s3, s4, s5, s6⟩ := m_jn (k := kk) hE hc hu hp gk.1 gk.2.1 (gk.lq hl) r1 r3 r5
      unfold F_X10_product_52
      rw [if_neg hkk, s1, zbv_some, s2, zbv_some]
      refine ih hk1 y2 ?_
      rw [es, r4]
      exact ⟨s3, r2.trans s4, s5, s6⟩
    unfold F_X10_product_4
    have hP3 := gk.1.1
    rw [i1.1, ie0 (by omega)]
    by_cases z0 : w.1.1 = 0
    · obtain ⟨b1, c1, c2, c3⟩ := m_takesB (c := 42) ht gk.1.1 (by omega) i1
      rw [if_pos z0, show (42 : Int32) = nI 42 from rfl, c1, zb_some]
      dsimp only
      rw [ibI]
      by_cases d1 : hasB B E w.1 42 = true
      · rw [if_neg (by rw [d1]; decide)]
        rw [if_pos d1] at c2
        exact jj 42 4 b1 (by omega) (by decide) (hlt (Or.inl d1)) c2 (i2.trans c3.l) (c3.rq i3) (fun q => by rw [c3.o8]; exact i4 q) (by unfold stP; rw [if_pos d1])
      · rw [if_neg d1] at c2
        obtain ⟨b2, e1, e2, e3⟩ := m_takesB (c := 47) ht gk.1.1 (by omega) c2
        rw [if_pos (by simpa using d1), show (47 : Int32) = nI 47 from rfl, e1, zb_some]
        dsimp only
        rw [ibI]
        by_cases d2 : hasB B E w.1 47 = true
        · rw [if_neg (by rw [d2]; decide)]
          rw [if_pos d2] at e2
          exact jj 47 5 b2 (by omega) (by decide) (hlt (Or.inr (Or.inl d2))) e2 ((i2.trans c3.l).trans e3.l) (e3.rq (c3.rq i3)) (fun q => by rw [e3.o8, c3.o8]; exact i4 q) (by unfold stP; rw [if_neg d1, if_pos d2])
        · rw [if_neg d2] at e2
          obtain ⟨b3, f1, f2, f3⟩ := m_takesB (c := 37) ht gk.1.1 (by omega) e2
          rw [if_pos (by simpa using d2), show (37 : Int32) = nI 37 from rfl, f1, zb_some]
          dsimp only
          rw [ibI]
          by_cases d3 : hasB B E w.1 37 = true
          · rw [if_neg (by rw [d3]; decide)]
            rw [if_pos d3] at f2
            exact jj 37 6 b3 (by omega) (by decide) (hlt (Or.inr (Or.inr d3))) f2 (((i2.trans c3.l).trans e3.l).trans f3.l) (f3.rq (e3.rq (c3.rq i3))) (fun q => by rw [f3.o8, e3.o8, c3.o8]; exact i4 q) (by unfold stP; rw [if_neg d1, if_neg d2, if_pos d3])
          · rw [if_neg d3] at f2
            unfold F_X10_product_52
            rw [if_pos (by simpa using d3), if_pos rfl, wp_some]
            have e : stP B E u w = w := by unfold stP; rw [if_neg d1, if_neg d2, if_neg d3]
            rw [fin e]
            exact ⟨f2, ((i2.trans c3.l).trans e3.l).trans f3.l, f3.rq (e3.rq (c3.rq i3)), fun q => by rw [f3.o8, e3.o8, c3.o8]; exact i4 q⟩
    · rw [if_neg z0, wp_some, fin (stP_n z0)]
      exact ⟨i1, i2, i3, i4⟩
  have main : wp (itF (fun _ => none) (F_X10_product_4 p) zFuel x1) (fun y => TM y B E (prS B E u z).1 ∧ frMl x y ∧ RMq y (prS B E u z) ∧ ((prS B E u z).1.1 = 0 → y.1 0 8 = nI o)) := by
    refine loopN (F_X10_product_4 p) (fun g (k : Nat) (y : zMem) => g y) 150 (fun k y => TM y B E (itS (stP B E u) (u z) k).1 ∧ frMl x y ∧ RMq y (itS (stP B E u) (u z) k) ∧ ((itS (stP B E u) (u z) k).1.1 = 0 → y.1 0 8 = nI o)) _ (fun g k y hk hI ih => ?_) (fun g y hI => ?_) (k := 0) (s := x1) (by omega) ⟨a2, a3, a4, a5⟩ (by omega)
    · exact body g k y (by omega) hI.1 hI.2.1 hI.2.2.1 hI.2.2.2 (fun _ s' hs' => ih s' hs')
    · exact body g 150 y (by omega) hI.1 hI.2.1 hI.2.2.1 hI.2.2.2 (fun w => absurd w (by omega))
  obtain ⟨y, m1, m2⟩ := main
  refine ⟨y, ?_, m2⟩
  show F_X10_product_r x p = some y
  unfold F_X10_product_r
  rw [a1, zbv_some]
  exact m1
theorem mg_sm {B : Nat → Nat} {E o : Nat} {u : ZL → ZL} {p : zMem → Option zMem} (ht : okT B E) (hE : E ≤ 150) (hu : GG B E u) (hp : MG B E o u p) : MG B E o (smS B E u) (fun M => F_X10_sum_r M p) := by
  intro x z h1 h2 hl hT hq h8
  obtain ⟨x1, a1, a2, a3, a4, a5⟩ := hp x z h1 h2 hl hT hq h8
  have gu := (hu z h1 h2).1
  have body : ∀ (g : zMem → Option zMem) (k : Nat) (y : zMem), k ≤ 150 → TM y B E (itS (stM B E u) (u z) k).1 → frMl x y → RMq y (itS (stM B E u) (u z) k) → ((itS (stM B E u) (u z) k).1.1 = 0 → y.1 0 8 = nI o) →
      (k < 150 → ∀ s', TM s' B E (itS (stM B E u) (u z) (k + 1)).1 ∧ frMl x s' ∧ RMq s' (itS (stM B E u) (u z) (k + 1)) ∧ ((itS (stM B E u) (u z) (k + 1)).1.1 = 0 → s'.1 0 8 = nI o) → wp (g s') (fun y => TM y B E (smS B E u z).1 ∧ frMl x y ∧ RMq y (smS B E u z) ∧ ((smS B E u z).1.1 = 0 → y.1 0 8 = nI o))) →
      wp (F_X10_sum_4 p g y) (fun y => TM y B E (smS B E u z).1 ∧ frMl x y ∧ RMq y (smS B E u z) ∧ ((smS B E u z).1.1 = 0 → y.1 0 8 = nI o)) := fun g k y hk i1 i2 i3 i4 ih => by
    have gk := pg_itM hu gu k
    have es := itS_s (stM B E u) (u z) k
    have hpos := itM_pos hu gu k
    have fin : stM B E u (itS (stM B E u) (u z) k) = itS (stM B E u) (u z) k → smS B E u z = itS (stM B E u) (u z) k := fun e => itS_stop e 150 (by omega)
    generalize itS (stM B E u) (u z) k = w at *
    have hlt : (hasB B E w.1 43 = true ∨ hasB B E w.1 45 = true) → k < 150 := fun hc => by
      have h3 := hpos hc
      have h4 : w.1.2.2 < E := by
        rcases hc with hc | hc <;> exact (hasB_0 hc).2.1
      omega
    have jj : ∀ c kk (y' : zMem), c < 256 → nI kk ≠ (-1 : Int32) → k < 150 → TM y' B E (sgS B E (nI c) w.1) → frMl x y' → RMq y' w → (w.1.1 = 0 → y'.1 0 8 = nI o) → stM B E u w = jn B E u c kk w → wp (F_X10_sum_38 p g (nI kk) y') (fun y => TM y B E (smS B E u z).1 ∧ frMl x y ∧ RMq y (smS B E u z) ∧ ((smS B E u z).1.1 = 0 → y.1 0 8 = nI o)) := fun c kk y' hc hkk hk1 r1 r2 r3 r5 r4 => by
      obtain ⟨y1, y2, s1, s2, s3, s4, s5, s6⟩ := m_jn (k := kk) hE hc hu hp gk.1 gk.2.1 (gk.lq hl) r1 r3 r5
      unfold F_X10_sum_38
      rw [if_neg hkk, s1, zbv_some, s2, zbv_some]
      refine ih hk1 y2 ?_
      rw [es, r4]
      exact ⟨s3, r2.trans s4, s5, s6⟩
    unfold F_X10_sum_4
    have hP3 := gk.1.1
    rw [i1.1, ie0 (by omega)]
    by_cases z0 : w.1.1 = 0
    · obtain ⟨b1, c1, c2, c3⟩ := m_takesB (c := 43) ht gk.1.1 (by omega) i1
      rw [if_pos z0, show (43 : Int32) = nI 43 from rfl, c1, zb_some]
      dsimp only
      rw [ibI]
      by_cases d1 : hasB B E w.1 43 = true
      · rw [if_neg (by rw [d1]; decide)]
        rw [if_pos d1] at c2
        exact jj 43 2 b1 (by omega) (by decide) (hlt (Or.inl d1)) c2 (i2.trans c3.l) (c3.rq i3) (fun q => by rw [c3.o8]; exact i4 q) (by unfold stM; rw [if_pos d1])
      · rw [if_neg d1] at c2
        obtain ⟨b2, e1, e2, e3⟩ := m_takesB (c := 45) ht gk.1.1 (by omega) c2
        rw [if_pos (by simpa using d1), show (45 : Int32) = nI 45 from rfl, e1, zb_some]
        dsimp only
        rw [ibI]
        by_cases d2 : hasB B E w.1 45 = true
        · rw [if_neg (by rw [d2]; decide)]
          rw [if_pos d2] at e2
          exact jj 45 3 b2 (by omega) (by decide) (hlt (Or.inr d2)) e2 ((i2.trans c3.l).trans e3.l) (e3.rq (c3.rq i3)) (fun q => by rw [e3.o8, c3.o8]; exact i4 q) (by unfold stM; rw [if_neg d1, if_pos d2])
        · rw [if_neg d2] at e2
          unfold F_X10_sum_38
          rw [if_pos (by simpa using d2), if_pos rfl, wp_some]
          have e : stM B E u w = w := by unfold stM; rw [if_neg d1, if_neg d2]
          rw [fin e]
          exact ⟨e2, (i2.trans c3.l).trans e3.l, e3.rq (c3.rq i3), fun q => by rw [e3.o8, c3.o8]; exact i4 q⟩
    · rw [if_neg z0, wp_some, fin (stM_n z0)]
      exact ⟨i1, i2, i3, i4⟩
  have main : wp (itF (fun _ => none) (F_X10_sum_4 p) zFuel x1) (fun y => TM y B E (smS B E u z).1 ∧ frMl x y ∧ RMq y (smS B E u z) ∧ ((smS B E u z).1.1 = 0 → y.1 0 8 = nI o)) := by
    refine loopN (F_X10_sum_4 p) (fun g (k : Nat) (y : zMem) => g y) 150 (fun k y => TM y B E (itS (stM B E u) (u z) k).1 ∧ frMl x y ∧ RMq y (itS (stM B E u) (u z) k) ∧ ((itS (stM B E u) (u z) k).1.1 = 0 → y.1 0 8 = nI o)) _ (fun g k y hk hI ih => ?_) (fun g y hI => ?_) (k := 0) (s := x1) (by omega) ⟨a2, a3, a4, a5⟩ (by omega)
    · exact body g k y (by omega) hI.1 hI.2.1 hI.2.2.1 hI.2.2.2 (fun _ s' hs' => ih s' hs')
    · exact body g 150 y (by omega) hI.1 hI.2.1 hI.2.2.1 hI.2.2.2 (fun w => absurd w (by omega))
  obtain ⟨y, m1, m2⟩ := main
  refine ⟨y, ?_, m2⟩
  show F_X10_sum_r x p = some y
  unfold F_X10_sum_r
  rw [a1, zbv_some]
  exact m1
