/-! law: the class' reader keeps to the machine -/
def RXq (x : zMem) (t : Nat) (z : ZL) : Prop := (∃ k, k ≤ 150 ∧ x.1 t 3 = nI k) ∧ (z.1.1 = 0 → x.1 t 3 = nI (lk z.2) ∧ ∀ k, k < lk z.2 → x.1 (t + 1) k = nI (enc (lki z.2 k) (lva z.2 k)))
def lq (z : ZL) : Prop := z.1.1 = 0 → lk z.2 ≤ z.1.2.2
def frL (t : Nat) (x y : zMem) : Prop := (∀ c, c ≠ 1 → c ≠ t → c ≠ t + 1 → y.1 c = x.1 c) ∧ (∀ j, j ≠ 2 → j ≠ 3 → j ≠ 4 → j ≠ 5 → j ≠ 7 → y.1 1 j = x.1 1 j) ∧ y.2 = x.2
theorem frL.refl {t : Nat} {x : zMem} : frL t x x := ⟨fun _ _ _ _ => rfl, fun _ _ _ _ _ _ => rfl, rfl⟩
theorem frL.trans {t : Nat} {x y z : zMem} (h : frL t x y) (k : frL t y z) : frL t x z := ⟨fun c h1 h2 h3 => (k.1 c h1 h2 h3).trans (h.1 c h1 h2 h3), fun j h1 h2 h3 h4 h5 => (k.2.1 j h1 h2 h3 h4 h5).trans (h.2.1 j h1 h2 h3 h4 h5), k.2.2.trans h.2.2⟩
theorem frTX.l {t : Nat} {x y : zMem} (h : frTX x y) : frL t x y := ⟨fun c h1 _ _ => h.1 c h1, h.2.1, h.2.2⟩
theorem frTX.rq {t : Nat} {x y : zMem} {z : ZL} (h : frTX x y) (ht : 1 < t) (w : RXq x t z) : RXq y t z := by
  unfold RXq
  rw [h.1 t (by omega), h.1 (t + 1) (by omega)]
  exact w
theorem RXq.ch {t : Nat} {x : zMem} {z z' : ZL} (w : RXq x t z) (h : z'.1.1 = 0 → z.1.1 = 0 ∧ z'.2 = z.2) : RXq x t z' := by
  refine ⟨w.1, fun q => ?_⟩
  obtain ⟨h1, h2⟩ := h q
  rw [h2]
  exact w.2 h1
theorem PG.room {B : Nat → Nat} {E d e : Nat} {z y : ZL} (h : PG B E d (e + 1) z y) (hl : lq z) (hE : E ≤ 150) : y.1.1 = 0 → lk y.2 < 150 := fun q => by
  obtain ⟨p1, p2, p3, p4⟩ := h.2.2 q
  have := hl p1
  have := (h.1.2 q).1
  omega
theorem PG.lq {B : Nat → Nat} {E d e : Nat} {z y : ZL} (h : PG B E d e z y) (hl : lq z) : lq y := fun q => by
  obtain ⟨p1, p2, p3, p4⟩ := h.2.2 q
  have := hl p1
  omega
theorem x_emitq {x : zMem} {B : Nat → Nat} {E t ki va : Nat} {z : ZL} {v : Int32} (htt : t = 186 ∨ t = 190) (h : TX x B E z.1) (hq : RXq x t z) (hr : z.1.1 = 0 → lk z.2 < 150) (hv : z.1.1 = 0 → v = nI (enc ki va)) :
    ∃ y, F_X3_emit x t v = some y ∧ TX y B E z.1 ∧ frL t x y ∧ RXq y t (psh z ki va) := by
  obtain ⟨⟨k, hk, hk2⟩, hq2⟩ := hq
  by_cases c : k = 150
  · refine ⟨x, ?_, h, frL.refl, ⟨k, hk, hk2⟩, fun q => ?_⟩
    · unfold F_X3_emit
      rw [hk2, ile (by omega) (by omega), if_pos (by omega)]
    · have q' : z.1.1 = 0 := q
      have h1 := (hq2 q').1
      have h2 := hr q'
      rw [hk2, nI_eq (by omega) (by omega)] at h1
      omega
  · refine ⟨_, x_emit hk2 (by omega), (h.zt (by omega) (by omega)).zt (by omega) (by omega), ⟨fun a h1 h2 h3 => by rw [zI_n h2, zI_n h3], fun j _ _ _ _ _ => by rw [zI_n (by omega), zI_n (by omega)], rfl⟩, ⟨k + 1, by omega, by rw [zI_1, upd_s]⟩, fun q => ?_⟩
    have q' : z.1.1 = 0 := q
    obtain ⟨h1, h3⟩ := hq2 q'
    have h2 := hr q'
    rw [hk2, nI_eq (by omega) (by omega)] at h1
    have e2 : (psh z ki va).2 = pshL z.2 ki va := if_pos q'
    rw [e2]
    refine ⟨by rw [zI_1, upd_s, h1]; rfl, fun j hj => ?_⟩
    have hj' : j < lk z.2 + 1 := hj
    rw [zI_n (by omega), zI_1]
    by_cases cj : j = lk z.2
    · rw [cj, h1, upd_s, psh_ki, psh_va]; exact hv q'
    · rw [upd_n (by omega), show lki (pshL z.2 ki va) j = lki z.2 j from upN_n cj, show lva (pshL z.2 ki va) j = lva z.2 j from upN_n cj]
      exact h3 j (by omega)
/-- a program of the reader at o open ones, and what it does -/
def XG (B : Nat → Nat) (E t o : Nat) (g : ZL → ZL) (p : zMem → Nat → Nat → Int32 → Option zMem) : Prop :=
  ∀ x z, okP B E z.1 → okF z.1 → lq z → TX x B E z.1 → RXq x t z → ∃ y, p x t 1 (nI o) = some y ∧ TX y B E (g z).1 ∧ frL t x y ∧ RXq y t (g z)
theorem x_seesB {x : zMem} {B : Nat → Nat} {E : Nat} {P : PS} {c : Nat} (ht : okT B E) (hP : P.1 ≤ 3) (hc : c < 256) (h : TX x B E P) :
    ∃ y, F_X8_sees x 1 (nI c) = some (bI (hasB B E P c), y) ∧ TX y B E P ∧ frTX x y := by
  obtain ⟨y, h1, h2, h3, h4⟩ := x_sees ht hP hc h
  exact ⟨y, h1, h2, h3.x⟩
theorem x_jn {y : zMem} {B : Nat → Nat} {E t o c k : Nat} {u : ZL → ZL} {z : ZL} {p : zMem → Nat → Nat → Int32 → Option zMem} (ht : okT B E) (hE : E ≤ 150) (htt : t = 186 ∨ t = 190) (hc : c < 256) (hk : 2 ≤ k) (hu : GG B E u) (hp : XG B E t o u p) (h1 : okP B E z.1) (h2 : okF z.1) (hl : lq z) (hT : TX y B E z.1) (hq : RXq y t z) :
    ∃ y1 y2 y3, F_X8_sign y 1 (nI c) = some y1 ∧ p y1 t 1 (nI o) = some y2 ∧ F_X3_emit y2 t (nI (1006 + k)) = some y3 ∧ TX y3 B E (jn B E u c k z).1 ∧ frL t y y3 ∧ RXq y3 t (jn B E u c k z) := by
  have g1 := pg_sg (B := B) (E := E) (c := c) h1 h2 hc
  have g2 := (hu _ g1.1 g1.2.1).1
  obtain ⟨y1, a1, a2, a3⟩ := x_sign (c := c) ht h1.1 hc hT
  obtain ⟨y2, b1, b2, b3, b4⟩ := hp y1 (sgS B E (nI c) z.1, z.2) g1.1 g1.2.1 (g1.lq hl) a2 ((a3.rq (by omega) hq).ch (fun q => ⟨sg_0 q, rfl⟩))
  obtain ⟨y3, c1, c2, c3, c4⟩ := x_emitq (ki := k) (va := 0) (v := nI (1006 + k)) htt b2 b4 (PG.room (e := 0) (g1.trans g2) hl hE) (fun _ => by unfold enc; rw [if_neg (by omega), if_neg (by omega)])
  exact ⟨y1, y2, y3, a1, b1, c1, c2, (a3.l.trans b3).trans c3, c4⟩
theorem xg_pr {B : Nat → Nat} {E t o : Nat} {u : ZL → ZL} {p : zMem → Nat → Nat → Int32 → Option zMem} (ht : okT B E) (hE : E ≤ 150) (htt : t = 186 ∨ t = 190) (hu : GG B E u) (hp : XG B E t o u p) :
    XG B E t o (prS B E u) (fun M t p0 p1 => F_X3_readProduct_r M p t p0 p1) := by
  intro x z h1 h2 hl hT hq
  obtain ⟨x1, a1, a2, a3, a4⟩ := hp x z h1 h2 hl hT hq
  have gu := (hu z h1 h2).1
  have main : wp (itF (fun _ _ _ => none) (F_X3_readProduct_8 p t 1 (nI o)) zFuel (nI o) (0 : Int32) x1) (fun y => TX y B E (prS B E u z).1 ∧ frL t x y ∧ RXq y t (prS B E u z)) := by
    refine loopN (F_X3_readProduct_8 p t 1 (nI o)) (fun g k (y : zMem) => g (nI o) (nI k) y) 150 (fun k y => TX y B E (itS (stP B E u) (u z) k).1 ∧ frL t x y ∧ RXq y t (itS (stP B E u) (u z) k)) _ (fun g k y hk hI ih => ?_) (fun g y hI => ?_) (k := 0) (s := x1) (by omega) ⟨a2, a3, a4⟩ (by omega)
    · obtain ⟨i1, i2, i3⟩ := hI
      try dsimp only at i1 i2 i3 ih ⊢
      have gk := pg_itP hu gu k
      have es := itS_s (stP B E u) (u z) k
      have fin : stP B E u (itS (stP B E u) (u z) k) = itS (stP B E u) (u z) k → prS B E u z = itS (stP B E u) (u z) k := fun e => itS_stop e 150 (by omega)
      generalize itS (stP B E u) (u z) k = w at *
      have jj : ∀ c kk (y' : zMem), c < 256 → 2 ≤ kk → TX y' B E w.1 → frL t x y' → RXq y' t w → stP B E u w = jn B E u c kk w → wp (F_X3_readProduct_99 p t 1 (nI o) g (nI o) (nI k) (nI (1006 + kk)) (nI c) y') (fun y => TX y B E (prS B E u z).1 ∧ frL t x y ∧ RXq y t (prS B E u z)) := fun c kk y' hc hkk r1 r2 r3 r4 => by
        obtain ⟨y1, y2, y3, s1, s2, s3, s4, s5, s6⟩ := x_jn ht hE htt hc hkk hu hp gk.1 gk.2.1 (gk.lq hl) r1 r3
        unfold F_X3_readProduct_99
        rw [s1, zbv_some, s2, zbv_some, s3, zbv_some, nI_1]
        refine ih y3 ?_
        rw [es, r4]
        exact ⟨s4, r2.trans s5, s6⟩
      unfold F_X3_readProduct_8
      obtain ⟨b1, c1, c2, c3⟩ := x_seesB (c := 42) ht gk.1.1 (by omega) i1
      rw [show (150 : Int32) = nI 150 from rfl, ile (by omega) (by omega), if_neg (by omega), show (42 : Int32) = nI 42 from rfl, c1, zb_some]
      dsimp only
      rw [ibI]
      by_cases d1 : hasB B E w.1 42 = true
      · unfold F_X3_readProduct_61
        rw [if_neg (by rw [d1]; decide), if_neg (by decide), if_pos rfl]
        exact jj 42 4 b1 (by omega) (by omega) c2 (i2.trans c3.l) (c3.rq (by omega) i3) (by unfold stP; rw [if_pos d1])
      · obtain ⟨b2, e1, e2, e3⟩ := x_seesB (c := 47) ht gk.1.1 (by omega) c2
        rw [if_pos (by simpa using d1), show (47 : Int32) = nI 47 from rfl, e1, zb_some]
        dsimp only
        rw [ibI]
        by_cases d2 : hasB B E w.1 47 = true
        · unfold F_X3_readProduct_61
          rw [if_neg (by rw [d2]; decide), if_neg (by decide), if_neg (by decide), if_pos rfl]
          exact jj 47 5 b2 (by omega) (by omega) e2 ((i2.trans c3.l).trans e3.l) (e3.rq (by omega) (c3.rq (by omega) i3)) (by unfold stP; rw [if_neg d1, if_pos d2])
        · obtain ⟨b3, f1, f2, f3⟩ := x_seesB (c := 37) ht gk.1.1 (by omega) e2
          rw [if_pos (by simpa using d2), show (37 : Int32) = nI 37 from rfl, f1, zb_some]
          dsimp only
          rw [ibI]
          by_cases d3 : hasB B E w.1 37 = true
          · unfold F_X3_readProduct_61
            rw [if_neg (by rw [d3]; decide), if_neg (by decide), if_neg (by decide), if_neg (by decide)]
            exact jj 37 6 b3 (by omega) (by omega) f2 (((i2.trans c3.l).trans e3.l).trans f3.l) (f3.rq (by omega) (e3.rq (by omega) (c3.rq (by omega) i3))) (by unfold stP; rw [if_neg d1, if_neg d2, if_pos d3])
          · unfold F_X3_readProduct_61
            rw [if_pos (by simpa using d3), if_pos rfl, wp_some]
            have e : stP B E u w = w := by unfold stP; rw [if_neg d1, if_neg d2, if_neg d3]
            rw [fin e]
            exact ⟨f2, ((i2.trans c3.l).trans e3.l).trans f3.l, f3.rq (by omega) (e3.rq (by omega) (c3.rq (by omega) i3))⟩
    · obtain ⟨i1, i2, i3⟩ := hI
      try dsimp only at i1 i2 i3 ⊢
      unfold F_X3_readProduct_8
      rw [if_pos (by decide), wp_some]
      exact ⟨i1, i2, i3⟩
  obtain ⟨y, m1, m2⟩ := main
  refine ⟨y, ?_, m2⟩
  show F_X3_readProduct_r x p t 1 (nI o) = some y
  unfold F_X3_readProduct_r
  rw [a1, zbv_some]
  exact m1
theorem xg_sm {B : Nat → Nat} {E t o : Nat} {u : ZL → ZL} {p : zMem → Nat → Nat → Int32 → Option zMem} (ht : okT B E) (hE : E ≤ 150) (htt : t = 186 ∨ t = 190) (hu : GG B E u) (hp : XG B E t o u p) :
    XG B E t o (smS B E u) (fun M t p0 p1 => F_X3_readSum_r M p t p0 p1) := by
  intro x z h1 h2 hl hT hq
  obtain ⟨x1, a1, a2, a3, a4⟩ := hp x z h1 h2 hl hT hq
  have gu := (hu z h1 h2).1
  have main : wp (itF (fun _ _ _ => none) (F_X3_readSum_8 p t 1 (nI o)) zFuel (nI o) (0 : Int32) x1) (fun y => TX y B E (smS B E u z).1 ∧ frL t x y ∧ RXq y t (smS B E u z)) := by
    refine loopN (F_X3_readSum_8 p t 1 (nI o)) (fun g k (y : zMem) => g (nI o) (nI k) y) 150 (fun k y => TX y B E (itS (stM B E u) (u z) k).1 ∧ frL t x y ∧ RXq y t (itS (stM B E u) (u z) k)) _ (fun g k y hk hI ih => ?_) (fun g y hI => ?_) (k := 0) (s := x1) (by omega) ⟨a2, a3, a4⟩ (by omega)
    · obtain ⟨i1, i2, i3⟩ := hI
      try dsimp only at i1 i2 i3 ih ⊢
      have gk := pg_itM hu gu k
      have es := itS_s (stM B E u) (u z) k
      have fin : stM B E u (itS (stM B E u) (u z) k) = itS (stM B E u) (u z) k → smS B E u z = itS (stM B E u) (u z) k := fun e => itS_stop e 150 (by omega)
      generalize itS (stM B E u) (u z) k = w at *
      have jj : ∀ c kk (y' : zMem), c < 256 → 2 ≤ kk → TX y' B E w.1 → frL t x y' → RXq y' t w → stM B E u w = jn B E u c kk w → wp (F_X3_readSum_71 p t 1 (nI o) g (nI o) (nI k) (nI (1006 + kk)) (nI c) y') (fun y => TX y B E (smS B E u z).1 ∧ frL t x y ∧ RXq y t (smS B E u z)) := fun c kk y' hc hkk r1 r2 r3 r4 => by
        obtain ⟨y1, y2, y3, s1, s2, s3, s4, s5, s6⟩ := x_jn ht hE htt hc hkk hu hp gk.1 gk.2.1 (gk.lq hl) r1 r3
        unfold F_X3_readSum_71
        rw [s1, zbv_some, s2, zbv_some, s3, zbv_some, nI_1]
        refine ih y3 ?_
        rw [es, r4]
        exact ⟨s4, r2.trans s5, s6⟩
      unfold F_X3_readSum_8
      obtain ⟨b1, c1, c2, c3⟩ := x_seesB (c := 43) ht gk.1.1 (by omega) i1
      rw [show (150 : Int32) = nI 150 from rfl, ile (by omega) (by omega), if_neg (by omega), show (43 : Int32) = nI 43 from rfl, c1, zb_some]
      dsimp only
      rw [ibI]
      by_cases d1 : hasB B E w.1 43 = true
      · unfold F_X3_readSum_46
        rw [if_neg (by rw [d1]; decide), if_neg (by decide), if_pos rfl]
        exact jj 43 2 b1 (by omega) (by omega) c2 (i2.trans c3.l) (c3.rq (by omega) i3) (by unfold stM; rw [if_pos d1])
      · obtain ⟨b2, e1, e2, e3⟩ := x_seesB (c := 45) ht gk.1.1 (by omega) c2
        rw [if_pos (by simpa using d1), show (45 : Int32) = nI 45 from rfl, e1, zb_some]
        dsimp only
        rw [ibI]
        by_cases d2 : hasB B E w.1 45 = true
        · unfold F_X3_readSum_46
          rw [if_neg (by rw [d2]; decide), if_neg (by decide), if_neg (by decide)]
          exact jj 45 3 b2 (by omega) (by omega) e2 ((i2.trans c3.l).trans e3.l) (e3.rq (by omega) (c3.rq (by omega) i3)) (by unfold stM; rw [if_neg d1, if_pos d2])
        · unfold F_X3_readSum_46
          rw [if_pos (by simpa using d2), if_pos rfl, wp_some]
          have e : stM B E u w = w := by unfold stM; rw [if_neg d1, if_neg d2]
          rw [fin e]
          exact ⟨e2, (i2.trans c3.l).trans e3.l, e3.rq (by omega) (c3.rq (by omega) i3)⟩
    · obtain ⟨i1, i2, i3⟩ := hI
      try dsimp only at i1 i2 i3 ⊢
      unfold F_X3_readSum_8
      rw [if_pos (by decide), wp_some]
      exact ⟨i1, i2, i3⟩
  obtain ⟨y, m1, m2⟩ := main
  refine ⟨y, ?_, m2⟩
  show F_X3_readSum_r x p t 1 (nI o) = some y
  unfold F_X3_readSum_r
  rw [a1, zbv_some]
  exact m1
