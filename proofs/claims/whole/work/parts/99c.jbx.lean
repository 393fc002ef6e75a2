/-! work: the class' reader keeps to the flat machine -/
def RXj (x : zMem) (W : WS) : Prop := x.1 91 8 = nI (jc W) ∧ x.1 91 7 = nI (jo W) ∧ (∀ k, k < jo W → x.1 98 k = nI (js W k)) ∧ ∀ i, i < jc W → x.1 92 i = nI (jk W i) ∧ x.1 93 i = nI (if jk W i < 3 then ja W i else 0) ∧ x.1 94 i = nI (if jk W i = 1 then jb W i else 0) ∧ x.1 95 i = nI (if jk W i = 0 then jb W i else if jk W i = 3 ∨ jk W i = 5 then ja W i else 0) ∧ (jm W i ≠ 999 → x.1 96 i = nI (jm W i))
def frJ (x y : zMem) : Prop := (∀ c, c ≠ 1 → ¬ (91 ≤ c ∧ c ≤ 98) → y.1 c = x.1 c) ∧ (∀ j, j ≠ 2 → j ≠ 3 → j ≠ 4 → j ≠ 5 → j ≠ 7 → y.1 1 j = x.1 1 j) ∧ y.2 = x.2
theorem frJ.refl {x : zMem} : frJ x x := ⟨fun _ _ _ => rfl, fun _ _ _ _ _ _ => rfl, rfl⟩
theorem frJ.trans {x y z : zMem} (h : frJ x y) (k : frJ y z) : frJ x z := ⟨fun c h1 h2 => (k.1 c h1 h2).trans (h.1 c h1 h2), fun j h1 h2 h3 h4 h5 => (k.2.1 j h1 h2 h3 h4 h5).trans (h.2.1 j h1 h2 h3 h4 h5), k.2.2.trans h.2.2⟩
theorem frTX.j {x y : zMem} (h : frTX x y) : frJ x y := ⟨fun c h1 _ => h.1 c h1, h.2.1, h.2.2⟩
theorem frJ.z {x : zMem} {c j : Nat} {v : Int32} (h1 : 91 ≤ c) (h2 : c ≤ 98) : frJ x (zI x c j v) := ⟨fun a _ ha => zI_n (by omega), fun j _ _ _ _ _ => by rw [zI_n (by omega)], rfl⟩
theorem frTX.rj {x y : zMem} {W : WS} (h : frTX x y) (w : RXj x W) : RXj y W := by
  unfold RXj
  rw [h.1 91 (by omega), h.1 92 (by omega), h.1 93 (by omega), h.1 94 (by omega), h.1 95 (by omega), h.1 96 (by omega), h.1 98 (by omega)]
  exact w
theorem x_addJ {x : zMem} {c : Nat} {v0 v1 v2 v3 : Int32} (h : x.1 91 8 = nI c) (hc : c < 150) :
    ∃ y, F_X2_add x 91 v0 v1 v2 v3 = some y ∧ y.1 91 8 = nI (c + 1) ∧ y.1 91 7 = x.1 91 7 ∧ (y.1 92 c = v0 ∧ y.1 93 c = v1 ∧ y.1 94 c = v2 ∧ y.1 95 c = v3) ∧ (∀ i, i ≠ c → y.1 92 i = x.1 92 i ∧ y.1 93 i = x.1 93 i ∧ y.1 94 i = x.1 94 i ∧ y.1 95 i = x.1 95 i) ∧ (∀ a, a < 91 ∨ 95 < a → y.1 a = x.1 a) ∧ y.2 = x.2 := by
  unfold F_X2_add
  rw [show (150 : Int32) = nI 150 from rfl, h, ile (by omega) (by omega), if_neg (by omega), gin_ok hc (by decide), zl_eq, nI_clamp (by omega), zI_n (a := 91) (k := 91 + 1) (by omega), h, gin_ok hc (by decide), zl_eq, nI_clamp (by omega), zI_n (a := 91) (k := 91 + 2) (by omega), zI_n (a := 91) (k := 91 + 1) (by omega), h, gin_ok hc (by decide), zl_eq, nI_clamp (by omega), zI_n (a := 91) (k := 91 + 3) (by omega), zI_n (a := 91) (k := 91 + 2) (by omega), zI_n (a := 91) (k := 91 + 1) (by omega), h, gin_ok hc (by decide), zl_eq, nI_clamp (by omega), zI_n (a := 91) (k := 91 + 4) (by omega), zI_n (a := 91) (k := 91 + 3) (by omega), zI_n (a := 91) (k := 91 + 2) (by omega), zI_n (a := 91) (k := 91 + 1) (by omega), h, zl_eq, nI_1]
  refine ⟨_, rfl, by rw [zI_1, upd_s], ?_, ⟨?_, ?_, ?_, ?_⟩, fun i hi => ⟨?_, ?_, ?_, ?_⟩, fun a ha => ?_, rfl⟩
  · rw [zI_s (by omega), zI_n (by omega), zI_n (by omega), zI_n (by omega), zI_n (by omega)]
  · rw [zI_n (by omega), zI_n (by omega), zI_n (by omega), zI_n (by omega), zI_1, upd_s]
  · rw [zI_n (by omega), zI_n (by omega), zI_n (by omega), zI_1, upd_s]
  · rw [zI_n (by omega), zI_n (by omega), zI_1, upd_s]
  · rw [zI_n (by omega), zI_1, upd_s]
  · rw [zI_n (by omega), zI_n (by omega), zI_n (by omega), zI_n (by omega), zI_1, upd_n hi]
  · rw [zI_n (by omega), zI_n (by omega), zI_n (by omega), zI_1, upd_n hi, zI_n (by omega)]
  · rw [zI_n (by omega), zI_n (by omega), zI_1, upd_n hi, zI_n (by omega), zI_n (by omega)]
  · rw [zI_n (by omega), zI_1, upd_n hi, zI_n (by omega), zI_n (by omega), zI_n (by omega)]
  · rw [zI_n (by omega), zI_n (by omega), zI_n (by omega), zI_n (by omega), zI_n (by omega)]
theorem x_placeG {x : zMem} {B : Nat → Nat} {E : Nat} {e : PL} {P : PS} (ht : okT B E) (he : okPL e) (hP : okP B E P) (h : TX x B E P) :
    ∃ p y, F_X8_place x 1 (nI (pW e)) (nI (pH e)) = some (nI p, y) ∧ TX y B E (pl2 B E e P) ∧ frTX x y ∧ ((pl2 B E e P).1 = 0 → p = plV B E e P) := by
  obtain ⟨w1, w2, h1, h2, -⟩ := he
  obtain ⟨i, y1, a1, a2, a3, a4, a5⟩ := x_num (lo := 0) (hi := pW e - 1) ht hP.1 (by omega) (by omega) h
  obtain ⟨j, y2, b1, b2, b3, b4, b5⟩ := x_num (lo := 0) (hi := pH e - 1) ht (nu_ok hP).1 (by omega) (by omega) a3
  have s1 : ∀ n, 1 ≤ n → nI n - (1 : Int32) = nI (n - 1) := fun n hn => by
    rw [show n = (n - 1) + 1 by omega, lw_sub1, show n - 1 + 1 - 1 = n - 1 by omega]
  unfold F_X8_place
  rw [s1 _ w1, s1 _ h1, show F_X8_number x 1 (0 : Int32) (nI (pW e - 1)) = _ from a1, zb_some]
  dsimp only
  rw [show F_X8_number y1 1 (0 : Int32) (nI (pH e - 1)) = _ from b1, zb_some]
  dsimp only
  rw [x_placeOf, zb_some]
  refine ⟨8 * j + i, y2, rfl, b3, a4.trans b4, fun z => ?_⟩
  have := nu_0 z
  rw [b5 z, a5 this.1]
  rfl
/-- what add leaves -/
theorem RXj.push {x y : zMem} {W : WS} {P : PS} {o : Nat} {s : Nat → Nat} {kd a b : Nat} {v0 v1 v2 v3 : Int32} (w : RXj x W)
    (y8 : y.1 91 8 = nI (jc W + 1)) (y7 : y.1 91 7 = nI o) (y98 : ∀ k, k < o → y.1 98 k = nI (s k)) (yc : y.1 92 (jc W) = v0 ∧ y.1 93 (jc W) = v1 ∧ y.1 94 (jc W) = v2 ∧ y.1 95 (jc W) = v3)
    (yo : ∀ i, i ≠ jc W → y.1 92 i = x.1 92 i ∧ y.1 93 i = x.1 93 i ∧ y.1 94 i = x.1 94 i ∧ y.1 95 i = x.1 95 i) (y96 : y.1 96 = x.1 96)
    (e0 : v0 = nI kd) (e1 : v1 = nI (if kd < 3 then a else 0)) (e2 : v2 = nI (if kd = 1 then b else 0)) (e3 : v3 = nI (if kd = 0 then b else if kd = 3 ∨ kd = 5 then a else 0)) : RXj y (pushW W P o s kd a b) := by
  refine ⟨y8, y7, y98, fun i hi => ?_⟩
  have hi' : i < jc W + 1 := hi
  show y.1 92 i = nI (upN (jk W) (jc W) kd i) ∧ y.1 93 i = nI (if upN (jk W) (jc W) kd i < 3 then upN (ja W) (jc W) a i else 0) ∧ y.1 94 i = nI (if upN (jk W) (jc W) kd i = 1 then upN (jb W) (jc W) b i else 0) ∧ y.1 95 i = nI (if upN (jk W) (jc W) kd i = 0 then upN (jb W) (jc W) b i else if upN (jk W) (jc W) kd i = 3 ∨ upN (jk W) (jc W) kd i = 5 then upN (ja W) (jc W) a i else 0) ∧ (upN (jm W) (jc W) 999 i ≠ 999 → y.1 96 i = nI (upN (jm W) (jc W) 999 i))
  by_cases c : i = jc W
  · obtain ⟨c0, c1, c2, c3⟩ := yc
    rw [c, upN_s, upN_s, upN_s, upN_s, c0, c1, c2, c3]
    exact ⟨e0, e1, e2, e3, fun q => absurd rfl q⟩
  · obtain ⟨k0, k1, k2, k3⟩ := yo i c
    obtain ⟨r0, r1, r2, r3, r4⟩ := w.2.2.2 i (by omega)
    rw [upN_n c, upN_n c, upN_n c, upN_n c, k0, k1, k2, k3, y96]
    exact ⟨r0, r1, r2, r3, r4⟩
theorem x_close {x : zMem} {B : Nat → Nat} {E : Nat} {e : PL} {W : WS} (ht : okT B E) (hE : E ≤ 150) (h : wfW B E e W) (z : (jP W).1 = 0) (ho : 0 < jo W) (hT : TX x B E (jP W)) (hj : RXj x W) :
    ∃ y, F_X2_closeAgain x 91 1 = some y ∧ TX y B E (jP (closeW B E W)) ∧ frJ x y ∧ ((jP (closeW B E W)).1 = 0 → RXj y (closeW B E W)) := by
  obtain ⟨g1, g2, g3, g4, g5⟩ := h.2.2 z
  have hpos := (h.1.2 z).1
  obtain ⟨o, ho'⟩ : ∃ o, jo W = o + 1 := ⟨jo W - 1, by omega⟩
  obtain ⟨fr, hfr⟩ : ∃ fr, fr = js W o := ⟨_, rfl⟩
  obtain ⟨f1, -, -, -⟩ := g3 o (by omega)
  rw [← hfr] at f1
  have p1 : okP B E (sgS B E (nI 93) (jP W)) := sg_ok h.1 (by decide)
  obtain ⟨x1, a1, a2, a3⟩ := x_sign (c := 93) ht h.1.1 (by omega) hT
  obtain ⟨x2, b1, b2, b3⟩ := x_sign (c := 59) ht p1.1 (by omega) a2
  obtain ⟨j8, j7, j98, je⟩ := b3.rj (a3.rj hj)
  have ew : closeW B E W = (sgS B E (nI 59) (sgS B E (nI 93) (jP W)), o, js W, jc W + 1, upN (jk W) (jc W) 6, upN (ja W) (jc W) 0, upN (jb W) (jc W) 0, upN (upN (jm W) fr (jc W)) (jc W) fr) := by
    unfold closeW
    rw [ho', show o + 1 - 1 = o by omega, ← hfr]
  unfold F_X2_closeAgain
  rw [show (93 : Int32) = nI 93 from rfl, a1, zbv_some, show (59 : Int32) = nI 59 from rfl, b1, zbv_some, j7, ho', lw_sub1, zl_eq]
  obtain ⟨x3, hx3⟩ : ∃ x3, x3 = zI x2 91 7 (nI o) := ⟨_, rfl⟩
  have k7 : x3.1 91 7 = nI o := by rw [hx3, zI_1, upd_s]
  have k8 : x3.1 91 8 = nI (jc W) := by rw [hx3, zI_s (by omega)]; exact j8
  have kn : ∀ c, c ≠ 91 → x3.1 c = x2.1 c := fun c hc => by rw [hx3, zI_n hc]
  have k98 : x3.1 98 o = nI fr := by rw [kn 98 (by omega), j98 o (by omega), hfr]
  rw [← hx3, k7, gin_ok (by omega) (by decide), zl_eq, nI_clamp (by omega), show 91 + 7 = 98 from rfl, k98, show (150 : Int32) = nI 150 from rfl, ile (by omega) (by omega), if_neg (by omega), k8, ile (by omega) (by omega), if_neg (by omega), gin_ok (by omega) (by decide), zl_eq, nI_clamp (by omega), show 91 + 5 = 96 from rfl, zI_n (a := 91) (k := 96) (by omega), k8, gin_ok (by omega) (by decide), zl_eq, nI_clamp (by omega)]
  obtain ⟨x4, hx4⟩ : ∃ x4, x4 = zI (zI x3 96 fr (nI (jc W))) 96 (jc W) (nI fr) := ⟨_, rfl⟩
  rw [← hx4]
  have l8 : x4.1 91 8 = nI (jc W) := by rw [hx4, zI_n (by omega), zI_n (by omega)]; exact k8
  have ln : ∀ c, c ≠ 91 → c ≠ 96 → x4.1 c = x2.1 c := fun c h1 h2 => by rw [hx4, zI_n h2, zI_n h2, kn c h1]
  unfold F_X2_closeAgain_69
  obtain ⟨y, c1, c2, c3, c4, c5, c6, c7⟩ := x_addJ (v0 := 6) (v1 := 0) (v2 := 0) (v3 := 0) l8 (by omega)
  rw [c1, zbv_some, ew]
  have cy : ∀ a, a < 91 ∨ 98 < a → y.1 a = x2.1 a := fun a ha => by rw [c6 a (by omega), ln a (by omega) (by omega)]
  refine ⟨y, rfl, b2.congr (cy 1 (by omega)) (cy 2 (by omega)), (a3.j.trans b3.j).trans ⟨fun c _ hc => cy c (by omega), fun j _ _ _ _ _ => by rw [cy 1 (by omega)], by rw [c7, hx4, hx3]; rfl⟩, fun q => ⟨c2, by rw [c3, hx4, zI_n (by omega), zI_n (by omega)]; exact k7, fun k hk => ?_, fun i hi => ?_⟩⟩
  · have hk' : k < o := hk
    rw [c6 98 (by omega), ln 98 (by omega) (by omega)]
    exact j98 k (by omega)
  · have hi' : i < jc W + 1 := hi
    show y.1 92 i = nI (upN (jk W) (jc W) 6 i) ∧ y.1 93 i = nI (if upN (jk W) (jc W) 6 i < 3 then upN (ja W) (jc W) 0 i else 0) ∧ y.1 94 i = nI (if upN (jk W) (jc W) 6 i = 1 then upN (jb W) (jc W) 0 i else 0) ∧ y.1 95 i = nI (if upN (jk W) (jc W) 6 i = 0 then upN (jb W) (jc W) 0 i else if upN (jk W) (jc W) 6 i = 3 ∨ upN (jk W) (jc W) 6 i = 5 then upN (ja W) (jc W) 0 i else 0) ∧ (upN (upN (jm W) fr (jc W)) (jc W) fr i ≠ 999 → y.1 96 i = nI (upN (upN (jm W) fr (jc W)) (jc W) fr i))
    have y96 : y.1 96 = upd (upd (x2.1 96) fr (nI (jc W))) (jc W) (nI fr) := by rw [c6 96 (by omega), hx4, zI_1, zI_1, kn 96 (by omega)]
    by_cases c : i = jc W
    · obtain ⟨d0, d1, d2, d3⟩ := c4
      rw [c, upN_s, upN_s, upN_s, upN_s, d0, d1, d2, d3, y96, upd_s]
      exact ⟨rfl, rfl, rfl, rfl, fun _ => rfl⟩
    · obtain ⟨d0, d1, d2, d3⟩ := c5 i c
      obtain ⟨r0, r1, r2, r3, r4⟩ := je i (by omega)
      rw [upN_n c, upN_n c, upN_n c, upN_n c, d0, d1, d2, d3, y96, upd_n c, ln 92 (by omega) (by omega), ln 93 (by omega) (by omega), ln 94 (by omega) (by omega), ln 95 (by omega) (by omega)]
      refine ⟨r0, r1, r2, r3, ?_⟩
      by_cases c2 : i = fr
      · rw [c2, upN_s, upd_s]; exact fun _ => rfl
      · rw [upN_n c2, upd_n c2]; exact r4
theorem x_openJ {x : zMem} {B : Nat → Nat} {E : Nat} {e : PL} {W : WS} (ht : okT B E) (hE : E ≤ 150) (h : wfW B E e W) (z : (jP W).1 = 0) (hT : TX x B E (wdS B E (jP W))) (h4 : x.1 1 4 = nI (jP W).2.2) (hj : RXj x W) :
    ∃ y, F_X2_openAgain x 91 1 = some y ∧ TX y B E (if jo W = 6 then flS 3 (nI (jP W).2.2) (jP W) else jP (openW B E W)) ∧ frJ x y ∧ (jo W ≠ 6 → (jP (openW B E W)).1 = 0 → RXj y (openW B E W)) := by
  obtain ⟨g1, g2, g3, g4, g5⟩ := h.2.2 z
  have hpos := (h.1.2 z).1
  obtain ⟨j8, j7, j98, je⟩ := hj
  unfold F_X2_openAgain
  rw [j7, show (6 : Int32) = nI 6 from rfl, ilt (by omega) (by omega)]
  by_cases c : jo W = 6
  · obtain ⟨y, a1, a2, a3⟩ := x_fail (c := 3) (v := x.1 1 4) hT (wd_ok h.1).1 (by omega)
    rw [if_neg (by omega), if_pos c, show (3 : Int32) = nI 3 from rfl, a1, zbv_some]
    refine ⟨y, rfl, ?_, a3.j, fun w => absurd c w⟩
    rw [h4] at a2
    unfold flS wdS at a2
    rw [if_pos z, if_pos rfl] at a2
    unfold flS
    rw [if_pos z]
    exact a2.ign (by omega)
  · obtain ⟨i, x1, a1, a2, a3, a4, a5⟩ := x_num (lo := 0) (hi := 60) ht (wd_ok h.1).1 (by omega) (by omega) hT
    obtain ⟨x2, b1, b2, b3⟩ := x_sign (c := 91) ht (nu_ok (wd_ok h.1)).1 (by omega) a3
    obtain ⟨m8, m7, m98, me⟩ := b3.rj (a4.rj ⟨j8, j7, j98, je⟩)
    rw [if_pos (by omega), if_neg c, show F_X8_number x 1 (0 : Int32) (60 : Int32) = _ from a1, zb_some]
    dsimp only
    rw [show (91 : Int32) = nI 91 from rfl, b1, zbv_some, m7, gin_ok (by omega) (by decide), zl_eq, nI_clamp (by omega), m8, zl_eq, show 91 + 7 = 98 from rfl, zI_n (a := 91) (k := 98) (by omega), m7, nI_1]
    obtain ⟨x3, hx3⟩ : ∃ x3, x3 = zI (zI x2 98 (jo W) (nI (jc W))) 91 7 (nI (jo W + 1)) := ⟨_, rfl⟩
    have k8 : x3.1 91 8 = nI (jc W) := by rw [hx3, zI_s (by omega), zI_n (by omega)]; exact m8
    have k7 : x3.1 91 7 = nI (jo W + 1) := by rw [hx3, zI_1, upd_s]
    have kn : ∀ c, c ≠ 91 → c ≠ 98 → x3.1 c = x2.1 c := fun c h1 h2 => by rw [hx3, zI_n h1, zI_n h2]
    have k98 : x3.1 98 = upd (x2.1 98) (jo W) (nI (jc W)) := by rw [hx3, zI_n (by omega), zI_1]
    obtain ⟨y, c1, c2, c3, c4, c5, c6, c7⟩ := x_addJ (v0 := 5) (v1 := 0) (v2 := 0) (v3 := nI i) k8 (by omega)
    rw [← hx3, c1, zbv_some]
    have cy : ∀ a, a < 91 ∨ 98 < a → y.1 a = x2.1 a := fun a ha => by rw [c6 a (by omega), kn a (by omega) (by omega)]
    refine ⟨y, rfl, b2.congr (cy 1 (by omega)) (cy 2 (by omega)), (a4.j.trans b3.j).trans ⟨fun c _ hc => cy c (by omega), fun j _ _ _ _ _ => by rw [cy 1 (by omega)], by rw [c7, hx3]; rfl⟩, fun _ q' => ?_⟩
    have q : (nuS B E 0 60 (wdS B E (jP W))).1 = 0 := sg_0 q'
    refine RXj.push (x := x2) ⟨m8, m7, m98, me⟩ c2 (c3.trans k7) (fun k hk => ?_) c4 (fun i hi => ?_) ?_ rfl rfl rfl ?_
    · rw [c6 98 (by omega), k98]
      by_cases cc : k = jo W
      · rw [cc, upd_s, upN_s]
      · rw [upd_n cc, upN_n cc]; exact m98 k (by omega)
    · obtain ⟨d0, d1, d2, d3⟩ := c5 i hi
      rw [d0, d1, d2, d3, kn 92 (by omega) (by omega), kn 93 (by omega) (by omega), kn 94 (by omega) (by omega), kn 95 (by omega) (by omega)]
      exact ⟨rfl, rfl, rfl, rfl⟩
    · rw [c6 96 (by omega), kn 96 (by omega) (by omega)]
    · rw [if_neg (by omega), if_pos (by omega), a5 q]
/-- behind a simple step's numbers: an entry, a sign -/
theorem x_simple {x x1 : zMem} {B : Nat → Nat} {E : Nat} {e : PL} {W : WS} {P : PS} {kd a b : Nat} {v0 v1 v2 v3 : Int32} (ht : okT B E) (hP : P.1 ≤ 3) (h : wfW B E e W) (z : (jP W).1 = 0) (hE : E ≤ 150) (hT : TX x1 B E P) (f : frTX x x1) (hj : RXj x W)
    (hv : P.1 = 0 → v0 = nI kd ∧ v1 = nI (if kd < 3 then a else 0) ∧ v2 = nI (if kd = 1 then b else 0) ∧ v3 = nI (if kd = 0 then b else if kd = 3 ∨ kd = 5 then a else 0)) :
    ∃ y, (zbv (F_X2_add x1 91 v0 v1 v2 v3) fun M33 => zbv (F_X8_sign M33 1 59) fun M1 => some M1) = some y ∧ TX y B E (sgS B E (nI 59) P) ∧ frJ x y ∧ ((sgS B E (nI 59) P).1 = 0 → RXj y (pushW W (sgS B E (nI 59) P) (jo W) (js W) kd a b)) := by
  obtain ⟨g1, g2, g3, g4, g5⟩ := h.2.2 z
  have hpos := (h.1.2 z).1
  have hj1 := f.rj hj
  obtain ⟨y, c1, c2, c3, c4, c5, c6, c7⟩ := x_addJ (v0 := v0) (v1 := v1) (v2 := v2) (v3 := v3) hj1.1 (by omega)
  have ty : TX y B E P := hT.congr (c6 1 (by omega)) (c6 2 (by omega))
  obtain ⟨y1, d1, d2, d3⟩ := x_sign (c := 59) ht hP (by omega) ty
  rw [c1, zbv_some, show (59 : Int32) = nI 59 from rfl, d1, zbv_some]
  refine ⟨y1, rfl, d2, (f.j.trans ⟨fun c _ hc => c6 c (by omega), fun j _ _ _ _ _ => by rw [c6 1 (by omega)], c7⟩).trans d3.j, fun q => ?_⟩
  obtain ⟨e0, e1, e2, e3⟩ := hv (sg_0 q)
  refine d3.rj (RXj.push (x := x1) hj1 c2 (c3.trans hj1.2.1) (fun k hk => ?_) c4 c5 (c6 96 (by omega)) e0 e1 e2 e3)
  rw [c6 98 (by omega)]
  exact hj1.2.2.1 k hk
theorem pl2_ok {B : Nat → Nat} {E : Nat} {e : PL} {P : PS} (h : okP B E P) : okP B E (pl2 B E e P) := nu_ok (nu_ok h)
theorem x_step {x : zMem} {B : Nat → Nat} {E pl : Nat} {e : PL} {W : WS} (ht : okT B E) (hE : E ≤ 150) (he : okPL e) (hpl : pl = 174 ∨ pl = 180) (h : wfW B E e W) (z : (jP W).1 = 0) (hp : RXp x e pl) (hT : TX x B E (jP W)) (hj : RXj x W) :
    ∃ y, F_X2_readStep x 91 1 pl = some y ∧ TX y B E (jP (stepW B E e W)) ∧ frJ x y ∧ ((jP (stepW B E e W)).1 = 0 → RXj y (stepW B E e W)) := by
  obtain ⟨x1, a1, a2, a3, a4⟩ := x_word ht h.1.1 hT
  have w : ∀ i, 1 ≤ i → i < 19 → F_X8_wordIs x1 1 i = some (bI (isW i B E (jP W)), x1) := fun i i1 i2 => x_wis ht i1 i2 h.1 a2 a4
  have p1 := wd_ok h.1
  have x10 : ∀ y, frTX x1 y → y.1 pl 0 = nI (pW e) ∧ y.1 pl 1 = nI (pH e) := fun y f => by
    rw [f.1 pl (by omega), a3.1 pl (by omega)]
    exact ⟨hp.1, hp.2.1⟩
  unfold F_X2_readStep
  rw [a1, zbv_some, w 14 (by omega) (by omega), zb_some]
  dsimp only
  rw [ibI]
  by_cases c14 : isW 14 B E (jP W) = true
  · have ek : skS B E (jP W) = 0 := by unfold skS; rw [if_pos c14]
    have es : stepW B E e W = simpW B E e W := by unfold stepW; rw [ek, if_neg (by omega), if_neg (by omega)]
    have e2 : simpW B E e W = pushW W (sgS B E (nI 59) (nuS B E 1 999 (pl2 B E e (wdS B E (jP W))))) (jo W) (js W) 0 (plV B E e (wdS B E (jP W))) (nuV B E (pl2 B E e (wdS B E (jP W)))) := by
      unfold simpW siP siA siB
      rw [ek, if_pos rfl, if_pos (by omega), if_pos rfl]
    rw [if_neg (by rw [c14]; decide), es, e2, (x10 x1 frTX.refl).1, (x10 x1 frTX.refl).2]
    obtain ⟨p, x2, b1, b2, b3, b4⟩ := x_placeG ht he p1 a2
    obtain ⟨n, x3, d1, d2, d3, d4, d5⟩ := x_num (lo := 1) (hi := 999) ht (pl2_ok p1).1 (by omega) (by omega) b2
    rw [b1, zb_some]
    dsimp only
    rw [show F_X8_number x2 1 (1 : Int32) (999 : Int32) = _ from d1, zb_some]
    dsimp only
    unfold F_X2_readStep_189
    exact x_simple ht (nu_ok (nu_ok (nu_ok p1))).1 h z hE d3 ((a3.trans b3).trans d4) hj (fun q => ⟨rfl, by rw [if_pos (by omega), b4 (nu_0 q).1], rfl, by rw [if_pos rfl, d5 q]⟩)
  rw [if_pos (by simpa using c14), w 15 (by omega) (by omega), zb_some]
  dsimp only
  rw [ibI]
  by_cases c15 : isW 15 B E (jP W) = true
  · have ek : skS B E (jP W) = 1 := by unfold skS; rw [if_neg c14, if_pos c15]
    have es : stepW B E e W = simpW B E e W := by unfold stepW; rw [ek, if_neg (by omega), if_neg (by omega)]
    have e2 : simpW B E e W = pushW W (sgS B E (nI 59) (pl2 B E e (pl2 B E e (wdS B E (jP W))))) (jo W) (js W) 1 (plV B E e (wdS B E (jP W))) (plV B E e (pl2 B E e (wdS B E (jP W)))) := by
      unfold simpW siP siA siB
      rw [ek, if_neg (by omega), if_pos rfl, if_pos (by omega), if_neg (by omega)]
    rw [if_neg (by rw [c15]; decide), es, e2, (x10 x1 frTX.refl).1, (x10 x1 frTX.refl).2]
    obtain ⟨p, x2, b1, b2, b3, b4⟩ := x_placeG ht he p1 a2
    obtain ⟨n, x3, d1, d2, d3, d4⟩ := x_placeG ht he (pl2_ok p1) b2
    rw [b1, zb_some]
    dsimp only
    rw [(x10 x2 b3).1, (x10 x2 b3).2, d1, zb_some]
    dsimp only
    unfold F_X2_readStep_189
    exact x_simple ht (nu_ok (nu_ok (nu_ok (nu_ok p1)))).1 h z hE d2 ((a3.trans b3).trans d3) hj (fun q => ⟨rfl, by rw [if_pos (by omega), b4 (pl2_0 he q).1], by rw [if_pos rfl, d4 q], rfl⟩)
  rw [if_pos (by simpa using c15), w 16 (by omega) (by omega), zb_some]
  dsimp only
  rw [ibI]
  by_cases c16 : isW 16 B E (jP W) = true
  · have ek : skS B E (jP W) = 2 := by unfold skS; rw [if_neg c14, if_neg c15, if_pos c16]
    have es : stepW B E e W = simpW B E e W := by unfold stepW; rw [ek, if_neg (by omega), if_neg (by omega)]
    have e2 : simpW B E e W = pushW W (sgS B E (nI 59) (pl2 B E e (wdS B E (jP W)))) (jo W) (js W) 2 (plV B E e (wdS B E (jP W))) (plV B E e (pl2 B E e (wdS B E (jP W)))) := by
      unfold simpW siP siA siB
      rw [ek, if_neg (by omega), if_neg (by omega), if_pos rfl, if_pos (by omega), if_neg (by omega)]
    rw [if_neg (by rw [c16]; decide), es, e2, (x10 x1 frTX.refl).1, (x10 x1 frTX.refl).2]
    obtain ⟨p, x2, b1, b2, b3, b4⟩ := x_placeG ht he p1 a2
    rw [b1, zb_some]
    dsimp only
    unfold F_X2_readStep_189
    exact x_simple ht (nu_ok (nu_ok p1)).1 h z hE b2 (a3.trans b3) hj (fun q => ⟨rfl, by rw [if_pos (by omega), b4 q], rfl, rfl⟩)
  rw [if_pos (by simpa using c16), w 17 (by omega) (by omega), zb_some]
  dsimp only
  rw [ibI]
  by_cases c17 : isW 17 B E (jP W) = true
  · have ek : skS B E (jP W) = 3 := by unfold skS; rw [if_neg c14, if_neg c15, if_neg c16, if_pos c17]
    have es : stepW B E e W = simpW B E e W := by unfold stepW; rw [ek, if_neg (by omega), if_neg (by omega)]
    have e2 : simpW B E e W = pushW W (sgS B E (nI 59) (nuS B E 1 99 (wdS B E (jP W)))) (jo W) (js W) 3 (nuV B E (wdS B E (jP W))) (plV B E e (pl2 B E e (wdS B E (jP W)))) := by
      unfold simpW siP siA siB
      rw [ek, if_neg (by omega), if_neg (by omega), if_neg (by omega), if_pos rfl, if_neg (by omega), if_neg (by omega)]
    rw [if_neg (by rw [c17]; decide), es, e2]
    obtain ⟨n, x3, d1, d2, d3, d4, d5⟩ := x_num (lo := 1) (hi := 99) ht p1.1 (by omega) (by omega) a2
    rw [show F_X8_number x1 1 (1 : Int32) (99 : Int32) = _ from d1, zb_some]
    dsimp only
    unfold F_X2_readStep_189
    exact x_simple ht (nu_ok p1).1 h z hE d3 (a3.trans d4) hj (fun q => ⟨rfl, rfl, rfl, by rw [if_neg (by omega), if_pos (by omega), d5 q]⟩)
  rw [if_pos (by simpa using c17), w 2 (by omega) (by omega), zb_some]
  dsimp only
  rw [ibI]
  by_cases c2 : isW 2 B E (jP W) = true
  · have ek : skS B E (jP W) = 4 := by unfold skS; rw [if_neg c14, if_neg c15, if_neg c16, if_neg c17, if_pos c2]
    have es : stepW B E e W = simpW B E e W := by unfold stepW; rw [ek, if_neg (by omega), if_neg (by omega)]
    have e2 : simpW B E e W = pushW W (sgS B E (nI 59) (wdS B E (jP W))) (jo W) (js W) 4 (nuV B E (wdS B E (jP W))) (plV B E e (pl2 B E e (wdS B E (jP W)))) := by
      unfold simpW siP siA siB
      rw [ek, if_neg (by omega), if_neg (by omega), if_neg (by omega), if_neg (by omega), if_neg (by omega), if_neg (by omega)]
    rw [if_neg (by rw [c2]; decide), es, e2]
    unfold F_X2_readStep_189
    exact x_simple ht p1.1 h z hE a2 a3 hj (fun q => ⟨rfl, rfl, rfl, rfl⟩)
  rw [if_pos (by simpa using c2), w 18 (by omega) (by omega), zb_some]
  dsimp only
  rw [ibI]
  by_cases c18 : isW 18 B E (jP W) = true
  · have ek : skS B E (jP W) = 5 := by unfold skS; rw [if_neg c14, if_neg c15, if_neg c16, if_neg c17, if_neg c2, if_pos c18]
    rw [if_neg (by rw [c18]; decide)]
    obtain ⟨y, d1, d2, d3, d4⟩ := x_openJ ht hE h z a2 (a4 z).1 (a3.rj hj)
    rw [d1, zbv_some]
    unfold stepW
    rw [ek, if_neg (by omega), if_pos rfl]
    by_cases co : jo W = 6
    · rw [if_pos co] at d2 ⊢
      refine ⟨y, rfl, d2, a3.j.trans d3, fun q => ?_⟩
      exfalso
      revert q
      show (flS 3 (nI (jP W).2.2) (jP W)).1 = 0 → False
      unfold flS
      rw [if_pos z]
      exact fun w => absurd (show (3 : Nat) = 0 from w) (by decide)
    · rw [if_neg co] at d2 ⊢
      exact ⟨y, rfl, d2, a3.j.trans d3, d4 co⟩
  · have ek : skS B E (jP W) = 6 := by unfold skS; rw [if_neg c14, if_neg c15, if_neg c16, if_neg c17, if_neg c2, if_neg c18]
    obtain ⟨y, b1, b2, b3⟩ := x_fail (c := 1) (v := x1.1 1 4) a2 p1.1 (by omega)
    rw [if_pos (by simpa using c18), show (1 : Int32) = nI 1 from rfl, b1, zbv_some]
    unfold F_X2_readStep_189
    have b2' : TX y B E (flS 1 (nI (jP W).2.2) (jP W)) := by
      rw [(a4 z).1] at b2
      unfold flS wdS at b2
      rw [if_pos z, if_pos rfl] at b2
      unfold flS
      rw [if_pos z]
      exact b2.ign (by omega)
    have ne : (flS 1 (nI (jP W).2.2) (jP W)).1 ≠ 0 := by unfold flS; rw [if_pos z]; exact fun w => absurd (show (1 : Nat) = 0 from w) (by decide)
    obtain ⟨y1, d1, d2, d3⟩ := x_sign (c := 59) ht (fl_ok h.1 (by omega) (by omega)).1 (by omega) b2'
    rw [show (59 : Int32) = nI 59 from rfl, d1, zbv_some]
    unfold stepW
    rw [ek, if_pos rfl]
    refine ⟨y1, rfl, ?_, (a3.j.trans b3.j).trans d3.j, fun q => absurd q ne⟩
    rw [sg_st ne] at d2
    exact d2
