/-! works: a clause; what is told so far: a works, and brine, salt, grams -/
abbrev WD := PL × (Nat → Nat)
def upN (f : Nat → Nat) (k v : Nat) : Nat → Nat := fun j => if j = k then v else f j
theorem upN_s {f : Nat → Nat} {k v : Nat} : upN f k v k = v := if_pos rfl
theorem upN_n {f : Nat → Nat} {k v j : Nat} (h : j ≠ k) : upN f k v j = f j := if_neg h
def kdS (B : Nat → Nat) (E : Nat) (P : PS) : Nat := if isW 1 B E P = true then 0 else if isW 2 B E P = true then 1 else if isW 3 B E P = true then 2 else if isW 4 B E P = true then 3 else 4
def clP (B : Nat → Nat) (E k n : Nat) (P : PS) : PS :=
  if kdS B E P = 4 then flS 1 (nI P.2.2) P else if 60 ≤ k ∨ (kdS B E P = 1 ∧ 10 ≤ n) then flS 3 (nI P.2.2) P else wdS B E P
def clF (B : Nat → Nat) (E kd : Nat) (P : PS) : PS :=
  if kd = 0 then sgS B E 59 (nuS B E 1 8 (nuS B E 1 8 P)) else if kd = 1 then sgS B E 59 (nuS B E 0 40 (nuS B E 0 7 P))
  else if kd = 2 then sgS B E 59 (nuS B E 0 999 (nuS B E 0 999 (nuS B E 0 7 (nuS B E 0 7 P)))) else sgS B E 59 (nuS B E 1 999 (nuS B E 0 7 (nuS B E 0 7 P)))
def cpV (B : Nat → Nat) (E : Nat) (P : PS) : Nat := 8 * nuV B E (nuS B E 0 7 P) + nuV B E P
def clD (B : Nat → Nat) (E kd : Nat) (P : PS) (D : WD) : WD :=
  if kd = 0 then ((nuV B E P, nuV B E (nuS B E 1 8 P), pn D.1, psd D.1, prc D.1), D.2)
  else if kd = 1 then ((pW D.1, pH D.1, pn D.1 + 1, upN (psd D.1) (pn D.1) (nuV B E P), upN (prc D.1) (pn D.1) (nuV B E (nuS B E 0 7 P))), D.2)
  else if kd = 2 then (D.1, upN (upN D.2 (cpV B E P) (nuV B E (nuS B E 0 7 (nuS B E 0 7 P)))) (64 + cpV B E P) (nuV B E (nuS B E 0 999 (nuS B E 0 7 (nuS B E 0 7 P)))))
  else (D.1, upN D.2 (128 + cpV B E P) (nuV B E (nuS B E 0 7 (nuS B E 0 7 P))))
def clS (B : Nat → Nat) (E k : Nat) (P : PS) (D : WD) : PS × WD := (clF B E (kdS B E P) (clP B E k (pn D.1) P), clD B E (kdS B E P) (clP B E k (pn D.1) P) D)
theorem clF_st {B : Nat → Nat} {E kd : Nat} {P : PS} (h : P.1 ≠ 0) : clF B E kd P = P := by
  unfold clF
  simp only [nu_st h, sg_st h]
  split
  · rfl
  · split
    · rfl
    · split <;> rfl
theorem clF_ok {B : Nat → Nat} {E kd : Nat} {P : PS} (h : okP B E P) : okP B E (clF B E kd P) := by
  unfold clF
  split
  · exact sg_ok (nu_ok (nu_ok h)) (by decide)
  · split
    · exact sg_ok (nu_ok (nu_ok h)) (by decide)
    · split
      · exact sg_ok (nu_ok (nu_ok (nu_ok (nu_ok h)))) (by decide)
      · exact sg_ok (nu_ok (nu_ok (nu_ok h))) (by decide)
theorem clF_F {B : Nat → Nat} {E kd : Nat} {P : PS} (h : okF P) : okF (clF B E kd P) := by
  unfold clF
  split
  · exact sg_F (nu_F (nu_F h))
  · split
    · exact sg_F (nu_F (nu_F h))
    · split
      · exact sg_F (nu_F (nu_F (nu_F (nu_F h))))
      · exact sg_F (nu_F (nu_F (nu_F h)))
theorem clP_ok {B : Nat → Nat} {E k n : Nat} {P : PS} (h : okP B E P) : okP B E (clP B E k n P) := by
  unfold clP
  split
  · exact fl_ok h (by omega) (by omega)
  · split
    · exact fl_ok h (by omega) (by omega)
    · exact wd_ok h
theorem clP_F {B : Nat → Nat} {E k n : Nat} {P : PS} (h : okF P) : okF (clP B E k n P) := by
  unfold clP
  split
  · exact fl_F h (by omega)
  · split
    · exact fl_F h (by omega)
    · exact wd_F h
/-- a clause that is right: what it says -/
theorem cl_0 {B : Nat → Nat} {E k n : Nat} {P : PS} (h : (clF B E (kdS B E P) (clP B E k n P)).1 = 0) : kdS B E P ≠ 4 ∧ k < 60 ∧ (kdS B E P = 1 → n < 10) ∧ clP B E k n P = wdS B E P ∧ P.1 = 0 := by
  have hp : (clP B E k n P).1 = 0 := Classical.byContradiction (fun z => z (by rw [clF_st z] at h; exact h))
  unfold clP at hp ⊢
  by_cases c1 : kdS B E P = 4
  · rw [if_pos c1] at hp; exact absurd hp (fl_n (by decide))
  · rw [if_neg c1] at hp ⊢
    by_cases c2 : 60 ≤ k ∨ (kdS B E P = 1 ∧ 10 ≤ n)
    · rw [if_pos c2] at hp; exact absurd hp (fl_n (by decide))
    · rw [if_neg c2] at hp ⊢
      refine ⟨c1, by omega, fun w => by omega, rfl, ?_⟩
      refine Classical.byContradiction (fun z => ?_)
      unfold wdS at hp
      rw [if_neg z] at hp
      exact z hp
def okW (D : WD) : Prop := okPL D.1 ∧ ∀ i, i < 192 → D.2 i ≤ 999
theorem cpV_lt {B : Nat → Nat} {E : Nat} {P : PS} (h : (nuS B E 0 7 (nuS B E 0 7 P)).1 = 0) : nuV B E P ≤ 7 ∧ nuV B E (nuS B E 0 7 P) ≤ 7 ∧ cpV B E P < 64 := by
  obtain ⟨h1, _, h2⟩ := nu_0 h
  obtain ⟨_, _, h3⟩ := nu_0 h1
  unfold cpV
  omega
theorem clD_ok {B : Nat → Nat} {E kd : Nat} {P : PS} {D : WD} (hD : okW D) (hn : kd = 1 → pn D.1 < 10) (h : (clF B E kd P).1 = 0) : okW (clD B E kd P D) := by
  obtain ⟨⟨e1, e2, e3, e4, e5, e6⟩, hv⟩ := hD
  unfold clF at h
  unfold clD
  by_cases k0 : kd = 0
  · rw [if_pos k0] at h ⊢
    obtain ⟨h1, h2, h3⟩ := nu_0 (sg_0 h)
    obtain ⟨h4, h5, h6⟩ := nu_0 h1
    exact ⟨⟨h5, h6, h2, h3, e5, e6⟩, hv⟩
  · rw [if_neg k0] at h ⊢
    by_cases k1 : kd = 1
    · rw [if_pos k1] at h ⊢
      obtain ⟨h1, h2, h3⟩ := nu_0 (sg_0 h)
      obtain ⟨h4, h5, h6⟩ := nu_0 h1
      refine ⟨⟨e1, e2, e3, e4, hn k1, fun q hq => ?_⟩, hv⟩
      have hq' : q < pn D.1 + 1 := hq
      show upN (psd D.1) (pn D.1) (nuV B E P) q ≤ 7 ∧ upN (prc D.1) (pn D.1) (nuV B E (nuS B E 0 7 P)) q ≤ 40
      by_cases c : q = pn D.1
      · rw [c, upN_s, upN_s]; exact ⟨h6, h3⟩
      · rw [upN_n c, upN_n c]; exact e6 q (by omega)
    · rw [if_neg k1] at h ⊢
      by_cases k2 : kd = 2
      · rw [if_pos k2] at h ⊢
        obtain ⟨h1, h2, h3⟩ := nu_0 (sg_0 h)
        obtain ⟨h4, h5, h6⟩ := nu_0 h1
        refine ⟨⟨e1, e2, e3, e4, e5, e6⟩, fun i hi => ?_⟩
        dsimp only
        by_cases c : i = 64 + cpV B E P
        · rw [c, upN_s]; exact h3
        · rw [upN_n c]
          by_cases c' : i = cpV B E P
          · rw [c', upN_s]; exact h6
          · rw [upN_n c']; exact hv i hi
      · rw [if_neg k2] at h ⊢
        obtain ⟨h1, h2, h3⟩ := nu_0 (sg_0 h)
        refine ⟨⟨e1, e2, e3, e4, e5, e6⟩, fun i hi => ?_⟩
        dsimp only
        by_cases c : i = 128 + cpV B E P
        · rw [c, upN_s]; exact h3
        · rw [upN_n c]; exact hv i hi
/-! the class' side of it -/
def RXd (x : zMem) (t : Nat) (D : WD) : Prop := x.1 t 0 = nI (pW D.1) ∧ x.1 t 1 = nI (pH D.1) ∧ x.1 t 2 = nI (pn D.1) ∧ (∀ h, h < pn D.1 → x.1 (t + 1) h = nI (psd D.1 h) ∧ x.1 (t + 2) h = nI (prc D.1 h)) ∧ ∀ p, p < 64 → x.1 (t + 3) p = nI (D.2 p) ∧ x.1 (t + 4) p = nI (D.2 (64 + p)) ∧ x.1 (t + 5) p = nI (D.2 (128 + p))
theorem TX.zt {x : zMem} {B : Nat → Nat} {E c j : Nat} {v : Int32} {P : PS} (h : TX x B E P) (h1 : 1 ≠ c) (h2 : 2 ≠ c) : TX (zI x c j v) B E P := by
  obtain ⟨a1, a2, a3, a4, a, a5, a6, a7⟩ := h
  exact ⟨by rw [zI_n h1]; exact a1, by rw [zI_n h1]; exact a2, by rw [zI_n h1]; exact a3, fun k hk => by rw [zI_n h2]; exact a4 k hk, a, a5, by rw [zI_n h1]; exact a6, a7⟩
theorem TX.ign {x : zMem} {B : Nat → Nat} {E c a b : Nat} {v : Int32} (h : TX x B E (c, v, a)) (hc : c ≠ 0) : TX x B E (c, v, b) := by
  obtain ⟨h1, h2, h3, h4, d, h5, h6, _⟩ := h
  exact ⟨h1, h2, h3, h4, d, h5, h6, fun z => absurd z hc⟩
def frC (t : Nat) (x y : zMem) : Prop := (∀ c, c ≠ 1 → ¬ (t ≤ c ∧ c ≤ t + 5) → y.1 c = x.1 c) ∧ (∀ j, j ≠ 2 → j ≠ 3 → j ≠ 4 → j ≠ 5 → j ≠ 7 → y.1 1 j = x.1 1 j) ∧ y.2 = x.2
theorem frC.trans {t : Nat} {x y z : zMem} (h : frC t x y) (k : frC t y z) : frC t x z := ⟨fun c h1 h2 => (k.1 c h1 h2).trans (h.1 c h1 h2), fun j h1 h2 h3 h4 h5 => (k.2.1 j h1 h2 h3 h4 h5).trans (h.2.1 j h1 h2 h3 h4 h5), k.2.2.trans h.2.2⟩
theorem frTX.c {t : Nat} {x y : zMem} (h : frTX x y) : frC t x y := ⟨fun c h1 _ => h.1 c h1, h.2.1, h.2.2⟩
theorem frC.z {t : Nat} {x : zMem} {c j : Nat} {v : Int32} (ht : 1 < t) (h1 : t ≤ c) (h2 : c ≤ t + 5) : frC t x (zI x c j v) := ⟨fun a _ ha => zI_n (by omega), fun j _ _ _ _ _ => by rw [zI_n (by omega)], rfl⟩
theorem frTX.d {t : Nat} {x y : zMem} {D : WD} (h : frTX x y) (ht : 1 < t) (w : RXd x t D) : RXd y t D := by
  obtain ⟨w1, w2, w3, w4, w5⟩ := w
  exact ⟨by rw [h.1 t (by omega)]; exact w1, by rw [h.1 t (by omega)]; exact w2, by rw [h.1 t (by omega)]; exact w3, fun q hq => by rw [h.1 (t + 1) (by omega), h.1 (t + 2) (by omega)]; exact w4 q hq, fun p hp => by rw [h.1 (t + 3) (by omega), h.1 (t + 4) (by omega), h.1 (t + 5) (by omega)]; exact w5 p hp⟩
theorem x_refuse {x : zMem} {B : Nat → Nat} {E k L : Nat} {P : PS} (h : TX x B E P) (hP : P.1 ≤ 3) (hk : k < 2 ^ 31) (hL : L < 2 ^ 31) :
    ∃ y, F_X5_refuseOver x 1 (nI k) (nI L) = some y ∧ TX y B E (if L ≤ k then flS 3 (x.1 1 4) P else P) ∧ frTX x y ∧ (k < L → y = x) := by
  unfold F_X5_refuseOver
  rw [ilt hk hL]
  by_cases c : k < L
  · rw [if_pos c, if_neg (by omega)]
    exact ⟨x, rfl, h, frTX.refl, fun _ => rfl⟩
  · obtain ⟨y, y1, y2, y3⟩ := x_fail (c := 3) (v := x.1 1 4) h hP (by decide)
    rw [if_neg c, if_pos (by omega), show F_X8_fail x 1 (3 : Int32) (x.1 1 4) = _ from y1, zbv_some]
    exact ⟨y, rfl, y2, y3, fun w => absurd w c⟩
/-- a number that is read: small, and what it is -/
theorem x_num {x : zMem} {B : Nat → Nat} {E lo hi : Nat} {P : PS} (ht : okT B E) (hP : P.1 ≤ 3) (hhi : hi ≤ 9999) (hlo : lo ≤ hi) (h : TX x B E P) :
    ∃ i y, F_X8_number x 1 (nI lo) (nI hi) = some (nI i, y) ∧ i ≤ hi ∧ TX y B E (nuS B E lo hi P) ∧ frTX x y ∧ ((nuS B E lo hi P).1 = 0 → i = nuV B E P) := by
  obtain ⟨v, y, a1, a2, a3, a4, a5⟩ := x_number ht hP hhi (Nat.le_trans hlo hhi) h
  by_cases z : (nuS B E lo hi P).1 = 0
  · exact ⟨nuV B E P, y, by rw [a1, (a4 z).1], (nu_0 z).2.2, a2, a3, fun _ => rfl⟩
  · exact ⟨lo, y, by rw [a1, a5 z], hlo, a2, a3, fun w => absurd w z⟩
theorem x_place {x : zMem} {B : Nat → Nat} {E : Nat} {P : PS} (ht : okT B E) (hP : okP B E P) (h : TX x B E P) :
    ∃ p y, F_X8_place x 1 8 8 = some (nI p, y) ∧ p < 64 ∧ TX y B E (nuS B E 0 7 (nuS B E 0 7 P)) ∧ frTX x y ∧ ((nuS B E 0 7 (nuS B E 0 7 P)).1 = 0 → p = cpV B E P) := by
  obtain ⟨i, y1, a1, a2, a3, a4, a5⟩ := x_num (lo := 0) (hi := 7) ht hP.1 (by omega) (by omega) h
  obtain ⟨j, y2, b1, b2, b3, b4, b5⟩ := x_num (lo := 0) (hi := 7) ht (nu_ok hP).1 (by omega) (by omega) a3
  unfold F_X8_place
  rw [show (8 : Int32) - (1 : Int32) = nI 7 from rfl, show F_X8_number x 1 (0 : Int32) (nI 7) = _ from a1, zb_some]
  dsimp only
  rw [show F_X8_number y1 1 (0 : Int32) (nI 7) = _ from b1, zb_some]
  dsimp only
  rw [x_placeOf, zb_some]
  refine ⟨8 * j + i, y2, rfl, by omega, b3, a4.trans b4, fun z => ?_⟩
  have := nu_0 z
  rw [b5 z, a5 this.1]
  rfl
