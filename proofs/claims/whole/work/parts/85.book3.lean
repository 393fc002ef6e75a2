/-! book: the reference reads it -/
theorem m_lays {m : zMem} {s l1 d l2 n : Nat} (h3 : l1 < 1000) (h4 : l2 < 1000) (hn : n ≤ l2) (hl : n ≤ l1) (hd : d + l2 < s ∨ s + l1 < d) :
    ∃ y, F_X10_lays m s l1 d l2 (nI n) = some y ∧ (∀ c, ¬ (d < c ∧ c ≤ d + n) → y.1 c = m.1 c) ∧ y.2 = m.2 ∧ ∀ k, k < n → y.1 (d + (1 + 1 * k)) 0 = m.1 (s + (1 + 1 * k)) 0 ∧ y.1 (d + (1 + 1 * k)) 1 = m.1 (s + (1 + 1 * k)) 1 := by
  have hw : wp (F_X10_lays m s l1 d l2 (nI n)) (fun y => (∀ c, ¬ (d < c ∧ c ≤ d + n) → y.1 c = m.1 c) ∧ y.2 = m.2 ∧ ∀ k, k < n → y.1 (d + (1 + 1 * k)) 0 = m.1 (s + (1 + 1 * k)) 0 ∧ y.1 (d + (1 + 1 * k)) 1 = m.1 (s + (1 + 1 * k)) 1) := by
    unfold F_X10_lays
    refine loopN (F_X10_lays_2 _ _ _ _ _) (fun g k (y : zMem) => g (nI n) (nI k) y) n (fun k y => (∀ c, ¬ (d < c ∧ c ≤ d + n) → y.1 c = m.1 c) ∧ y.2 = m.2 ∧ ∀ j, j < k → y.1 (d + (1 + 1 * j)) 0 = m.1 (s + (1 + 1 * j)) 0 ∧ y.1 (d + (1 + 1 * j)) 1 = m.1 (s + (1 + 1 * j)) 1) _ (fun g k y hk hI ih => ?_) (fun g y hI => ?_) (k := 0) (s := m) (by omega) ⟨fun _ _ => rfl, rfl, fun j hj => absurd hj (Nat.not_lt_zero _)⟩ (by omega)
    · obtain ⟨i1, i2, i3⟩ := hI
      try dsimp only at i1 i2 i3 ih ⊢
      unfold F_X10_lays_2
      rw [ile (by omega) (by omega), if_neg (by omega)]
      refine loopN (F_X10_lays_10 _ _ _ _ _ _) (fun g2 q (y : zMem) => g2 (nI n) (nI k) (nI q) y) 2 (fun q y => (∀ c, ¬ (d < c ∧ c ≤ d + n) → y.1 c = m.1 c) ∧ y.2 = m.2 ∧ (∀ j, j < k → y.1 (d + (1 + 1 * j)) 0 = m.1 (s + (1 + 1 * j)) 0 ∧ y.1 (d + (1 + 1 * j)) 1 = m.1 (s + (1 + 1 * j)) 1) ∧ ∀ i, i < q → y.1 (d + (1 + 1 * k)) i = m.1 (s + (1 + 1 * k)) i) _ (fun g2 q y hq hI2 ih2 => ?_) (fun g2 y hI2 => ?_) (k := 0) (s := y) (by omega) ⟨i1, i2, i3, fun i hi => absurd hi (Nat.not_lt_zero _)⟩ (by omega)
      · obtain ⟨j1, j2, j3, j4⟩ := hI2
        try dsimp only at j1 j2 j3 j4 ih2 ⊢
        unfold F_X10_lays_10
        rw [gin_ok (by omega) (by omega), ile (by omega) (by omega), if_neg (by omega), gin_ok (by omega) (by omega), gin_ok hq (by decide), zl_eq, nI_clamp (by omega), nI_clamp (by omega), nI_1, j1 (s + (1 + 1 * k)) (by omega)]
        refine ih2 _ ⟨fun c hc => by rw [zI_n (by omega)]; exact j1 c hc, j2, fun j hj => by rw [zI_n (by omega)]; exact j3 j hj, fun i hi => ?_⟩
        rw [zI_1]
        by_cases ci : i = q
        · rw [ci, upd_s]
        · rw [upd_n ci]; exact j4 i (by omega)
      · obtain ⟨j1, j2, j3, j4⟩ := hI2
        try dsimp only at j1 j2 j3 j4 ⊢
        unfold F_X10_lays_10
        rw [gin_ok (by omega) (by omega), if_pos (Int32.le_refl _), nI_1]
        refine ih y ⟨j1, j2, fun j hj => ?_⟩
        by_cases cj : j = k
        · rw [cj]; exact ⟨j4 0 (by omega), j4 1 (by omega)⟩
        · exact j3 j (by omega)
    · obtain ⟨i1, i2, i3⟩ := hI
      try dsimp only at i1 i2 i3 ⊢
      unfold F_X10_lays_2
      rw [if_pos (Int32.le_refl _), wp_some]
      exact ⟨i1, i2, i3⟩
  exact hw
def RMk (m : zMem) (Bk : BK) : Prop := ∀ k, k < bn Bk → m.1 (359 + (1 + 1 * k)) 0 = nI (bpl Bk k) ∧ m.1 (359 + (1 + 1 * k)) 1 = nI (bbr Bk k)
def frB (m y : zMem) : Prop := (∀ c, c ≠ 0 → ¬ (359 < c ∧ c < 368) → y.1 c = m.1 c) ∧ (∀ j, j ≠ 4 → j ≠ 5 → j ≠ 6 → y.1 0 j = m.1 0 j) ∧ y.2 = m.2
theorem frB.refl {m : zMem} : frB m m := ⟨fun _ _ _ => rfl, fun _ _ _ _ => rfl, rfl⟩
theorem frB.trans {x y z : zMem} (h : frB x y) (k : frB y z) : frB x z := ⟨fun c h1 h2 => (k.1 c h1 h2).trans (h.1 c h1 h2), fun j h1 h2 h3 => (k.2.1 j h1 h2 h3).trans (h.2.1 j h1 h2 h3), k.2.2.trans h.2.2⟩
theorem frTM.b {x y : zMem} (h : frTM x y) : frB x y := ⟨fun c h1 _ => h.1 c h1, h.2.1, h.2.2⟩
theorem frTM.bk {x y : zMem} {Bk : BK} (h : frTM x y) (w : RMk x Bk) : RMk y Bk := fun k hk => by rw [h.1 _ (by omega)]; exact w k hk
theorem m_bkRead {m : zMem} {B : Nat → Nat} {E : Nat} {e : PL} {a : Int32} {Q : Int32 × zMem → Prop} (ht : okT B E) (he : okPL e) (h : TMa m B E (PS0 B E) (PS0 B E).2.2) (hp : RMp m e)
    (hQ : ∀ y, TM y B E (rdB B E e 9).1 → frB m y → RMk y (rdB B E e 9).2 → wp (F_X10_book_240 a (nI (bn (rdB B E e 9).2)) y) Q) : wp (itF (fun _ _ => none) (F_X10_book_46 a) zFuel (nI 0) m) Q := by
  have e1 := he.1
  have e2 := he.2.1
  have e3 := he.2.2.1
  have e4 := he.2.2.2.1
  have hn := he.2.2.2.2.1
  have hE := ht.1
  have fin : ∀ (k : Nat) (y : zMem), k ≤ 9 → TM y B E (rdB B E e k).1 → frB m y → RMk y (rdB B E e k).2 → ¬ ((rdB B E e k).1.1 = 0 ∧ (rdB B E e k).1.2.2 < E) → wp (F_X10_book_240 a (nI (bn (rdB B E e k).2)) y) Q := fun k y hk h1 h2 h3 h4 => by
    have hs := rd_stop h4 9 (by omega)
    rw [hs] at hQ
    exact hQ y h1 h2 h3
  refine loopN (F_X10_book_46 _) (fun g k (y : zMem) => g (nI (bn (rdB B E e k).2)) y) 9 (fun k y => TM y B E (rdB B E e k).1 ∧ ((rdB B E e k).1.1 = 0 → TMa y B E (rdB B E e k).1 (rdB B E e k).1.2.2) ∧ frB m y ∧ RMk y (rdB B E e k).2) _ (fun g k y hk hI ih => ?_) (fun g y hI => ?_) (k := 0) (s := m) (by omega) ⟨h.t, fun _ => h, frB.refl, fun k hk => absurd hk (Nat.not_lt_zero _)⟩ (by omega)
  · obtain ⟨i1, i2, i3, i4⟩ := hI
    try dsimp only at i1 i2 i3 i4 ih ⊢
    obtain ⟨oP, oF, oB⟩ := rd_ok (B := B) (E := E) he k
    have n8 := oB.1
    unfold F_X10_book_46
    have hP3 := oP.1
    rw [i1.1, ie0 (by omega)]
    by_cases z : (rdB B E e k).1.1 = 0
    · have ya := i2 z
      have haE := ya.2.2.2.2.1
      rw [if_pos z, ya.2.2.1, ya.2.2.2.2.2.1, ile (by omega) (by omega)]
      by_cases c : E ≤ (rdB B E e k).1.2.2
      · rw [if_pos c]
        exact fin k y (by omega) i1 i3 i4 (fun w => by omega)
      · rw [if_neg c]
        have hrun : (rdB B E e k).1.1 = 0 ∧ (rdB B E e k).1.2.2 < E := ⟨z, by omega⟩
        have hst := rdB_s B E e k
        unfold stB at hst
        rw [if_pos hrun] at hst
        generalize hrk : rdB B E e k = rk at *
        obtain ⟨P, Bk⟩ := rk
        dsimp only at *
        -- the line is done: on
        have next : ∀ (y2 : zMem) (c2 : Nat), TM y2 B E (lnS B E e P (bn Bk) (bpl Bk)) → frB m y2 → RMk y2 (if (lnS B E e P (bn Bk) (bpl Bk)).1 = 0 then addB Bk (ppS B E e P (bn Bk)) (lvS B E e P (bn Bk) (bpl Bk)) else Bk) → c2 = bn (if (lnS B E e P (bn Bk) (bpl Bk)).1 = 0 then addB Bk (ppS B E e P (bn Bk)) (lvS B E e P (bn Bk) (bpl Bk)) else Bk) → wp (F_X10_book_233 a g (nI c2) y2) Q := fun y2 c2 t1 t2 t3 t4 => by
          obtain ⟨y3, f1, f2, f3, f4⟩ := m_rest ht t1
          unfold F_X10_book_233
          rw [f1, zbv_some, t4]
          rw [hst] at ih
          exact ih y3 ⟨f2, f4, t2.trans f3.b, f3.bk t3⟩
        obtain ⟨y1, b1, b2, b3, b4⟩ := m_rest ht i1
        have yb := b4 z
        have p1 : RMp y1 e := by
          refine ⟨?_, ?_, ?_, fun q hq => ?_⟩
          · rw [b3.1 4 (by omega), i3.1 4 (by omega) (by omega)]; exact hp.1
          · rw [b3.1 4 (by omega), i3.1 4 (by omega) (by omega)]; exact hp.2.1
          · rw [b3.1 4 (by omega), i3.1 4 (by omega) (by omega)]; exact hp.2.2.1
          · rw [b3.1 _ (by omega), i3.1 _ (by omega) (by omega)]; exact hp.2.2.2 q hq
        have o1 : okP B E (nuS B E 0 (pW e - 1) P) := nu_ok oP
        obtain ⟨v1, y2, c1, c2, c3, c4, c5⟩ := m_number (lo := 0) (hi := pW e - 1) ht hP3 (by omega) (by omega) b2
        rw [b1, zbv_some, zl_eq, yb.2.2.2.2.2.1, p1.1, show nI (pW e) - (1 : Int32) = nI (pW e - 1) from pk_sub e1, show F_X10_number y1 (0 : Int32) (nI (pW e - 1)) = _ from c1, zb_some]
        dsimp only
        have ob1 : okP B E (b1S B E e P (bn Bk)) := b1_ok oP
        -- behind the place's column
        have two : ∀ y3, TM y3 B E (b1S B E e P (bn Bk)) → frTM y y3 → wp (F_X10_book_107 a g (nI (bn Bk)) v1 y3) Q := fun y3 t1 t2 => by
          obtain ⟨y4, f1, f2, f3, f4⟩ := m_rest ht t1
          obtain ⟨v2, y5, g1, g2, g3, g4, g5⟩ := m_number (lo := 0) (hi := pH e - 1) ht ob1.1 (by omega) (by omega) f2
          have hH : y4.1 4 1 = nI (pH e) := by rw [f3.1 4 (by omega), t2.1 4 (by omega), i3.1 4 (by omega) (by omega)]; exact hp.2.1
          have o2 : okP B E (nuS B E 0 (pH e - 1) (b1S B E e P (bn Bk))) := nu_ok ob1
          have fr5 : frTM y y5 := t2.trans (f3.trans g3)
          have k5 : RMk y5 Bk := fr5.bk i4
          unfold F_X10_book_107
          rw [f1, zbv_some, zl_eq, hH, show nI (pH e) - (1 : Int32) = nI (pH e - 1) from pk_sub e3, show F_X10_number y4 (0 : Int32) (nI (pH e - 1)) = _ from g1, zb_some]
          dsimp only
          -- behind the place
          have three : ∀ y6, TM y6 B E (b2S B E e P (bn Bk) (bpl Bk)) → frTM y y6 → wp (F_X10_book_181 a g (nI (bn Bk)) v1 v2 y6) Q := fun y6 u1 u2 => by
            have ob2 : okP B E (b2S B E e P (bn Bk) (bpl Bk)) := b2_ok oP
            obtain ⟨v3, y7, w1, w2, w3, w4, w5⟩ := m_number (lo := 0) (hi := 9999) ht ob2.1 (by omega) (by omega) u1
            have o3 : okP B E (nuS B E 0 9999 (b2S B E e P (bn Bk) (bpl Bk))) := nu_ok ob2
            obtain ⟨y8, s1, s2, s3⟩ := m_sign (c := 59) ht o3.1 (by omega) w2
            have s2' : TM y8 B E (lnS B E e P (bn Bk) (bpl Bk)) := s2
            have o4 : okP B E (lnS B E e P (bn Bk) (bpl Bk)) := ln_ok oP
            have fr8 : frTM y y8 := u2.trans (w3.trans s3)
            have k8 : RMk y8 Bk := fr8.bk i4
            have hl3 := o4.1
            unfold F_X10_book_181
            rw [show F_X10_number y6 (0 : Int32) (9999 : Int32) = _ from w1, zb_some]
            dsimp only
            rw [show F_X10_sign y7 (59 : Int32) = _ from s1, zbv_some, s2'.1, ie0 (by omega)]
            by_cases l0 : (lnS B E e P (bn Bk) (bpl Bk)).1 = 0
            · obtain ⟨m8, hP0, hi0, hj0, hv0, hdup, hb10, hb20, hb30, hb40⟩ := ln_0 he l0
              have hv1 : v1 = nI (nuV B E P) := c4 (by
                have : b1S B E e P (bn Bk) = nuS B E 0 (pW e - 1) P := by unfold b1S; rw [if_neg m8]
                rw [← this]; exact hb10)
              have hv2 : v2 = nI (nuV B E (b1S B E e P (bn Bk))) := g4 hb40
              have hv3 : v3 = nI (lvS B E e P (bn Bk) (bpl Bk)) := w4 hb30
              rw [if_pos l0, gin_ok (by omega) (by decide), zl_eq, zl_eq, nI_clamp (by omega), hv1, hv2, hv3, show (8 : Int32) * nI (nuV B E (b1S B E e P (bn Bk))) + nI (nuV B E P) = nI (ppS B E e P (bn Bk)) from by rw [show (8 : Int32) = nI 8 from rfl, pk_mul, nI_add]; rfl, nI_1]
              refine next _ (bn Bk + 1) ?_ ?_ ?_ (by rw [if_pos l0]; rfl)
              · obtain ⟨q1, q2, q3, q4, aa, q5, q6, q7⟩ := s2'
                exact ⟨by rw [zI_n (by omega), zI_n (by omega)]; exact q1, by rw [zI_n (by omega), zI_n (by omega)]; exact q2, by rw [zI_n (by omega), zI_n (by omega)]; exact q3, fun k hk => by rw [zI_n (by omega), zI_n (by omega)]; exact q4 k hk, aa, q5, by rw [zI_n (by omega), zI_n (by omega)]; exact q6, q7⟩
              · exact (i3.trans fr8.b).trans ⟨fun cc k1 k2 => by rw [zI_n (by omega), zI_n (by omega)], fun j _ _ _ => by rw [zI_n (by omega), zI_n (by omega)], rfl⟩
              · rw [if_pos l0]
                intro k hk
                have hk' : k < bn Bk + 1 := hk
                show _ = nI (if k = bn Bk then ppS B E e P (bn Bk) else bpl Bk k) ∧ _ = nI (if k = bn Bk then lvS B E e P (bn Bk) (bpl Bk) else bbr Bk k)
                by_cases ck : k = bn Bk
                · rw [ck, if_pos rfl, if_pos rfl, zI_s (by omega), zI_1, upd_s, zI_1, upd_s]
                  exact ⟨rfl, rfl⟩
                · rw [if_neg ck, if_neg ck, zI_n (by omega), zI_n (by omega)]
                  exact k8 k (by omega)
            · rw [if_neg l0]
              exact next y8 (bn Bk) s2' (i3.trans fr8.b) (by rw [if_neg l0]; exact k8) (by rw [if_neg l0])
          -- has the place been told
          by_cases z2 : (nuS B E 0 (pH e - 1) (b1S B E e P (bn Bk))).1 = 0
          · obtain ⟨z1, _, vj⟩ := nu_0 z2
            have m8 : bn Bk ≠ 8 := fun w => by
              unfold b1S at z1
              rw [if_pos w] at z1
              exact absurd z1 (fl_n (by decide))
            have hb1 : b1S B E e P (bn Bk) = nuS B E 0 (pW e - 1) P := by unfold b1S; rw [if_neg m8]
            have z0 : (nuS B E 0 (pW e - 1) P).1 = 0 := by rw [← hb1]; exact z1
            have vi := (nu_0 z0).2.2
            have hv1 : v1 = nI (nuV B E P) := c4 z0
            have hv2 : v2 = nI (nuV B E (b1S B E e P (bn Bk))) := g4 z2
            have yc := f4 z1
            rw [yc.2.2.2.2.2.1]
            have hpp : (8 : Int32) * v2 + v1 = nI (ppS B E e P (bn Bk)) := by rw [hv1, hv2, show (8 : Int32) = nI 8 from rfl, pk_mul, nI_add]; rfl
            have hpl : ppS B E e P (bn Bk) < 64 := by unfold ppS; omega
            refine loopN (F_X10_book_135 _ _) (fun g2 k (s : zMem) => g2 (nI (bn Bk)) v1 (nI (b1S B E e P (bn Bk)).2.2) v2 (nI k) s) (bn Bk) (fun k s => TM s B E (if dupS k (bpl Bk) (ppS B E e P (bn Bk)) = true then flS 2 (nI (b1S B E e P (bn Bk)).2.2) (nuS B E 0 (pH e - 1) (b1S B E e P (bn Bk))) else nuS B E 0 (pH e - 1) (b1S B E e P (bn Bk))) ∧ frTM y s) _ (fun g2 k s hk hI2 ih2 => ?_) (fun g2 s hI2 => ?_) (k := 0) (s := y5) (by omega) ⟨g2, fr5⟩ (by omega)
            · obtain ⟨j1, j2⟩ := hI2
              try dsimp only at j1 j2 ih2 ⊢
              have hds : dupS (k + 1) (bpl Bk) (ppS B E e P (bn Bk)) = (dupS k (bpl Bk) (ppS B E e P (bn Bk)) || decide (bpl Bk k = ppS B E e P (bn Bk))) := rfl
              have ks : RMk s Bk := j2.bk i4
              have hBk := oB.2 k hk
              unfold F_X10_book_135 F_X10_book_175
              rw [ile (by omega) (by omega), if_neg (by omega)]
              cases hd : dupS k (bpl Bk) (ppS B E e P (bn Bk))
              · rw [hd, if_neg (by decide)] at j1
                rw [j1.1, z2, if_pos (show nI 0 = 0 from rfl), gin_ok (by omega) (by decide), nI_clamp (by omega), (ks k hk).1, hpp, ieq (by omega) (by omega), nI_1]
                by_cases cd : bpl Bk k = ppS B E e P (bn Bk)
                · obtain ⟨s', w1, w2, w3⟩ := m_wrong (c := 2) (v := nI (b1S B E e P (bn Bk)).2.2) j1 o2.1 (by decide)
                  rw [if_pos cd, show F_X10_wrong s (2 : Int32) (nI (b1S B E e P (bn Bk)).2.2) = _ from w1, zbv_some]
                  exact ih2 s' ⟨by rw [hds, hd, decide_eq_true cd, if_pos (show (false || true) = true from rfl)]; exact w2, j2.trans w3⟩
                · rw [if_neg cd]
                  exact ih2 s ⟨by rw [hds, hd, decide_eq_false cd, if_neg (by decide)]; exact j1, j2⟩
              · rw [hd, if_pos rfl] at j1
                have hne := fl_n (c := 2) (v := nI (b1S B E e P (bn Bk)).2.2) (P := nuS B E 0 (pH e - 1) (b1S B E e P (bn Bk))) (by decide)
                have hok := (fl_ok (c := 2) (v := nI (b1S B E e P (bn Bk)).2.2) o2 (by omega) (by omega)).1
                rw [j1.1, ie0 (by omega), if_neg hne]
                refine three s ?_ j2
                unfold b2S
                rw [show dupS (bn Bk) (bpl Bk) (ppS B E e P (bn Bk)) = true from by
                  unfold dupS at hd ⊢
                  obtain ⟨q, q1, q2⟩ := anyN_iff.mp hd
                  exact anyN_iff.mpr ⟨q, by omega, q2⟩, if_pos rfl]
                exact j1
            · obtain ⟨j1, j2⟩ := hI2
              try dsimp only at j1 j2 ⊢
              unfold F_X10_book_135
              rw [if_pos (Int32.le_refl _)]
              exact three s j1 j2
          · have hb2 : b2S B E e P (bn Bk) (bpl Bk) = nuS B E 0 (pH e - 1) (b1S B E e P (bn Bk)) := by
              unfold b2S
              split
              · exact fl_st z2
              · rfl
            have ho2 := o2.1
            refine loopN (F_X10_book_135 _ _) (fun g2 k (s : zMem) => g2 (nI (bn Bk)) v1 (y4.1 0 4) v2 (nI k) s) (bn Bk) (fun k s => s = y5) _ (fun g2 k s hk hI2 ih2 => ?_) (fun g2 s hI2 => ?_) (k := 0) (s := y5) (by omega) rfl (by omega)
            · try dsimp only at hI2 ih2 ⊢
              subst hI2
              unfold F_X10_book_135
              rw [ile (by omega) (by omega), if_neg (by omega), g2.1, ie0 (by omega), if_neg z2]
              exact three _ (by rw [hb2]; assumption) fr5
            · try dsimp only at hI2 ⊢
              subst hI2
              unfold F_X10_book_135
              rw [if_pos (Int32.le_refl _)]
              exact three _ (by rw [hb2]; assumption) fr5
        by_cases z1 : (nuS B E 0 (pW e - 1) P).1 = 0
        · rw [c2.1, z1, if_pos (show nI 0 = 0 from rfl), show (8 : Int32) = nI 8 from rfl, ieq (by omega) (by omega)]
          by_cases m8 : bn Bk = 8
          · obtain ⟨y3, f1, f2, f3⟩ := m_wrong (c := 3) (v := nI P.2.2) c2 o1.1 (by decide)
            rw [if_pos m8, show F_X10_wrong y2 (3 : Int32) (nI P.2.2) = _ from f1, zbv_some]
            exact two y3 (by unfold b1S; rw [if_pos m8]; exact f2) (b3.trans (c3.trans f3))
          · rw [if_neg m8]
            exact two y2 (by unfold b1S; rw [if_neg m8]; exact c2) (b3.trans c3)
        · have h13 := o1.1
          rw [c2.1, ie0 (by omega), if_neg z1]
          refine two y2 ?_ (b3.trans c3)
          unfold b1S
          rw [fl_st z1]
          split <;> exact c2
    · rw [if_neg z]
      exact fin k y (by omega) i1 i3 i4 (fun w => z w.1)
  · obtain ⟨i1, i2, i3, i4⟩ := hI
    try dsimp only at i1 i2 i3 i4 ⊢
    obtain ⟨oP, oF, oB⟩ := rd_ok (B := B) (E := E) he 9
    have hP3 := oP.1
    unfold F_X10_book_46
    rw [i1.1, ie0 (by omega)]
    by_cases z : (rdB B E e 9).1.1 = 0
    · have ya := i2 z
      have haE := ya.2.2.2.2.1
      rw [if_pos z, ya.2.2.1, ya.2.2.2.2.2.1, ile (by omega) (by omega)]
      by_cases c : E ≤ (rdB B E e 9).1.2.2
      · rw [if_pos c]
        exact hQ y i1 i3 i4
      · have := rd_n (B := B) (E := E) (e := e) 9 z (by omega)
        have n8 := oB.1
        omega
    · rw [if_neg z]
      exact hQ y i1 i3 i4
