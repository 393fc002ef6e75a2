/-! book: a line, all lines -/
def dupS (n : Nat) (pl : Nat → Nat) (p : Nat) : Bool := anyN (fun k => decide (pl k = p)) n
def b1S (B : Nat → Nat) (E : Nat) (e : PL) (P : PS) (n : Nat) : PS := if n = 8 then flS 3 (nI P.2.2) (nuS B E 0 (pW e - 1) P) else nuS B E 0 (pW e - 1) P
def ppS (B : Nat → Nat) (E : Nat) (e : PL) (P : PS) (n : Nat) : Nat := 8 * nuV B E (b1S B E e P n) + nuV B E P
def b2S (B : Nat → Nat) (E : Nat) (e : PL) (P : PS) (n : Nat) (pl : Nat → Nat) : PS := if dupS n pl (ppS B E e P n) = true then flS 2 (nI (b1S B E e P n).2.2) (nuS B E 0 (pH e - 1) (b1S B E e P n)) else nuS B E 0 (pH e - 1) (b1S B E e P n)
def lnS (B : Nat → Nat) (E : Nat) (e : PL) (P : PS) (n : Nat) (pl : Nat → Nat) : PS := sgS B E 59 (nuS B E 0 9999 (b2S B E e P n pl))
def lvS (B : Nat → Nat) (E : Nat) (e : PL) (P : PS) (n : Nat) (pl : Nat → Nat) : Nat := nuV B E (b2S B E e P n pl)
theorem nu_st {B : Nat → Nat} {E lo hi : Nat} {P : PS} (h : P.1 ≠ 0) : nuS B E lo hi P = P := by unfold nuS; rw [if_neg h]
theorem sg_st {B : Nat → Nat} {E : Nat} {c : Int32} {P : PS} (h : P.1 ≠ 0) : sgS B E c P = P := by unfold sgS; rw [if_neg h]
theorem fl_st {c : Nat} {v : Int32} {P : PS} (h : P.1 ≠ 0) : flS c v P = P := by unfold flS; rw [if_neg h]
theorem sg_0 {B : Nat → Nat} {E : Nat} {c : Int32} {P : PS} (h : (sgS B E c P).1 = 0) : P.1 = 0 := by
  refine Classical.byContradiction (fun z => ?_)
  rw [sg_st z] at h
  exact z h
theorem fl_n {c : Nat} {v : Int32} {P : PS} (hc : c ≠ 0) : (flS c v P).1 ≠ 0 := by
  unfold flS
  by_cases z : P.1 = 0
  · rw [if_pos z]; exact hc
  · rw [if_neg z]; exact z
/-- a line that is right: what it says -/
theorem ln_0 {B : Nat → Nat} {E : Nat} {e : PL} {P : PS} {n : Nat} {pl : Nat → Nat} (he : okPL e) (h : (lnS B E e P n pl).1 = 0) : n ≠ 8 ∧ P.1 = 0 ∧ nuV B E P < pW e ∧ nuV B E (b1S B E e P n) < pH e ∧ lvS B E e P n pl ≤ 9999 ∧ dupS n pl (ppS B E e P n) = false ∧ (b1S B E e P n).1 = 0 ∧ (b2S B E e P n pl).1 = 0 ∧ (nuS B E 0 9999 (b2S B E e P n pl)).1 = 0 ∧ (nuS B E 0 (pH e - 1) (b1S B E e P n)).1 = 0 := by
  have e1 := he.1
  have e3 := he.2.2.1
  have h3 : (nuS B E 0 9999 (b2S B E e P n pl)).1 = 0 := sg_0 h
  obtain ⟨h2, _, h2v⟩ := nu_0 h3
  have hd : dupS n pl (ppS B E e P n) = false := by
    cases hc : dupS n pl (ppS B E e P n)
    · rfl
    · unfold b2S at h2
      rw [if_pos hc] at h2
      exact absurd h2 (fl_n (by decide))
  have h2' : (nuS B E 0 (pH e - 1) (b1S B E e P n)).1 = 0 := by
    unfold b2S at h2
    rw [hd, if_neg (by decide)] at h2
    exact h2
  obtain ⟨h1, _, h1v⟩ := nu_0 h2'
  have hn : n ≠ 8 := fun c => by
    unfold b1S at h1
    rw [if_pos c] at h1
    exact absurd h1 (fl_n (by decide))
  have h0 : (nuS B E 0 (pW e - 1) P).1 = 0 := by
    unfold b1S at h1
    rw [if_neg hn] at h1
    exact h1
  obtain ⟨hP, _, h0v⟩ := nu_0 h0
  exact ⟨hn, hP, by omega, by omega, h2v, hd, h1, h2, h3, h2'⟩
def RXk (x : zMem) (e : PL) (B : BK) (t : Nat) : Prop := RXb x B t
/-- the spare book of the class, and the text, change -/
def frK (t : Nat) (x y : zMem) : Prop := (∀ c, c ≠ 1 → c ≠ t → c ≠ t + 1 → c ≠ t + 2 → y.1 c = x.1 c) ∧ (∀ j, j ≠ 2 → j ≠ 3 → j ≠ 4 → j ≠ 5 → j ≠ 7 → y.1 1 j = x.1 1 j) ∧ (∀ c, c ≠ t → y.2.1 c = x.2.1 c) ∧ y.2.2 = x.2.2
theorem frTX.k {t : Nat} {x y : zMem} (h : frTX x y) : frK t x y := ⟨fun c h1 _ _ _ => h.1 c h1, h.2.1, fun c _ => by rw [h.2.2], by rw [h.2.2]⟩
theorem frK.trans {t : Nat} {x y z : zMem} (h : frK t x y) (k : frK t y z) : frK t x z := ⟨fun c h1 h2 h3 h4 => (k.1 c h1 h2 h3 h4).trans (h.1 c h1 h2 h3 h4), fun j h1 h2 h3 h4 h5 => (k.2.1 j h1 h2 h3 h4 h5).trans (h.2.1 j h1 h2 h3 h4 h5), fun c hc => (k.2.2.1 c hc).trans (h.2.2.1 c hc), k.2.2.2.trans h.2.2.2⟩
theorem frTX.bk {t : Nat} {x y : zMem} {B : BK} (h : frTX x y) (ht : 1 < t) (w : RXb x B t) : RXb y B t := by
  obtain ⟨h1, h2, h3⟩ := w
  refine ⟨by rw [h.1 t (by omega)]; exact h1, fun k hk => ?_, fun p hp => by rw [h.2.2]; exact h3 p hp⟩
  rw [h.1 (t + 1) (by omega), h.1 (t + 2) (by omega)]
  exact h2 k hk
def addB (Bk : BK) (p v : Nat) : BK := (bn Bk + 1, fun k => if k = bn Bk then p else bpl Bk k, fun k => if k = bn Bk then v else bbr Bk k)
theorem x_readLine {x : zMem} {B : Nat → Nat} {E : Nat} {e : PL} {P : PS} {Bk : BK} {pl t : Nat} (ht : okT B E) (he : okPL e) (hP : okP B E P) (hpl : pl = 174 ∨ pl = 180) (h94 : t = 194 ∨ t = 197) (h : TX x B E P) (kp : RXp x e pl) (hb : RXb x Bk t) (h8 : bn Bk ≤ 8) :
    ∃ y, F_X1_readLine x t 1 pl = some y ∧ TX y B E (lnS B E e P (bn Bk) (bpl Bk)) ∧ frK t x y ∧ ((lnS B E e P (bn Bk) (bpl Bk)).1 = 0 → RXb y (addB Bk (ppS B E e P (bn Bk)) (lvS B E e P (bn Bk) (bpl Bk))) t) := by
  have e1 := he.1
  have e2 := he.2.1
  have e3 := he.2.2.1
  have e4 := he.2.2.2.1
  have o1 : okP B E (nuS B E 0 (pW e - 1) P) := nu_ok hP
  obtain ⟨v1, y1, a1, a2, a3, a4, a5⟩ := x_number (lo := 0) (hi := pW e - 1) ht hP.1 (by omega) (by omega) h
  have b1 := a3.bk (by omega) hb
  have k1 : y1.1 pl 1 = nI (pH e) := by rw [a3.1 pl (by omega)]; exact kp.2.1
  have v1b : ∃ i, i ≤ 7 ∧ v1 = nI i ∧ ((nuS B E 0 (pW e - 1) P).1 = 0 → i = nuV B E P) := by
    by_cases z : (nuS B E 0 (pW e - 1) P).1 = 0
    · have := (nu_0 z).2.2
      exact ⟨nuV B E P, by omega, (a4 z).1, fun _ => rfl⟩
    · exact ⟨0, by omega, a5 z, fun w => absurd w z⟩
  obtain ⟨i, i7, rfl, i0⟩ := v1b
  unfold F_X1_readLine
  rw [kp.1, show nI (pW e) - (1 : Int32) = nI (pW e - 1) from pk_sub e1, show F_X8_number x 1 (0 : Int32) (nI (pW e - 1)) = _ from a1, zb_some]
  dsimp only
  rw [b1.1, show (8 : Int32) = nI 8 from rfl, ilt (by omega) (by omega)]
  by_cases c8 : bn Bk < 8
  · have hb1 : b1S B E e P (bn Bk) = nuS B E 0 (pW e - 1) P := by unfold b1S; rw [if_neg (by omega)]
    obtain ⟨v2, y2, c1, c2, c3, c4, c5⟩ := x_number (lo := 0) (hi := pH e - 1) ht o1.1 (by omega) (by omega) a2
    have o2 : okP B E (nuS B E 0 (pH e - 1) (nuS B E 0 (pW e - 1) P)) := nu_ok o1
    have b2 := c3.bk (by omega) b1
    have v2b : ∃ j, j ≤ 7 ∧ v2 = nI j ∧ ((nuS B E 0 (pH e - 1) (nuS B E 0 (pW e - 1) P)).1 = 0 → j = nuV B E (nuS B E 0 (pW e - 1) P) ∧ i = nuV B E P) := by
      by_cases z : (nuS B E 0 (pH e - 1) (nuS B E 0 (pW e - 1) P)).1 = 0
      · have := nu_0 z
        exact ⟨_, by omega, (c4 z).1, fun _ => ⟨rfl, i0 this.1⟩⟩
      · exact ⟨0, by omega, c5 z, fun w => absurd w z⟩
    obtain ⟨j, j7, rfl, j0⟩ := v2b
    rw [if_pos c8, k1, show nI (pH e) - (1 : Int32) = nI (pH e - 1) from pk_sub e3, show F_X8_number y1 1 (0 : Int32) (nI (pH e - 1)) = _ from c1, zb_some]
    dsimp only
    rw [x_placeOf, zb_some]
    dsimp only
    have hp64 : 8 * j + i < 64 := by omega
    rw [x_has y2 _ hp64, zb_some]
    dsimp only
    rw [ibI, b2.2.2 _ hp64]
    -- the line's end, when its place is read
    have tail : ∀ y3, TX y3 B E (b2S B E e P (bn Bk) (bpl Bk)) → frTX y2 y3 → ∃ y, F_X1_readLine_73 t 1 pl (nI (8 * j + i)) y3 = some y ∧ TX y B E (lnS B E e P (bn Bk) (bpl Bk)) ∧ frK t x y ∧ ((lnS B E e P (bn Bk) (bpl Bk)).1 = 0 → RXb y (addB Bk (ppS B E e P (bn Bk)) (lvS B E e P (bn Bk) (bpl Bk))) t) := fun y3 t1 t2 => by
      have o3 : okP B E (b2S B E e P (bn Bk) (bpl Bk)) := by
        unfold b2S
        rw [hb1]
        split
        · exact fl_ok o2 (by omega) (by omega)
        · exact o2
      have o4 : okP B E (nuS B E 0 9999 (b2S B E e P (bn Bk) (bpl Bk))) := nu_ok o3
      have b3 := t2.bk (by omega) b2
      obtain ⟨v3, y4, d1, d2, d3, d4, d5⟩ := x_number (lo := 0) (hi := 9999) ht o3.1 (by omega) (by omega) t1
      obtain ⟨y5, g1, g2, g3⟩ := x_sign (c := 59) ht o4.1 (by omega) d2
      have b5 := g3.bk (by omega) (d3.bk (by omega) b3)
      have fr : frTX x y5 := a3.trans (c3.trans (t2.trans (d3.trans g3)))
      unfold F_X1_readLine_73
      rw [show F_X8_number y3 1 (0 : Int32) (9999 : Int32) = _ from d1, zb_some]
      dsimp only
      rw [show F_X8_sign y4 1 (59 : Int32) = _ from g1, zbv_some, b5.1, gin_ok c8 (by decide), zl_eq, nI_clamp (by omega), zI_n (a := t) (k := t + 1) (by omega), b5.1, gin_ok c8 (by decide), zl_eq, nI_clamp (by omega), x_bit, zb_some]
      dsimp only
      rw [zl_eq, zl_eq]
      have c2n : (zL (zI (zI y5 (t + 1) (bn Bk) (nI (8 * j + i))) (t + 2) (bn Bk) v3) t 3 ((zI (zI y5 (t + 1) (bn Bk) (nI (8 * j + i))) (t + 2) (bn Bk) v3).2.1 t 3 ||| bit1 (8 * j + i))).1 t 2 = nI (bn Bk) := by
        show (zI (zI y5 (t + 1) (bn Bk) (nI (8 * j + i))) (t + 2) (bn Bk) v3).1 t 2 = _
        rw [zI_n (by omega), zI_n (by omega)]; exact b5.1
      rw [c2n, nI_1]
      refine ⟨_, rfl, ?_, ?_, fun h0 => ?_⟩
      · obtain ⟨q1, q2, q3, q4, a, q5, q6, q7⟩ := g2
        have cell : ∀ c, c = 1 ∨ c = 2 → (zI (zL (zI (zI y5 (t + 1) (bn Bk) (nI (8 * j + i))) (t + 2) (bn Bk) v3) t 3 ((zI (zI y5 (t + 1) (bn Bk) (nI (8 * j + i))) (t + 2) (bn Bk) v3).2.1 t 3 ||| bit1 (8 * j + i))) t 2 (nI (bn Bk + 1))).1 c = y5.1 c := fun c hc => by
          rw [zI_n (by omega)]
          show (zI (zI y5 (t + 1) (bn Bk) (nI (8 * j + i))) (t + 2) (bn Bk) v3).1 c = _
          rw [zI_n (by omega), zI_n (by omega)]
        refine ⟨?_, ?_, ?_, fun k hk => ?_, a, q5, ?_, q7⟩
        · rw [cell 1 (Or.inl rfl)]; exact q1
        · rw [cell 1 (Or.inl rfl)]; exact q2
        · rw [cell 1 (Or.inl rfl)]; exact q3
        · rw [cell 2 (Or.inr rfl)]; exact q4 k hk
        · rw [cell 1 (Or.inl rfl)]; exact q6
      · refine (fr.k (t := t)).trans ⟨fun c h1 h2 h3 h4 => ?_, fun q _ _ _ _ _ => ?_, fun c hc => ?_, rfl⟩
        · rw [zI_n h2]
          show (zI (zI y5 (t + 1) (bn Bk) (nI (8 * j + i))) (t + 2) (bn Bk) v3).1 c = _
          rw [zI_n h4, zI_n h3]
        · rw [zI_n (by omega)]
          show (zI (zI y5 (t + 1) (bn Bk) (nI (8 * j + i))) (t + 2) (bn Bk) v3).1 1 q = _
          rw [zI_n (by omega), zI_n (by omega)]
        · show (zL _ t 3 _).2.1 c = _
          rw [zL_n hc]; rfl
      · obtain ⟨n8, hP0, hi0, hj0, hv0, hdup, hb10, hb20, hb30, hb40⟩ := ln_0 he h0
        rw [hb1] at hb40
        obtain ⟨hj, hi⟩ := j0 hb40
        have hpp : ppS B E e P (bn Bk) = 8 * j + i := by unfold ppS; rw [hb1, hj, hi]
        have hv3 : v3 = nI (lvS B E e P (bn Bk) (bpl Bk)) := (d4 hb30).1
        rw [hpp]
        refine ⟨?_, fun k hk => ?_, fun p hp => ?_⟩
        · show (zI _ t 2 (nI (bn Bk + 1))).1 t 2 = nI (bn Bk + 1)
          rw [zI_1, upd_s]
        · have hk' : k < bn Bk + 1 := hk
          show (zI _ t 2 (nI (bn Bk + 1))).1 (t + 1) k = nI (if k = bn Bk then 8 * j + i else bpl Bk k) ∧ (zI _ t 2 (nI (bn Bk + 1))).1 (t + 2) k = nI (if k = bn Bk then lvS B E e P (bn Bk) (bpl Bk) else bbr Bk k)
          rw [zI_n (by omega), zI_n (by omega)]
          show (zI (zI y5 (t + 1) (bn Bk) (nI (8 * j + i))) (t + 2) (bn Bk) v3).1 (t + 1) k = _ ∧ (zI (zI y5 (t + 1) (bn Bk) (nI (8 * j + i))) (t + 2) (bn Bk) v3).1 (t + 2) k = _
          rw [zI_n (by omega), zI_1, zI_1]
          by_cases ck : k = bn Bk
          · rw [ck, upd_s, upd_s, if_pos rfl, if_pos rfl]
            exact ⟨rfl, hv3⟩
          · have := b5.2.1 k (by omega)
            rw [upd_n ck, upd_n ck, if_neg ck, if_neg ck, zI_n (by omega)]
            exact this
        · show tb ((zL _ t 3 _).2.1 t 3) p = _
          rw [zL_1, updL_s, tb_or, tb_bit hp64 hp]
          show (tb (y5.2.1 t 3) p || decide (p = 8 * j + i)) = inB (addB Bk (8 * j + i) (lvS B E e P (bn Bk) (bpl Bk))) p
          rw [b5.2.2 p hp]
          unfold inB
          show _ = anyN (fun k => decide ((if k = bn Bk then 8 * j + i else bpl Bk k) = p)) (bn Bk + 1)
          have hany : anyN (fun k => decide ((if k = bn Bk then 8 * j + i else bpl Bk k) = p)) (bn Bk) = anyN (fun k => decide (bpl Bk k = p)) (bn Bk) := anyN_congr (fun k hk => by rw [if_neg (show ¬ k = bn Bk by omega)])
          rw [anyN_succ, if_pos rfl, hany, show decide (p = 8 * j + i) = decide (8 * j + i = p) from by rw [decide_eq_decide]; omega]
    by_cases z : (nuS B E 0 (pH e - 1) (nuS B E 0 (pW e - 1) P)).1 = 0
    · obtain ⟨hj, hi⟩ := j0 z
      have hpp : ppS B E e P (bn Bk) = 8 * j + i := by unfold ppS; rw [hb1, hj, hi]
      have hdd : inB Bk (8 * j + i) = dupS (bn Bk) (bpl Bk) (ppS B E e P (bn Bk)) := by rw [hpp]; rfl
      rw [hdd]
      cases hd : dupS (bn Bk) (bpl Bk) (ppS B E e P (bn Bk))
      · rw [if_pos rfl]
        refine tail y2 ?_ frTX.refl
        unfold b2S
        rw [hd, if_neg (by decide), hb1]
        exact c2
      · rw [if_neg (by decide), (c4 z).2]
        obtain ⟨y3, f1, f2, f3⟩ := x_fail (c := 2) (v := nI (nuS B E 0 (pW e - 1) P).2.2) c2 o2.1 (by decide)
        rw [show F_X8_fail y2 1 (2 : Int32) (nI (nuS B E 0 (pW e - 1) P).2.2) = some y3 from f1, zbv_some]
        refine tail y3 ?_ f3
        unfold b2S
        rw [hd, if_pos rfl, hb1]
        exact f2
    · have hb2 : b2S B E e P (bn Bk) (bpl Bk) = nuS B E 0 (pH e - 1) (nuS B E 0 (pW e - 1) P) := by
        unfold b2S
        rw [hb1]
        split
        · exact fl_st z
        · rfl
      cases hd : inB Bk (8 * j + i)
      · rw [if_pos rfl]
        exact tail y2 (by rw [hb2]; exact c2) frTX.refl
      · rw [if_neg (by decide)]
        obtain ⟨y3, f1, f2, f3⟩ := x_fail (c := 2) (v := y2.1 1 5) c2 o2.1 (by decide)
        rw [show F_X8_fail y2 1 (2 : Int32) (y2.1 1 5) = some y3 from f1, zbv_some]
        rw [fl_st z] at f2
        exact tail y3 (by rw [hb2]; exact f2) f3
  · have h88 : bn Bk = 8 := by omega
    have hb1 : b1S B E e P (bn Bk) = flS 3 (nI P.2.2) (nuS B E 0 (pW e - 1) P) := by unfold b1S; rw [if_pos h88]
    have hn1 : (b1S B E e P (bn Bk)).1 ≠ 0 := by rw [hb1]; exact fl_n (by decide)
    have hb2 : b2S B E e P (bn Bk) (bpl Bk) = b1S B E e P (bn Bk) := by
      unfold b2S
      rw [nu_st hn1, fl_st hn1]
      split <;> rfl
    have hln : lnS B E e P (bn Bk) (bpl Bk) = b1S B E e P (bn Bk) := by
      unfold lnS
      rw [hb2, nu_st hn1, sg_st hn1]
    obtain ⟨y3, f1, f2, f3⟩ := x_fail (c := 3) (v := y1.1 1 5) a2 o1.1 (by decide)
    rw [if_neg c8, show F_X8_fail y1 1 (3 : Int32) (y1.1 1 5) = some y3 from f1, zbv_some]
    refine ⟨y3, rfl, ?_, (a3.trans f3).k, fun w => absurd (by rw [← hln]; exact w) hn1⟩
    rw [hln, hb1]
    by_cases z : (nuS B E 0 (pW e - 1) P).1 = 0
    · rw [(a4 z).2] at f2; exact f2
    · rw [fl_st z] at f2 ⊢; exact f2
