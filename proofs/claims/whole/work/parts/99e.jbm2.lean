/-! work: the reference's steps -/
theorem flW_step {B : Nat → Nat} {E : Nat} {e : PL} {W : WS} (h : okP B E (jP W)) (z : (jP W).1 = 0) (hc : ¬ (0 < jo W ∧ hasB B E (jP W) 93 = true)) (hE : (jP W).2.2 < E ∨ 0 < jo W) : flW B E e W = stepW B E e W := by
  unfold flW
  rw [if_pos z]
  by_cases c : E ≤ (jP W).2.2
  · have hp : (jP W).2.2 = E := by have := (h.2 z).1; omega
    have hk : skS B E (jP W) = 6 := Classical.byContradiction (fun w => by
      obtain ⟨i, i1, i2, i3⟩ := sk_w w
      obtain ⟨-, -, w3⟩ := isW_lt i3 i1 i2 h
      unfold isLt at w3
      simp only [Bool.and_eq_true, decide_eq_true_eq] at w3
      omega)
    rw [if_pos c, if_neg (by omega)]
    unfold stepW
    rw [if_pos hk, hp]
  · rw [if_neg c, if_neg hc]
def ROw (m y : zMem) (W : WS) (kd : Nat) : Prop := frMj m y ∧ y.1 0 25 = nI (rho (jk W) (jc W) + 1) ∧ (∀ i, i < jc W → jk W i ≠ 6 → y.1 (rw_ (jk W) i) = m.1 (rw_ (jk W) i)) ∧ y.1 (rw_ (jk W) (jc W)) 0 = nI kd ∧ y.1 0 8 = m.1 0 8
theorem rw_b {W : WS} {i : Nat} (h : jc W ≤ 75) (hi : i ≤ jc W) : 370 < rw_ (jk W) i ∧ rw_ (jk W) i < 451 := by
  have := rho_le (jk W) i
  unfold rw_
  omega
theorem ROw.fr {m y z : zMem} {W : WS} {kd : Nat} (h : ROw m y W kd) (f : frTM y z) (hc : jc W ≤ 75) : ROw m z W kd := by
  obtain ⟨h1, h2, h3, h4, h5⟩ := h
  refine ⟨h1.trans f.j, by rw [f.2.1 25 (by omega) (by omega) (by omega)]; exact h2, fun i hi hk => ?_, ?_, by rw [f.2.1 8 (by omega) (by omega) (by omega)]; exact h5⟩
  · rw [f.1 _ (by have := rw_b (W := W) (i := i) hc (by omega); omega)]; exact h3 i hi hk
  · rw [f.1 _ (by have := rw_b (W := W) (i := jc W) hc (by omega); omega)]; exact h4
theorem ROw.z {m y : zMem} {W : WS} {kd j : Nat} {v : Int32} (h : ROw m y W kd) (hj : j ≠ 0) (hc : jc W ≤ 75) : ROw m (zI y (rw_ (jk W) (jc W)) j v) W kd := by
  obtain ⟨h1, h2, h3, h4, h5⟩ := h
  have hb := rw_b (W := W) (i := jc W) hc (Nat.le_refl _)
  refine ⟨h1.trans (frMj.z hb.1 hb.2), by rw [zI_n (by omega)]; exact h2, fun i hi hk => ?_, by rw [zI_s (by omega)]; exact h4, by rw [zI_n (by omega)]; exact h5⟩
  rw [zI_n (by
    have := rho_lt (K := jk W) hi hk
    unfold rw_
    omega)]
  exact h3 i hi hk
theorem rw_push {W : WS} {kd i : Nat} (hi : i ≤ jc W) : rw_ (upN (jk W) (jc W) kd) i = rw_ (jk W) i ∧ rho (upN (jk W) (jc W) kd) i = rho (jk W) i := by
  have : rho (upN (jk W) (jc W) kd) i = rho (jk W) i := rho_congr (fun j hj => upN_n (by omega))
  unfold rw_
  rw [this]
  exact ⟨rfl, rfl⟩
/-- an entry's row that is not an again's -/
theorem RMj.push {m y : zMem} {B : Nat → Nat} {E : Nat} {e : PL} {W : WS} {P : PS} {o : Nat} {s : Nat → Nat} {kd a b : Nat} (w : RMj m W) (hc : jc W ≤ 75) (hkd : kd ≠ 6) (hW : wfW B E e W) (z : (jP W).1 = 0)
    (y25 : y.1 0 25 = nI (rho (jk W) (jc W) + 1)) (yo : ∀ i, i < jc W → jk W i ≠ 6 → y.1 (rw_ (jk W) i) = m.1 (rw_ (jk W) i)) (y0 : y.1 (rw_ (jk W) (jc W)) 0 = nI kd) (y1 : kd ≠ 4 → y.1 (rw_ (jk W) (jc W)) 1 = nI a) (y2 : kd < 2 → y.1 (rw_ (jk W) (jc W)) 2 = nI b)
    (y3 : kd ≠ 5 → y.1 (rw_ (jk W) (jc W)) 3 = nI (rho (jk W) (jc W) + 1)) : RMj y (pushW W P o s kd a b) := by
  refine ⟨?_, fun i hi hk => ?_⟩
  · show y.1 0 25 = nI (rho (upN (jk W) (jc W) kd) (jc W + 1))
    rw [rho_s, upN_s, if_pos hkd, (rw_push (Nat.le_refl _)).2]; exact y25
  · have hi' : i < jc W + 1 := hi
    have hk' : upN (jk W) (jc W) kd i ≠ 6 := hk
    show y.1 (rw_ (upN (jk W) (jc W) kd) i) 0 = nI (upN (jk W) (jc W) kd i) ∧ (upN (jk W) (jc W) kd i ≠ 4 → y.1 (rw_ (upN (jk W) (jc W) kd) i) 1 = nI (upN (ja W) (jc W) a i)) ∧ (upN (jk W) (jc W) kd i < 2 → y.1 (rw_ (upN (jk W) (jc W) kd) i) 2 = nI (upN (jb W) (jc W) b i)) ∧ (upN (jk W) (jc W) kd i ≠ 5 ∨ upN (jm W) (jc W) 999 i ≠ 999 → y.1 (rw_ (upN (jk W) (jc W) kd) i) 3 = nI (if upN (jk W) (jc W) kd i = 5 then rho (upN (jk W) (jc W) kd) (upN (jm W) (jc W) 999 i) else rho (upN (jk W) (jc W) kd) i + 1))
    rw [(rw_push (W := W) (kd := kd) (i := i) (by omega)).1, (rw_push (W := W) (kd := kd) (i := i) (by omega)).2]
    by_cases c : i = jc W
    · rw [c, upN_s, upN_s, upN_s, upN_s]
      refine ⟨y0, y1, y2, fun q => ?_⟩
      have q5 : kd ≠ 5 := q.elim id (fun w => absurd rfl w)
      rw [if_neg q5]
      exact y3 q5
    · rw [upN_n c] at hk'
      rw [upN_n c, upN_n c, upN_n c, upN_n c, yo i (by omega) hk']
      obtain ⟨r0, r1, r2, r3⟩ := w.2 i (by omega) hk'
      refine ⟨r0, r1, r2, fun q => ?_⟩
      rw [r3 q]
      unfold enW
      by_cases c5 : jk W i = 5
      · rw [if_pos c5, if_pos c5]
        have hm := ((hW.2.2 z).2.2.2.2 i (by omega)).2.2.2.2.2.2.2.2
        have hne : jm W i ≠ 999 := q.elim (fun w => absurd c5 w) id
        rw [(rw_push (W := W) (kd := kd) (i := jm W i) (by omega)).2]
      · rw [if_neg c5, if_neg c5]
theorem m_simple {m y : zMem} {B : Nat → Nat} {E : Nat} {e : PL} {W : WS} {P : PS} {kd a b : Nat} {rr : zMem → Option zMem} (ht : okT B E) (hP : P.1 ≤ 3) (hW : wfW B E e W) (z : (jP W).1 = 0) (hc : jc W ≤ 75) (hk : kd < 5) (w : RMj m W) (hT : TM y B E P) (ro : ROw m y W kd)
    (h1 : P.1 = 0 → kd ≠ 4 → y.1 (rw_ (jk W) (jc W)) 1 = nI a) (h2 : P.1 = 0 → kd < 2 → y.1 (rw_ (jk W) (jc W)) 2 = nI b) :
    ∃ y', F_X10_readsStep_194 rr (rw_ (jk W) (jc W)) y = some y' ∧ TM y' B E (sgS B E (nI 59) P) ∧ frMj m y' ∧ ((sgS B E (nI 59) P).1 = 0 → RMj y' (pushW W (sgS B E (nI 59) P) (jo W) (js W) kd a b)) ∧ y'.1 0 8 = m.1 0 8 := by
  have hb := rw_b (W := W) (i := jc W) hc (Nat.le_refl _)
  have ro1 := ro.z (j := 3) (v := y.1 0 25) (by omega) hc
  obtain ⟨y1, d1, d2, d3⟩ := m_sign (c := 59) ht hP (by omega) (hT.zt (c := rw_ (jk W) (jc W)) (j := 3) (v := y.1 0 25) (by omega) (by omega))
  have ro2 := ro1.fr d3 hc
  unfold F_X10_readsStep_194
  rw [zl_eq, show (59 : Int32) = nI 59 from rfl, d1, zbv_some]
  refine ⟨y1, rfl, d2, ro2.1, fun q => ?_, ro2.2.2.2.2⟩
  have fr : y1.1 (rw_ (jk W) (jc W)) = (zI y (rw_ (jk W) (jc W)) 3 (y.1 0 25)).1 (rw_ (jk W) (jc W)) := d3.1 _ (by omega)
  refine w.push hc (by omega) hW z ro2.2.1 ro2.2.2.1 ro2.2.2.2.1 (fun q4 => ?_) (fun q2 => ?_) (fun _ => ?_)
  · rw [fr, zI_s (by omega)]; exact h1 (sg_0 q) q4
  · rw [fr, zI_s (by omega)]; exact h2 (sg_0 q) q2
  · rw [fr, zI_1, upd_s]; exact ro.2.1
/-- a step's row begins -/
theorem m_row {m : zMem} {B : Nat → Nat} {E kd : Nat} {e : PL} {W : WS} (ht : okT B E) (hE : E ≤ 150) (hW : wfW B E e W) (z : (jP W).1 = 0) (hT : TMa m B E (jP W) (jP W).2.2) (w : RMj m W) :
    ∃ y1, F_X10_skipWord m = some y1 ∧ jc W ≤ 75 ∧ y1.1 0 25 = nI (rho (jk W) (jc W)) ∧ ROw m (zI (zI y1 0 25 (nI (rho (jk W) (jc W) + 1))) (rw_ (jk W) (jc W)) 0 (nI kd)) W kd ∧ TM (zI (zI y1 0 25 (nI (rho (jk W) (jc W) + 1))) (rw_ (jk W) (jc W)) 0 (nI kd)) B E (wdS B E (jP W)) := by
  obtain ⟨g1, -, -, -, -⟩ := hW.2.2 z
  have hpos := (hW.1.2 z).1
  have hc : jc W ≤ 75 := by omega
  have hb := rw_b (W := W) (i := jc W) hc (Nat.le_refl _)
  obtain ⟨y1, b1, b2, b3⟩ := m_skipWord ht hT z
  refine ⟨y1, b1, hc, by rw [b3.2.1 25 (by omega) (by omega) (by omega)]; exact w.1, ⟨(b3.j.trans (frMj.z0 (by omega))).trans (frMj.z hb.1 hb.2), by rw [zI_n (by omega), zI_1, upd_s], fun i hi hk => ?_, by rw [zI_1, upd_s], by rw [zI_n (by omega), zI_s (by omega)]; exact b3.o8⟩, (b2.t.z7 (by omega)).zt (by omega) (by omega)⟩
  have := rho_lt (K := jk W) hi hk
  have hb2 := rw_b (W := W) (i := i) hc (by omega)
  rw [zI_n (by unfold rw_; omega), zI_n (by omega), b3.1 _ (by omega)]
theorem m_32 {m : zMem} {B : Nat → Nat} {E : Nat} {e : PL} {W : WS} {rr : zMem → Option zMem} (ht : okT B E) (hE : E ≤ 150) (he : okPL e) (hW : wfW B E e W) (z : (jP W).1 = 0) (hk : skS B E (jP W) < 5) (hT : TMa m B E (jP W) (jP W).2.2) (w : RMj m W) (hp : RMp m e) :
    ∃ y, F_X10_readsStep_32 rr (nI (skS B E (jP W))) m = some y ∧ TM y B E (jP (simpW B E e W)) ∧ frMj m y ∧ ((jP (simpW B E e W)).1 = 0 → RMj y (simpW B E e W)) ∧ y.1 0 8 = m.1 0 8 := by
  obtain ⟨y1, a1, hc, a2, a3, a4⟩ := m_row (kd := skS B E (jP W)) ht hE hW z hT w
  have p1 := wd_ok hW.1
  have hr := rho_le (jk W) (jc W)
  have hb := rw_b (W := W) (i := jc W) hc (Nat.le_refl _)
  have er : 370 + (1 + 1 * rho (jk W) (jc W)) = rw_ (jk W) (jc W) := rfl
  have mp : ∀ {y}, ROw m y W (skS B E (jP W)) → RMp y e := fun ro => ro.1.p he hp
  unfold F_X10_readsStep_32
  rw [hT.1, ie0 (by omega), if_pos z, a1, zbv_some, a2, gin_ok (by omega) (by decide), zl_eq, zl_eq, nI_clamp (by omega), nI_1, er]
  generalize (zI (zI y1 0 25 (nI (rho (jk W) (jc W) + 1))) (rw_ (jk W) (jc W)) 0 (nI (skS B E (jP W)))) = y3 at a3 a4 ⊢
  have h5 : skS B E (jP W) = 0 ∨ skS B E (jP W) = 1 ∨ skS B E (jP W) = 2 ∨ skS B E (jP W) = 3 ∨ skS B E (jP W) = 4 := by omega
  rcases h5 with h | h | h | h | h
  · have e2 : simpW B E e W = pushW W (sgS B E (nI 59) (nuS B E 1 999 (pl2 B E e (wdS B E (jP W))))) (jo W) (js W) 0 (plV B E e (wdS B E (jP W))) (nuV B E (pl2 B E e (wdS B E (jP W)))) := by
      unfold simpW siP siA siB
      rw [h, if_pos rfl, if_pos (by omega), if_pos rfl]
    rw [h] at a3 mp ⊢
    rw [e2]
    obtain ⟨p, y4, b1, b2, b3, b4⟩ := m_placeG ht he p1 a4 (mp a3)
    have r4 := (a3.fr b3 hc).z (j := 1) (v := nI p) (by omega) hc
    obtain ⟨n, y6, d1, d2, d3, d4, d5⟩ := m_num (lo := 1) (hi := 999) ht (pl2_ok p1).1 (by omega) (by omega) (b2.zt (c := rw_ (jk W) (jc W)) (j := 1) (v := nI p) (by omega) (by omega))
    have r6 := (r4.fr d4 hc).z (j := 2) (v := nI n) (by omega) hc
    have t6 := d3.zt (c := rw_ (jk W) (jc W)) (j := 2) (v := nI n) (by omega) (by omega)
    unfold F_X10_readsStep_80 F_X10_readsStep_95 F_X10_readsStep_107 F_X10_readsStep_122
    rw [if_neg (by decide), b1, zb_some]
    dsimp only
    rw [zl_eq, if_pos (by decide), show F_X10_number (zI y4 (rw_ (jk W) (jc W)) 1 (nI p)) (1 : Int32) (999 : Int32) = _ from d1, zb_some]
    dsimp only
    rw [zl_eq, if_neg (by decide), if_neg (by decide), if_neg (by decide)]
    refine m_simple ht (nu_ok (nu_ok (nu_ok p1))).1 hW z hc (by omega) w t6 r6 (fun q _ => ?_) (fun q _ => ?_)
    · rw [zI_s (by omega), d4.1 _ (by omega), zI_1, upd_s, b4 (nu_0 q).1]
    · rw [zI_1, upd_s, d5 q]
  · have e2 : simpW B E e W = pushW W (sgS B E (nI 59) (pl2 B E e (pl2 B E e (wdS B E (jP W))))) (jo W) (js W) 1 (plV B E e (wdS B E (jP W))) (plV B E e (pl2 B E e (wdS B E (jP W)))) := by
      unfold simpW siP siA siB
      rw [h, if_neg (by omega), if_pos rfl, if_pos (by omega), if_neg (by omega)]
    rw [h] at a3 mp ⊢
    rw [e2]
    obtain ⟨p, y4, b1, b2, b3, b4⟩ := m_placeG ht he p1 a4 (mp a3)
    have r4 := (a3.fr b3 hc).z (j := 1) (v := nI p) (by omega) hc
    obtain ⟨n, y6, d1, d2, d3, d5⟩ := m_placeG ht he (pl2_ok p1) (b2.zt (c := rw_ (jk W) (jc W)) (j := 1) (v := nI p) (by omega) (by omega)) (mp r4)
    have r6 := (r4.fr d3 hc).z (j := 2) (v := nI n) (by omega) hc
    have t6 := d2.zt (c := rw_ (jk W) (jc W)) (j := 2) (v := nI n) (by omega) (by omega)
    unfold F_X10_readsStep_80 F_X10_readsStep_95 F_X10_readsStep_107 F_X10_readsStep_122
    rw [if_neg (by decide), b1, zb_some]
    dsimp only
    rw [zl_eq, if_neg (by decide), if_pos (by decide), d1, zb_some]
    dsimp only
    rw [zl_eq, if_neg (by decide), if_neg (by decide)]
    refine m_simple ht (nu_ok (nu_ok (nu_ok (nu_ok p1)))).1 hW z hc (by omega) w t6 r6 (fun q _ => ?_) (fun q _ => ?_)
    · rw [zI_s (by omega), d3.1 _ (by omega), zI_1, upd_s, b4 (pl2_0 he q).1]
    · rw [zI_1, upd_s, d5 q]
  · have e2 : simpW B E e W = pushW W (sgS B E (nI 59) (pl2 B E e (wdS B E (jP W)))) (jo W) (js W) 2 (plV B E e (wdS B E (jP W))) (plV B E e (pl2 B E e (wdS B E (jP W)))) := by
      unfold simpW siP siA siB
      rw [h, if_neg (by omega), if_neg (by omega), if_pos rfl, if_pos (by omega), if_neg (by omega)]
    rw [h] at a3 mp ⊢
    rw [e2]
    obtain ⟨p, y4, b1, b2, b3, b4⟩ := m_placeG ht he p1 a4 (mp a3)
    have r4 := (a3.fr b3 hc).z (j := 1) (v := nI p) (by omega) hc
    have t4 := b2.zt (c := rw_ (jk W) (jc W)) (j := 1) (v := nI p) (by omega) (by omega)
    unfold F_X10_readsStep_80 F_X10_readsStep_95 F_X10_readsStep_107 F_X10_readsStep_122
    rw [if_neg (by decide), b1, zb_some]
    dsimp only
    rw [zl_eq, if_neg (by decide), if_neg (by decide), if_neg (by decide), if_neg (by decide)]
    refine m_simple ht (nu_ok (nu_ok p1)).1 hW z hc (by omega) w t4 r4 (fun q _ => ?_) (fun q q2 => by omega)
    rw [zI_1, upd_s, b4 q]
  · have e2 : simpW B E e W = pushW W (sgS B E (nI 59) (nuS B E 1 99 (wdS B E (jP W)))) (jo W) (js W) 3 (nuV B E (wdS B E (jP W))) (plV B E e (pl2 B E e (wdS B E (jP W)))) := by
      unfold simpW siP siA siB
      rw [h, if_neg (by omega), if_neg (by omega), if_neg (by omega), if_pos rfl, if_neg (by omega), if_neg (by omega)]
    rw [h] at a3 mp ⊢
    rw [e2]
    obtain ⟨n, y6, d1, d2, d3, d4, d5⟩ := m_num (lo := 1) (hi := 99) ht p1.1 (by omega) (by omega) a4
    have r6 := (a3.fr d4 hc).z (j := 1) (v := nI n) (by omega) hc
    have t6 := d3.zt (c := rw_ (jk W) (jc W)) (j := 1) (v := nI n) (by omega) (by omega)
    unfold F_X10_readsStep_80 F_X10_readsStep_95 F_X10_readsStep_107 F_X10_readsStep_122
    rw [if_pos (by decide), if_neg (by decide), if_neg (by decide), if_pos (by decide), show F_X10_number y3 (1 : Int32) (99 : Int32) = _ from d1, zb_some]
    dsimp only
    rw [zl_eq, if_neg (by decide)]
    refine m_simple ht (nu_ok p1).1 hW z hc (by omega) w t6 r6 (fun q _ => ?_) (fun q q2 => by omega)
    rw [zI_1, upd_s, d5 q]
  · have e2 : simpW B E e W = pushW W (sgS B E (nI 59) (wdS B E (jP W))) (jo W) (js W) 4 (nuV B E (wdS B E (jP W))) (plV B E e (pl2 B E e (wdS B E (jP W)))) := by
      unfold simpW siP siA siB
      rw [h, if_neg (by omega), if_neg (by omega), if_neg (by omega), if_neg (by omega), if_neg (by omega), if_neg (by omega)]
    rw [h] at a3 mp ⊢
    rw [e2]
    unfold F_X10_readsStep_80 F_X10_readsStep_95 F_X10_readsStep_107 F_X10_readsStep_122
    rw [if_pos (by decide), if_neg (by decide), if_neg (by decide), if_neg (by decide), if_neg (by decide)]
    exact m_simple ht p1.1 hW z hc (by omega) w a4 a3 (fun q q2 => absurd rfl q2) (fun q q2 => by omega)
