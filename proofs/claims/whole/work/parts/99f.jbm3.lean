/-! work: the reference's recursion -/
theorem jc_mono {B : Nat → Nat} {E : Nat} {e : PL} (W : WS) : jc W ≤ jc (flW B E e W) ∧ ∀ i, i < jc W → jk (flW B E e W) i = jk W i := by
  have hr : ∀ V : WS, (jc V = jc W ∧ jk V = jk W) ∨ (jc V = jc W + 1 ∧ ∃ kd, jk V = upN (jk W) (jc W) kd) → jc W ≤ jc V ∧ ∀ i, i < jc W → jk V i = jk W i := fun V h => by
    rcases h with ⟨h1, h2⟩ | ⟨h1, kd, h2⟩
    · exact ⟨by omega, fun i _ => by rw [h2]⟩
    · exact ⟨by omega, fun i hi => by rw [h2, upN_n (by omega)]⟩
  apply hr
  unfold flW stepW
  split
  · split
    · split
      · exact Or.inl ⟨rfl, rfl⟩
      · exact Or.inl ⟨rfl, rfl⟩
    · split
      · exact Or.inr ⟨rfl, _, rfl⟩
      · split
        · exact Or.inl ⟨rfl, rfl⟩
        · split
          · split
            · exact Or.inl ⟨rfl, rfl⟩
            · exact Or.inr ⟨rfl, _, rfl⟩
          · exact Or.inr ⟨rfl, _, rfl⟩
  · exact Or.inl ⟨rfl, rfl⟩
theorem jc_ru {B : Nat → Nat} {E : Nat} {e : PL} (W : WS) : ∀ n, jc W ≤ jc (ruW B E e W n) ∧ ∀ i, i < jc W → jk (ruW B E e W n) i = jk W i
  | 0 => ⟨Nat.le_refl _, fun _ _ => rfl⟩
  | n + 1 => by
    obtain ⟨h1, h2⟩ := jc_ru (B := B) (E := E) (e := e) W n
    obtain ⟨h3, h4⟩ := jc_mono (B := B) (E := E) (e := e) (ruW B E e W n)
    rw [ruW_s]
    exact ⟨by omega, fun i hi => by rw [h4 i (by omega), h2 i hi]⟩
def MRS (B : Nat → Nat) (E : Nat) (e : PL) (n : Nat) : Prop := ∀ (m : zMem) (W : WS), wfW B E e W → (jP W).1 = 0 → TM m B E (jP W) → RMj m W → m.1 0 8 = nI (jo W) → RMp m e → 7 ≤ n + jo W → ¬ (0 < jo W ∧ hasB B E (jP W) 93 = true) → ((jP W).2.2 < E ∨ 0 < jo W) →
  ∃ y k, FG_X10_readsStep n m = some y ∧ frMj m y ∧ TM y B E (jP (ruW B E e W (k + 1))) ∧ ((jP (ruW B E e W (k + 1))).1 = 0 → RMj y (ruW B E e W (k + 1)) ∧ y.1 0 8 = nI (jo W) ∧ jo (ruW B E e W (k + 1)) = jo W ∧ (∀ q, q < jo W → js (ruW B E e W (k + 1)) q = js W q) ∧ jc W < jc (ruW B E e W (k + 1)))
theorem RMj.close {m y : zMem} {B : Nat → Nat} {E : Nat} {e : PL} {V : WS} {fr : Nat} (w : RMj m V) (hc : jc V ≤ 75) (hW : wfW B E e V) (z : (jP V).1 = 0) (ho : 0 < jo V) (hfr : js V (jo V - 1) = fr)
    (y0 : y.1 0 25 = m.1 0 25) (yo : ∀ c j, 370 < c → c < 451 → (c ≠ rw_ (jk V) fr ∨ j ≠ 3) → y.1 c j = m.1 c j) (y3 : y.1 (rw_ (jk V) fr) 3 = m.1 0 25) : RMj y (closeW B E V) := by
  obtain ⟨g1, g2, g3, g4, g5⟩ := hW.2.2 z
  obtain ⟨f1, f2, f3, -⟩ := g3 (jo V - 1) (by omega)
  rw [hfr] at f1 f2 f3
  have ek : ∀ i, i ≤ jc V → rw_ (upN (jk V) (jc V) 6) i = rw_ (jk V) i ∧ rho (upN (jk V) (jc V) 6) i = rho (jk V) i := fun i hi => rw_push hi
  refine ⟨?_, fun i hi hk => ?_⟩
  · show y.1 0 25 = nI (rho (upN (jk V) (jc V) 6) (jc V + 1))
    rw [rho_s, upN_s, if_neg (by omega), (ek _ (Nat.le_refl _)).2, y0]; exact w.1
  · have hi' : i < jc V + 1 := hi
    have hk' : upN (jk V) (jc V) 6 i ≠ 6 := hk
    have c : i ≠ jc V := fun q => hk' (by rw [q, upN_s])
    rw [upN_n c] at hk'
    have hb := rw_b (W := V) (i := i) hc (by omega)
    obtain ⟨r0, r1, r2, r3⟩ := w.2 i (by omega) hk'
    unfold closeW
    rw [hfr]
    show y.1 (rw_ (upN (jk V) (jc V) 6) i) 0 = nI (upN (jk V) (jc V) 6 i) ∧ (upN (jk V) (jc V) 6 i ≠ 4 → y.1 (rw_ (upN (jk V) (jc V) 6) i) 1 = nI (upN (ja V) (jc V) 0 i)) ∧ (upN (jk V) (jc V) 6 i < 2 → y.1 (rw_ (upN (jk V) (jc V) 6) i) 2 = nI (upN (jb V) (jc V) 0 i)) ∧ (upN (jk V) (jc V) 6 i ≠ 5 ∨ upN (upN (jm V) fr (jc V)) (jc V) fr i ≠ 999 → y.1 (rw_ (upN (jk V) (jc V) 6) i) 3 = nI (if upN (jk V) (jc V) 6 i = 5 then rho (upN (jk V) (jc V) 6) (upN (upN (jm V) fr (jc V)) (jc V) fr i) else rho (upN (jk V) (jc V) 6) i + 1))
    rw [(ek i (by omega)).1, (ek i (by omega)).2, upN_n c, upN_n c, upN_n c, upN_n c, yo _ 0 hb.1 hb.2 (Or.inr (by omega)), yo _ 1 hb.1 hb.2 (Or.inr (by omega)), yo _ 2 hb.1 hb.2 (Or.inr (by omega))]
    refine ⟨r0, r1, r2, fun q => ?_⟩
    by_cases cf : i = fr
    · rw [cf, f2, if_pos rfl, upN_s, (ek _ (Nat.le_refl _)).2, y3]; exact w.1
    · rw [upN_n cf] at q ⊢
      have hne : rw_ (jk V) i ≠ rw_ (jk V) fr := fun q2 => cf (rho_inj hk' (by omega) (by unfold rw_ at q2; omega))
      rw [yo _ 3 hb.1 hb.2 (Or.inl hne), r3 q]
      unfold enW
      by_cases c5 : jk V i = 5
      · rw [if_pos c5, if_pos c5]
        have hm := (g5 i (by omega)).2.2.2.2.2.2.2.2
        have hne : jm V i ≠ 999 := q.elim (fun w => absurd c5 w) id
        rw [(ek (jm V i) (by omega)).2]
      · rw [if_neg c5, if_neg c5]
theorem mrs_s {B : Nat → Nat} {E : Nat} {e : PL} {n : Nat} (ht : okT B E) (hE : E ≤ 150) (he : okPL e) (ih : MRS B E e n) : MRS B E e (n + 1) := by
  intro m W hW z hT w h8 hp hn hcl hpE
  show ∃ y k, F_X10_readsStep_r m (FG_X10_readsStep n) = some y ∧ _
  obtain ⟨g1, g2, g3, g4, g5⟩ := hW.2.2 z
  have hpos := (hW.1.2 z).1
  have hc75 : jc W ≤ 75 := by omega
  have hstep := flW_step (e := e) hW.1 z hcl hpE
  obtain ⟨y0, a1, a2, a3, a4⟩ := m_stepHere ht hW.1 hT
  have a5 := a4 z
  have w0 := a3.rmj w
  have o0 : y0.1 0 8 = nI (jo W) := by rw [a3.o8]; exact h8
  have p0 : RMp y0 e := a3.j.p he hp
  have hsk := sk_le B E (jP W)
  unfold F_X10_readsStep_r
  rw [a1, zb_some]
  dsimp only
  by_cases c6 : skS B E (jP W) = 6
  · obtain ⟨y, b1, b2, b3⟩ := m_wrong (c := 1) (v := nI (jP W).2.2) a2 hW.1.1 (by omega)
    have ne : ¬ (flS 1 (nI (jP W).2.2) (jP W)).1 = 0 := by unfold flS; rw [if_pos z]; exact fun w => absurd (show (1 : Nat) = 0 from w) (by decide)
    have e1 : ruW B E e W (0 + 1) = setP W (flS 1 (nI (jP W).2.2) (jP W)) := by
      rw [ruW_s, show ruW B E e W 0 = W from rfl, hstep]
      unfold stepW
      rw [if_pos c6]
    have h3 : (flS 1 (nI (jP W).2.2) (jP W)).1 = 1 := by unfold flS; rw [if_pos z]
    rw [if_pos c6, if_pos rfl, a5.2.2.2.2.2.1, show (1 : Int32) = nI 1 from rfl, b1, zbv_some]
    unfold F_X10_readsStep_19 F_X10_readsStep_32
    rw [if_neg (by decide), b2.1, h3, ie0 (by omega), if_neg (by omega)]
    refine ⟨y, 0, rfl, a3.j.trans b3.j, ?_, fun q => ?_⟩
    · rw [e1]; exact b2
    · rw [e1] at q; exact absurd q ne
  · rw [if_neg c6, if_neg (fun q => (ya_ne_m1 (a := skS B E (jP W)) (by omega)).mp q)]
    unfold F_X10_readsStep_19
    rw [show (5 : Int32) = nI 5 from rfl, ieq (by omega) (by omega)]
    by_cases c5 : skS B E (jP W) = 5
    · rw [if_pos c5, c5]
      by_cases co : jo W = 6
      · obtain ⟨y, b1, b2, b3⟩ := m_opensN a5 z (by rw [o0, co])
        have ne : ¬ (flS 3 (nI (jP W).2.2) (jP W)).1 = 0 := by unfold flS; rw [if_pos z]; exact fun w => absurd (show (3 : Nat) = 0 from w) (by decide)
        have e1 : ruW B E e W (0 + 1) = setP W (flS 3 (nI (jP W).2.2) (jP W)) := by
          rw [ruW_s, show ruW B E e W 0 = W from rfl, hstep]
          unfold stepW
          rw [if_neg c6, if_pos c5, if_pos co]
        rw [b1, zb_some]
        dsimp only
        rw [if_pos rfl]
        refine ⟨y, 0, rfl, a3.j.trans b3.j, ?_, fun q => ?_⟩
        · rw [e1]; exact b2
        · rw [e1] at q; exact absurd q ne
      · -- an again
        rw [m_opensY a5 z o0 (by omega), zb_some]
        dsimp only
        rw [if_neg (by decide)]
        have e1 : ruW B E e W 1 = openW B E W := by
          rw [ruW_s, show ruW B E e W 0 = W from rfl, hstep]
          unfold stepW
          rw [if_neg c6, if_pos c5, if_neg co]
        have t1 : TMa (zI y0 0 8 (nI (jo W + 1))) B E (jP W) (jP W).2.2 := by
          obtain ⟨q1, q2, q3, q4, q5, q6, q7⟩ := a5
          exact ⟨by rw [zI_s (by omega)]; exact q1, by rw [zI_s (by omega)]; exact q2, by rw [zI_s (by omega)]; exact q3, fun j hj => by rw [zI_n (by omega)]; exact q4 j hj, q5, by rw [zI_s (by omega)]; exact q6, q7⟩
        obtain ⟨y1, b1, hc, b2, b3, b4⟩ := m_row (kd := 5) ht hE hW z t1 w0.z8
        have p1 := wd_ok hW.1
        have hr := rho_le (jk W) (jc W)
        have hb := rw_b (W := W) (i := jc W) hc (Nat.le_refl _)
        have er : 370 + (1 + 1 * rho (jk W) (jc W)) = rw_ (jk W) (jc W) := rfl
        unfold F_X10_readsStep_32
        rw [t1.1, ie0 (by omega), if_pos z, b1, zbv_some, b2, gin_ok (by omega) (by decide), zl_eq, zl_eq, nI_clamp (by omega), nI_1, er]
        generalize (zI (zI y1 0 25 (nI (rho (jk W) (jc W) + 1))) (rw_ (jk W) (jc W)) 0 (nI 5)) = y3 at b3 b4 ⊢
        unfold F_X10_readsStep_80 F_X10_readsStep_95 F_X10_readsStep_107 F_X10_readsStep_122
        obtain ⟨i, y4, d1, d2, d3, d4, d5⟩ := m_num (lo := 0) (hi := 60) ht p1.1 (by omega) (by omega) b4
        have r4 := (b3.fr d4 hc).z (j := 1) (v := nI i) (by omega) hc
        obtain ⟨y5, f1, f2, f3⟩ := m_sign (c := 91) ht (nu_ok p1).1 (by omega) (d3.zt (c := rw_ (jk W) (jc W)) (j := 1) (v := nI i) (by omega) (by omega))
        obtain ⟨y6, j1, j2, j3, j4⟩ := m_rest ht f2
        have r6 := r4.fr (f3.trans j3) hc
        rw [if_pos (by decide), if_neg (by decide), if_neg (by decide), if_neg (by decide), if_pos (by decide), show F_X10_number y3 (0 : Int32) (60 : Int32) = _ from d1, zb_some]
        dsimp only
        rw [zl_eq, show (91 : Int32) = nI 91 from rfl, f1, zbv_some, j1, zbv_some]
        have f06 : frMj m y6 := (a3.j.trans (frMj.z0 (j := 8) (v := nI (jo W + 1)) (by omega))).trans r6.1
        have w1 : (jP (openW B E W)).1 = 0 → RMj y6 (openW B E W) := fun q => by
          refine (w0.z8 (v := nI (jo W + 1))).push hc (by omega) hW z r6.2.1 r6.2.2.1 r6.2.2.2.1 (fun _ => ?_) (fun q2 => by omega) (fun q2 => absurd rfl q2)
          have q' : (nuS B E 0 60 (wdS B E (jP W))).1 = 0 := sg_0 q
          rw [j3.1 _ (by omega), f3.1 _ (by omega), zI_1, upd_s, d5 q']
        have o6 : y6.1 0 8 = nI (jo W + 1) := by rw [r6.2.2.2.2, zI_1, upd_s]
        have hw1 : wfW B E e (openW B E W) := wf_open' hW z c6 co
        -- the loop
        have main : wp (itF (fun _ _ => none) (F_X10_readsStep_147 (FG_X10_readsStep n)) zFuel (rw_ (jk W) (jc W)) y6) (fun y => ∃ k, frMj m y ∧ TM y B E (jP (ruW B E e W (k + 1))) ∧ ((jP (ruW B E e W (k + 1))).1 = 0 → RMj y (ruW B E e W (k + 1)) ∧ y.1 0 8 = nI (jo W) ∧ jo (ruW B E e W (k + 1)) = jo W ∧ (∀ q, q < jo W → js (ruW B E e W (k + 1)) q = js W q) ∧ jc W < jc (ruW B E e W (k + 1)))) := by
          refine loopM (F_X10_readsStep_147 (FG_X10_readsStep n)) (fun g (s : zMem × WS) => g (rw_ (jk W) (jc W)) s.1)
            (fun s => (∃ k, s.2 = ruW B E e W (k + 1)) ∧ frMj m s.1 ∧ TM s.1 B E (jP s.2) ∧ ((jP s.2).1 = 0 → TMa s.1 B E (jP s.2) (jP s.2).2.2 ∧ RMj s.1 s.2 ∧ s.1.1 0 8 = nI (jo W + 1) ∧ jo s.2 = jo W + 1 ∧ (∀ q, q < jo W → js s.2 q = js W q) ∧ js s.2 (jo W) = jc W ∧ jc W < jc s.2))
            (fun s => if (jP s.2).1 = 0 then 200 - jc s.2 else 0) _ (fun g s hI ihl => ?_) (s := (y6, openW B E W)) ⟨⟨0, e1.symm⟩, f06, j2, fun q => ⟨j4 q, w1 q, o6, rfl, fun q hq => upN_n (by omega), upN_s, Nat.lt_succ_self _⟩⟩ (by dsimp only; split <;> omega)
          obtain ⟨y, V⟩ := s
          obtain ⟨⟨k, hV⟩, i2, i3, i4⟩ := hI
          dsimp only at hV i2 i3 i4 ihl ⊢
          have hwV : wfW B E e V := by rw [hV]; exact wf_ru he hW _
          have hkV : ∀ i, i < jc W → jk V i = jk W i := by rw [hV]; exact (jc_ru W _).2
          have exit_ : ((jP V).1 = 0 → hasB B E (jP V) 93 = true) → wp (F_X10_readsStep_178 (FG_X10_readsStep n) (rw_ (jk W) (jc W)) y) (fun y => ∃ k, frMj m y ∧ TM y B E (jP (ruW B E e W (k + 1))) ∧ ((jP (ruW B E e W (k + 1))).1 = 0 → RMj y (ruW B E e W (k + 1)) ∧ y.1 0 8 = nI (jo W) ∧ jo (ruW B E e W (k + 1)) = jo W ∧ (∀ q, q < jo W → js (ruW B E e W (k + 1)) q = js W q) ∧ jc W < jc (ruW B E e W (k + 1)))) := fun hx => by
            obtain ⟨u1, l1, l2, l3⟩ := m_sign (c := 93) ht hwV.1.1 (by omega) i3
            obtain ⟨u2, n1, n2, n3⟩ := m_sign (c := 59) ht (sg_ok hwV.1 (by decide)).1 (by omega) ((l2.z7 (j := 8) (v := u1.1 0 8 - 1) (by omega)).zt (c := rw_ (jk W) (jc W)) (j := 3) (v := (zI u1 0 8 (u1.1 0 8 - 1)).1 0 25) (by omega) (by omega))
            unfold F_X10_readsStep_178 F_X10_readsStep_194
            rw [show (93 : Int32) = nI 93 from rfl, l1, zbv_some, zl_eq, zl_eq, show (59 : Int32) = nI 59 from rfl, n1, zbv_some, wp_some]
            have ff : frMj m u2 := ((((i2.trans l3.j).trans (frMj.z0 (by omega))).trans (frMj.z hb.1 hb.2)).trans n3.j)
            by_cases zV : (jP V).1 = 0
            · obtain ⟨-, v2, v3, v4, v5, v6, v7⟩ := i4 zV
              have h93 := hx zV
              obtain ⟨-, hpE', -⟩ := hasB_0 h93
              have e2 : ruW B E e W (k + 1 + 1) = closeW B E V := by
                rw [ruW_s, ← hV]
                unfold flW
                rw [if_pos zV, if_neg (by omega), if_pos ⟨by omega, h93⟩]
              obtain ⟨G1, G2, G3, G4, G5⟩ := hwV.2.2 zV
              have Gp := (hwV.1.2 zV).1
              have hr2 : rw_ (jk V) (jc W) = rw_ (jk W) (jc W) := by
                unfold rw_
                rw [rho_congr (K' := jk V) (K := jk W) (i := jc W) hkV]
              refine ⟨k + 1, ff, by rw [e2]; exact n2, fun q => ?_⟩
              rw [e2] at q ⊢
              refine ⟨(l3.rmj v2).close (by omega) hwV zV (by omega) (fr := jc W) (by rw [v4, show jo W + 1 - 1 = jo W by omega]; exact v6) ?_ (fun c j h1 h2 h3 => ?_) ?_, ?_, ?_, fun q hq => v5 q hq, by show jc W < jc V + 1; omega⟩
              · rw [n3.2.1 25 (by omega) (by omega) (by omega), zI_n (by omega), zI_s (by omega)]
              · rw [n3.1 c (by omega)]
                by_cases cc : c = rw_ (jk W) (jc W)
                · have hj3 : j ≠ 3 := h3.elim (fun w => absurd (by rw [hr2]; exact cc) w) id
                  rw [cc, zI_s hj3, zI_n (by omega)]
                · rw [zI_n cc, zI_n (by omega)]
              · rw [hr2, n3.1 _ (by omega), zI_1, upd_s, zI_s (by omega)]
              · rw [n3.o8, zI_n (by omega), zI_1, upd_s, l3.o8, v3, lw_sub1]
              · show jo V - 1 = jo W
                omega
            · refine ⟨k, ff, ?_, fun q => absurd q (by rw [← hV]; exact zV)⟩
              rw [← hV]
              rw [sg_st zV, sg_st zV] at n2
              exact n2
          unfold F_X10_readsStep_147
          have hP3 := hwV.1.1
          rw [i3.1, ie0 (by omega)]
          by_cases zV : (jP V).1 = 0
          · obtain ⟨v1, v2, v3, v4, v5, v6, v7⟩ := i4 zV
            obtain ⟨G1, G2, G3, G4, G5⟩ := hwV.2.2 zV
            have Gp := (hwV.1.2 zV).1
            rw [if_pos zV, v1.2.2.2.2.2.1, m_byteAt ht v1 (by omega), zb_some]
            dsimp only
            by_cases c93 : byS B E (jP V).2.2 = 93
            · rw [if_pos c93]
              obtain ⟨q1, q2⟩ := (bS_eq ht (c := 93) (by omega)).mp c93
              exact exit_ (fun _ => by unfold hasB; rw [decide_eq_true zV, decide_eq_true q1, decide_eq_true q2]; rfl)
            · rw [if_neg c93]
              obtain ⟨u1, k2, l1, l2, l3, l4⟩ := ih y V hwV zV i3 v2 (by rw [v4]; exact v3) (i2.p he hp) (by omega) (fun q => c93 ((bS_eq ht (c := 93) (by omega)).mpr ⟨(hasB_0 q.2).2.1, (hasB_0 q.2).2.2⟩)) (Or.inr (by omega))
              obtain ⟨u2, n1, n2, n3, n4⟩ := m_rest ht l3
              rw [l1, zbv_some, n1, zbv_some]
              refine ihl (u2, ruW B E e V (k2 + 1)) ⟨⟨k + 1 + k2, ?_⟩, (i2.trans l2).trans n3.j, n2, fun q => ?_⟩ ?_
              · show ruW B E e V (k2 + 1) = ruW B E e W (k + 1 + k2 + 1)
                rw [hV, ruW_add]
                congr 1
              · obtain ⟨m1, m2, m3, m4, m5⟩ := l4 q
                exact ⟨n4 q, n3.rmj m1, by rw [n3.o8, m2, v4], by rw [m3]; exact v4, fun r hr => by rw [m4 r (by omega)]; exact v5 r hr, by rw [m4 (jo W) (by omega)]; exact v6, Nat.lt_trans v7 m5⟩
              · show (if (jP (ruW B E e V (k2 + 1))).1 = 0 then 200 - jc (ruW B E e V (k2 + 1)) else 0) < (if (jP V).1 = 0 then 200 - jc V else 0)
                rw [if_pos zV]
                by_cases zq : (jP (ruW B E e V (k2 + 1))).1 = 0
                · have := (l4 zq).2.2.2.2
                  rw [if_pos zq]
                  omega
                · rw [if_neg zq]
                  omega
          · rw [if_neg zV]
            exact exit_ (fun q => absurd q zV)
        obtain ⟨y, r1, k, r2, r3, r4⟩ := main
        exact ⟨y, k, r1, r2, r3, r4⟩
    · rw [if_neg c5]
      have hlt : skS B E (jP W) < 5 := by omega
      obtain ⟨y, b1, b2, b3, b4, b5⟩ := m_32 (rr := FG_X10_readsStep n) ht hE he hW z hlt a5 w0 p0
      have e1 : ruW B E e W (0 + 1) = simpW B E e W := by
        rw [ruW_s, show ruW B E e W 0 = W from rfl, hstep]
        unfold stepW
        rw [if_neg c6, if_neg c5]
      rw [b1]
      refine ⟨y, 0, rfl, a3.j.trans b3, ?_, fun q => ?_⟩
      · rw [e1]; exact b2
      · rw [e1] at q ⊢
        exact ⟨b4 q, by rw [b5]; exact o0, rfl, fun _ _ => rfl, Nat.lt_succ_self _⟩
theorem mrs {B : Nat → Nat} {E : Nat} {e : PL} (ht : okT B E) (hE : E ≤ 150) (he : okPL e) : ∀ n, MRS B E e n
  | 0 => fun m W hW z _ _ _ _ hn _ _ => by
    have := (hW.2.2 z).2.1
    omega
  | n + 1 => mrs_s ht hE he (mrs ht hE he n)
theorem m_jbRead {m : zMem} {B : Nat → Nat} {E : Nat} {e : PL} {a : Int32} {Q : Int32 × zMem → Prop} (ht : okT B E) (hE : E ≤ 150) (he : okPL e) (hp : RMp m e) (h : TMa m B E (PS0 B E) (PS0 B E).2.2) (h8 : m.1 0 8 = 0) (h25 : m.1 0 25 = 0) (hst : stopW E (ruW B E e (W0 B E) 151))
    (hQ : ∀ y, TM y B E (jP (ruW B E e (W0 B E) 151)) → frMj m y → ((jP (ruW B E e (W0 B E) 151)).1 = 0 → RMj y (ruW B E e (W0 B E) 151)) → wp (F_X10_work_101 a y) Q) : wp (itF (fun _ => none) (F_X10_work_72 a) zFuel m) Q := by
  refine loopM (F_X10_work_72 a) (fun g (s : zMem × WS) => g s.1)
    (fun s => (∃ k, s.2 = ruW B E e (W0 B E) k) ∧ frMj m s.1 ∧ TM s.1 B E (jP s.2) ∧ ((jP s.2).1 = 0 → TMa s.1 B E (jP s.2) (jP s.2).2.2 ∧ RMj s.1 s.2 ∧ s.1.1 0 8 = nI 0 ∧ jo s.2 = 0))
    (fun s => if (jP s.2).1 = 0 then 200 - jc s.2 else 0) _ (fun g s hI ihl => ?_) (s := (m, W0 B E)) ⟨⟨0, rfl⟩, frMj.refl, h.t, fun _ => ⟨h, ⟨by rw [h25]; rfl, fun i hi => absurd hi (Nat.not_lt_zero _)⟩, by rw [h8]; rfl, rfl⟩⟩ (by dsimp only; split <;> omega)
  obtain ⟨y, V⟩ := s
  obtain ⟨⟨k, hV⟩, i2, i3, i4⟩ := hI
  dsimp only at hV i2 i3 i4 ihl ⊢
  have hwV : wfW B E e V := by rw [hV]; exact wf_ru he (wf_0 B E e) _
  have hP3 := hwV.1.1
  have fin : stopW E V → wp (F_X10_work_101 a y) Q := fun hs => by
    have e1 : ruW B E e (W0 B E) 151 = V := by
      rw [hV] at hs ⊢
      rcases Nat.le_total k 151 with c | c
      · exact ruW_stop hs 151 c
      · exact (ruW_stop hst k c).symm
    rw [e1] at hQ
    exact hQ y i3 i2 (fun q => (i4 q).2.1)
  unfold F_X10_work_72
  rw [i3.1, ie0 (by omega)]
  by_cases zV : (jP V).1 = 0
  · obtain ⟨v1, v2, v3, v4⟩ := i4 zV
    obtain ⟨G1, G2, G3, G4, G5⟩ := hwV.2.2 zV
    have Gp := (hwV.1.2 zV).1
    rw [if_pos zV, v1.2.2.2.2.2.1, v1.2.2.1, ile (by omega) (by omega)]
    by_cases c : E ≤ (jP V).2.2
    · rw [if_pos c]
      exact fin (Or.inr ⟨c, v4⟩)
    · obtain ⟨u1, k2, l1, l2, l3, l4⟩ := mrs ht hE he 48 y V hwV zV i3 v2 (by rw [v4]; exact v3) (i2.p he hp) (by omega) (fun q => by omega) (Or.inl (by omega))
      obtain ⟨u2, n1, n2, n3, n4⟩ := m_rest ht l3
      have l1' : F_X10_readsStep y = some u1 := l1
      rw [if_neg c, l1', zbv_some, n1, zbv_some]
      refine ihl (u2, ruW B E e V (k2 + 1)) ⟨⟨k + (k2 + 1), ?_⟩, (i2.trans l2).trans n3.j, n2, fun q => ?_⟩ ?_
      · show ruW B E e V (k2 + 1) = ruW B E e (W0 B E) (k + (k2 + 1))
        rw [hV, ruW_add]
      · obtain ⟨m1, m2, m3, m4, m5⟩ := l4 q
        exact ⟨n4 q, n3.rmj m1, by rw [n3.o8, m2, v4], by rw [m3]; exact v4⟩
      · show (if (jP (ruW B E e V (k2 + 1))).1 = 0 then 200 - jc (ruW B E e V (k2 + 1)) else 0) < (if (jP V).1 = 0 then 200 - jc V else 0)
        rw [if_pos zV]
        by_cases zq : (jP (ruW B E e V (k2 + 1))).1 = 0
        · have := (l4 zq).2.2.2.2
          rw [if_pos zq]
          omega
        · rw [if_neg zq]
          omega
  · rw [if_neg zV]
    exact fin (Or.inl zV)
