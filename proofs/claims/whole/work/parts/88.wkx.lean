/-! works: the class reads a clause -/
theorem x_clause {x : zMem} {B : Nat → Nat} {E k t : Nat} {P : PS} {D : WD} (ht : okT B E) (hP : okP B E P) (hz : P.1 = 0) (hk : k ≤ 60) (htt : t = 174 ∨ t = 180) (hPL : okPL D.1) (h : TX x B E P) (hd : RXd x t D) :
    ∃ y, F_X5_readClause x t 1 (nI k) = some y ∧ TX y B E (clS B E k P D).1 ∧ frC t x y ∧ ((clS B E k P D).1.1 = 0 → RXd y t (clS B E k P D).2) ∧ ∃ a b, a ≤ 8 ∧ b ≤ 8 ∧ y.1 t 0 = nI a ∧ y.1 t 1 = nI b := by
  have hD := hPL.2.2.2.2.1
  obtain ⟨x1, a1, a2, a3, a4⟩ := x_word ht hP.1 h
  obtain ⟨b1, b2, b3, b4⟩ := a4 hz
  have hQ : (wdS B E P).1 = 0 := by unfold wdS; rw [if_pos hz]
  have oQ : okP B E (wdS B E P) := wd_ok hP
  have wi : ∀ i, 1 ≤ i → i < 19 → F_X8_wordIs x1 1 i = some (bI (isW i B E P), x1) := fun i h1 h2 => by
    rw [x_wordIs ht h1 h2 a2 oQ.1 (fun _ => ⟨b1, b2, b3, b4⟩)]
    unfold isW
    rw [hQ, hz]
  have d1 : RXd x1 t D := a3.d (by omega) hd
  have lim0 : ∀ kd, kd ≠ 1 → (if 60 ≤ k ∨ (kd = 1 ∧ 10 ≤ pn D.1) then flS 3 (nI P.2.2) (wdS B E P) else wdS B E P) = if 60 ≤ k then flS 3 (nI P.2.2) (wdS B E P) else wdS B E P := fun kd h1 => by
    by_cases c : 60 ≤ k
    · rw [if_pos c, if_pos (Or.inl c)]
    · rw [if_neg c, if_neg (by omega)]
  have limO : ∀ c : Prop, ∀ d : Decidable c, okP B E (@ite PS c d (flS 3 (nI P.2.2) (wdS B E P)) (wdS B E P)) := fun c d => by
    by_cases z : c
    · rw [if_pos z]; exact fl_ok oQ (by omega) (by omega)
    · rw [if_neg z]; exact oQ
  have fin : ∀ (kd : Nat) (y : zMem), kdS B E P = kd → kd ≠ 4 → ∀ P1, P1 = (if 60 ≤ k ∨ (kd = 1 ∧ 10 ≤ pn D.1) then flS 3 (nI P.2.2) (wdS B E P) else wdS B E P) → TX y B E (clF B E kd P1) → frC t x y → ((clF B E kd P1).1 = 0 → RXd y t (clD B E kd P1 D)) → (∃ a b, a ≤ 8 ∧ b ≤ 8 ∧ y.1 t 0 = nI a ∧ y.1 t 1 = nI b) → TX y B E (clS B E k P D).1 ∧ frC t x y ∧ ((clS B E k P D).1.1 = 0 → RXd y t (clS B E k P D).2) ∧ ∃ a b, a ≤ 8 ∧ b ≤ 8 ∧ y.1 t 0 = nI a ∧ y.1 t 1 = nI b := fun kd y hkd h4 P1 hP1 t1 t2 t3 t4 => by
    unfold clS clP
    rw [hkd, if_neg h4]
    dsimp only
    by_cases c : 60 ≤ k ∨ (kd = 1 ∧ 10 ≤ pn D.1)
    · rw [if_pos c] at hP1 ⊢
      subst hP1
      have e1 : clF B E kd (flS 3 (nI P.2.2) (wdS B E P)) = (3, nI P.2.2, (wdS B E P).2.2) := by rw [clF_st (fl_n (by decide))]; unfold flS; rw [if_pos hQ]
      have e2 : clF B E kd (flS 3 (nI P.2.2) P) = (3, nI P.2.2, P.2.2) := by rw [clF_st (fl_n (by decide))]; unfold flS; rw [if_pos hz]
      rw [e1] at t1
      rw [e2]
      exact ⟨t1.ign (by decide), t2, fun z => absurd (show (3 : Nat) = 0 from z) (by decide), t4⟩
    · rw [if_neg c] at hP1 ⊢
      subst hP1
      exact ⟨t1, t2, t3, t4⟩
  unfold F_X5_readClause
  rw [a1, zbv_some, wi 1 (by omega) (by omega), zb_some]
  dsimp only
  rw [ibI]
  obtain ⟨x2, c1, c2, c3, c4⟩ := x_refuse (k := k) (L := 60) a2 oQ.1 (by omega) (by decide)
  rw [b1] at c2
  have c1' : F_X5_refuseOver x1 1 (nI k) (60 : Int32) = some x2 := c1
  have d2 : RXd x2 t D := c3.d (by omega) d1
  obtain ⟨v1, v2, v3, v4, v5⟩ := d2
  by_cases w1 : isW 1 B E P = true
  · have kd : kdS B E P = 0 := by unfold kdS; rw [if_pos w1]
    rw [w1, if_neg (by decide), c1', zbv_some]
    rw [← lim0 0 (by omega)] at c2
    obtain ⟨P1, hP1⟩ : ∃ P1, P1 = (if 60 ≤ k ∨ (0 = 1 ∧ 10 ≤ pn D.1) then flS 3 (nI P.2.2) (wdS B E P) else wdS B E P) := ⟨_, rfl⟩
    have o1 : okP B E P1 := by rw [hP1]; exact limO _ _
    rw [← hP1] at c2
    obtain ⟨i, x3, e1, e2, e3, e4, e5⟩ := x_num (lo := 1) (hi := 8) ht o1.1 (by omega) (by omega) c2
    have o2 : okP B E (nuS B E 1 8 P1) := nu_ok o1
    obtain ⟨j, x4, f1, f2, f3, f4, f5⟩ := x_num (lo := 1) (hi := 8) ht o2.1 (by omega) (by omega) (e3.zt (c := t) (j := 0) (v := nI i) (by omega) (by omega))
    have o3 : okP B E (nuS B E 1 8 (nuS B E 1 8 P1)) := nu_ok o2
    obtain ⟨x5, s1, s2, s3⟩ := x_sign (c := 59) ht o3.1 (by omega) (f3.zt (c := t) (j := 1) (v := nI j) (by omega) (by omega))
    unfold F_X5_readClause_186
    rw [show F_X8_number x2 1 (1 : Int32) (8 : Int32) = _ from e1, zb_some]
    dsimp only
    rw [zl_eq, show F_X8_number (zI x3 t 0 (nI i)) 1 (1 : Int32) (8 : Int32) = _ from f1, zb_some]
    dsimp only
    rw [zl_eq, show F_X8_sign (zI x4 t 1 (nI j)) 1 (59 : Int32) = _ from s1, zbv_some]
    refine ⟨x5, rfl, fin 0 x5 kd (by decide) P1 hP1 s2 ?_ (fun z => ?_) ⟨i, j, e2, f2, by rw [s3.1 t (by omega), zI_s (by omega), f4.1 t (by omega), zI_1, upd_s], by rw [s3.1 t (by omega), zI_1, upd_s]⟩⟩
    · exact a3.c.trans (c3.c.trans (e4.c.trans ((frC.z (by omega) (by omega) (by omega)).trans (f4.c.trans ((frC.z (by omega) (by omega) (by omega)).trans s3.c)))))
    · have z2 : (nuS B E 1 8 (nuS B E 1 8 P1)).1 = 0 := sg_0 z
      have hi : i = nuV B E P1 := e5 (nu_0 z2).1
      have hj : j = nuV B E (nuS B E 1 8 P1) := f5 z2
      have g : ∀ c, c ≠ 1 → c ≠ t → x5.1 c = x2.1 c := fun c h1 h2 => by rw [s3.1 c h1, zI_n h2, f4.1 c h1, zI_n h2, e4.1 c h1]
      unfold clD
      rw [if_pos rfl]
      refine ⟨?_, ?_, ?_, fun q hq => ?_, fun p hp => ?_⟩
      · rw [s3.1 t (by omega), zI_s (by omega), f4.1 t (by omega), zI_1, upd_s, hi]; rfl
      · rw [s3.1 t (by omega), zI_1, upd_s, hj]; rfl
      · rw [s3.1 t (by omega), zI_s (by omega), f4.1 t (by omega), zI_s (by omega), e4.1 t (by omega)]; exact v3
      · rw [g (t + 1) (by omega) (by omega), g (t + 2) (by omega) (by omega)]; exact v4 q hq
      · rw [g (t + 3) (by omega) (by omega), g (t + 4) (by omega) (by omega), g (t + 5) (by omega) (by omega)]; exact v5 p hp
  rw [Bool.eq_false_iff.mpr w1, if_pos rfl, wi 2 (by omega) (by omega), zb_some]
  dsimp only
  rw [ibI]
  by_cases w2 : isW 2 B E P = true
  · have kd : kdS B E P = 1 := by unfold kdS; rw [if_neg w1, if_pos w2]
    rw [w2, if_neg (by decide), c1', zbv_some, v3]
    have o1a : okP B E (if 60 ≤ k then flS 3 (nI P.2.2) (wdS B E P) else wdS B E P) := limO _ _
    obtain ⟨x2b, r1, r2, r3, r4⟩ := x_refuse (k := pn D.1) (L := 10) c2 o1a.1 (by omega) (by decide)
    obtain ⟨P1, hP1⟩ : ∃ P1, P1 = (if 60 ≤ k ∨ (1 = 1 ∧ 10 ≤ pn D.1) then flS 3 (nI P.2.2) (wdS B E P) else wdS B E P) := ⟨_, rfl⟩
    have o1 : okP B E P1 := by rw [hP1]; exact limO _ _
    have r2' : TX x2b B E P1 := by
      rw [hP1]
      by_cases ck : 60 ≤ k
      · rw [if_pos ck] at r2
        rw [if_pos (Or.inl ck)]
        by_cases cn : 10 ≤ pn D.1
        · rw [if_pos cn, fl_st (fl_n (by decide))] at r2; exact r2
        · rw [if_neg cn] at r2; exact r2
      · rw [if_neg ck, c4 (by omega), b1] at r2
        by_cases cn : 10 ≤ pn D.1
        · rw [if_pos cn] at r2; rw [if_pos (Or.inr ⟨rfl, cn⟩)]; exact r2
        · rw [if_neg cn] at r2; rw [if_neg (by omega)]; exact r2
    rw [show F_X5_refuseOver x2 1 (nI (pn D.1)) (10 : Int32) = _ from r1, zbv_some]
    obtain ⟨i, x3, e1, e2, e3, e4, e5⟩ := x_num (lo := 0) (hi := 7) ht o1.1 (by omega) (by omega) r2'
    have o2 : okP B E (nuS B E 0 7 P1) := nu_ok o1
    obtain ⟨j, x4, f1, f2, f3, f4, f5⟩ := x_num (lo := 0) (hi := 40) ht o2.1 (by omega) (by omega) e3
    have o3 : okP B E (nuS B E 0 40 (nuS B E 0 7 P1)) := nu_ok o2
    have g4 : ∀ c, c ≠ 1 → x4.1 c = x2.1 c := fun c h1 => by rw [f4.1 c h1, e4.1 c h1, r3.1 c h1]
    have fr4 : frC t x x4 := a3.c.trans (c3.c.trans (r3.c.trans (e4.c.trans f4.c)))
    unfold F_X5_readHour F_X5_readClause_186
    rw [show F_X8_number x2b 1 (0 : Int32) (7 : Int32) = _ from e1, zb_some]
    dsimp only
    rw [show F_X8_number x3 1 (0 : Int32) (40 : Int32) = _ from f1, zb_some]
    dsimp only
    rw [g4 t (by omega), v3, show (10 : Int32) = nI 10 from rfl, ile (by omega) (by omega)]
    by_cases cn : 10 ≤ pn D.1
    · obtain ⟨x5, s1, s2, s3⟩ := x_sign (c := 59) ht o3.1 (by omega) f3
      rw [if_pos cn, zbv_some, show F_X8_sign x4 1 (59 : Int32) = _ from s1, zbv_some]
      refine ⟨x5, rfl, fin 1 x5 kd (by decide) P1 hP1 s2 (fr4.trans s3.c) (fun z => ?_) ⟨pW D.1, pH D.1, hPL.2.1, hPL.2.2.2.1, by rw [s3.1 t (by omega), g4 t (by omega)]; exact v1, by rw [s3.1 t (by omega), g4 t (by omega)]; exact v2⟩⟩
      rw [hP1, if_pos (Or.inr ⟨rfl, cn⟩), clF_st (fl_n (by decide))] at z
      exact absurd z (fl_n (by decide))
    · rw [if_neg cn, gin_ok (by omega) (by decide), zl_eq, nI_clamp (by omega), zI_n (a := t) (k := t + 1) (by omega), g4 t (by omega), v3, gin_ok (by omega) (by decide), zl_eq, nI_clamp (by omega), zI_n (a := t) (k := t + 2) (by omega), zI_n (a := t) (k := t + 1) (by omega), g4 t (by omega), v3, zl_eq, zbv_some, nI_1]
      obtain ⟨x5, s1, s2, s3⟩ := x_sign (c := 59) ht o3.1 (by omega) (((f3.zt (c := t + 1) (j := pn D.1) (v := nI i) (by omega) (by omega)).zt (c := t + 2) (j := pn D.1) (v := nI j) (by omega) (by omega)).zt (c := t) (j := 2) (v := nI (pn D.1 + 1)) (by omega) (by omega))
      rw [show F_X8_sign (zI (zI (zI x4 (t + 1) (pn D.1) (nI i)) (t + 2) (pn D.1) (nI j)) t 2 (nI (pn D.1 + 1))) 1 (59 : Int32) = _ from s1, zbv_some]
      refine ⟨x5, rfl, fin 1 x5 kd (by decide) P1 hP1 s2 ?_ (fun z => ?_) ⟨pW D.1, pH D.1, hPL.2.1, hPL.2.2.2.1, by rw [s3.1 t (by omega), zI_s (by omega), zI_n (by omega), zI_n (by omega), g4 t (by omega)]; exact v1, by rw [s3.1 t (by omega), zI_s (by omega), zI_n (by omega), zI_n (by omega), g4 t (by omega)]; exact v2⟩⟩
      · exact fr4.trans ((frC.z (by omega) (by omega) (by omega)).trans ((frC.z (by omega) (by omega) (by omega)).trans ((frC.z (by omega) (by omega) (by omega)).trans s3.c)))
      · have z2 : (nuS B E 0 40 (nuS B E 0 7 P1)).1 = 0 := sg_0 z
        have hi : i = nuV B E P1 := e5 (nu_0 z2).1
        have hj : j = nuV B E (nuS B E 0 7 P1) := f5 z2
        unfold clD
        rw [if_neg (by decide), if_pos rfl]
        refine ⟨?_, ?_, ?_, fun q hq => ?_, fun p hp => ?_⟩
        · rw [s3.1 t (by omega), zI_s (by omega), zI_n (by omega), zI_n (by omega), g4 t (by omega)]; exact v1
        · rw [s3.1 t (by omega), zI_s (by omega), zI_n (by omega), zI_n (by omega), g4 t (by omega)]; exact v2
        · rw [s3.1 t (by omega), zI_1, upd_s]; rfl
        · have hq' : q < pn D.1 + 1 := hq
          rw [s3.1 (t + 1) (by omega), s3.1 (t + 2) (by omega), zI_n (by omega), zI_n (a := t + 1) (k := t + 2) (by omega), zI_1, zI_n (a := t + 2) (k := t) (by omega), zI_1, zI_n (a := t + 2) (k := t + 1) (by omega), g4 (t + 1) (by omega), g4 (t + 2) (by omega)]
          show _ = nI (upN (psd D.1) (pn D.1) (nuV B E P1) q) ∧ _ = nI (upN (prc D.1) (pn D.1) (nuV B E (nuS B E 0 7 P1)) q)
          by_cases c : q = pn D.1
          · rw [c, upN_s, upN_s, upd_s, upd_s, hi, hj]; exact ⟨rfl, rfl⟩
          · rw [upN_n c, upN_n c, upd_n c, upd_n c]; exact v4 q (by omega)
        · rw [s3.1 (t + 3) (by omega), s3.1 (t + 4) (by omega), s3.1 (t + 5) (by omega), zI_n (by omega), zI_n (by omega), zI_n (by omega), zI_n (by omega), zI_n (by omega), zI_n (by omega), zI_n (by omega), zI_n (by omega), zI_n (by omega), g4 (t + 3) (by omega), g4 (t + 4) (by omega), g4 (t + 5) (by omega)]
          exact v5 p hp
  rw [Bool.eq_false_iff.mpr w2, if_pos rfl, wi 3 (by omega) (by omega), zb_some]
  dsimp only
  rw [ibI]
  by_cases w3 : isW 3 B E P = true
  · have kd : kdS B E P = 2 := by unfold kdS; rw [if_neg w1, if_neg w2, if_pos w3]
    rw [w3, if_neg (by decide), c1', zbv_some]
    rw [← lim0 2 (by omega)] at c2
    obtain ⟨P1, hP1⟩ : ∃ P1, P1 = (if 60 ≤ k ∨ (2 = 1 ∧ 10 ≤ pn D.1) then flS 3 (nI P.2.2) (wdS B E P) else wdS B E P) := ⟨_, rfl⟩
    have o1 : okP B E P1 := by rw [hP1]; exact limO _ _
    rw [← hP1] at c2
    obtain ⟨p, x3, e1, e2, e3, e4, e5⟩ := x_place ht o1 c2
    have o2 : okP B E (nuS B E 0 7 (nuS B E 0 7 P1)) := nu_ok (nu_ok o1)
    obtain ⟨i, x4, f1, f2, f3, f4, f5⟩ := x_num (lo := 0) (hi := 999) ht o2.1 (by omega) (by omega) e3
    have o3 : okP B E (nuS B E 0 999 (nuS B E 0 7 (nuS B E 0 7 P1))) := nu_ok o2
    obtain ⟨j, x5, g1, g2, g3, g4, g5⟩ := x_num (lo := 0) (hi := 999) ht o3.1 (by omega) (by omega) (f3.zt (c := t + 3) (j := p) (v := nI i) (by omega) (by omega))
    have o4 : okP B E (nuS B E 0 999 (nuS B E 0 999 (nuS B E 0 7 (nuS B E 0 7 P1)))) := nu_ok o3
    obtain ⟨x6, s1, s2, s3⟩ := x_sign (c := 59) ht o4.1 (by omega) (g3.zt (c := t + 4) (j := p) (v := nI j) (by omega) (by omega))
    unfold F_X5_readClause_186
    rw [show F_X8_place x2 1 (8 : Int32) (8 : Int32) = _ from e1, zb_some]
    dsimp only
    rw [show F_X8_number x3 1 (0 : Int32) (999 : Int32) = _ from f1, zb_some]
    dsimp only
    rw [gin_ok e2 (by decide), zl_eq, nI_clamp (by omega), show F_X8_number (zI x4 (t + 3) p (nI i)) 1 (0 : Int32) (999 : Int32) = _ from g1, zb_some]
    dsimp only
    rw [zl_eq, show F_X8_sign (zI x5 (t + 4) p (nI j)) 1 (59 : Int32) = _ from s1, zbv_some]
    refine ⟨x6, rfl, fin 2 x6 kd (by decide) P1 hP1 s2 ?_ (fun z => ?_) ⟨pW D.1, pH D.1, hPL.2.1, hPL.2.2.2.1, by rw [s3.1 t (by omega), zI_n (by omega), g4.1 t (by omega), zI_n (by omega), f4.1 t (by omega), e4.1 t (by omega)]; exact v1, by rw [s3.1 t (by omega), zI_n (by omega), g4.1 t (by omega), zI_n (by omega), f4.1 t (by omega), e4.1 t (by omega)]; exact v2⟩⟩
    · exact a3.c.trans (c3.c.trans (e4.c.trans (f4.c.trans ((frC.z (by omega) (by omega) (by omega)).trans (g4.c.trans ((frC.z (by omega) (by omega) (by omega)).trans s3.c))))))
    · have z3 : (nuS B E 0 999 (nuS B E 0 999 (nuS B E 0 7 (nuS B E 0 7 P1)))).1 = 0 := sg_0 z
      have z2 := (nu_0 z3).1
      have z1 := (nu_0 z2).1
      have hp : p = cpV B E P1 := e5 z1
      have hi : i = nuV B E (nuS B E 0 7 (nuS B E 0 7 P1)) := f5 z2
      have hj : j = nuV B E (nuS B E 0 999 (nuS B E 0 7 (nuS B E 0 7 P1))) := g5 z3
      have g : ∀ c, c ≠ 1 → c ≠ t + 3 → c ≠ t + 4 → x6.1 c = x2.1 c := fun c h1 h2 h3 => by rw [s3.1 c h1, zI_n h3, g4.1 c h1, zI_n h2, f4.1 c h1, e4.1 c h1]
      have k3 : x6.1 (t + 3) = upd (x2.1 (t + 3)) p (nI i) := by rw [s3.1 _ (by omega), zI_n (by omega), g4.1 _ (by omega), zI_1, f4.1 _ (by omega), e4.1 _ (by omega)]
      have k4 : x6.1 (t + 4) = upd (x2.1 (t + 4)) p (nI j) := by rw [s3.1 _ (by omega), zI_1, g4.1 _ (by omega), zI_n (by omega), f4.1 _ (by omega), e4.1 _ (by omega)]
      unfold clD
      rw [if_neg (by decide), if_neg (by decide), if_pos rfl]
      refine ⟨?_, ?_, ?_, fun q hq => ?_, fun q hq => ?_⟩
      · rw [g t (by omega) (by omega) (by omega)]; exact v1
      · rw [g t (by omega) (by omega) (by omega)]; exact v2
      · rw [g t (by omega) (by omega) (by omega)]; exact v3
      · rw [g (t + 1) (by omega) (by omega) (by omega), g (t + 2) (by omega) (by omega) (by omega)]; exact v4 q hq
      · obtain ⟨u1, u2, u3⟩ := v5 q hq
        rw [k3, k4, g (t + 5) (by omega) (by omega) (by omega), u3, ← hp, ← hi, ← hj]
        dsimp only
        rw [upN_n (show q ≠ 64 + p by omega), upN_n (show 128 + q ≠ 64 + p by omega), upN_n (show 128 + q ≠ p by omega)]
        by_cases c : q = p
        · rw [c, upd_s, upd_s, upN_s, upN_s]; exact ⟨rfl, rfl, rfl⟩
        · rw [upd_n c, upd_n c, upN_n c, upN_n (show 64 + q ≠ 64 + p by omega), upN_n (show 64 + q ≠ p by omega)]; exact ⟨u1, u2, rfl⟩
  rw [Bool.eq_false_iff.mpr w3, if_pos rfl, wi 4 (by omega) (by omega), zb_some]
  dsimp only
  rw [ibI]
  by_cases w4 : isW 4 B E P = true
  · have kd : kdS B E P = 3 := by unfold kdS; rw [if_neg w1, if_neg w2, if_neg w3, if_pos w4]
    rw [w4, if_neg (by decide), c1', zbv_some]
    rw [← lim0 3 (by omega)] at c2
    obtain ⟨P1, hP1⟩ : ∃ P1, P1 = (if 60 ≤ k ∨ (3 = 1 ∧ 10 ≤ pn D.1) then flS 3 (nI P.2.2) (wdS B E P) else wdS B E P) := ⟨_, rfl⟩
    have o1 : okP B E P1 := by rw [hP1]; exact limO _ _
    rw [← hP1] at c2
    obtain ⟨p, x3, e1, e2, e3, e4, e5⟩ := x_place ht o1 c2
    have o2 : okP B E (nuS B E 0 7 (nuS B E 0 7 P1)) := nu_ok (nu_ok o1)
    obtain ⟨i, x4, f1, f2, f3, f4, f5⟩ := x_num (lo := 1) (hi := 999) ht o2.1 (by omega) (by omega) e3
    have o3 : okP B E (nuS B E 1 999 (nuS B E 0 7 (nuS B E 0 7 P1))) := nu_ok o2
    obtain ⟨x6, s1, s2, s3⟩ := x_sign (c := 59) ht o3.1 (by omega) (f3.zt (c := t + 5) (j := p) (v := nI i) (by omega) (by omega))
    unfold F_X5_readClause_186
    rw [show F_X8_place x2 1 (8 : Int32) (8 : Int32) = _ from e1, zb_some]
    dsimp only
    rw [show F_X8_number x3 1 (1 : Int32) (999 : Int32) = _ from f1, zb_some]
    dsimp only
    rw [gin_ok e2 (by decide), zl_eq, nI_clamp (by omega), show F_X8_sign (zI x4 (t + 5) p (nI i)) 1 (59 : Int32) = _ from s1, zbv_some]
    refine ⟨x6, rfl, fin 3 x6 kd (by decide) P1 hP1 s2 ?_ (fun z => ?_) ⟨pW D.1, pH D.1, hPL.2.1, hPL.2.2.2.1, by rw [s3.1 t (by omega), zI_n (by omega), f4.1 t (by omega), e4.1 t (by omega)]; exact v1, by rw [s3.1 t (by omega), zI_n (by omega), f4.1 t (by omega), e4.1 t (by omega)]; exact v2⟩⟩
    · exact a3.c.trans (c3.c.trans (e4.c.trans (f4.c.trans ((frC.z (by omega) (by omega) (by omega)).trans s3.c))))
    · have z2 : (nuS B E 1 999 (nuS B E 0 7 (nuS B E 0 7 P1))).1 = 0 := sg_0 z
      have z1 := (nu_0 z2).1
      have hp : p = cpV B E P1 := e5 z1
      have hi : i = nuV B E (nuS B E 0 7 (nuS B E 0 7 P1)) := f5 z2
      have g : ∀ c, c ≠ 1 → c ≠ t + 5 → x6.1 c = x2.1 c := fun c h1 h2 => by rw [s3.1 c h1, zI_n h2, f4.1 c h1, e4.1 c h1]
      have k5 : x6.1 (t + 5) = upd (x2.1 (t + 5)) p (nI i) := by rw [s3.1 _ (by omega), zI_1, f4.1 _ (by omega), e4.1 _ (by omega)]
      unfold clD
      rw [if_neg (by decide), if_neg (by decide), if_neg (by decide)]
      refine ⟨?_, ?_, ?_, fun q hq => ?_, fun q hq => ?_⟩
      · rw [g t (by omega) (by omega)]; exact v1
      · rw [g t (by omega) (by omega)]; exact v2
      · rw [g t (by omega) (by omega)]; exact v3
      · rw [g (t + 1) (by omega) (by omega), g (t + 2) (by omega) (by omega)]; exact v4 q hq
      · obtain ⟨u1, u2, u3⟩ := v5 q hq
        rw [k5, g (t + 3) (by omega) (by omega), g (t + 4) (by omega) (by omega), u1, u2, ← hp, ← hi]
        dsimp only
        rw [upN_n (show q ≠ 128 + p by omega), upN_n (show 64 + q ≠ 128 + p by omega)]
        by_cases c : q = p
        · rw [c, upd_s, upN_s]; exact ⟨rfl, rfl, rfl⟩
        · rw [upd_n c, upN_n (show 128 + q ≠ 128 + p by omega)]; exact ⟨rfl, rfl, u3⟩
  · have kd : kdS B E P = 4 := by unfold kdS; rw [if_neg w1, if_neg w2, if_neg w3, if_neg w4]
    obtain ⟨x3, e1, e2, e3⟩ := x_fail (c := 1) (v := x1.1 1 4) a2 oQ.1 (by decide)
    rw [Bool.eq_false_iff.mpr w4, if_pos rfl, show F_X8_fail x1 1 (1 : Int32) (x1.1 1 4) = _ from e1, zbv_some]
    rw [b1] at e2
    have oF : okP B E (flS 1 (nI P.2.2) (wdS B E P)) := fl_ok oQ (by omega) (by omega)
    obtain ⟨x4, s1, s2, s3⟩ := x_sign (c := 59) ht oF.1 (by omega) e2
    unfold F_X5_readClause_186
    rw [show F_X8_sign x3 1 (59 : Int32) = _ from s1, zbv_some]
    have hs : (clS B E k P D).1 = (1, nI P.2.2, P.2.2) := by
      unfold clS clP
      rw [kd, if_pos rfl]
      dsimp only
      rw [clF_st (fl_n (by decide))]
      unfold flS
      rw [if_pos hz]
    rw [sg_st (fl_n (by decide))] at s2
    refine ⟨x4, rfl, ?_, a3.c.trans (e3.c.trans s3.c), fun z => ?_, pW D.1, pH D.1, hPL.2.1, hPL.2.2.2.1, by rw [s3.1 t (by omega), e3.1 t (by omega)]; exact d1.1, by rw [s3.1 t (by omega), e3.1 t (by omega)]; exact d1.2.1⟩
    · rw [hs]
      unfold flS at s2
      rw [if_pos hQ] at s2
      exact s2.ign (by decide)
    · rw [hs] at z
      exact absurd (show (1 : Nat) = 0 from z) (by decide)
