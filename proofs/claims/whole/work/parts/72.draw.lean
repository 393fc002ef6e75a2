/-! what is drawn; a summer -/
def dN (s : Int32) : Int32 := s * 1103515245 + 12345
def dvv (s : Int32) : Nat := s.toBitVec.toNat / 65536 % 32768
theorem dvv_lt {s : Int32} : dvv s < 32768 := Nat.mod_lt _ (by decide)
theorem dr_m : ∀ i : Fin 32, (32767#32).getLsbD i.1 = decide (i.1 < 15) := by decide
theorem dr_u (s : Int32) : (s.toUInt32 >>> ((16 : Int32).toUInt32 &&& Int32.toUInt32 31)).toInt32.toBitVec = s.toBitVec >>> 16 := by
  apply BitVec.eq_of_toNat_eq
  rw [show ((16 : Int32).toUInt32 &&& Int32.toUInt32 31) = UInt32.ofNat 16 from by decide]
  show (s.toUInt32 >>> UInt32.ofNat 16).toNat = _
  have h1 : (UInt32.ofNat 16).toNat = 16 := by decide
  rw [UInt32.toNat_shiftRight, h1, BitVec.toNat_ushiftRight]
  rfl
theorem dr_x (s : Int32) : ((s.toUInt32 >>> ((16 : Int32).toUInt32 &&& Int32.toUInt32 31)).toInt32 &&& (32767 : Int32)) = nI (dvv s) := by
  apply Int32.toBitVec_inj.mp
  rw [Int32.toBitVec_and, dr_u]
  apply BitVec.eq_of_toNat_eq
  show ((s.toBitVec >>> 16) &&& 32767#32).toNat = (BitVec.ofNat 32 (dvv s)).toNat
  have h1 := dvv_lt (s := s)
  rw [BitVec.toNat_and, BitVec.toNat_ushiftRight, BitVec.toNat_ofNat, BitVec.toNat_ofNat, Nat.mod_eq_of_lt (show dvv s < 2 ^ 32 by omega), Nat.mod_eq_of_lt (show 32767 < 2 ^ 32 by decide), Nat.shiftRight_eq_div_pow, show (32767 : Nat) = 2 ^ 15 - 1 from rfl, Nat.and_two_pow_sub_one_eq_mod]
  rfl
theorem dr_s (s : Int32) : ((s >>> ((16 : Int32) &&& 31)) &&& (32767 : Int32)) = nI (dvv s) := by
  rw [← dr_x]
  apply Int32.toBitVec_inj.mp
  rw [Int32.toBitVec_and, Int32.toBitVec_and, dr_u, Int32.toBitVec_shiftRight]
  apply BitVec.eq_of_getLsbD_eq
  intro i hi
  have h2 : (((16 : Int32) &&& 31).toBitVec.smod 32).toNat = 16 := by decide
  rw [BitVec.getLsbD_and, BitVec.getLsbD_and, BitVec.sshiftRight_eq', h2, show (32767 : Int32).toBitVec = 32767#32 from rfl, dr_m ⟨i, hi⟩, BitVec.getLsbD_sshiftRight, BitVec.getLsbD_ushiftRight]
  by_cases c : i < 15
  · have h3 : 16 + i < 32 := by omega
    simp [c, h3, hi]
  · simp [c]
theorem x_draw {x : zMem} {n : Nat} (h1 : 1 ≤ n) (h2 : n < 2 ^ 31) : F_X9_draw x (nI n) = some (nI (dvv (dN (x.1 0 18)) % n), zI x 0 18 (dN (x.1 0 18))) := by
  have hv := dvv_lt (s := dN (x.1 0 18))
  unfold F_X9_draw
  rw [zl_eq, show (x.1 0 18) * (1103515245 : Int32) + (12345 : Int32) = dN (x.1 0 18) from rfl, show (zI x 0 18 (dN (x.1 0 18))).1 0 18 = dN (x.1 0 18) from by rw [zI_1, upd_s], dr_x, if_neg (by rw [ya_0, nI_leI (by omega) (by omega)]; omega), gd_ok (show (!(nI n == 0)) = true from ya_gd (by omega) h2), pk_rem (by omega) (by omega) (by omega)]
theorem m_draw {m : zMem} {n : Nat} (h1 : 1 ≤ n) (h2 : n < 2 ^ 31) : F_X10_draw m (nI n) = some (nI (dvv (dN (m.1 0 39)) % n), zI m 0 39 (dN (m.1 0 39))) := by
  have hv := dvv_lt (s := dN (m.1 0 39))
  unfold F_X10_draw
  rw [zl_eq, show (m.1 0 39) * (1103515245 : Int32) + (12345 : Int32) = dN (m.1 0 39) from rfl, show (zI m 0 39 (dN (m.1 0 39))).1 0 39 = dN (m.1 0 39) from by rw [zI_1, upd_s], dr_s, gd_ok (show (!(nI n == 0)) = true from ya_gd (by omega) h2), pk_rem (by omega) (by omega) (by omega)]
/-- one turn of a summer: the seed and the row -/
def sumSt (e : PL) (L : LW) (q : Nat) (s : Int32 × (Nat → Nat)) : Int32 × (Nat → Nat) :=
  let a := dN s.1
  let b := dN a
  let c := dN b
  let p := 8 * (dvv b % pH e) + dvv a % pW e
  let t : Int32 × (Nat → Nat) := if q ≤ dvv c % 16 then (c, if s.2 (128 + p) = 0 then s.2 else cartS s.2 p) else (dN c, if canLet s.2 p (dvv (dN c) % 99 + 1) = true then letS s.2 p (dvv (dN c) % 99 + 1) else s.2)
  (t.1, if pn e = 0 then t.2 else hourS e L t.2)
def runS (e : PL) (L : LW) (q : Nat) (u : Nat → Nat) (sd : Int32) (k : Nat) : Int32 × (Nat → Nat) := fN (fun _ s => sumSt e L q s) (sd, u) k
theorem runS_s (e : PL) (L : LW) (q : Nat) (u : Nat → Nat) (sd : Int32) (k : Nat) : runS e L q u sd (k + 1) = sumSt e L q (runS e L q u sd k) := rfl
theorem su_in {e : PL} (he : okPL e) (a b : Nat) : 8 * (b % pH e) + a % pW e < 64 ∧ inW e (8 * (b % pH e) + a % pW e) = true := by
  have e1 := he.1
  have e2 := he.2.1
  have e3 := he.2.2.1
  have e4 := he.2.2.2.1
  have h1 : a % pW e < pW e := Nat.mod_lt _ (by omega)
  have h2 : b % pH e < pH e := Nat.mod_lt _ (by omega)
  exact ⟨by omega, inW_of he h1 h2⟩
theorem runS_ok {e : PL} {L : LW} {q : Nat} {u : Nat → Nat} {sd : Int32} (he : okPL e) (h : okR e u) : ∀ k, okR e (runS e L q u sd k).2
  | 0 => h
  | k + 1 => by
    have ih := runS_ok (L := L) (q := q) (sd := sd) he h k
    rw [runS_s]
    generalize runS e L q u sd k = s at ih
    obtain ⟨s1, w⟩ := s
    dsimp only at ih
    unfold sumSt
    dsimp only
    obtain ⟨h1, h2⟩ := su_in he (dvv (dN s1)) (dvv (dN (dN s1)))
    generalize 8 * (dvv (dN (dN s1)) % pH e) + dvv (dN s1) % pW e = p at h1 h2
    have ht : okR e (if q ≤ dvv (dN (dN (dN s1))) % 16 then (dN (dN (dN s1)), if w (128 + p) = 0 then w else cartS w p) else (dN (dN (dN (dN s1))), if canLet w p (dvv (dN (dN (dN (dN s1)))) % 99 + 1) = true then letS w p (dvv (dN (dN (dN (dN s1)))) % 99 + 1) else w)).2 := by
      by_cases c : q ≤ dvv (dN (dN (dN s1))) % 16
      · rw [if_pos c]
        dsimp only
        split
        · exact ih
        · exact ih.cart h1
      · rw [if_neg c]
        dsimp only
        split
        · next hc => exact ih.letR h1 h2 hc
        · exact ih
    generalize (if q ≤ dvv (dN (dN (dN s1))) % 16 then (dN (dN (dN s1)), if w (128 + p) = 0 then w else cartS w p) else (dN (dN (dN (dN s1))), if canLet w p (dvv (dN (dN (dN (dN s1)))) % 99 + 1) = true then letS w p (dvv (dN (dN (dN (dN s1)))) % 99 + 1) else w)).2 = w2 at ht
    by_cases z : pn e = 0
    · rw [if_pos z]; exact ht
    · rw [if_neg z]; exact ht.hour (by have := ht.2.2; omega)
def frU (r : Nat) (x y : zMem) : Prop := (∀ a, a ≠ 0 → a ≠ r + 2 → a ≠ r + 3 → ¬ ST 99 a → y.1 a = x.1 a) ∧ (∀ j, j ≠ 18 → y.1 0 j = x.1 0 j) ∧ (∀ a, ¬ ST 99 a → y.2.1 a = x.2.1 a) ∧ y.2.2 = x.2.2
theorem frU.refl {r : Nat} {x : zMem} : frU r x x := ⟨fun _ _ _ _ _ => rfl, fun _ _ => rfl, fun _ _ => rfl, rfl⟩
theorem frU.trans {r : Nat} {x y z : zMem} (h : frU r x y) (k : frU r y z) : frU r x z := ⟨fun a h1 h2 h3 h4 => (k.1 a h1 h2 h3 h4).trans (h.1 a h1 h2 h3 h4), fun j hj => (k.2.1 j hj).trans (h.2.1 j hj), fun a ha => (k.2.2.1 a ha).trans (h.2.2.1 a ha), k.2.2.2.trans h.2.2.2⟩
theorem frU.x {r : Nat} {x y : zMem} (h : frX r (ST 99) x y) (hr : r = 186 ∨ r = 190) : frU r x y := ⟨fun a _ h1 h2 h3 => h.1 a h1 h2 h3, fun j _ => by rw [h.1 0 (by omega) (by omega) (by unfold ST; omega)], h.2.1, h.2.2⟩
theorem frU.d {r : Nat} {x : zMem} {v : Int32} : frU r x (zI x 0 18 v) := ⟨fun a h1 _ _ _ => zI_n h1, fun j hj => zI_s hj, fun _ _ => rfl, rfl⟩
theorem frU.q {r : Nat} {x y : zMem} (h : frU r x y) : frQ r x y := ⟨fun a h1 h2 h3 h4 => h.1 a h1 h2 h3 (fun z => h4 (by unfold ST at z; omega)), h.2.1, fun a ha => h.2.2.1 a (fun z => ha (by unfold ST at z; omega)), h.2.2.2⟩
theorem frU.b {r : Nat} {x y : zMem} {b : BS} (h : frU r x y) (hr : r = 186 ∨ r = 190) (w : XB x b) : XB y b := by
  have e := h.1 172 (by omega) (by omega) (by omega) (by unfold ST; omega)
  exact ⟨by rw [e]; exact w.1, by rw [e]; exact w.2.1, w.2.2⟩
theorem RXr.d {x : zMem} {e : PL} {u : Nat → Nat} {t : Nat} {v : Int32} (h : RXr x e u t) (ht : 0 < t) : RXr (zI x 0 18 v) e u t := by
  obtain ⟨h1, h2, h3, h4, h5⟩ := h
  refine ⟨fun p hp => ?_, ?_, ?_, ?_, h5⟩
  · rw [zI_n (by omega), zI_n (by omega), zI_n (by omega)]; exact h1 p hp
  · rw [zI_n (by omega)]; exact h2
  · rw [zI_n (by omega)]; exact h3
  · rw [zI_n (by omega)]; exact h4
theorem x_runSummer {x : zMem} {e : PL} {L : LW} {u : Nat → Nat} {pl r hh q : Nat} {sd : Int32} (w : RXw x e L pl r) (he : okPL e) (ok : okL L) (hr : RXr x e u 4) (hv : okR e u) (h1 : hh ≤ 96) (h2 : q ≤ 16) :
    ∃ y, F_X9_runSummer x sd (nI hh) (nI q) = some y ∧ RXr y e (runS e L q u sd hh).2 99 ∧ frU r x y := by
  have hrr := w.2.2.2.2.2
  have hpl := w.2.2.2.2.1
  have e1 := he.1
  have e2 := he.2.1
  have e3 := he.2.2.1
  have e4 := he.2.2.2.1
  have hw : wp (F_X9_runSummer x sd (nI hh) (nI q)) (fun y => RXr y e (runS e L q u sd hh).2 99 ∧ frU r x y) := by
    obtain ⟨x1, c1, c2, c3⟩ := x_copyFrom (M := x) (t := 99) (s := 4) (r := r) (Or.inr (by omega))
    unfold F_X9_runSummer
    rw [c1, zbv_some, zl_eq]
    refine loopN (F_X9_runSummer_22 _ _ _) (fun g k (y : zMem) => g (nI hh) (nI q) (nI k) y) hh (fun k y => y.1 0 18 = (runS e L q u sd k).1 ∧ RXr y e (runS e L q u sd k).2 99 ∧ frU r x y) _ (fun g k y hk hI ih => ?_) (fun g y hI => ?_) (k := 0) (s := zI x1 0 18 sd) (by omega) ⟨by rw [zI_1, upd_s]; rfl, (c3 _ _ he hr).d (by omega), (frU.x c2 hrr).trans frU.d⟩ (by omega)
    · obtain ⟨i1, i2, i3⟩ := hI
      try dsimp only at i1 i2 i3 ih ⊢
      have w' := i3.q.w w
      have hok := runS_ok (L := L) (q := q) (sd := sd) he hv k
      rw [runS_s] at ih
      generalize runS e L q u sd k = s at i1 i2 ih hok
      obtain ⟨s1, v⟩ := s
      dsimp only at i1 i2 hok
      unfold sumSt at ih
      dsimp only at ih
      obtain ⟨p1, p2⟩ := su_in he (dvv (dN s1)) (dvv (dN (dN s1)))
      have hpp : nI (8 * (dvv (dN (dN s1)) % pH e) + dvv (dN s1) % pW e) = nI (8 * (dvv (dN (dN s1)) % pH e) + dvv (dN s1) % pW e) := rfl
      generalize hpe : 8 * (dvv (dN (dN s1)) % pH e) + dvv (dN s1) % pW e = p at p1 p2 ih
      -- the hour that ends the turn
      have hour : ∀ (y2 : zMem) (c : Int32) (v2 : Nat → Nat), (∀ y', y'.1 0 18 = c ∧ RXr y' e (if pn e = 0 then v2 else hourS e L v2) 99 ∧ frU r x y' → wp (g (nI hh) (nI q) (nI (k + 1)) y') (fun y => RXr y e (runS e L q u sd hh).2 99 ∧ frU r x y)) → y2.1 0 18 = c → RXr y2 e v2 99 → frU r x y2 → okR e v2 → wp (F_X9_runSummer_109 sd (nI hh) (nI q) g (nI hh) (nI q) (nI k) y2) (fun y => RXr y e (runS e L q u sd hh).2 99 ∧ frU r x y) := fun y2 c v2 hg j1 j2 j3 j4 => by
        have w2 := j3.q.w w
        unfold F_X9_runSummer_109 F_X9_runSummer_127
        rw [w2.2.2.1, gd_ok (sX_p hpl), w2.1.2.2.1, nI_1]
        have hn := he.2.2.2.2.1
        by_cases z : pn e = 0
        · rw [if_pos (by rw [ya_0, nI_leI (by omega) (by omega)]; omega)]
          exact hg y2 ⟨j1, by rw [if_pos z]; exact j2, j3⟩
        · rw [if_neg (by rw [ya_0, nI_leI (by omega) (by omega)]; omega)]
          obtain ⟨y', d1, d2, d3⟩ := x_passHour w2 he ok j2 j4 (by have := j4.2.2; omega) (by omega)
          rw [d1, zbv_some]
          exact hg y' ⟨by rw [d3.1 0 (by omega) (by omega) (by unfold ST; omega)]; exact j1, by rw [if_neg z]; exact d2, j3.trans (frU.x d3 hrr)⟩
      unfold F_X9_runSummer_22
      rw [ile (by omega) (by omega), if_neg (by omega), w'.2.2.1, gd_ok (sX_p hpl), w'.1.1, x_draw e1 (by omega), zb_some, i1]
      dsimp only
      have f1 : frU r y (zI y 0 18 (dN s1)) := frU.d
      have w1 := f1.q.w w'
      have r1 := i2.d (v := dN s1) (by omega)
      have v1 : (zI y 0 18 (dN s1)).1 0 18 = dN s1 := by rw [zI_1, upd_s]
      generalize zI y 0 18 (dN s1) = y1 at f1 w1 r1 v1
      rw [w1.2.2.1, gd_ok (sX_p hpl), w1.1.2.1, x_draw e3 (by omega), zb_some, v1]
      dsimp only
      have f2 : frU r y1 (zI y1 0 18 (dN (dN s1))) := frU.d
      have w2 := f2.q.w w1
      have r2 := r1.d (v := dN (dN s1)) (by omega)
      have v2 : (zI y1 0 18 (dN (dN s1))).1 0 18 = dN (dN s1) := by rw [zI_1, upd_s]
      generalize zI y1 0 18 (dN (dN s1)) = y2 at f2 w2 r2 v2
      rw [show (16 : Int32) = nI 16 from rfl, x_draw (by omega) (by omega), zb_some, v2]
      dsimp only
      have f3 : frU r y2 (zI y2 0 18 (dN (dN (dN s1)))) := frU.d
      have w3 := f3.q.w w2
      have r3 := r2.d (v := dN (dN (dN s1))) (by omega)
      have v3 : (zI y2 0 18 (dN (dN (dN s1)))).1 0 18 = dN (dN (dN s1)) := by rw [zI_1, upd_s]
      generalize zI y2 0 18 (dN (dN (dN s1))) = y3 at f3 w3 r3 v3
      have f03 : frU r x y3 := i3.trans (f1.trans (f2.trans f3))
      rw [ile (by omega) (by omega)]
      by_cases cq : q ≤ dvv (dN (dN (dN s1))) % 16
      · rw [if_pos cq] at ih ⊢
        dsimp only at ih
        rw [w3.2.2.1, gd_ok (sX_p hpl), x_placeOf, zb_some]
        dsimp only
        rw [hpe]
        obtain ⟨y4, d1, d2, d3⟩ := x_haul w3 he r3 hok p1 (by omega)
        rw [d1, zb_some]
        dsimp only
        refine hour y4 _ _ ih (by rw [d3.1 0 (by omega) (by omega) (by unfold ST; omega)]; exact v3) d2 (f03.trans (frU.x d3 hrr)) ?_
        split
        · exact hok
        · exact hok.cart p1
      · rw [if_neg cq] at ih ⊢
        dsimp only at ih
        rw [x_placeOf, zb_some]
        dsimp only
        rw [hpe, show (99 : Int32) = nI 99 from rfl, x_draw (by omega) (by omega), zb_some, v3]
        dsimp only
        have r4 := r3.d (v := dN (dN (dN (dN s1)))) (by omega)
        have v4 : (zI y3 0 18 (dN (dN (dN (dN s1))))).1 0 18 = dN (dN (dN (dN s1))) := by rw [zI_1, upd_s]
        have f4 : frU r y3 (zI y3 0 18 (dN (dN (dN (dN s1))))) := frU.d
        generalize zI y3 0 18 (dN (dN (dN (dN s1)))) = y4 at r4 v4 f4
        have hn99 : dvv (dN (dN (dN (dN s1)))) % 99 < 99 := Nat.mod_lt _ (by decide)
        generalize dvv (dN (dN (dN (dN s1)))) % 99 = nn at ih hn99
        rw [show (1 : Int32) + nI nn = nI (nn + 1) from by rw [show (1 : Int32) = nI 1 from rfl, nI_add, Nat.add_comm]]
        obtain ⟨y5, d1, d2, d3⟩ := x_pour (r := r) r4 hok.1 p1 (n := nn + 1) (by omega)
        rw [d1, zb_some]
        dsimp only
        refine hour y5 _ _ ih (by rw [d3.1 0 (by omega) (by omega) (by unfold ST; omega)]; exact v4) d2 (f03.trans (f4.trans (frU.x d3 hrr))) ?_
        split
        · next hc => exact hok.letR p1 p2 hc
        · exact hok
    · obtain ⟨i1, i2, i3⟩ := hI
      try dsimp only at i1 i2 i3 ⊢
      unfold F_X9_runSummer_22
      rw [if_pos (Int32.le_refl _), wp_some]
      exact ⟨i2, i3⟩
  obtain ⟨y, y1, y2, y3⟩ := hw
  exact ⟨y, y1, y2, y3⟩
/-- the reference's frame of a summer -/
def frS (m y : zMem) : Prop := (∀ a, a ≠ 0 → a ≠ 368 → a ≠ 369 → a ≠ 452 → y.1 a = m.1 a) ∧ (∀ j, j ≠ 39 → y.1 0 j = m.1 0 j) ∧ y.2 = m.2
theorem frS.refl {m : zMem} : frS m m := ⟨fun _ _ _ _ _ => rfl, fun _ _ => rfl, rfl⟩
theorem frS.trans {x y z : zMem} (h : frS x y) (k : frS y z) : frS x z := ⟨fun a h1 h2 h3 h4 => (k.1 a h1 h2 h3 h4).trans (h.1 a h1 h2 h3 h4), fun j hj => (k.2.1 j hj).trans (h.2.1 j hj), k.2.2.trans h.2.2⟩
theorem frS.m {x y : zMem} (h : frM 452 x y) : frS x y := ⟨fun a _ h2 h3 h4 => h.1 a h2 h3 h4, fun j _ => by rw [h.1 0 (by omega) (by omega) (by omega)], h.2⟩
theorem frS.d {x : zMem} {v : Int32} : frS x (zI x 0 39 v) := ⟨fun a h1 _ _ _ => zI_n h1, fun j hj => zI_s hj, rfl⟩
theorem frS.q {x y : zMem} (h : frS x y) : frN x y := ⟨fun a h1 h2 => h.1 a h1 (by omega) (by omega) (by omega), fun j _ h2 => h.2.1 j (by omega)⟩
theorem RMh.d {m : zMem} {e : PL} {L : LW} {u : Nat → Nat} {c : Nat} {v : Int32} (h : RMh m e L u c) (hc : 0 < c) : RMh (zI m 0 39 v) e L u c := by
  obtain ⟨⟨a1, a2, a3, a4⟩, ⟨b1, b2⟩, h3⟩ := h
  refine ⟨⟨?_, ?_, ?_, fun k hk => ?_⟩, ⟨?_, fun k hk => ?_⟩, fun i hi => ?_⟩
  · rw [zI_n (by omega)]; exact a1
  · rw [zI_n (by omega)]; exact a2
  · rw [zI_n (by omega)]; exact a3
  · rw [zI_n (by omega)]; exact a4 k hk
  · rw [zI_s (by omega)]; exact b1
  · rw [zI_n (by omega)]; exact b2 k hk
  · rw [zI_n (by omega)]; exact h3 i hi
theorem m_summerBy {m : zMem} {e : PL} {L : LW} {u : Nat → Nat} {hh q : Nat} {sd : Int32} (H : RMh m e L u 451) (he : okPL e) (ok : okL L) (hv : okR e u) (h1 : hh ≤ 96) (h2 : q ≤ 16) :
    ∃ y, F_X10_summerBy m sd (nI hh) (nI q) = some y ∧ RMh y e L (runS e L q u sd hh).2 452 ∧ frS m y := by
  have e1 := he.1
  have e2 := he.2.1
  have e3 := he.2.2.1
  have e4 := he.2.2.2.1
  have hn := he.2.2.2.2.1
  have hw : wp (F_X10_summerBy m sd (nI hh) (nI q)) (fun y => RMh y e L (runS e L q u sd hh).2 452 ∧ frS m y) := by
    obtain ⟨m1, c1, c2, c3⟩ := m_copies (M := m) (a := 451) (b := 452) (by decide)
    have H1 : RMh m1 e L u 452 := ⟨c2.p (by omega) he H.1, c2.l (by omega) ok H.2.1, fun i hi => by rw [c3 i hi]; exact H.2.2 i hi⟩
    unfold F_X10_summerBy
    rw [c1, zbv_some, zl_eq]
    refine loopN (F_X10_summerBy_19 _ _ _) (fun g k (y : zMem) => g (nI hh) (nI q) (nI k) y) hh (fun k y => y.1 0 39 = (runS e L q u sd k).1 ∧ RMh y e L (runS e L q u sd k).2 452 ∧ frS m y) _ (fun g k y hk hI ih => ?_) (fun g y hI => ?_) (k := 0) (s := zI m1 0 39 sd) (by omega) ⟨by rw [zI_1, upd_s]; rfl, H1.d (by omega), (frS.m c2).trans frS.d⟩ (by omega)
    · obtain ⟨i1, i2, i3⟩ := hI
      try dsimp only at i1 i2 i3 ih ⊢
      have hok := runS_ok (L := L) (q := q) (sd := sd) he hv k
      rw [runS_s] at ih
      generalize runS e L q u sd k = s at i1 i2 ih hok
      obtain ⟨s1, v⟩ := s
      dsimp only at i1 i2 hok
      unfold sumSt at ih
      dsimp only at ih
      obtain ⟨p1, p2⟩ := su_in he (dvv (dN s1)) (dvv (dN (dN s1)))
      generalize hpe : 8 * (dvv (dN (dN s1)) % pH e) + dvv (dN s1) % pW e = p at p1 p2 ih
      have hour : ∀ (y2 : zMem) (c : Int32) (v2 : Nat → Nat), (∀ y', y'.1 0 39 = c ∧ RMh y' e L (if pn e = 0 then v2 else hourS e L v2) 452 ∧ frS m y' → wp (g (nI hh) (nI q) (nI (k + 1)) y') (fun y => RMh y e L (runS e L q u sd hh).2 452 ∧ frS m y)) → y2.1 0 39 = c → RMh y2 e L v2 452 → frS m y2 → okR e v2 → wp (F_X10_summerBy_96 sd (nI hh) (nI q) g (nI hh) (nI q) (nI k) y2) (fun y => RMh y e L (runS e L q u sd hh).2 452 ∧ frS m y) := fun y2 c v2 hg j1 j2 j3 j4 => by
        unfold F_X10_summerBy_96 F_X10_summerBy_113
        rw [j2.1.2.2.1, nI_1]
        by_cases z : pn e = 0
        · rw [if_pos (by rw [ya_0, nI_leI (by omega) (by omega)]; omega)]
          exact hg y2 ⟨j1, by rw [if_pos z]; exact j2, j3⟩
        · rw [if_neg (by rw [ya_0, nI_leI (by omega) (by omega)]; omega)]
          obtain ⟨y', d1, d2, _, d3⟩ := m_hourEnds j2 he ok j4.1 (by have := j4.2.2; omega) (by omega)
          rw [d1, zbv_some]
          exact hg y' ⟨by rw [d3.1 0 (by omega) (by omega) (by omega)]; exact j1, by rw [if_neg z]; exact d2, j3.trans (frS.m d3)⟩
      unfold F_X10_summerBy_19
      rw [ile (by omega) (by omega), if_neg (by omega), i2.1.1, m_draw e1 (by omega), zb_some, i1]
      dsimp only
      have f1 : frS y (zI y 0 39 (dN s1)) := frS.d
      have r1 := i2.d (v := dN s1) (by omega)
      have v1 : (zI y 0 39 (dN s1)).1 0 39 = dN s1 := by rw [zI_1, upd_s]
      generalize zI y 0 39 (dN s1) = y1 at f1 r1 v1
      rw [r1.1.2.1, m_draw e3 (by omega), zb_some, v1]
      dsimp only
      have f2 : frS y1 (zI y1 0 39 (dN (dN s1))) := frS.d
      have r2 := r1.d (v := dN (dN s1)) (by omega)
      have v2 : (zI y1 0 39 (dN (dN s1))).1 0 39 = dN (dN s1) := by rw [zI_1, upd_s]
      generalize zI y1 0 39 (dN (dN s1)) = y2 at f2 r2 v2
      rw [zl_eq, show (8 : Int32) = nI 8 from rfl, pk_mul, nI_add, hpe, show (16 : Int32) = nI 16 from rfl, m_draw (by omega) (by omega), zb_some, v2]
      dsimp only
      have f3 : frS y2 (zI y2 0 39 (dN (dN (dN s1)))) := frS.d
      have r3 := r2.d (v := dN (dN (dN s1))) (by omega)
      have v3 : (zI y2 0 39 (dN (dN (dN s1)))).1 0 39 = dN (dN (dN s1)) := by rw [zI_1, upd_s]
      generalize zI y2 0 39 (dN (dN (dN s1))) = y3 at f3 r3 v3
      have f03 : frS m y3 := i3.trans (f1.trans (f2.trans f3))
      have l16 : dvv (dN (dN (dN s1))) % 16 < 16 := Nat.mod_lt _ (by decide)
      rw [ile (by omega) (by omega)]
      by_cases cq : q ≤ dvv (dN (dN (dN s1))) % 16
      · rw [if_pos cq] at ih ⊢
        dsimp only at ih
        obtain ⟨y4, d1, d2, d3⟩ := m_carts r3.2.2 hok.1 p1
        rw [d1, zb_some]
        dsimp only
        refine hour y4 _ _ ih (by rw [d3.1 0 (by omega) (by omega) (by omega)]; exact v3) ⟨d3.p (by omega) he r3.1, d3.l (by omega) ok r3.2.1, d2⟩ (f03.trans (frS.m d3)) ?_
        split
        · exact hok
        · exact hok.cart p1
      · rw [if_neg cq] at ih ⊢
        dsimp only at ih
        rw [show (99 : Int32) = nI 99 from rfl, m_draw (by omega) (by omega), zb_some, v3]
        dsimp only
        have r4 := r3.d (v := dN (dN (dN (dN s1)))) (by omega)
        have v4 : (zI y3 0 39 (dN (dN (dN (dN s1))))).1 0 39 = dN (dN (dN (dN s1))) := by rw [zI_1, upd_s]
        have f4 : frS y3 (zI y3 0 39 (dN (dN (dN (dN s1))))) := frS.d
        generalize zI y3 0 39 (dN (dN (dN (dN s1)))) = y4 at r4 v4 f4
        have hn99 : dvv (dN (dN (dN (dN s1)))) % 99 < 99 := Nat.mod_lt _ (by decide)
        generalize dvv (dN (dN (dN (dN s1)))) % 99 = nn at ih hn99
        rw [nI_1]
        obtain ⟨y5, d1, d2, d3⟩ := m_lets r4.2.2 hok.1 p1 (n := nn + 1) (by omega)
        rw [d1, zb_some]
        dsimp only
        refine hour y5 _ _ ih (by rw [d3.1 0 (by omega) (by omega) (by omega)]; exact v4) ⟨d3.p (by omega) he r4.1, d3.l (by omega) ok r4.2.1, d2⟩ (f03.trans (f4.trans (frS.m d3))) ?_
        split
        · next hc => exact hok.letR p1 p2 hc
        · exact hok
    · obtain ⟨i1, i2, i3⟩ := hI
      try dsimp only at i1 i2 i3 ⊢
      unfold F_X10_summerBy_19
      rw [if_pos (Int32.le_refl _), wp_some]
      exact ⟨i2, i3⟩
  obtain ⟨y, y1, y2, y3⟩ := hw
  exact ⟨y, y1, y2, y3⟩
