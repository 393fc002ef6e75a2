/-! the class' pans: what work does -/
def RXi (x : zMem) (u : Nat → Nat) (t : Nat) : Prop := (∀ p, p < 64 → x.1 (t + 1) p = nI (u p) ∧ x.1 (t + 2) p = nI (u (64 + p)) ∧ x.1 (t + 3) p = nI (u (128 + p))) ∧ x.1 t 3 = nI (u 194) ∧ x.1 t 4 = nI (u 192) ∧ x.1 t 5 = nI (u 193)
theorem RXr.i {x : zMem} {e : PL} {u : Nat → Nat} {t : Nat} (h : RXr x e u t) : RXi x u t := ⟨h.1, h.2.1, h.2.2.1, h.2.2.2.1⟩
theorem RXi.b {x : zMem} {u : Nat → Nat} {t p v : Nat} (h : RXi x u t) (hp : p < 64) : RXi (zI x (t + 1) p (nI v)) (updN u p v) t := by
  obtain ⟨w1, w2, w3, w4⟩ := h
  refine ⟨fun q hq => ⟨?_, ?_, ?_⟩, ?_, ?_, ?_⟩
  · rw [zI_1]
    by_cases z : q = p
    · rw [z, upd_s, updN_s]
    · rw [upd_n z, updN_n z]; exact (w1 q hq).1
  · rw [zI_n (by omega), updN_n (by omega)]; exact (w1 q hq).2.1
  · rw [zI_n (by omega), updN_n (by omega)]; exact (w1 q hq).2.2
  · rw [zI_n (by omega), updN_n (by omega)]; exact w2
  · rw [zI_n (by omega), updN_n (by omega)]; exact w3
  · rw [zI_n (by omega), updN_n (by omega)]; exact w4
theorem RXi.s {x : zMem} {u : Nat → Nat} {t p v : Nat} (h : RXi x u t) (hp : p < 64) : RXi (zI x (t + 2) p (nI v)) (updN u (64 + p) v) t := by
  obtain ⟨w1, w2, w3, w4⟩ := h
  refine ⟨fun q hq => ⟨?_, ?_, ?_⟩, ?_, ?_, ?_⟩
  · rw [zI_n (by omega), updN_n (by omega)]; exact (w1 q hq).1
  · rw [zI_1]
    by_cases z : q = p
    · rw [z, upd_s, updN_s]
    · rw [upd_n z, updN_n (by omega)]; exact (w1 q hq).2.1
  · rw [zI_n (by omega), updN_n (by omega)]; exact (w1 q hq).2.2
  · rw [zI_n (by omega), updN_n (by omega)]; exact w2
  · rw [zI_n (by omega), updN_n (by omega)]; exact w3
  · rw [zI_n (by omega), updN_n (by omega)]; exact w4
theorem RXi.g {x : zMem} {u : Nat → Nat} {t p v : Nat} (h : RXi x u t) (hp : p < 64) : RXi (zI x (t + 3) p (nI v)) (updN u (128 + p) v) t := by
  obtain ⟨w1, w2, w3, w4⟩ := h
  refine ⟨fun q hq => ⟨?_, ?_, ?_⟩, ?_, ?_, ?_⟩
  · rw [zI_n (by omega), updN_n (by omega)]; exact (w1 q hq).1
  · rw [zI_n (by omega), updN_n (by omega)]; exact (w1 q hq).2.1
  · rw [zI_1]
    by_cases z : q = p
    · rw [z, upd_s, updN_s]
    · rw [upd_n z, updN_n (by omega)]; exact (w1 q hq).2.2
  · rw [zI_n (by omega), updN_n (by omega)]; exact w2
  · rw [zI_n (by omega), updN_n (by omega)]; exact w3
  · rw [zI_n (by omega), updN_n (by omega)]; exact w4
theorem RXi.st {x : zMem} {u : Nat → Nat} {t v : Nat} (h : RXi x u t) : RXi (zI x t 3 (nI v)) (updN u 194 v) t := by
  obtain ⟨w1, w2, w3, w4⟩ := h
  refine ⟨fun q hq => ⟨?_, ?_, ?_⟩, ?_, ?_, ?_⟩
  · rw [zI_n (by omega), updN_n (by omega)]; exact (w1 q hq).1
  · rw [zI_n (by omega), updN_n (by omega)]; exact (w1 q hq).2.1
  · rw [zI_n (by omega), updN_n (by omega)]; exact (w1 q hq).2.2
  · rw [zI_1, upd_s, updN_s]
  · rw [zI_1, upd_n (by omega), updN_n (by omega)]; exact w3
  · rw [zI_1, upd_n (by omega), updN_n (by omega)]; exact w4
theorem x_learn {M : zMem} {e : PL} {L : LW} {u : Nat → Nat} {t pl r : Nat} (w : RXw M e L pl r) (he : okPL e) (hi : RXi M u t) (hv : okV u) (hz : ∀ p, p < 64 → inW e p = false → u (128 + p) = 0) (ht : t + 4 < 174) :
    ∃ M', F_X4_learnShades M t pl = some M' ∧ RXr M' e u t ∧ frX r (ST t) M M' := by
  have hpl := w.2.2.2.2.1
  obtain ⟨M', e1, e2, e3, e4, e5⟩ := x_learnShades (t := t) w.1 he hv (by omega) (fun p hp => (hi.1 p hp).2.2) hz
  refine ⟨M', e1, ⟨fun p hp => by rw [e2]; exact hi.1 p hp, by rw [e2]; exact hi.2.1, by rw [e2]; exact hi.2.2.1, by rw [e2]; exact hi.2.2.2, e5⟩, ⟨fun a _ _ _ => by rw [e2], fun a ha => e3 a (fun z => ha (by rw [z]; unfold ST; omega)), e4⟩⟩
theorem okR.cart {e : PL} {u : Nat → Nat} {p : Nat} (h : okR e u) (hp : p < 64) : okR e (cartS u p) := by
  obtain ⟨h1, h2, h3⟩ := h
  refine ⟨(h1.set2 (by omega)).set (by omega), fun q hq hi => ?_, ?_⟩
  · have := h2 q hq hi
    unfold cartS
    rw [updN_n (by omega), updN_n (by omega), updN_n (by omega), updN_n (by omega)]
    refine ⟨this.1, this.2.1, ?_⟩
    by_cases z : q = p
    · rw [z, updN_s]
    · rw [updN_n (by omega), updN_n (by omega)]; exact this.2.2
  · unfold cartS
    rw [updN_n (by omega), updN_n (by omega)]; exact h3
theorem x_haul {M : zMem} {e : PL} {L : LW} {u : Nat → Nat} {t pl r p : Nat} (w : RXw M e L pl r) (he : okPL e) (hr : RXr M e u t) (hv : okR e u) (hp : p < 64) (ht : t + 4 < 174) :
    ∃ M', F_X4_haul M t pl (nI p) = some (bI (decide (u (128 + p) ≠ 0)), M') ∧ RXr M' e (if u (128 + p) = 0 then u else cartS u p) t ∧ frX r (ST t) M M' := by
  have b3 := hv.1 (128 + p) (by omega)
  have hS : ∀ a, 174 ≤ a → a < 194 → ¬ ST t a := fun a h1 h2 z => by unfold ST at z; omega
  unfold F_X4_haul
  rw [gin_ok hp (by decide), nI_clamp (by omega), (hr.1 p hp).2.2, ie0 (by omega)]
  by_cases h1 : u (128 + p) = 0
  · rw [if_pos h1, if_pos h1]
    exact ⟨M, by simp [h1]; rfl, hr, frX.refl⟩
  · rw [if_neg h1, if_neg h1, zl_eq, zl_eq, hr.2.1, nI_add]
    have hi2 : RXi (zI (zI M t 3 (nI (u 194 + u (128 + p)))) (t + 3) p 0) (cartS u p) t := (hr.i.st).g hp
    have f2 : frX r (ST t) M (zI (zI M t 3 (nI (u 194 + u (128 + p)))) (t + 3) p 0) := (frX.setI (by omega) (by omega)).trans (frX.setI (by omega) (by omega))
    have hv2 := hv.cart hp
    obtain ⟨M', e1, e2, e3⟩ := x_learn (f2.w hS w) he hi2 hv2.1 (fun q hq z => (hv2.2.1 q hq z).2.2) ht
    rw [e1, zbv_some]
    exact ⟨M', by simp only [ne_eq, h1, not_false_eq_true, decide_true]; rfl, e2, f2.trans e3⟩
theorem x_canPour {M : zMem} {u : Nat → Nat} {t p n : Nat} (hr : RXi M u t) (hv : okV u) (hp : p < 64) (hn : n ≤ 9999) : F_X4_canPour M t (nI p) (nI n) = some (bI (canLet u p n), M) := by
  have b1 := hv p (by omega)
  have b2 := hv (64 + p) (by omega)
  have b3 := hv (128 + p) (by omega)
  unfold F_X4_canPour canLet
  rw [gin_ok hp (by decide), nI_clamp (by omega), (hr.1 p hp).1, (hr.1 p hp).2.1, (hr.1 p hp).2.2, ie0 (by omega), show (9999 : Int32) = nI 9999 from rfl, show (8 : Int32) = nI 8 from rfl, pk_div (by omega) (by decide) (by decide), nI_add, nI_add, ilt (by omega) (by omega), ilt (by omega) (by omega)]
  by_cases h1 : u (128 + p) = 0
  · rw [if_pos h1]
    by_cases h2 : 9999 < u p + n
    · have : ¬ u p + n ≤ 9999 := by omega
      rw [if_pos h2]; simp [this]; rfl
    · have h2' : u p + n ≤ 9999 := by omega
      rw [if_neg h2]
      by_cases h3 : 9999 < u (64 + p) + n / 8
      · have : ¬ u (64 + p) + n / 8 ≤ 9999 := by omega
        rw [if_pos h3]; simp [this]; rfl
      · have h3' : u (64 + p) + n / 8 ≤ 9999 := by omega
        rw [if_neg h3]; simp [h1, h2', h3']; rfl
  · rw [if_neg h1]; simp [h1]; rfl
theorem x_pour {M : zMem} {e : PL} {u : Nat → Nat} {t p n r : Nat} (hr : RXr M e u t) (hv : okV u) (hp : p < 64) (hn : n ≤ 9999) :
    ∃ M', F_X4_pour M t (nI p) (nI n) = some (bI (canLet u p n), M') ∧ RXr M' e (if canLet u p n then letS u p n else u) t ∧ frX r (ST t) M M' := by
  unfold F_X4_pour
  rw [x_canPour hr.i hv hp hn, zb_some]
  dsimp only
  rw [ibI]
  cases hc : canLet u p n
  · rw [if_pos rfl, if_neg (by decide)]
    exact ⟨M, rfl, hr, frX.refl⟩
  · rw [if_neg (by decide), if_pos rfl, gin_ok hp (by decide), zl_eq, zl_eq, nI_clamp (by omega), (hr.1 p hp).1, nI_add]
    have e1 : (zI M (t + 1) p (nI (u p + n))).1 (t + 2) p = nI (u (64 + p)) := by rw [zI_n (by omega)]; exact (hr.1 p hp).2.1
    rw [e1, show (8 : Int32) = nI 8 from rfl, pk_div (by omega) (by decide) (by decide), nI_add]
    have hi := ((hr.i.b (v := u p + n) hp).s (v := u (64 + p) + n / 8) hp)
    refine ⟨_, rfl, ⟨hi.1, hi.2.1, hi.2.2.1, hi.2.2.2, fun h hh q hq => ?_⟩, (frX.setI (by omega) (by omega)).trans (frX.setI (by omega) (by omega))⟩
    have : shd e (letS u p n) q h = shd e u q h := shd_congr (fun f hf => by unfold letS; rw [updN_n (by omega), updN_n (by omega)])
    rw [this]
    exact hr.2.2.2.2 h hh q hq
theorem okR.letR {e : PL} {u : Nat → Nat} {p n : Nat} (h : okR e u) (hp : p < 64) (hin : inW e p = true) (hc : canLet u p n = true) : okR e (letS u p n) := by
  obtain ⟨h1, h2, h3⟩ := h
  unfold canLet at hc
  rw [Bool.and_eq_true, Bool.and_eq_true, decide_eq_true_eq, decide_eq_true_eq, decide_eq_true_eq] at hc
  refine ⟨(h1.set hc.2.1).set hc.2.2, fun q hq hi => ?_, ?_⟩
  · have z : q ≠ p := fun z => by rw [z, hin] at hi; cases hi
    have := h2 q hq hi
    unfold letS
    rw [updN_n (by omega), updN_n (by omega), updN_n (by omega), updN_n (by omega), updN_n (by omega), updN_n (by omega)]
    exact this
  · unfold letS
    rw [updN_n (by omega), updN_n (by omega)]; exact h3
theorem x_canScrape {M : zMem} {u : Nat → Nat} {t p q : Nat} (hr : RXi M u t) (hv : okV u) (hp : p < 64) (hq : q < 64) : F_X4_canScrape M t (nI p) (nI q) = some (bI (canRk u p q), M) := by
  have b1 := hv p (by omega)
  have b2 := hv (64 + p) (by omega)
  have b3 := hv (128 + p) (by omega)
  have c1 := hv q (by omega)
  have c2 := hv (64 + q) (by omega)
  have c3 := hv (128 + q) (by omega)
  unfold F_X4_canScrape canRk isDryS
  rw [gin_ok hp (by decide), gin_ok hq (by decide), nI_clamp (by omega), nI_clamp (by omega), (hr.1 p hp).1, (hr.1 p hp).2.1, (hr.1 p hp).2.2, (hr.1 q hq).1, (hr.1 q hq).2.1, (hr.1 q hq).2.2, ie0 (by omega), ie0 (by omega), ie0 (by omega), ie0 (by omega), ieq (by omega) (by omega), ya_0, ile (by omega) (by omega), show (9999 : Int32) = nI 9999 from rfl, nI_add, ilt (by omega) (by omega)]
  by_cases d0 : p = q
  · simp [d0]; rfl
  · by_cases d1 : u p = 0
    · by_cases d2 : u (128 + p) = 0
      · by_cases d3 : u (64 + p) ≤ 0
        · have : ¬ 0 < u (64 + p) := by omega
          simp [d0, d1, d2, d3, this]; rfl
        · have d3' : 0 < u (64 + p) := by omega
          by_cases d4 : u q = 0
          · by_cases d5 : u (64 + q) = 0
            · by_cases d6 : 9999 < u (128 + q) + u (64 + p)
              · have : ¬ u (128 + q) + u (64 + p) ≤ 9999 := by omega
                simp [d0, d1, d2, d3, d4, d5, d6, this]; rfl
              · have : u (128 + q) + u (64 + p) ≤ 9999 := by omega
                simp [d0, d1, d2, d3, d3', d4, d5, d6, this]; rfl
            · simp [d0, d1, d2, d3, d4, d5]; rfl
          · simp [d0, d1, d2, d3, d4]; rfl
      · simp [d0, d1, d2]; rfl
    · simp [d0, d1]; rfl
theorem okR.rk {e : PL} {u : Nat → Nat} {p q : Nat} (h : okR e u) (hp : p < 64) (hq : q < 64) (hin : inW e q = true) (hc : canRk u p q = true) : okR e (rkS u p q) := by
  obtain ⟨h1, h2, h3⟩ := h
  unfold canRk isDryS at hc
  simp only [Bool.and_eq_true, decide_eq_true_eq] at hc
  refine ⟨(h1.set hc.2.2.2.2.2).set (by omega), fun s hs hi => ?_, ?_⟩
  · have z : s ≠ q := fun z => by rw [z, hin] at hi; cases hi
    have := h2 s hs hi
    unfold rkS
    rw [updN_n (by omega), updN_n (by omega)]
    refine ⟨this.1, ?_, ?_⟩
    · by_cases z2 : s = p
      · rw [z2, updN_s]
      · rw [updN_n (by omega), updN_n (by omega)]; exact this.2.1
    · rw [updN_n (by omega), updN_n (by omega)]; exact this.2.2
  · unfold rkS
    rw [updN_n (by omega), updN_n (by omega)]; exact h3
theorem x_scrape {M : zMem} {e : PL} {L : LW} {u : Nat → Nat} {t pl r p q : Nat} (w : RXw M e L pl r) (he : okPL e) (hr : RXr M e u t) (hv : okR e u) (hp : p < 64) (hq : q < 64) (hin : inW e q = true) (ht : t + 4 < 174) :
    ∃ M', F_X4_scrape M t pl (nI p) (nI q) = some (bI (canRk u p q), M') ∧ RXr M' e (if canRk u p q then rkS u p q else u) t ∧ frX r (ST t) M M' := by
  have b2 := hv.1 (64 + p) (by omega)
  have b3 := hv.1 (128 + q) (by omega)
  have hS : ∀ a, 174 ≤ a → a < 194 → ¬ ST t a := fun a h1 h2 z => by unfold ST at z; omega
  unfold F_X4_scrape
  rw [x_canScrape hr.i hv.1 hp hq, zb_some]
  dsimp only
  rw [ibI]
  cases hc : canRk u p q
  · rw [if_pos rfl, if_neg (by decide)]
    exact ⟨M, rfl, hr, frX.refl⟩
  · rw [if_neg (by decide), if_pos rfl, gin_ok hq (by decide), gin_ok hp (by decide), zl_eq, zl_eq, nI_clamp (by omega), nI_clamp (by omega), (hr.1 q hq).2.2, (hr.1 p hp).2.1, nI_add]
    have hi2 : RXi (zI (zI M (t + 3) q (nI (u (128 + q) + u (64 + p)))) (t + 2) p 0) (rkS u p q) t := (hr.i.g hq).s hp
    have f2 : frX r (ST t) M (zI (zI M (t + 3) q (nI (u (128 + q) + u (64 + p)))) (t + 2) p 0) := (frX.setI (by omega) (by omega)).trans (frX.setI (by omega) (by omega))
    have hv2 := hv.rk hp hq hin hc
    obtain ⟨M', e1, e2, e3⟩ := x_learn (f2.w hS w) he hi2 hv2.1 (fun q hq z => (hv2.2.1 q hq z).2.2) ht
    rw [e1, zbv_some]
    exact ⟨M', rfl, e2, f2.trans e3⟩
theorem rain1_o {e : PL} {n p i : Nat} {u : Nat → Nat} (h1 : i ≠ p) (h2 : i ≠ 128 + p) : rain1 e n p u i = u i := by
  unfold rain1
  split
  · split
    · exact updN_n h1
    · exact updN_n h2
  · rfl
theorem rain_o {e : PL} {n : Nat} {u : Nat → Nat} {i : Nat} (h : (64 ≤ i ∧ i < 128) ∨ 192 ≤ i) : ∀ k, k ≤ 64 → fN (fun p u => rain1 e n p u) u k i = u i
  | 0, _ => rfl
  | k + 1, hk => by
    show rain1 e n k (fN (fun p u => rain1 e n p u) u k) i = u i
    rw [rain1_o (by omega) (by omega), rain_o h k (by omega)]
theorem rain_z {e : PL} {n : Nat} {u : Nat → Nat} {p : Nat} (hi : inW e p = false) (hp : p < 64) : ∀ k, k ≤ 64 → fN (fun p u => rain1 e n p u) u k p = u p ∧ fN (fun p u => rain1 e n p u) u k (128 + p) = u (128 + p)
  | 0, _ => ⟨rfl, rfl⟩
  | k + 1, hk => by
    have ih := rain_z hi hp (u := u) (n := n) k (by omega)
    show rain1 e n k (fN (fun p u => rain1 e n p u) u k) p = u p ∧ rain1 e n k (fN (fun p u => rain1 e n p u) u k) (128 + p) = u (128 + p)
    by_cases z : k = p
    · have : rain1 e n k (fN (fun p u => rain1 e n p u) u k) = fN (fun p u => rain1 e n p u) u k := by
        rw [z]; unfold rain1; rw [hi]; rfl
      rw [this]; exact ih
    · rw [rain1_o (by omega) (by omega), rain1_o (by omega) (by omega)]; exact ih
theorem rain1_V {e : PL} {n p : Nat} {u : Nat → Nat} (h : okV u) (hp : p < 64) : okV (rain1 e n p u) := by
  have := h (128 + p) (by omega)
  unfold rain1
  split
  · split
    · exact h.set (Nat.min_le_left _ _)
    · exact h.set (by omega)
  · exact h
theorem rains_V {e : PL} {n : Nat} {u : Nat → Nat} (h : okV u) : ∀ k, k ≤ 64 → okV (fN (fun p u => rain1 e n p u) u k)
  | 0, _ => h
  | k + 1, hk => rain1_V (rains_V h k (by omega)) (by omega)
theorem okR.rain {e : PL} {u : Nat → Nat} {n : Nat} (h : okR e u) : okR e (rainS e u n) := by
  obtain ⟨h1, h2, h3⟩ := h
  refine ⟨rains_V h1 64 (Nat.le_refl _), fun p hp hi => ?_, ?_⟩
  · have z := rain_z hi hp (u := u) (n := n) 64 (Nat.le_refl _)
    have := h2 p hp hi
    refine ⟨z.1.trans this.1, ?_, z.2.trans this.2.2⟩
    exact (rain_o (Or.inl ⟨by omega, by omega⟩) 64 (Nat.le_refl _)).trans this.2.1
  · have : rainS e u n 193 = u 193 := rain_o (Or.inr (by omega)) 64 (Nat.le_refl _)
    rw [this]; exact h3
theorem x_wet {M : zMem} {e : PL} {L : LW} {u : Nat → Nat} {t pl r n : Nat} (w : RXw M e L pl r) (he : okPL e) (hr : RXr M e u t) (hv : okR e u) (hn : n ≤ 99) (ht : t + 4 < 174) :
    ∃ M', F_X4_wet M t pl (nI n) = some M' ∧ RXr M' e (rainS e u n) t ∧ frX r (ST t) M M' := by
  have hS : ∀ a, 174 ≤ a → a < 194 → ¬ ST t a := fun a h1 h2 z => by unfold ST at z; omega
  have hw : wp (itF (fun _ _ _ => none) (F_X4_wet_2 t pl (nI n)) zFuel (nI n) (nI 0) M) (fun m => RXr m e (rainS e u n) t ∧ frX r (ST t) M m) := by
    refine loopN (F_X4_wet_2 _ _ _) (fun f k (m : zMem) => f (nI n) (nI k) m) 64 (fun k m => RXi m (fN (fun p u => rain1 e n p u) u k) t ∧ frX r (ST t) M m) _ (fun f k m hk hI ih => ?_) (fun f m hI => ?_) (k := 0) (s := M) (by omega) ⟨hr.i, frX.refl⟩ (by omega)
    · try dsimp only at hI ih ⊢
      obtain ⟨i1, i2⟩ := hI
      have w' := i2.w hS w
      have hV := rains_V (e := e) (n := n) hv.1 k (by omega)
      have hz : inW e k = false → fN (fun p u => rain1 e n p u) u k (128 + k) = 0 := fun z => (rain_z z hk k (by omega)).2.trans (hv.2.1 k hk z).2.2
      have hs : fN (fun p u => rain1 e n p u) u (k + 1) = rain1 e n k (fN (fun p u => rain1 e n p u) u k) := rfl
      rw [hs] at ih
      generalize fN (fun p u => rain1 e n p u) u k = v at i1 hV hz ih
      have b1 := hV k (by omega)
      have b3 := hV (128 + k) (by omega)
      unfold F_X4_wet_2
      rw [show (64 : Int32) = nI 64 from rfl, ile (by omega) (by omega), if_neg (by omega), gin_ok hk (by decide), nI_clamp (by omega), (i1.1 k hk).2.2, ya_0, ile (by omega) (by omega)]
      by_cases c : v (128 + k) ≤ 0
      · rw [if_pos c, x_has m _ hk, zb_some]
        dsimp only
        rw [← ya_0, ibI, w'.1.2.2.2.2 k hk]
        cases hin : inW e k
        · rw [if_pos rfl]
          unfold F_X4_wet_69
          rw [nI_1]
          have : rain1 e n k v = v := by unfold rain1; rw [hin]; rfl
          rw [this] at ih
          exact ih m ⟨i1, i2⟩
        · rw [if_neg (by decide), zl_eq, (i1.1 k hk).1, nI_add, show (9999 : Int32) = nI 9999 from rfl, ya_min (by omega) (by omega)]
          unfold F_X4_wet_69
          rw [nI_1]
          have : rain1 e n k v = updN v k (min 9999 (v k + n)) := by unfold rain1; rw [hin, if_pos rfl, if_pos (by omega)]
          rw [this] at ih
          exact ih _ ⟨i1.b hk, i2.trans (frX.setI (by omega) (by omega))⟩
      · rw [if_neg c, zl_eq, ← ya_0, ya_max0 (by omega) (by omega)]
        unfold F_X4_wet_69
        rw [nI_1]
        have hin : inW e k = true := by
          cases z : inW e k
          · exact absurd (hz z) (by omega)
          · rfl
        have : rain1 e n k v = updN v (128 + k) (v (128 + k) - n) := by unfold rain1; rw [hin, if_pos rfl, if_neg (by omega)]
        rw [this] at ih
        exact ih _ ⟨i1.g hk, i2.trans (frX.setI (by omega) (by omega))⟩
    · try dsimp only at hI ⊢
      obtain ⟨i1, i2⟩ := hI
      have hv2 := hv.rain (n := n)
      unfold F_X4_wet_2
      rw [show (64 : Int32) = nI 64 from rfl, ile (by omega) (by omega), if_pos (by omega)]
      obtain ⟨M', e1, e2, e3⟩ := x_learn (i2.w hS w) he i1 hv2.1 (fun q hq z => (hv2.2.1 q hq z).2.2) ht
      rw [e1, zbv_some, wp_some]
      exact ⟨e2, i2.trans e3⟩
  exact hw
theorem okR.hour {e : PL} {L : LW} {u : Nat → Nat} (h : okR e u) (hh : u 193 < pn e) : okR e (hourS e L u) := by
  obtain ⟨h1, h2, h3⟩ := h
  have g : ∀ i, i < 192 → hourS e L u i = fN (fun p u => dryS e L p u) u 64 i := fun i hi => by
    unfold hourS nextS
    split
    · rw [updN_n (by omega), updN_n (by omega)]
    · rw [updN_n (by omega)]
  refine ⟨fun i hi => by rw [g i hi]; exact h1.drys 64 i hi, fun p hp hi => ?_, ?_⟩
  · have := h2 p hp hi
    have d0 : fN (fun p u => dryS e L p u) u 64 p = 0 := dries_z (L := L) (e := e) this.1 (by omega) 64
    have d1 : fN (fun p u => dryS e L p u) u 64 (64 + p) = u (64 + p) := dries_o e L u 64 (by omega)
    have d2 : fN (fun p u => dryS e L p u) u 64 (128 + p) = u (128 + p) := dries_o e L u 64 (by omega)
    rw [g p (by omega), g (64 + p) (by omega), g (128 + p) (by omega), d1, d2]
    exact ⟨d0, this.2⟩
  · have d3 : fN (fun p u => dryS e L p u) u 64 193 = u 193 := dries_o e L u 64 (by omega)
    unfold hourS nextS
    rw [d3]
    split
    · rw [updN_n (by omega), updN_s]; omega
    · rw [updN_s]; omega
/-! copies -/
theorem zCI_1 {M : zMem} {src sp dst dp m : Nat} : (zCI M src sp dst dp m).1 dst = va_cpy (M.1 src) (M.1 dst) sp dp m := if_pos rfl
theorem zCI_n {M : zMem} {src sp dst dp m a : Nat} (h : a ≠ dst) : (zCI M src sp dst dp m).1 a = M.1 a := if_neg h
theorem zCL_1 {M : zMem} {src sp dst dp m : Nat} : (zCL M src sp dst dp m).2.1 dst = va_cpy (M.2.1 src) (M.2.1 dst) sp dp m := if_pos rfl
theorem zCL_n {M : zMem} {src sp dst dp m a : Nat} (h : a ≠ dst) : (zCL M src sp dst dp m).2.1 a = M.2.1 a := if_neg h
theorem cpy0 {α : Type} {f g : Nat → α} {n k : Nat} (h : k < n) : va_cpy f g 0 0 n k = f k := by
  rw [pk_cpy_in (Nat.zero_le _) (by omega)]; congr 1; omega
theorem x_copyFrom {M : zMem} {t s r : Nat} (hd : t + 4 < s ∨ s + 4 < t) : ∃ M', F_X4_copyFrom M t s = some M' ∧ frX r (ST t) M M' ∧ ∀ e u, okPL e → RXr M e u s → RXr M' e u t := by
  unfold F_X4_copyFrom
  simp only [zl_eq]
  refine ⟨_, rfl, ?_, fun e u he hr => ?_⟩
  · have ci : ∀ (M : zMem) (a b : Nat), t ≤ b → b ≤ t + 4 → frX r (ST t) M (zCI M a 0 b 0 64) := fun M a b h1 h2 => ⟨fun c _ _ h => zCI_n (fun z => h (by rw [z]; exact ⟨h1, h2⟩)), fun _ _ => rfl, rfl⟩
    have cl : ∀ (M : zMem) (a : Nat), frX r (ST t) M (zCL M a 0 (t + 4) 0 10) := fun M a => ⟨fun c _ _ h => rfl, fun c h => zCL_n (fun z => h (by rw [z]; unfold ST; omega)), rfl⟩
    exact ((((((ci _ _ _ (by omega) (by omega)).trans (ci _ _ _ (by omega) (by omega))).trans (ci _ _ _ (by omega) (by omega))).trans (frX.setI (by omega) (by omega))).trans (frX.setI (by omega) (by omega))).trans (frX.setI (by omega) (by omega))).trans (cl _ _)
  · have hn := he.2.2.2.2.1
    obtain ⟨w1, w2, w3, w4, w5⟩ := hr
    refine ⟨fun p hp => ⟨?_, ?_, ?_⟩, ?_, ?_, ?_, fun h hh q hq => ?_⟩
    · show (zI _ t 5 _).1 (t + 1) p = _
      rw [zI_n (by omega), zI_n (by omega), zI_n (by omega), zCI_n (by omega), zCI_n (by omega), zCI_1, cpy0 hp]
      exact (w1 p hp).1
    · show (zI _ t 5 _).1 (t + 2) p = _
      rw [zI_n (by omega), zI_n (by omega), zI_n (by omega), zCI_n (by omega), zCI_1, cpy0 hp, zCI_n (by omega)]
      exact (w1 p hp).2.1
    · show (zI _ t 5 _).1 (t + 3) p = _
      rw [zI_n (by omega), zI_n (by omega), zI_n (by omega), zCI_1, cpy0 hp, zCI_n (by omega), zCI_n (by omega)]
      exact (w1 p hp).2.2
    · show (zI _ t 5 _).1 t 3 = _
      rw [zI_1, upd_n (by omega), zI_1, upd_n (by omega), zI_1, upd_s, zCI_n (by omega), zCI_n (by omega), zCI_n (by omega)]
      exact w2
    · show (zI _ t 5 _).1 t 4 = _
      rw [zI_1, upd_n (by omega), zI_1, upd_s, zI_n (by omega), zCI_n (by omega), zCI_n (by omega), zCI_n (by omega)]
      exact w3
    · show (zI _ t 5 _).1 t 5 = _
      rw [zI_1, upd_s, zI_n (by omega), zI_n (by omega), zCI_n (by omega), zCI_n (by omega), zCI_n (by omega)]
      exact w4
    · rw [zCL_1, cpy0 (by omega)]
      exact w5 h hh q hq
theorem m_copies {M : zMem} {a b : Nat} (hab : a ≠ b) : ∃ M', F_X10_copies M a b = some M' ∧ frM b M M' ∧ ∀ i, i < 195 → M'.1 b i = M.1 a i := by
  have hw : wp (itF (fun _ _ => none) (F_X10_copies_2 a b) zFuel (nI 0) M) (fun m => frM b M m ∧ ∀ i, i < 195 → m.1 b i = M.1 a i) := by
    refine loopN (F_X10_copies_2 _ _) (fun f k (m : zMem) => f (nI k) m) 195 (fun k m => (∀ c, c ≠ b → m.1 c = M.1 c) ∧ m.2 = M.2 ∧ ∀ i, i < k → m.1 b i = M.1 a i) _ (fun f k m hk hI ih => ?_) (fun f m hI => ?_) (k := 0) (s := M) (by omega) ⟨fun _ _ => rfl, rfl, fun i hi => absurd hi (Nat.not_lt_zero _)⟩ (by omega)
    · try dsimp only at hI ih ⊢
      obtain ⟨i1, i2, i3⟩ := hI
      unfold F_X10_copies_2
      rw [show (195 : Int32) = nI 195 from rfl, ile (by omega) (by omega), if_neg (by omega), gin_ok hk (by decide), zl_eq, nI_clamp (by omega), nI_1]
      refine ih _ ⟨fun c hc => by rw [zI_n hc]; exact i1 c hc, i2, fun i hi => ?_⟩
      rw [zI_1]
      by_cases z : i = k
      · rw [z, upd_s, i1 a hab]
      · rw [upd_n z]; exact i3 i (by omega)
    · try dsimp only at hI ⊢
      obtain ⟨i1, i2, i3⟩ := hI
      unfold F_X10_copies_2
      rw [show (195 : Int32) = nI 195 from rfl, ile (by omega) (by omega), if_pos (by omega), wp_some]
      exact ⟨⟨fun c _ _ hc => i1 c hc, i2⟩, i3⟩
  exact hw
