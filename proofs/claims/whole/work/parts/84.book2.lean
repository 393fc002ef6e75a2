/-! book: all lines; the state behind it -/
def bk0 : BK := (0, fun _ => 0, fun _ => 0)
def stB (B : Nat → Nat) (E : Nat) (e : PL) (s : PS × BK) : PS × BK := if s.1.1 = 0 ∧ s.1.2.2 < E then (lnS B E e s.1 (bn s.2) (bpl s.2), if (lnS B E e s.1 (bn s.2) (bpl s.2)).1 = 0 then addB s.2 (ppS B E e s.1 (bn s.2)) (lvS B E e s.1 (bn s.2) (bpl s.2)) else s.2) else s
def rdB (B : Nat → Nat) (E : Nat) (e : PL) (k : Nat) : PS × BK := fN (fun _ s => stB B E e s) (PS0 B E, bk0) k
theorem rdB_s (B : Nat → Nat) (E : Nat) (e : PL) (k : Nat) : rdB B E e (k + 1) = stB B E e (rdB B E e k) := rfl
theorem b1_ok {B : Nat → Nat} {E : Nat} {e : PL} {P : PS} {n : Nat} (h : okP B E P) : okP B E (b1S B E e P n) := by
  unfold b1S
  split
  · exact fl_ok (nu_ok h) (by omega) (by omega)
  · exact nu_ok h
theorem b2_ok {B : Nat → Nat} {E : Nat} {e : PL} {P : PS} {n : Nat} {pl : Nat → Nat} (h : okP B E P) : okP B E (b2S B E e P n pl) := by
  unfold b2S
  split
  · exact fl_ok (nu_ok (b1_ok h)) (by omega) (by omega)
  · exact nu_ok (b1_ok h)
theorem ln_ok {B : Nat → Nat} {E : Nat} {e : PL} {P : PS} {n : Nat} {pl : Nat → Nat} (h : okP B E P) : okP B E (lnS B E e P n pl) := sg_ok (nu_ok (b2_ok h)) (by decide)
theorem ln_F {B : Nat → Nat} {E : Nat} {e : PL} {P : PS} {n : Nat} {pl : Nat → Nat} (h : okF P) : okF (lnS B E e P n pl) := by
  refine sg_F (nu_F ?_)
  have h1 : okF (b1S B E e P n) := by
    unfold b1S
    split
    · exact fl_F (nu_F h) (by decide)
    · exact nu_F h
  unfold b2S
  split
  · exact fl_F (nu_F h1) (by decide)
  · exact nu_F h1
theorem rd_ok {B : Nat → Nat} {E : Nat} {e : PL} (he : okPL e) : ∀ k, okP B E (rdB B E e k).1 ∧ okF (rdB B E e k).1 ∧ okB e (rdB B E e k).2
  | 0 => ⟨(PS0_ok B E).1, (PS0_ok B E).2, Nat.zero_le _, fun k hk => absurd hk (Nat.not_lt_zero _)⟩
  | k + 1 => by
    obtain ⟨h1, h2, h3, h4⟩ := rd_ok (B := B) (E := E) he k
    rw [rdB_s]
    unfold stB
    by_cases c : (rdB B E e k).1.1 = 0 ∧ (rdB B E e k).1.2.2 < E
    · rw [if_pos c]
      refine ⟨ln_ok h1, ln_F h2, ?_⟩
      dsimp only
      by_cases z : (lnS B E e (rdB B E e k).1 (bn (rdB B E e k).2) (bpl (rdB B E e k).2)).1 = 0
      · rw [if_pos z]
        obtain ⟨n8, hP0, hi0, hj0, hv0, _⟩ := ln_0 he z
        refine ⟨(show bn (rdB B E e k).2 + 1 ≤ 8 by omega), fun q hq => ?_⟩
        have hq' : q < bn (rdB B E e k).2 + 1 := hq
        have e2 := he.2.1
        have e4 := he.2.2.2.1
        show (if q = bn (rdB B E e k).2 then ppS B E e (rdB B E e k).1 (bn (rdB B E e k).2) else bpl (rdB B E e k).2 q) < 64 ∧ inW e (if q = bn (rdB B E e k).2 then ppS B E e (rdB B E e k).1 (bn (rdB B E e k).2) else bpl (rdB B E e k).2 q) = true ∧ (if q = bn (rdB B E e k).2 then lvS B E e (rdB B E e k).1 (bn (rdB B E e k).2) (bpl (rdB B E e k).2) else bbr (rdB B E e k).2 q) ≤ 9999
        by_cases cq : q = bn (rdB B E e k).2
        · rw [if_pos cq, if_pos cq]
          exact ⟨by unfold ppS; omega, inW_of he hi0 hj0, hv0⟩
        · rw [if_neg cq, if_neg cq]
          exact h4 q (by omega)
      · rw [if_neg z]; exact ⟨h3, h4⟩
    · rw [if_neg c]; exact ⟨h1, h2, h3, h4⟩
theorem rd_stop {B : Nat → Nat} {E : Nat} {e : PL} {k : Nat} (h : ¬ ((rdB B E e k).1.1 = 0 ∧ (rdB B E e k).1.2.2 < E)) : ∀ j, k ≤ j → rdB B E e j = rdB B E e k
  | 0, hj => by rw [show (0 : Nat) = k by omega]
  | j + 1, hj => by
    by_cases c : k = j + 1
    · rw [c]
    · have ih := rd_stop h j (by omega)
      rw [rdB_s, ih]
      unfold stB
      rw [if_neg h]
theorem rd_n {B : Nat → Nat} {E : Nat} {e : PL} : ∀ k, (rdB B E e k).1.1 = 0 → (rdB B E e k).1.2.2 < E → bn (rdB B E e k).2 = k
  | 0, _, _ => rfl
  | k + 1, h1, h2 => by
    by_cases c : (rdB B E e k).1.1 = 0 ∧ (rdB B E e k).1.2.2 < E
    · have ih := rd_n k c.1 c.2
      rw [rdB_s] at h1 ⊢
      unfold stB at h1 ⊢
      rw [if_pos c] at h1 ⊢
      dsimp only at h1 ⊢
      rw [if_pos h1]
      show bn (rdB B E e k).2 + 1 = k + 1
      rw [ih]
    · have := rd_stop c (k + 1) (by omega)
      rw [this] at h1 h2
      exact absurd ⟨h1, h2⟩ c
theorem x_bkRead {x : zMem} {B : Nat → Nat} {E : Nat} {e : PL} {pl t : Nat} (ht : okT B E) (he : okPL e) (hpl : pl = 174 ∨ pl = 180) (h94 : t = 194 ∨ t = 197) (h : TX x B E (PS0 B E)) (kp : RXp x e pl) :
    ∃ y, F_X1_read x t 1 pl = some y ∧ TX y B E (rdB B E e 9).1 ∧ frK t x y ∧ ((rdB B E e 9).1.1 = 0 → RXb y (rdB B E e 9).2 t) := by
  have hw : wp (F_X1_read x t 1 pl) (fun y => TX y B E (rdB B E e 9).1 ∧ frK t x y ∧ ((rdB B E e 9).1.1 = 0 → RXb y (rdB B E e 9).2 t)) := by
    unfold F_X1_read F_X1_clear
    rw [zl_eq, zl_eq, zbv_some]
    have c0 : ∀ c, c ≠ t → (zL (zI x t 2 0) t 3 0).1 c = x.1 c := fun c hc => by
      show (zI x t 2 0).1 c = _
      rw [zI_n hc]
    refine loopN (F_X1_read_6 _ _ _) (fun g k (y : zMem) => g (nI k) y) 9 (fun k y => TX y B E (rdB B E e k).1 ∧ frK t x y ∧ ((rdB B E e k).1.1 = 0 → RXb y (rdB B E e k).2 t)) _ (fun g k y hk hI ih => ?_) (fun g y hI => ?_) (k := 0) (s := zL (zI x t 2 0) t 3 0) (by omega) ⟨?_, ⟨fun c h1 h2 _ _ => c0 c h2, fun j _ _ _ _ _ => by rw [c0 1 (by omega)], fun c hc => zL_n hc, rfl⟩, fun _ => ⟨?_, fun k hk => absurd hk (Nat.not_lt_zero _), fun p hp => ?_⟩⟩ (by omega)
    · obtain ⟨i1, i2, i3⟩ := hI
      try dsimp only at i1 i2 i3 ih ⊢
      have ok := rd_ok (B := B) (E := E) he k
      have kp' : RXp y e pl := by
        obtain ⟨a1, a2, a3, a4, a5⟩ := kp
        have g : ∀ c, c = pl ∨ c = pl + 1 ∨ c = pl + 2 → y.1 c = x.1 c := fun c hc => i2.1 c (by omega) (by omega) (by omega) (by omega)
        exact ⟨by rw [g pl (by omega)]; exact a1, by rw [g pl (by omega)]; exact a2, by rw [g pl (by omega)]; exact a3, fun q hq => by rw [g (pl + 1) (by omega), g (pl + 2) (by omega)]; exact a4 q hq, fun p hp => by rw [i2.2.2.1 pl (by omega)]; exact a5 p hp⟩
      obtain ⟨y2, d1, d2, d3⟩ := x_goesOn ht ok.1.1 i1
      unfold F_X1_read_6
      rw [show (8 : Int32) = nI 8 from rfl, ilt (by omega) (by omega), if_neg (by omega), d1, zb_some]
      dsimp only
      rw [ibI]
      by_cases c : (rdB B E e k).1.1 = 0 ∧ (rdB B E e k).1.2.2 < E
      · rw [decide_eq_true c.1, decide_eq_true c.2, if_neg (by decide)]
        have kp2 : RXp y2 e pl := by
          obtain ⟨a1, a2, a3, a4, a5⟩ := kp'
          have g : ∀ c, c = pl ∨ c = pl + 1 ∨ c = pl + 2 → y2.1 c = y.1 c := fun c hc => d3.1 c (by omega)
          exact ⟨by rw [g pl (by omega)]; exact a1, by rw [g pl (by omega)]; exact a2, by rw [g pl (by omega)]; exact a3, fun q hq => by rw [g (pl + 1) (by omega), g (pl + 2) (by omega)]; exact a4 q hq, fun p hp => by rw [d3.2.2]; exact a5 p hp⟩
        obtain ⟨y3, f1, f2, f3, f4⟩ := x_readLine ht he ok.1 hpl h94 d2 kp2 (d3.bk (by omega) (i3 c.1)) ok.2.2.1
        rw [f1, zbv_some, nI_1]
        rw [rdB_s] at ih
        unfold stB at ih
        rw [if_pos c] at ih
        refine ih y3 ⟨f2, i2.trans ((d3.k (t := t)).trans f3), fun z => ?_⟩
        dsimp only at z ⊢
        rw [if_pos z]
        exact f4 z
      · have hno : (decide ((rdB B E e k).1.1 = 0) && decide ((rdB B E e k).1.2.2 < E)) = false := by
          by_cases z : (rdB B E e k).1.1 = 0
          · rw [decide_eq_false (fun w => c ⟨z, w⟩), Bool.and_false]
          · rw [decide_eq_false z, Bool.false_and]
        have := rd_stop c 9 (by omega)
        rw [hno, if_pos rfl, wp_some, this]
        exact ⟨d2, i2.trans d3.k, fun z => d3.bk (by omega) (i3 z)⟩
    · obtain ⟨i1, i2, i3⟩ := hI
      try dsimp only at i1 i2 i3 ⊢
      unfold F_X1_read_6
      rw [if_pos (show (8 : Int32) < nI 9 by decide), wp_some]
      exact ⟨i1, i2, i3⟩
    · obtain ⟨h1, h2, h3, h4, a, h5, h6, h7⟩ := h
      exact ⟨by rw [c0 1 (by omega)]; exact h1, by rw [c0 1 (by omega)]; exact h2, by rw [c0 1 (by omega)]; exact h3, fun k hk => by rw [c0 2 (by omega)]; exact h4 k hk, a, h5, by rw [c0 1 (by omega)]; exact h6, h7⟩
    · show (zI x t 2 0).1 t 2 = _
      rw [zI_1, upd_s]; rfl
    · show tb ((zL _ t 3 0).2.1 t 3) p = _
      rw [zL_1, updL_s, tb_0]; rfl
  exact hw
