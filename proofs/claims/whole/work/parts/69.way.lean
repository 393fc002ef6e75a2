/-! way, dryland -/
def GH (o : Nat → Bool) (s d q : Nat) : Int32 := if fst64 o s q ≤ d ∧ fst64 o s q ≤ 63 then nI (fst64 o s q) else -1
def FIN (o : Nat → Bool) (s q : Nat) : Int32 := if fst64 o s q ≤ 63 then nI (fst64 o s q) else -1
theorem GH_n {o : Nat → Bool} {s d q : Nat} (hd : d ≤ 63) : GH o s d q = -1 ↔ d < fst64 o s q := by
  unfold GH
  by_cases c : fst64 o s q ≤ d
  · rw [if_pos ⟨c, by omega⟩, ya_ne_m1 (by omega)]
    exact ⟨False.elim, fun z => by omega⟩
  · rw [if_neg (fun z => c z.1)]
    exact ⟨fun _ => by omega, fun _ => rfl⟩
def gqF (G : Nat → Int32) (o : Nat → Bool) (d : Nat) (c : Nat → Bool) (q : Nat) : Int32 := if G q = -1 ∧ o q = true ∧ c q = true then nI (d + 1) else G q
def Lay (M : zMem) (G : Nat → Int32) (o : Nat → Bool) (d : Nat) (y : zMem) (l : Int32) (c : Nat → Bool) : Prop :=
  (∀ q, q < 64 → y.1 474 q = gqF G o d c q) ∧ ((l = 0 ∧ ∀ q, q < 64 → ¬ (G q = -1 ∧ o q = true ∧ c q = true)) ∨ (l = 1 ∧ ∃ q, q < 64 ∧ G q = -1 ∧ o q = true ∧ c q = true)) ∧ frM 474 M y
theorem Lay.congr {M y : zMem} {G : Nat → Int32} {o c c' : Nat → Bool} {d : Nat} {l : Int32} (h : Lay M G o d y l c) (e : ∀ q, q < 64 → G q = -1 → o q = true → c' q = c q) : Lay M G o d y l c' := by
  obtain ⟨h1, h2, h3⟩ := h
  refine ⟨fun q hq => ?_, ?_, h3⟩
  · rw [h1 q hq]
    unfold gqF
    by_cases a : G q = -1 ∧ o q = true
    · rw [e q hq a.1 a.2]
    · rw [if_neg (fun z => a ⟨z.1, z.2.1⟩), if_neg (fun z => a ⟨z.1, z.2.1⟩)]
  · rcases h2 with ⟨h4, h5⟩ | ⟨h4, q, hq, h5, h6, h7⟩
    · exact Or.inl ⟨h4, fun q hq z => h5 q hq ⟨z.1, z.2.1, by rw [← e q hq z.1 z.2.1]; exact z.2.2⟩⟩
    · exact Or.inr ⟨h4, q, hq, h5, h6, by rw [e q hq h5 h6]; exact h7⟩
theorem Lay.put {M y : zMem} {G : Nat → Int32} {o c : Nat → Bool} {d q : Nat} {l : Int32} (h : Lay M G o d y l c) (hd : d ≤ 63) (hq : q < 64) (ho : o q = true) :
    (y.1 474 q = -1 → Lay M G o d (zI y 474 q (nI (d + 1))) 1 (fun z => c z || decide (z = q))) ∧ (y.1 474 q ≠ -1 → Lay M G o d y l (fun z => c z || decide (z = q))) := by
  constructor
  · intro hy
    have hg : G q = -1 := by
      rw [h.1 q hq] at hy
      unfold gqF at hy
      by_cases a : G q = -1 ∧ o q = true ∧ c q = true
      · exact a.1
      · rw [if_neg a] at hy; exact hy
    have yes : (fun z => c z || decide (z = q)) q = true := by
      show (c q || decide (q = q)) = true
      rw [decide_eq_true rfl, Bool.or_true]
    refine ⟨fun z hz => ?_, Or.inr ⟨rfl, q, hq, hg, ho, yes⟩, h.2.2.trans frM.set⟩
    rw [zI_1]
    by_cases e : z = q
    · rw [e, upd_s]
      unfold gqF
      rw [if_pos ⟨hg, ho, yes⟩]
    · rw [upd_n e, h.1 z hz]
      show (if G z = -1 ∧ o z = true ∧ c z = true then nI (d + 1) else G z) = if G z = -1 ∧ o z = true ∧ (c z || decide (z = q)) = true then nI (d + 1) else G z
      rw [decide_eq_false e, Bool.or_false]
  · intro hy
    refine h.congr (fun z hz hg _ => ?_)
    by_cases e : z = q
    · rw [h.1 q hq] at hy
      unfold gqF at hy
      rw [e] at hg
      by_cases a : G q = -1 ∧ o q = true ∧ c q = true
      · rw [e, a.2.2]; rfl
      · rw [if_neg a] at hy; exact absurd hg hy
    · rw [decide_eq_false e, Bool.or_false]
theorem m_withI {m : zMem} {e : PL} (hp : RMp m e) (he : okPL e) {a b : Int} (ha : -100 ≤ a ∧ a ≤ 100) (hb : -100 ≤ b ∧ b ≤ 100) : F_X10_isWithin m (iI a) (iI b) = some (bI (decide (0 ≤ a ∧ a < pW e ∧ 0 ≤ b ∧ b < pH e)), m) := by
  obtain ⟨e1, e2, e3, e4, _⟩ := he
  rw [m_isWithin hp ⟨e1, e2, e3, e4, by assumption⟩]
  have h1 : ∀ c : Int, -100 ≤ c → c ≤ 100 → ∀ n : Nat, 1 ≤ n → n ≤ 8 → (decide ((0 : Int32) ≤ iI c) && decide (iI c ≤ nI (n - 1))) = decide (0 ≤ c ∧ c < n) := fun c c1 c2 n n1 n2 => by
    rw [show (0 : Int32) = iI 0 from rfl, iI_nat]
    rw [Bool.eq_iff_iff, Bool.and_eq_true, decide_eq_true_eq, decide_eq_true_eq, decide_eq_true_eq, iI_le (by omega) (by omega) (by omega) (by omega), iI_le (by omega) (by omega) (by omega) (by omega)]
    omega
  rw [h1 a ha.1 ha.2 _ e1 e2, h1 b hb.1 hb.2 _ e3 e4]
  congr 2
  congr 1
  rw [Bool.eq_iff_iff, Bool.and_eq_true, decide_eq_true_eq, decide_eq_true_eq, decide_eq_true_eq]
  omega
theorem adj_in {e : PL} (he : okPL e) {p j q : Nat} (hj : j < 4) (hp : p < 64) : (adjJ p j q = true ∧ inW e q = true) ↔ ((0 ≤ ((p % 8 : Nat) : Int) + dE (2 * j) ∧ ((p % 8 : Nat) : Int) + dE (2 * j) < pW e ∧ 0 ≤ ((p / 8 : Nat) : Int) + dS (2 * j) ∧ ((p / 8 : Nat) : Int) + dS (2 * j) < pH e) ∧ (q : Int) = 8 * (((p / 8 : Nat) : Int) + dS (2 * j)) + (((p % 8 : Nat) : Int) + dE (2 * j))) := by
  obtain ⟨e1, e2, e3, e4, _⟩ := he
  unfold inW
  rw [Bool.and_eq_true, decide_eq_true_eq, decide_eq_true_eq]
  have : j = 0 ∨ j = 1 ∨ j = 2 ∨ j = 3 := by omega
  rcases this with rfl | rfl | rfl | rfl
  · rw [show adjJ p 0 q = decide (q = p + 8) from rfl, decide_eq_true_eq, show dE (2 * 0) = 0 from rfl, show dS (2 * 0) = 1 from rfl]
    omega
  · rw [show adjJ p 1 q = decide (0 < p % 8 ∧ q + 1 = p) from rfl, decide_eq_true_eq, show dE (2 * 1) = -1 from rfl, show dS (2 * 1) = 0 from rfl]
    omega
  · rw [show adjJ p 2 q = decide (q + 8 = p) from rfl, decide_eq_true_eq, show dE (2 * 2) = 0 from rfl, show dS (2 * 2) = -1 from rfl]
    omega
  · rw [show adjJ p 3 q = decide (p % 8 < 7 ∧ q = p + 1) from rfl, decide_eq_true_eq, show dE (2 * 3) = 1 from rfl, show dS (2 * 3) = 0 from rfl]
    omega
theorem m_spreads {m : zMem} {e : PL} {u : Nat → Nat} {s : Nat} (hp : RMp m e) (he : okPL e) (hr : RMr m u 451) (hv : okV u) (hs : s < 64) (hi : inW e s = true) :
    ∃ y, F_X10_spreads m (nI s) = some y ∧ (∀ q, q < 64 → y.1 474 q = FIN (opP e u) s q) ∧ frM 474 m y := by
  have hw : wp (F_X10_spreads m (nI s)) (fun y => (∀ q, q < 64 → y.1 474 q = FIN (opP e u) s q) ∧ frM 474 m y) := by
    generalize ho : opP e u = o
    have ho2 : ∀ q, o q = (inW e q && decide (u q = 0)) := fun q => by rw [← ho]; rfl
    unfold F_X10_spreads
    refine loopN (F_X10_spreads_2 _) (fun g k (y : zMem) => g (nI s) (nI k) y) 64 (fun k y => (∀ q, q < k → y.1 474 q = if RR o s 0 q = true then 0 else -1) ∧ frM 474 m y) _ (fun g k y hk hI ih => ?_) (fun g y hI => ?_) (k := 0) (s := m) (by omega) ⟨fun q hq => absurd hq (Nat.not_lt_zero _), frM.refl⟩ (by omega)
    · obtain ⟨i1, i2⟩ := hI
      try dsimp only at i1 i2 ih ⊢
      have r' := i2.r (d := 451) (by omega) (by omega) (by omega) hr
      have b1 := hv k (by omega)
      have put : ∀ v : Int32, v = (if (decide (k = s) && o k) = true then 0 else -1) → wp (gin (nI k) 64 (g (nI s) (nI k + 1) (zI y 474 (nI k).toNatClampNeg v))) (fun y => (∀ q, q < 64 → y.1 474 q = FIN o s q) ∧ frM 474 m y) := fun v hv => by
        rw [gin_ok hk (by decide), nI_clamp (by omega), nI_1]
        refine ih _ ⟨fun q hq => ?_, i2.trans frM.set⟩
        rw [zI_1]
        by_cases c : q = k
        · rw [c, upd_s, hv]; rfl
        · rw [upd_n c]; exact i1 q (by omega)
      unfold F_X10_spreads_2 F_X10_spreads_33 F_X10_spreads_34
      rw [show (64 : Int32) = nI 64 from rfl, ile (by omega) (by omega), if_neg (by omega), ieq (by omega) (by omega), zl_eq, zl_eq]
      by_cases c : k = s
      · rw [if_pos c, show (0 : Int32) + nI k = nI (0 + k) from nI_add 0 k, Nat.zero_add, gin_ok (by omega) (by decide), nI_clamp (by omega), r' k (by omega), ie0 (by omega)]
        by_cases z : u k = 0
        · rw [if_pos z]
          have h := put 0 (by rw [if_pos (show (decide (k = s) && o k) = true by rw [decide_eq_true c, ho2, c, hi, ← c, decide_eq_true z]; rfl)])
          rw [nI_clamp (by omega)] at h
          exact h
        · rw [if_neg z]
          have h := put (-1) (by rw [if_neg (show ¬ (decide (k = s) && o k) = true by rw [ho2, decide_eq_false z, Bool.and_false, Bool.and_false]; decide)])
          rw [nI_clamp (by omega)] at h
          exact h
      · rw [if_neg c]
        exact put (-1) (by rw [if_neg (show ¬ (decide (k = s) && o k) = true by rw [decide_eq_false c]; exact fun z => by cases z)])
    · obtain ⟨i1, i2⟩ := hI
      try dsimp only at i1 i2 ⊢
      unfold F_X10_spreads_2
      rw [show (64 : Int32) = nI 64 from rfl, if_pos (Int32.le_refl _)]
      -- a level that is done
      have done : ∀ d y, (∀ q, q < 64 → y.1 474 q = GH o s d q) → (∀ q, q < 64 → ¬ (fst64 o s q = d ∧ d ≤ 63)) → frM 474 m y → (∀ q, q < 64 → y.1 474 q = FIN o s q) ∧ frM 474 m y := fun d y h1 h2 h3 => by
        refine ⟨fun q hq => ?_, h3⟩
        rw [h1 q hq]
        unfold GH FIN
        by_cases c : fst64 o s q ≤ 63
        · by_cases c2 : fst64 o s q ≤ d
          · rw [if_pos ⟨c2, c⟩, if_pos c]
          · obtain ⟨p, p1, p2⟩ := f64_level (o := o) (s := s) hq c (fst64 o s q - d) (by omega)
            exact absurd (show fst64 o s p = d ∧ d ≤ 63 by omega) (h2 p p1)
        · rw [if_neg (fun z => c z.2), if_neg c]
      refine loopN (F_X10_spreads_45 _) (fun g d (t : Int32 × zMem) => g t.1 (nI d) t.2) 64 (fun d t => (∀ q, q < 64 → t.2.1 474 q = GH o s d q) ∧ ((t.1 = 0 ∧ ∀ q, q < 64 → ¬ (fst64 o s q = d ∧ d ≤ 63)) ∨ (t.1 = 1 ∧ (d = 0 ∨ ∃ q, q < 64 ∧ fst64 o s q = d ∧ d ≤ 63))) ∧ frM 474 m t.2) _ (fun g d t hd hI ih => ?_) (fun g t hI => ?_) (k := 0) (s := ((1 : Int32), y)) (by omega) ⟨fun q hq => ?_, Or.inr ⟨rfl, Or.inl rfl⟩, i2⟩ (by omega)
      · obtain ⟨l, y⟩ := t
        obtain ⟨j1, j2, j3⟩ := hI
        try dsimp only at j1 j2 j3 ih ⊢
        unfold F_X10_spreads_45
        rcases j2 with ⟨rfl, j2⟩ | ⟨rfl, j2⟩
        · rw [if_pos rfl, wp_some]
          exact done d y j1 j2 j3
        · rw [if_neg (by decide)]
          refine loopN (F_X10_spreads_54 _ _) (fun g2 p (t : Int32 × zMem) => g2 t.1 (nI d) (nI p) t.2) 64 (fun p t => Lay m (GH o s d) o d t.2 t.1 (fun q => anyN (fun p => decide (fst64 o s p = d) && adj p q) p)) _ (fun g2 p t hp2 hI2 ih2 => ?_) (fun g2 t hI2 => ?_) (k := 0) (s := ((0 : Int32), y)) (by omega) ⟨fun q hq => ?_, Or.inl ⟨rfl, fun q hq z => by cases z.2.2⟩, j3⟩ (by omega)
          · obtain ⟨l, y⟩ := t
            try dsimp only at hI2 ih2 ⊢
            unfold F_X10_spreads_54 F_X10_spreads_184
            rw [show (64 : Int32) = nI 64 from rfl, ile (by omega) (by omega), if_neg (by omega), gin_ok hp2 (by decide), nI_clamp (by omega), hI2.1 p hp2, nI_1]
            have hf64 := f64_le (o := o) (s := s) (q := p)
            have hchk : gqF (GH o s d) o d (fun q => anyN (fun p => decide (fst64 o s p = d) && adj p q) p) p = nI d ↔ fst64 o s p = d := by
              unfold gqF
              by_cases c : GH o s d p = -1
              · have c2 := (GH_n (by omega)).mp c
                split
                · rw [nI_eq (by omega) (by omega)]; omega
                · rw [c, eq_comm, ya_ne_m1 (by omega)]; exact ⟨False.elim, fun z => by omega⟩
              · rw [if_neg (fun z => c z.1)]
                have c2 : ¬ d < fst64 o s p := fun z => c ((GH_n (by omega)).mpr z)
                unfold GH
                rw [if_pos ⟨by omega, by omega⟩, nI_eq (by omega) (by omega)]
            by_cases c : fst64 o s p = d
            · rw [if_pos (hchk.mpr c)]
              refine loopN (F_X10_spreads_78 _ _ _) (fun g3 j (t : Int32 × zMem) => g3 t.1 (nI d) (nI p) (nI (2 * j)) t.2) 4 (fun j t => Lay m (GH o s d) o d t.2 t.1 (fun q => anyN (fun p => decide (fst64 o s p = d) && adj p q) p || anyN (fun i => adjJ p i q) j)) _ (fun g3 j t hj hI3 ih3 => ?_) (fun g3 t hI3 => ?_) (k := 0) (s := (l, y)) (by omega) (hI2.congr (fun q _ _ _ => Bool.or_false _)) (by omega)
              · obtain ⟨l, y⟩ := t
                try dsimp only at hI3 ih3 ⊢
                have p' := hI3.2.2.p (e := e) (by omega) he hp
                have r' := hI3.2.2.r (d := 451) (by omega) (by omega) (by omega) hr
                have b1 := dE_b (2 * j)
                have b2 := dS_b (2 * j)
                have hai := fun q => adj_in he (q := q) hj hp2
                unfold F_X10_spreads_78 F_X10_spreads_178
                rw [show (8 : Int32) = nI 8 from rfl, ile (by omega) (by omega), if_neg (by omega), m_eastOf y (by omega), zb_some]
                dsimp only
                rw [zl_eq, m_southOf y (by omega), zb_some]
                dsimp only
                rw [zl_eq, show nI p - nI p / nI 8 * nI 8 = nI (p % 8) from ya_rem8 (by omega), show nI p / nI 8 = nI (p / 8) from ya_div8 (by omega), iI_nat (p % 8), iI_nat (p / 8), iI_add, iI_add]
                generalize htx : ((p % 8 : Nat) : Int) + dE (2 * j) = tx at hai
                generalize hty : ((p / 8 : Nat) : Int) + dS (2 * j) = ty at hai
                rw [m_withI p' he (by omega) (by omega), zb_some]
                dsimp only
                rw [ibI, show nI (2 * j) + 2 = nI (2 * (j + 1)) from by rw [show (2 : Int32) = nI 2 from rfl, nI_add]; rfl]
                by_cases cw : 0 ≤ tx ∧ tx < pW e ∧ 0 ≤ ty ∧ ty < pH e
                · have e2 := he.2.1
                  have e4 := he.2.2.2.1
                  have hq : ∃ q : Nat, (q : Int) = 8 * ty + tx ∧ q < 64 := ⟨(8 * ty + tx).toNat, by omega, by omega⟩
                  obtain ⟨q, hq1, hq2⟩ := hq
                  have hadj := (hai q).mpr ⟨cw, hq1⟩
                  have huq : ∀ z, z < 64 → o z = true → adjJ p j z = decide (z = q) := fun z hz hoz => by
                    rw [Bool.eq_iff_iff, decide_eq_true_eq]
                    constructor
                    · intro h1
                      rw [ho2, Bool.and_eq_true] at hoz
                      have := ((hai z).mp ⟨h1, hoz.1⟩).2
                      omega
                    · intro h1; rw [h1]; exact hadj.1
                  have b3 := hv q (by omega)
                  have cg : ∀ z, z < 64 → GH o s d z = -1 → o z = true → (anyN (fun p => decide (fst64 o s p = d) && adj p z) p || anyN (fun i => adjJ p i z) (j + 1)) = ((anyN (fun p => decide (fst64 o s p = d) && adj p z) p || anyN (fun i => adjJ p i z) j) || decide (z = q)) := fun z hz _ hoz => by
                    rw [anyN_succ, huq z hz hoz, Bool.or_assoc]
                  have e8 : 8 * ty.toNat + tx.toNat = q := by omega
                  have e9 : nI 8 * nI ty.toNat + nI tx.toNat = nI q := by rw [pk_mul, nI_add, e8]
                  have e0 : (0 : Int32) + nI 8 * nI ty.toNat + nI tx.toNat = nI q := by rw [ya_0, pk_mul, nI_add, nI_add, Nat.zero_add, e8]
                  rw [decide_eq_true cw, if_neg (by decide), iI_pos cw.1, iI_pos cw.2.2.1, e0, e9, gin_ok (by omega) (by decide), gin_ok hq2 (by decide), nI_clamp (by omega), r' q (by omega)]
                  by_cases cu : 0 < u q
                  · rw [if_pos (by rw [ya_0, nI_ltI (by omega) (by omega)]; exact cu)]
                    refine ih3 (l, y) (hI3.congr (fun z hz hg hoz => ?_))
                    rw [cg z hz hg hoz, decide_eq_false (fun c => by rw [c, ho2, decide_eq_false (by omega), Bool.and_false] at hoz; cases hoz), Bool.or_false]
                  · have hoq : o q = true := by rw [ho2, hadj.2, decide_eq_true (by omega)]; rfl
                    have hput := hI3.put (by omega) hq2 hoq
                    rw [if_neg (by rw [ya_0, nI_ltI (by omega) (by omega)]; exact cu)]
                    by_cases cy : y.1 474 q = -1
                    · rw [if_pos cy, zl_eq, nI_1]
                      exact ih3 (_, _) ((hput.1 cy).congr cg)
                    · rw [if_neg cy]
                      exact ih3 (l, y) ((hput.2 cy).congr cg)
                · rw [decide_eq_false cw, if_pos rfl]
                  refine ih3 (l, y) (hI3.congr (fun z hz hg hoz => ?_))
                  rw [anyN_succ]
                  have : adjJ p j z = false := by
                    cases ha : adjJ p j z
                    · rfl
                    · rw [ho2, Bool.and_eq_true] at hoz
                      exact absurd ((hai z).mp ⟨ha, hoz.1⟩).1 cw
                  rw [this, Bool.or_false]
              · obtain ⟨l, y⟩ := t
                try dsimp only at hI3 ⊢
                unfold F_X10_spreads_78 F_X10_spreads_184
                rw [if_pos (show (8 : Int32) ≤ nI (2 * 4) by decide), nI_1]
                refine ih2 (l, y) (hI3.congr (fun q _ _ _ => ?_))
                rw [anyN_succ, decide_eq_true c, Bool.true_and]; rfl
            · rw [if_neg (fun z => c (hchk.mp z))]
              refine ih2 (l, y) (hI2.congr (fun q _ _ _ => ?_))
              rw [anyN_succ, decide_eq_false c, Bool.false_and, Bool.or_false]
          · obtain ⟨l, y⟩ := t
            try dsimp only at hI2 ⊢
            obtain ⟨k1, k2, k3⟩ := hI2
            unfold F_X10_spreads_54
            rw [show (64 : Int32) = nI 64 from rfl, if_pos (Int32.le_refl _), nI_1]
            have key : ∀ q, q < 64 → ((GH o s d q = -1 ∧ o q = true ∧ anyN (fun p => decide (fst64 o s p = d) && adj p q) 64 = true) ↔ (fst64 o s q = d + 1 ∧ d + 1 ≤ 63)) := fun q hq => by
              rw [GH_n (by omega)]
              constructor
              · rintro ⟨h1, h2, h3⟩
                obtain ⟨p, h4, h5⟩ := anyN_iff.mp h3
                rw [Bool.and_eq_true, decide_eq_true_eq] at h5
                exact (f64_s hq (by omega) h1).mpr ⟨h2, p, h4, h5.1, h5.2⟩
              · intro h1
                have h0 : d < fst64 o s q := by omega
                obtain ⟨h2, p, h3, h4, h5⟩ := (f64_s hq (by omega) h0).mp h1
                exact ⟨h0, h2, anyN_iff.mpr ⟨p, h3, by rw [decide_eq_true h4, h5]; rfl⟩⟩
            refine ih (l, y) ⟨fun q hq => ?_, ?_, k3⟩
            · rw [k1 q hq]
              unfold gqF
              by_cases c : fst64 o s q = d + 1 ∧ d + 1 ≤ 63
              · rw [if_pos ((key q hq).mpr c)]
                unfold GH
                rw [if_pos ⟨by omega, by omega⟩, c.1]
              · rw [if_neg (fun z => c ((key q hq).mp z))]
                unfold GH
                by_cases c2 : fst64 o s q ≤ d ∧ fst64 o s q ≤ 63
                · rw [if_pos c2, if_pos ⟨by omega, c2.2⟩]
                · rw [if_neg c2, if_neg (fun z => by omega)]
            · rcases k2 with ⟨k4, k5⟩ | ⟨k4, q, k5, k6⟩
              · refine Or.inl ⟨k4, fun q hq z => ?_⟩
                exact k5 q hq ((key q hq).mpr z)
              · exact Or.inr ⟨k4, Or.inr ⟨q, k5, ((key q k5).mp k6).1, ((key q k5).mp k6).2⟩⟩
          · unfold gqF
            rw [if_neg (fun z => by cases z.2.2)]
            exact j1 q hq
      · obtain ⟨l, y⟩ := t
        obtain ⟨j1, j2, j3⟩ := hI
        try dsimp only at j1 j2 j3 ⊢
        unfold F_X10_spreads_45
        rcases j2 with ⟨rfl, j2⟩ | ⟨rfl, j2⟩
        · rw [if_pos rfl, wp_some]
          exact done 64 y j1 j2 j3
        · exfalso
          rcases j2 with j2 | ⟨q, _, _, j2⟩ <;> omega
      · dsimp only
        rw [i1 q hq]
        unfold GH
        have h1 := f64_iff (o := o) (s := s) (q := q) (k := 0) hq (by omega)
        by_cases c : RR o s 0 q = true
        · have h2 := h1.mpr c
          rw [if_pos c, if_pos ⟨h2, by omega⟩, show fst64 o s q = 0 by omega]; rfl
        · rw [if_neg c, if_neg (fun z => c (h1.mp z.1))]
  exact hw
