/-! bits of an int -/
def ib (x : Int32) (p : Nat) : Bool := x.toBitVec.getLsbD p
theorem ib_ext {x y : Int32} (h : ∀ p, p < 32 → ib x p = ib y p) : x = y := Int32.toBitVec_inj.mp (BitVec.eq_of_getLsbD_eq fun i hi => h i hi)
theorem ib_or (x y : Int32) (p : Nat) : ib (x ||| y) p = (ib x p || ib y p) := by
  unfold ib
  rw [Int32.toBitVec_or, BitVec.getLsbD_or]
theorem ib_0 (p : Nat) : ib 0 p = false := by
  show (0#32).getLsbD p = false
  simp
theorem ib_sh : ∀ k, k < 32 → ((1 : Int32) <<< (nI k &&& 31)).toBitVec = BitVec.twoPow 32 k := by decide +kernel
theorem ib_bit {k q : Nat} (hk : k < 32) (hq : q < 32) : ib ((1 : Int32) <<< (nI k &&& 31)) q = decide (q = k) := by
  unfold ib
  rw [ib_sh k hk, BitVec.getLsbD_twoPow]
  by_cases e : k = q
  · subst e; simp [hk]
  · have : ¬ q = k := fun z => e z.symm
    simp [e, this]
/-- a row of bits, as it is made one by one -/
def rowB (f : Nat → Bool) (W : Nat) : Int32 := fN (fun x b => b ||| (if f x then (1 : Int32) <<< (nI x &&& 31) else 0)) 0 W
theorem rowB_succ (f : Nat → Bool) (W : Nat) : rowB f (W + 1) = (rowB f W ||| (if f W then (1 : Int32) <<< (nI W &&& 31) else 0)) := rfl
theorem ib_row (f : Nat → Bool) {q : Nat} (hq : q < 32) : ∀ {W}, W ≤ 32 → ib (rowB f W) q = (decide (q < W) && f q)
  | 0, _ => by
    show ib 0 q = _
    rw [ib_0]; simp
  | W + 1, h => by
    have ih := ib_row f hq (W := W) (by omega)
    rw [rowB_succ, ib_or, ih]
    by_cases e : q = W
    · subst e
      cases hf : f q
      · rw [if_neg (by simp), ib_0]; simp
      · rw [if_pos rfl, ib_bit hq hq]; simp
    · have h2 : decide (q < W + 1) = decide (q < W) := by
        by_cases h : q < W
        · simp [h, Nat.lt_succ_of_lt h]
        · have : ¬ q < W + 1 := by omega
          simp [h, this]
      rw [h2]
      cases hf : f W
      · rw [if_neg (by simp), ib_0]; simp
      · rw [if_pos rfl, ib_bit (by omega) hq]; simp [e]
theorem x_rowOf (x : zMem) (m : Int64) {y : Nat} (hy : y < 8) : ∃ v, F_X9_rowOf x m (nI y) = some (v, x) ∧ ∀ q, q < 32 → ib v q = (decide (q < 8) && tb m (8 * y + q)) := by
  refine ⟨_, rfl, fun q hq => ?_⟩
  rw [show (8 : Int32) = nI 8 from rfl, pk_mul]
  have h1 : ∀ z : Int64, ib z.toInt32 q = tb z q := fun z => by
    show (z.toBitVec.signExtend 32).getLsbD q = z.toBitVec.getLsbD q
    rw [BitVec.signExtend_eq_setWidth_of_le _ (by decide), BitVec.getLsbD_setWidth]
    simp [hq]
  rw [h1, tb_and, tb_shr m q (by omega)]
  have h2 : tb 255 q = decide (q < 8) := by
    show (255#64).getLsbD q = _
    have : ∀ q, q < 32 → (255#64).getLsbD q = decide (q < 8) := by decide +kernel
    exact this q hq
  rw [h2, Nat.mul_comm y 8, Bool.and_comm]
/-! pan -/
theorem same_np {e : PL} {x m : zMem} {S : SS} {pl r n : Nat} {a b : Int32} {T : Nat → Nat → Prop} {ox : Option (Nat × Int32 × zMem)} {om : Option (Int32 × zMem)} (h : RXn x S pl r n) (hM1 : RMn (zI m 0 0 0) S) (ok : okS S) (hT : T 2 1)
    (e1 : ox = some (2, 0, zI x 0 16 (x.1 0 16 + 1))) (e2 : om = some (0, zI (zI (zI m 0 0 0) 0 0 (nI 1)) 2 0 ((zI m 0 0 0).1 2 0 + 1))) : same T ox om :=
  same_0 (t := 1) h hM1 ok hT frQ.refl frN.refl e1 e2
theorem q_pan {x m : zMem} {S : SS} (a b c : Int32) (hX : RXo x S) (hM : RMn m S) (ok : okS S) : same T3 (F_X9_pan x a b c) (F_X10_pan m a b c) := by
  obtain ⟨pl, r, n, h⟩ := hX
  have hM1 := hM.t ok
  have he := ok.1
  have hn := he.2.2.2.2.1
  have hv := ok.u
  have e2 := he.2.1
  have e4 := he.2.2.2.1
  have gp : ∀ o : Option (Nat × Int32 × zMem), gd (shX pl == 6) o = o := fun o => gd_ok (sX_p h.1.2.2.2.2.1)
  rcases plc he a b with ⟨i, j, hi, hj, rfl, rfl⟩ | hb
  · have hp : 8 * j + i < 64 := by omega
    have hin := inW_of he hi hj
    generalize hpp : 8 * j + i = p at hp hin
    rcases ya_rng c (b := 6) (by decide) with ⟨k, hk, rfl⟩ | hc
    · have f : ∀ v, F_X9_pan x (nI i) (nI j) (nI k) = some (0, v, x) → F_X10_pan m (nI i) (nI j) (nI k) = some (v, zI m 0 0 0) → same T3 (F_X9_pan x (nI i) (nI j) (nI k)) (F_X10_pan m (nI i) (nI j) (nI k)) := fun v h1 h2 => same_q h hM1 ok (Or.inl ⟨rfl, rfl⟩) h1 frQ.refl h2 frN.refl t0_0
      have eX : F_X9_pan x (nI i) (nI j) (nI k) = F_X9_pan_22 (nI i) (nI j) (nI k) (nI i) (nI j) (nI k) 1 x := by
        unfold F_X9_pan
        rw [x_npY h.1 he hi hj, zbx_0, if_neg (nI_pos (by omega)), show (6 : Int32) = nI 6 from rfl, ilt (by omega) (by omega), if_neg (by omega)]
      have eM : F_X10_pan m (nI i) (nI j) (nI k) = F_X10_pan_44 (nI i) (nI j) (nI k) (nI i) (nI j) (nI k) 0 (zI m 0 0 0) := by
        unfold F_X10_pan
        rw [zl_eq, m_iwY hM1.1 he hi hj, zb_some]
        dsimp only
        rw [if_neg (by decide)]
        unfold F_X10_pan_20
        rw [m_bad0 t0_0, zb_some]
        dsimp only
        rw [if_pos rfl, show F_X10_in (zI m 0 0 0) (nI k) (0 : Int32) (6 : Int32) = some (1, zI m 0 0 0) from m_inY _ (Nat.zero_le k) hk (by decide), zb_some]
        dsimp only
        rw [if_neg (by decide)]
      rw [eX, eM] at f ⊢
      unfold F_X9_pan_22 F_X10_pan_44 at f ⊢
      rw [x_need1, zbx_0, x_placeOf, zb_some, m_bad0 t0_0, zb_some, show (8 : Int32) * nI j + nI i = nI (8 * j + i) from by rw [show (8 : Int32) = nI 8 from rfl, pk_mul, nI_add], hpp] at f ⊢
      dsimp only at f ⊢
      rw [if_pos rfl, zl_eq] at f ⊢
      have : k = 0 ∨ k = 1 ∨ k = 2 ∨ k = 3 ∨ k = 4 ∨ k = 5 ∨ k = 6 := by omega
      rcases this with rfl | rfl | rfl | rfl | rfl | rfl | rfl
      · refine f (nI ((sN S).2.1 p)) ?_ ?_
        · show F_X9_pan_80 (nI i) (nI j) (nI 0) (nI p) x = _
          unfold F_X9_pan_80
          rw [gin_ok hp (by decide), nI_clamp (by omega), (h.u.1 p hp).1]
        · show F_X10_pan_100 (nI i) (nI j) (nI 0) (nI p) (zI m 0 0 0) = _
          unfold F_X10_pan_100
          rw [show (0 : Int32) + nI p = nI (0 + p) from nI_add 0 p, gin_ok (by omega) (by decide), nI_clamp (by omega), hM1.u _ (by omega), Nat.zero_add]
      · refine f (nI ((sN S).2.1 (64 + p))) ?_ ?_
        · show F_X9_pan_89 (nI i) (nI j) (nI 1) (nI p) x = _
          unfold F_X9_pan_89
          rw [gin_ok hp (by decide), nI_clamp (by omega), (h.u.1 p hp).2.1]
        · show F_X10_pan_110 (nI i) (nI j) (nI 1) (nI p) (zI m 0 0 0) = _
          unfold F_X10_pan_110
          rw [show (64 : Int32) + nI p = nI (64 + p) from nI_add 64 p, gin_ok (by omega) (by decide), nI_clamp (by omega), hM1.u _ (by omega)]
      · refine f (nI (strS (sN S).2.1 p)) ?_ ?_
        · show F_X9_pan_98 (nI i) (nI j) (nI 2) (nI p) x = _
          have b1 := hv.1 p (by omega)
          have b2 := hv.1 (64 + p) (by omega)
          unfold F_X9_pan_98
          rw [gin_ok hp (by decide), nI_clamp (by omega), (h.u.1 p hp).1, (h.u.1 p hp).2.1, x_strengthOf x (by omega) (by omega), zb_some]; rfl
        · show F_X10_pan_121 (nI i) (nI j) (nI 2) (nI p) (zI m 0 0 0) = _
          unfold F_X10_pan_121
          rw [m_strength hM1.u hv.1 hp, zb_some]
      · refine f (nI ((sN S).2.1 (128 + p))) ?_ ?_
        · show F_X9_pan_118 (nI i) (nI j) (nI 3) (nI p) x = _
          unfold F_X9_pan_118
          rw [gin_ok hp (by decide), nI_clamp (by omega), (h.u.1 p hp).2.2]
        · show F_X10_pan_131 (nI i) (nI j) (nI 3) (nI p) (zI m 0 0 0) = _
          unfold F_X10_pan_131
          rw [show (128 : Int32) + nI p = nI (128 + p) from nI_add 128 p, gin_ok (by omega) (by decide), nI_clamp (by omega), hM1.u _ (by omega)]
      · have b3 := hv.1 (128 + p) (by omega)
        refine f (nI (hgt ((sN S).2.1 (128 + p)))) ?_ ?_
        · show F_X9_pan_127 (nI i) (nI j) (nI 4) (nI p) x = _
          unfold F_X9_pan_127
          rw [gin_ok hp (by decide), nI_clamp (by omega), (h.u.1 p hp).2.2, x_heightOf x (by omega), zb_some]
        · show F_X10_pan_143 (nI i) (nI j) (nI 4) (nI p) (zI m 0 0 0) = _
          unfold F_X10_pan_143
          rw [show (128 : Int32) + nI p = nI (128 + p) from nI_add 128 p, gin_ok (by omega) (by decide), nI_clamp (by omega), hM1.u _ (by omega), m_high _ (by omega), zb_some]
      · refine f (nI (sunS (sE S) (sN S).2.1 p)) ?_ ?_
        · show F_X9_pan_139 (nI i) (nI j) (nI 5) (nI p) x = _
          unfold F_X9_pan_139
          rw [x_sunOf h.1 he h.u hp hin, zb_some]
        · show F_X10_pan_158 (nI i) (nI j) (nI 5) (nI p) (zI m 0 0 0) = _
          unfold F_X10_pan_158
          rw [m_sunOf hM1.1 he hM1.u hv.1 hp, zb_some]
      · refine f (bI (decide (0 < pn (sE S)) && shd (sE S) (sN S).2.1 p ((sN S).2.1 193))) ?_ ?_
        · show F_X9_pan_146 (nI i) (nI j) (nI 6) (nI p) x = _
          unfold F_X9_pan_146 F_X9_shadeNow
          rw [h.1.2.2.1, gp, h.1.1.2.2.1, ya_0, ile (by omega) (by omega)]
          by_cases z : pn (sE S) ≤ 0
          · rw [if_pos z, decide_eq_false (by omega)]; rfl
          · have h3 : (sN S).2.1 193 < pn (sE S) := by have := hv.2.2; omega
            rw [if_neg z, decide_eq_true (by omega), h.u.2.2.2.1, x_shadeAt (by omega), zb_some]
            dsimp only
            rw [zb_some]
            dsimp only
            rw [x_has x _ hp, zb_some]
            dsimp only
            rw [← ya_0, ibI, h.u.2.2.2.2 _ h3 p hp, hin, Bool.true_and]
            cases shd (sE S) (sN S).2.1 p ((sN S).2.1 193) <;> rfl
        · show F_X10_pan_165 (nI i) (nI j) (nI 6) (nI p) (zI m 0 0 0) = _
          unfold F_X10_pan_165
          rw [hM1.1.2.2.1]
          by_cases z : pn (sE S) ≤ 0
          · rw [if_pos (by rw [ya_0, nI_leI (by omega) (by omega)]; exact z), decide_eq_false (by omega)]; rfl
          · have h3 : (sN S).2.1 193 < pn (sE S) := by have := hv.2.2; omega
            rw [if_neg (by rw [ya_0, nI_leI (by omega) (by omega)]; exact z), decide_eq_true (by omega), hM1.u 193 (by omega), m_isShade hM1.1 he hM1.u hv.1 hp h3, zb_some]
            dsimp only
            rw [ibI, Bool.true_and]
            cases shd (sE S) (sN S).2.1 p ((sN S).2.1 193) <;> rfl
    · refine same_1 (t := 2) h hM1 ok (Or.inr (Or.inr ⟨rfl, rfl⟩)) frQ.refl frN.refl (v := 0) (w := 0) ?_ ?_
      · unfold F_X9_pan
        rw [x_npY h.1 he hi hj, zbx_0]
        rcases hc with hc | hc
        · rw [if_pos hc]; rfl
        · split
          · rfl
          · rw [if_pos (show (6 : Int32) < c from hc)]; rfl
      · unfold F_X10_pan
        rw [zl_eq, m_iwY hM1.1 he hi hj, zb_some]
        dsimp only
        rw [if_neg (by decide)]
        unfold F_X10_pan_20
        rw [m_bad0 t0_0, zb_some]
        dsimp only
        rw [if_pos rfl, show F_X10_in (zI m 0 0 0) c (0 : Int32) (6 : Int32) = some (0, zI m 0 0 0) from m_inN _ hc, zb_some]
        dsimp only
        rw [if_pos rfl]
        unfold F_X10_pan_44
        rw [m_bad21 t0_0, zb_some]; rfl
  · refine same_0 (t := 1) h hM1 ok (Or.inr (Or.inl ⟨rfl, rfl⟩)) frQ.refl frN.refl (v := 0) (w := 0) ?_ ?_
    · unfold F_X9_pan
      rw [x_npN h.1 hb]; rfl
    · unfold F_X10_pan
      rw [zl_eq, m_iwN hM1.1 he hb, zb_some]
      dsimp only
      rw [if_pos rfl]
      unfold F_X10_pan_20
      rw [m_bad10 t0_0, zb_some]; rfl
