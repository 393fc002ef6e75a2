/-! the class' law -/
def L0 : LW := (5, fun k => [0, 1, 0, 5, 2].getD k 0, fun k => [10, 2, 4, 0, 0].getD k 0)
def LX (L : LW) : LW := if lk L = 0 then L0 else L
def enc (k v : Nat) : Nat := if k = 0 then v else if k = 1 then 1000 + v else 1006 + k
theorem okL0 : okL L0 := by
  refine ⟨by decide, fun k hk => ?_⟩
  have hk5 : k < 5 := hk
  have : k = 0 ∨ k = 1 ∨ k = 2 ∨ k = 3 ∨ k = 4 := by omega
  rcases this with rfl | rfl | rfl | rfl | rfl <;> decide
theorem okLX {L : LW} (ok : okL L) : okL (LX L) := by
  unfold LX
  split
  · exact okL0
  · exact ok
theorem rateLX (L : LW) (kn : Nat → Int32) : rateL (LX L) kn = rateL L kn := by
  unfold LX
  by_cases h : lk L = 0
  · rw [if_pos h]
    unfold rateL
    have e : rawL L kn = 10 + kn 2 / 4 := by unfold rawL; rw [if_pos h]
    rw [e]
    rfl
  · rw [if_neg h]
theorem x_join (M : zMem) {k : Nat} (h : k ≤ 8) (h2 : 2 ≤ k) (u v : Int32) : F_X3_join M (nI (1006 + k)) u v = some (opS k u v, M) := by
  have : k = 2 ∨ k = 3 ∨ k = 4 ∨ k = 5 ∨ k = 6 ∨ k = 7 ∨ k = 8 := by omega
  rcases this with rfl | rfl | rfl | rfl | rfl | rfl | rfl
  · rfl
  · rfl
  · rfl
  · show F_X3_join_52 (nI 1011) u v u v M = some (if v = 0 then 0 else u / v, M)
    unfold F_X3_join_52
    by_cases h0 : v = 0
    · rw [if_pos h0, if_pos h0]
    · rw [if_neg h0, if_neg h0, gd_ok (by simp [h0])]
  · show F_X3_join_64 (nI 1012) u v u v M = some (if v = 0 then 0 else u - u / v * v, M)
    unfold F_X3_join_64
    by_cases h0 : v = 0
    · rw [if_pos h0, if_pos h0]
    · rw [if_neg h0, if_neg h0, gd_ok (by simp [h0])]
  · show F_X3_join_76 (nI 1013) u v u v M = some (if v ≤ u then v else u, M)
    unfold F_X3_join_76 zmin
    by_cases h1 : v < u
    · rw [if_pos h1, if_pos (Int32.le_of_lt h1)]
    · rw [if_neg h1]
      by_cases h3 : v ≤ u
      · rw [if_pos h3]
        have : v = u := Int32.le_antisymm h3 (Int32.not_lt.mp h1)
        rw [this]
      · rw [if_neg h3]
  · show F_X3_join_82 (nI 1014) u v u v M = some (if u ≤ v then v else u, M)
    unfold F_X3_join_82 zmax
    by_cases h1 : u < v
    · rw [if_pos h1, if_pos (Int32.le_of_lt h1)]
    · rw [if_neg h1]
      by_cases h3 : u ≤ v
      · rw [if_pos h3]
        have : u = v := Int32.le_antisymm h3 (Int32.not_lt.mp h1)
        rw [this]
      · rw [if_neg h3]
theorem x_clamp (x : Int32) : zmax (0 : Int32) (zmin (99 : Int32) x) = nI (clampN x) := by
  have t99 : (99 : Int32).toInt = 99 := by decide
  have t0 : (0 : Int32).toInt = 0 := by decide
  unfold zmin
  by_cases h : x < 99
  · rw [if_pos h]
    rw [fa_lt, t99] at h
    unfold zmax clampN
    by_cases h2 : (0 : Int32) < x
    · rw [if_pos h2]
      rw [fa_lt, t0] at h2
      rw [fa_eq, nI_toInt (by omega)]
      omega
    · rw [if_neg h2]
      rw [fa_lt, t0] at h2
      rw [fa_eq, nI_toInt (by omega), t0]
      omega
  · rw [if_neg h]
    rw [fa_lt, t99] at h
    unfold zmax clampN
    rw [if_pos (by decide), fa_eq, t99, nI_toInt (by omega)]
    omega
/-- the class' memory holds a law at r -/
def RXl (x : zMem) (L : LW) (r : Nat) : Prop := x.1 r 3 = nI (lk (LX L)) ∧ ∀ k, k < lk (LX L) → x.1 (r + 1) k = nI (enc (lki (LX L) k) (lva (LX L) k))
/-- nothing changed but a law's stack and names, and some cells more -/
def frX (r : Nat) (S : Nat → Prop) (M M' : zMem) : Prop := (∀ a, a ≠ r + 2 → a ≠ r + 3 → ¬ S a → M'.1 a = M.1 a) ∧ (∀ a, ¬ S a → M'.2.1 a = M.2.1 a) ∧ M'.2.2 = M.2.2
theorem frX.refl {r : Nat} {S : Nat → Prop} {M : zMem} : frX r S M M := ⟨fun _ _ _ _ => rfl, fun _ _ => rfl, rfl⟩
theorem frX.trans {r : Nat} {S : Nat → Prop} {M M' M'' : zMem} (h : frX r S M M') (k : frX r S M' M'') : frX r S M M'' :=
  ⟨fun a h1 h2 h3 => (k.1 a h1 h2 h3).trans (h.1 a h1 h2 h3), fun a h3 => (k.2.1 a h3).trans (h.2.1 a h3), k.2.2.trans h.2.2⟩
theorem frX.wid {r : Nat} {S S' : Nat → Prop} {M M' : zMem} (h : frX r S M M') (w : ∀ a, S a → S' a) : frX r S' M M' := ⟨fun a h1 h2 h3 => h.1 a h1 h2 (fun z => h3 (w a z)), fun a h3 => h.2.1 a (fun z => h3 (w a z)), h.2.2⟩
theorem x_rate {M : zMem} {L : LW} {r : Nat} (hL : RXl M L r) (ok : okL L) (p0 p1 p2 p3 p4 p5 : Int32) {p : Nat} (hp : p < 64) :
    ∃ M', F_X3_rate M r p0 p1 p2 p3 p4 p5 (nI p) = some (nI (rateL L (kn8 p0 p1 p2 p3 p4 p5 (nI (p % 8)) (nI (p / 8)))), M') ∧ frX r (fun _ => False) M M' := by
  rw [← rateLX L]
  have okx := okLX ok
  unfold RXl at hL
  generalize hX : LX L = X at hL okx
  have hlk := okx.1
  unfold F_X3_rate
  simp only [zl_eq]
  rw [ya_rem8 (by omega), ya_div8 (by omega)]
  generalize hM : zI (zI (zI (zI (zI (zI (zI (zI M (r + 3) 0 p0) (r + 3) 1 p1) (r + 3) 2 p2) (r + 3) 3 p3) (r + 3) 4 p4) (r + 3) 5 p5) (r + 3) 6 (nI (p % 8))) (r + 3) 7 (nI (p / 8)) = M8
  have ha : ∀ a, a ≠ r + 3 → M8.1 a = M.1 a := by
    intro a h
    rw [← hM]
    simp only [zI_n h]
  have h2 : M8.2 = M.2 := by rw [← hM]; rfl
  generalize hkn : kn8 p0 p1 p2 p3 p4 p5 (nI (p % 8)) (nI (p / 8)) = kn
  have hk : ∀ i, i < 8 → M8.1 (r + 3) i = kn i := by
    intro i hi
    have : i = 0 ∨ i = 1 ∨ i = 2 ∨ i = 3 ∨ i = 4 ∨ i = 5 ∨ i = 6 ∨ i = 7 := by omega
    rw [← hM, ← hkn]
    simp only [zI_1]
    rcases this with rfl | rfl | rfl | rfl | rfl | rfl | rfl | rfl <;> rfl
  have hw : wp (itF (fun _ _ _ => none) (F_X3_rate_75 r p0 p1 p2 p3 p4 p5 (nI p)) zFuel (nI 0) (nI 0) M8) (fun q => q.1 = nI (rateL X kn) ∧ (∀ a, a ≠ r + 2 → q.2.1 a = M8.1 a) ∧ q.2.2 = M8.2) := by
    refine loopN (F_X3_rate_75 _ _ _ _ _ _ _ _) (fun f k (s : Int32 × zMem) => f s.1 (nI k) s.2) (lk X)
      (fun k s => s.1 = nI (htL X k) ∧ (∀ j, j < htL X k → s.2.1 (r + 2) j = (runL X kn k).2 j) ∧ (∀ a, a ≠ r + 2 → s.2.1 a = M8.1 a) ∧ s.2.2 = M8.2) _
      (fun f k s hk1 hI ih => ?_) (fun f s hI => ?_) (k := 0) (s := (nI 0, M8)) (by omega) ⟨rfl, fun j hj => absurd hj (Nat.not_lt_zero _), fun a _ => rfl, rfl⟩ (by omega)
    · obtain ⟨n, m⟩ := s
      obtain ⟨h1, hst, h4, h5⟩ := hI
      try dsimp only at h1 hst h4 h5 ih ⊢
      subst h1
      have hsz : m.1 r 3 = nI (lk X) := by rw [h4 r (by omega), ha r (by omega)]; exact hL.1
      have hco : m.1 (r + 1) k = nI (enc (lki X k) (lva X k)) := by rw [h4 _ (by omega), ha _ (by omega)]; exact hL.2 k hk1
      have hle := htL_le X k
      have okk := okx.2 k hk1
      have henc : enc (lki X k) (lva X k) ≤ 1014 := by
        unfold enc
        split
        · omega
        · split <;> omega
      unfold F_X3_rate_75
      rw [hsz, ile (by omega) (by omega), if_neg (by omega), ile (by omega) (by omega), if_neg (by omega), gin_ok (by omega) (by decide), nI_clamp (by omega), hco, zl_eq, show (1008 : Int32) = nI 1008 from rfl, ilt (by omega) (by omega)]
      by_cases hop : lki X k < 2
      · have hht : htL X (k + 1) = htL X k + 1 := by rw [htL_succ, if_pos hop]
        have hrun : runL X kn (k + 1) = ((runL X kn k).1 + 1, upd (runL X kn k).2 (runL X kn k).1 (if lki X k = 0 then nI (lva X k) else kn (lva X k))) := by
          show stepL X kn k (runL X kn k) = _
          unfold stepL
          rw [if_pos hop]
        have fin : ∀ v, v = (if lki X k = 0 then nI (lva X k) else kn (lva X k)) → wp (f (nI (htL X k) + 1) (nI k + 1) (zI m (r + 2) (htL X k) v)) (fun q => q.1 = nI (rateL X kn) ∧ (∀ a, a ≠ r + 2 → q.2.1 a = M8.1 a) ∧ q.2.2 = M8.2) := by
          intro v hv
          rw [nI_1, nI_1]
          refine ih (nI (htL X k + 1), zI m (r + 2) (htL X k) v) ⟨by rw [hht], fun j hj => ?_, fun a ha' => ?_, h5⟩
          · dsimp only
            rw [zI_1, hrun, runL_ht]
            dsimp only
            by_cases ej : j = htL X k
            · rw [ej, upd_s, upd_s, hv]
            · rw [upd_n ej, upd_n ej]; exact hst j (by omega)
          · dsimp only
            rw [zI_n ha']; exact h4 a ha'
        by_cases h0 : lki X k = 0
        · have he : enc (lki X k) (lva X k) = lva X k := by unfold enc; rw [if_pos h0]
          rw [he, if_pos (by omega)]
          unfold F_X3_rate_153
          rw [show (1008 : Int32) = nI 1008 from rfl, ile (by omega) (by omega), if_neg (by omega), ile (by omega) (by omega), if_neg (by omega), show (1000 : Int32) = nI 1000 from rfl, ilt (by omega) (by omega), if_pos (by omega)]
          unfold F_X3_rate_201
          rw [gin_ok (by omega) (by decide), zl_eq, nI_clamp (by omega)]
          unfold F_X3_rate_205
          exact fin _ (by rw [if_pos h0])
        · have h1 : lki X k = 1 := by omega
          have he : enc (lki X k) (lva X k) = 1000 + lva X k := by unfold enc; rw [if_neg h0, if_pos h1]
          rw [he, if_pos (by omega)]
          unfold F_X3_rate_153
          rw [show (1008 : Int32) = nI 1008 from rfl, ile (by omega) (by omega), if_neg (by omega), ile (by omega) (by omega), if_neg (by omega), show (1000 : Int32) = nI 1000 from rfl, ilt (by omega) (by omega), if_neg (by omega), pk_sub (by omega), show 1000 + lva X k - 1000 = lva X k by omega, gin_ok (by omega) (by decide), nI_clamp (by omega)]
          unfold F_X3_rate_201
          rw [gin_ok (by omega) (by decide), zl_eq, nI_clamp (by omega)]
          unfold F_X3_rate_205
          exact fin _ (by rw [if_neg h0, h4 _ (by omega), hk _ (by omega)])
      · have h28 : 2 ≤ lki X k ∧ lki X k ≤ 8 ∧ 2 ≤ htL X k := by omega
        obtain ⟨q1, q2, q3⟩ := h28
        have he : enc (lki X k) (lva X k) = 1006 + lki X k := by unfold enc; rw [if_neg (by omega), if_neg (by omega)]
        have hht : htL X (k + 1) = htL X k - 1 := by rw [htL_succ, if_neg hop]
        have hrun : runL X kn (k + 1) = ((runL X kn k).1 - 1, upd (runL X kn k).2 ((runL X kn k).1 - 2) (opS (lki X k) ((runL X kn k).2 ((runL X kn k).1 - 2)) ((runL X kn k).2 ((runL X kn k).1 - 1)))) := by
          show stepL X kn k (runL X kn k) = _
          unfold stepL
          rw [if_neg hop]
        have e1 : nI (htL X k) + (-1) = nI (htL X k - 1) := by
          rw [show htL X k = (htL X k - 1) + 1 by omega, pk_m1]; congr 1
        have e2 : nI (htL X k - 1) - 1 = nI (htL X k - 2) := by
          rw [show (1 : Int32) = nI 1 from rfl, pk_sub (by omega)]; congr 1
        rw [he, if_neg (by omega), show (2 : Int32) = nI 2 from rfl, ilt (by omega) (by omega), if_neg (by omega), e1, e2, gin_ok (by omega) (by decide), gin_ok (by omega) (by decide), nI_clamp (by omega), nI_clamp (by omega), x_join m q2 q1, zb_some]
        dsimp only
        rw [zl_eq]
        unfold F_X3_rate_205
        rw [nI_1]
        refine ih (nI (htL X k - 1), zI m (r + 2) (htL X k - 2) _) ⟨by rw [hht], fun j hj => ?_, fun a ha' => ?_, h5⟩
        · dsimp only
          rw [zI_1, hrun, runL_ht]
          dsimp only
          by_cases ej : j = htL X k - 2
          · rw [ej, upd_s, upd_s, hst _ (by omega), hst _ (by omega)]
          · rw [upd_n ej, upd_n ej]; exact hst j (by omega)
        · dsimp only
          rw [zI_n ha']; exact h4 a ha'
    · obtain ⟨n, m⟩ := s
      obtain ⟨h1, hst, h4, h5⟩ := hI
      try dsimp only at h1 hst h4 h5 ⊢
      have hsz : m.1 r 3 = nI (lk X) := by rw [h4 r (by omega), ha r (by omega)]; exact hL.1
      unfold F_X3_rate_75
      rw [hsz, ile (by omega) (by omega), if_pos (Nat.le_refl _)]
      unfold F_X3_rate_211
      rw [x_clamp, wp_some]
      refine ⟨?_, h4, h5⟩
      show nI (clampN (m.1 (r + 2) 0)) = nI (clampN (rawL X kn))
      congr 2
      have hz : lk X ≠ 0 := by
        rw [← hX]
        unfold LX
        by_cases z : lk L = 0
        · rw [if_pos z]; decide
        · rw [if_neg z]; exact z
      unfold rawL
      rw [if_neg hz, hst 0 (by have := htL_pos okx (lk X) (by omega) (Nat.le_refl _); omega)]
  obtain ⟨q, g1, g2, g3, g4⟩ := hw
  refine ⟨q.2, by rw [show (some (nI (rateL X kn), q.2) : Option (Int32 × zMem)) = some q by rw [← g2]]; exact g1, fun a a1 a2 _ => ?_, fun a _ => ?_, ?_⟩
  · rw [g3 a a1, ha a a2]
  · rw [g4, h2]
  · rw [g4, h2]
