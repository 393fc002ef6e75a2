/-! sums, counts, places -/
theorem x_sumOf {M : zMem} {c : Nat} {f : Nat → Nat} (h : ∀ p, p < 64 → M.1 c p = nI (f p)) : F_X9_sumOf M c = some (nI (sumN f 64), M) := by
  unfold F_X9_sumOf
  refine loopP (F_X9_sumOf_4 _) (fun g k (s : Nat) => g (nI s) (nI k) M) 64 (fun k s => s + f k) (fun s => some (nI s, M)) (fun g k s hk => ?_) (fun g s => ?_) (s := 0) rfl (by omega)
  · show F_X9_sumOf_4 c g (nI s) (nI k) M = _
    unfold F_X9_sumOf_4
    rw [ile (by omega) (by omega), if_neg (by omega), gin_ok hk (by decide), zl_eq, nI_clamp (by omega), h k hk, nI_add, nI_1]
  · show F_X9_sumOf_4 c g (nI s) (nI 64) M = _
    unfold F_X9_sumOf_4
    rw [if_pos (Int32.le_refl _)]
theorem m_together {M : zMem} {u : Nat → Nat} {c fr : Nat} (hr : RMr M u c) (hf : fr ≤ 128) : F_X10_together M c (nI fr) = some (nI (sumN (fun p => u (fr + p)) 64), M) := by
  unfold F_X10_together
  refine loopP (F_X10_together_4 _ _) (fun g k (s : Nat) => g (nI fr) (nI s) (nI k) M) 64 (fun k s => s + u (fr + k)) (fun s => some (nI s, M)) (fun g k s hk => ?_) (fun g s => ?_) (s := 0) rfl (by omega)
  · show F_X10_together_4 c (nI fr) g (nI fr) (nI s) (nI k) M = _
    unfold F_X10_together_4
    rw [show (64 : Int32) = nI 64 from rfl, ile (by omega) (by omega), if_neg (by omega), nI_add, gin_ok (by omega) (by decide), zl_eq, nI_clamp (by omega), hr _ (by omega), nI_add, nI_1]
  · show F_X10_together_4 c (nI fr) g (nI fr) (nI s) (nI 64) M = _
    unfold F_X10_together_4
    rw [show (64 : Int32) = nI 64 from rfl, if_pos (Int32.le_refl _)]
theorem x_placesOver0 {M : zMem} {c : Nat} {f : Nat → Nat} (h : ∀ p, p < 64 → M.1 c p = nI (f p)) (hb : ∀ p, p < 64 → f p ≤ 9999) : F_X9_placesOver0 M c = some (mk (fun p => decide (0 < f p)) 64, M) := by
  unfold F_X9_placesOver0
  refine loopP (F_X9_placesOver0_4 _) (fun g k (s : Int64) => g s (nI k) M) 64 (fun k m => if decide (0 < f k) = true then m ||| bit1 k else m) (fun s => some (s, M)) (fun g k s hk => ?_) (fun g s => ?_) (s := 0) rfl (by omega)
  · show F_X9_placesOver0_4 c g s (nI k) M = _
    have hbk := hb k hk
    unfold F_X9_placesOver0_4
    rw [show (64 : Int32) = nI 64 from rfl, ile (by omega) (by omega), if_neg (by omega), ile (by omega) (by omega), if_neg (by omega), gin_ok hk (by decide), nI_clamp (by omega), h k hk, ya_0, ile (by omega) (by omega)]
    by_cases z : f k ≤ 0
    · have : ¬ 0 < f k := by omega
      rw [if_pos z, if_neg (by simp [this])]
      unfold F_X9_placesOver0_29
      rw [nI_1]
    · have : 0 < f k := by omega
      rw [if_neg z, if_pos (by simp [this]), x_bit, zb_some]
      dsimp only
      rw [zl_eq]
      unfold F_X9_placesOver0_29
      rw [nI_1]
  · show F_X9_placesOver0_4 c g s (nI 64) M = _
    unfold F_X9_placesOver0_4
    rw [if_pos (Int32.le_refl _)]
theorem tb_over {f : Nat → Nat} {q : Nat} (hq : q < 64) : tb (mk (fun p => decide (0 < f p)) 64) q = decide (0 < f q) := by
  rw [tb_mk _ hq (Nat.le_refl _)]
  simp [hq]
/-- masks of the pans' places -/
theorem x_brinePlaces {M : zMem} {u : Nat → Nat} {t : Nat} (hr : RXi M u t) (hv : okV u) : F_X4_brinePlaces M t = some (mk (fun p => decide (0 < u p)) 64, M) := by
  unfold F_X4_brinePlaces
  rw [x_placesOver0 (f := u) (fun p hp => (hr.1 p hp).1) (fun p hp => hv p (by omega)), zb_some]
theorem x_saltPlaces {M : zMem} {u : Nat → Nat} {t : Nat} (hr : RXi M u t) (hv : okV u) : F_X4_saltPlaces M t = some (mk (fun p => decide (0 < u (64 + p))) 64, M) := by
  unfold F_X4_saltPlaces
  rw [x_placesOver0 (f := fun p => u (64 + p)) (fun p hp => (hr.1 p hp).2.1) (fun p hp => hv _ (by omega)), zb_some]
theorem x_heapPlaces {M : zMem} {u : Nat → Nat} {t : Nat} (hr : RXi M u t) (hv : okV u) : F_X4_heapPlaces M t = some (mk (fun p => decide (0 < u (128 + p))) 64, M) := by
  unfold F_X4_heapPlaces
  rw [x_placesOver0 (f := fun p => u (128 + p)) (fun p hp => (hr.1 p hp).2.2) (fun p hp => hv _ (by omega)), zb_some]
def dryM (u : Nat → Nat) : Int64 := (mk (fun p => decide (0 < u p)) 64 ||| mk (fun p => decide (0 < u (128 + p))) 64) ^^^ (-1)
def freeM (u : Nat → Nat) : Int64 := ((mk (fun p => decide (0 < u p)) 64 ||| mk (fun p => decide (0 < u (64 + p))) 64) ||| mk (fun p => decide (0 < u (128 + p))) 64) ^^^ (-1)
theorem x_dryPlaces {M : zMem} {u : Nat → Nat} {t : Nat} (hr : RXi M u t) (hv : okV u) : F_X4_dryPlaces M t = some (dryM u, M) := by
  unfold F_X4_dryPlaces
  rw [x_brinePlaces hr hv, zb_some]
  dsimp only
  rw [x_heapPlaces hr hv, zb_some]
  rfl
theorem x_freePlaces {M : zMem} {u : Nat → Nat} {t : Nat} (hr : RXi M u t) (hv : okV u) : F_X4_freePlaces M t = some (freeM u, M) := by
  unfold F_X4_freePlaces
  rw [x_brinePlaces hr hv, zb_some]
  dsimp only
  rw [x_saltPlaces hr hv, zb_some]
  dsimp only
  rw [x_heapPlaces hr hv, zb_some]
  rfl
theorem ya_pos (n : Nat) : decide (0 < n) = !decide (n = 0) := by
  by_cases h : n = 0
  · simp [h]
  · have : 0 < n := by omega
    simp [h, this]
theorem tb_dry {u : Nat → Nat} {q : Nat} (hq : q < 64) : tb (dryM u) q = isDryS u q := by
  unfold dryM isDryS
  rw [tb_not _ hq, tb_or, tb_over hq, tb_over (f := fun p => u (128 + p)) hq, ya_pos, ya_pos, Bool.not_or, Bool.not_not, Bool.not_not]
def isFreeS (u : Nat → Nat) (p : Nat) : Bool := isDryS u p && decide (u (64 + p) = 0)
theorem tb_free {u : Nat → Nat} {q : Nat} (hq : q < 64) : tb (freeM u) q = isFreeS u q := by
  unfold freeM isFreeS isDryS
  rw [tb_not _ hq, tb_or, tb_or, tb_over hq, tb_over (f := fun p => u (64 + p)) hq, tb_over (f := fun p => u (128 + p)) hq, ya_pos, ya_pos, ya_pos]
  cases decide (u q = 0) <;> cases decide (u (64 + q) = 0) <;> cases decide (u (128 + q) = 0) <;> rfl
theorem m_dryOnes {M : zMem} {e : PL} {u : Nat → Nat} {c : Nat} (hp : RMp M e) (he : okPL e) (hr : RMr M u c) (hv : okV u) (s : Bool) :
    F_X10_dryOnes M c (bI s) = some (nI (cnt (fun p => inW e p && (isDryS u p && (!s || decide (0 < u (64 + p))))) 64), M) := by
  unfold F_X10_dryOnes
  refine loopP (F_X10_dryOnes_5 _ _) (fun g k (n : Nat) => g (bI s) (nI n) (nI k) M) 64 (fun k n => n + if inW e k && (isDryS u k && (!s || decide (0 < u (64 + k)))) then 1 else 0) (fun n => some (nI n, M)) (fun g k n hk => ?_) (fun g n => ?_) (s := 0) rfl (by omega)
  · show F_X10_dryOnes_5 c (bI s) g (bI s) (nI n) (nI k) M = _
    have f0 : F_X10_dryOnes_50 c (bI s) g (bI s) (nI k) (nI n) 0 M = g (bI s) (nI (n + 0)) (nI (k + 1)) M := by
      unfold F_X10_dryOnes_50
      rw [zl_eq, ya_0, nI_add, nI_1]
    have f1 : F_X10_dryOnes_50 c (bI s) g (bI s) (nI k) (nI n) 1 M = g (bI s) (nI (n + 1)) (nI (k + 1)) M := by
      unfold F_X10_dryOnes_50
      rw [zl_eq, ya_1, nI_add, ← ya_1, nI_1]
    have b2 := hv (64 + k) (by omega)
    unfold F_X10_dryOnes_5 F_X10_dryOnes_49
    rw [show (64 : Int32) = nI 64 from rfl, ile (by omega) (by omega), if_neg (by omega), m_isHere hp he hk, zb_some]
    dsimp only
    rw [ibI]
    cases hin : inW e k
    · rw [if_pos rfl, f0]; rfl
    · rw [if_neg (by decide), m_isDry hr hv hk, zb_some]
      dsimp only
      rw [ibI]
      cases hd : isDryS u k
      · rw [if_pos rfl, f0]; rfl
      · rw [if_neg (by decide), ibI]
        cases s
        · rw [if_pos rfl, f1]; rfl
        · rw [if_neg (by decide), nI_add, gin_ok (by omega) (by decide), nI_clamp (by omega), hr _ (by omega), ya_0, ile (by omega) (by omega)]
          by_cases z : u (64 + k) ≤ 0
          · have z2 : ¬ 0 < u (64 + k) := by omega
            rw [if_pos z, ← ya_0, f0]; simp [z2]
          · have z2 : 0 < u (64 + k) := by omega
            rw [if_neg z, f1]; simp [z2]
  · show F_X10_dryOnes_5 c (bI s) g (bI s) (nI n) (nI 64) M = _
    unfold F_X10_dryOnes_5
    rw [show (64 : Int32) = nI 64 from rfl, if_pos (Int32.le_refl _)]
theorem m_heaps {M : zMem} {u : Nat → Nat} (hr : RMr M u 451) (hv : okV u) : F_X10_heaps M = some (nI (cnt (fun p => decide (0 < u (128 + p))) 64), M) := by
  unfold F_X10_heaps
  refine loopP F_X10_heaps_4 (fun g k (n : Nat) => g (nI n) (nI k) M) 64 (fun k n => n + if decide (0 < u (128 + k)) = true then 1 else 0) (fun n => some (nI n, M)) (fun g k n hk => ?_) (fun g n => ?_) (s := 0) rfl (by omega)
  · show F_X10_heaps_4 g (nI n) (nI k) M = _
    have b2 := hv (128 + k) (by omega)
    unfold F_X10_heaps_4 F_X10_heaps_29
    rw [show (64 : Int32) = nI 64 from rfl, ile (by omega) (by omega), if_neg (by omega), show (128 : Int32) = nI 128 from rfl, nI_add, gin_ok (by omega) (by decide), nI_clamp (by omega), hr _ (by omega), ya_0, ile (by omega) (by omega)]
    by_cases z : u (128 + k) ≤ 0
    · have z2 : ¬ 0 < u (128 + k) := by omega
      rw [if_pos z, zl_eq, nI_add, nI_1, if_neg (by simp [z2])]
    · have z2 : 0 < u (128 + k) := by omega
      rw [if_neg z, zl_eq, nI_1, nI_1, if_pos (by simp [z2])]
  · show F_X10_heaps_4 g (nI n) (nI 64) M = _
    unfold F_X10_heaps_4
    rw [show (64 : Int32) = nI 64 from rfl, if_pos (Int32.le_refl _)]
