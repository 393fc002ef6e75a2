/-! heaps that might be: what they would bring into shade; site, pair -/
def addS (e : PL) (u : Nat → Nat) (p z q h : Nat) : Bool := inW e q && (cov e p z q h && !shd e u q h)
/-- what the class has learnt of sites f -/
def XL (y : zMem) (e : PL) (u : Nat → Nat) (f : Nat → Bool) (z : Nat) : Prop :=
  (∀ p, p < 64 → f p = true → ∀ h, h < pn e → ∀ q, q < 64 → tb (y.2.1 ((104 + 1) + (1 + 1 * p)) h) q = addS e u p z q h) ∧
  ∀ p, p < 64 → ∀ q, q < 64 → tb (y.2.1 (104 + 66) p) q = (f p && anyN (fun h => addS e u p z q h) (pn e))
def SL : Nat → Prop := fun a => 104 ≤ a ∧ a < 172
theorem x_lay {x : zMem} {e : PL} {L : LW} {u : Nat → Nat} {pl r z : Nat} {fm : Int64} {f : Nat → Bool} (w : RXw x e L pl r) (he : okPL e) (hr : RXr x e u 4) (hv : okR e u) (hf : ∀ p, p < 64 → tb fm p = f p) (hin : ∀ p, p < 64 → f p = true → inW e p = true) (hz : 1 ≤ z ∧ z ≤ 999) :
    ∃ y, F_X6_lay x 104 pl 4 fm (nI z) = some y ∧ XL y e u f z ∧ y.1 = x.1 ∧ frX r SL x y := by
  have hn := he.2.2.2.2.1
  have hpl := w.2.2.2.2.1
  -- what stays while only longs of the shadows change
  have keep : ∀ y : zMem, y.1 = x.1 → (∀ a, ¬ SL a → y.2.1 a = x.2.1 a) → y.2.2 = x.2.2 → RXp y e pl ∧ RXr y e u 4 := fun y h1 h2 h3 => by
    obtain ⟨a1, a2, a3, a4, a5⟩ := w.1
    obtain ⟨b1, b2, b3, b4, b5⟩ := hr
    exact ⟨⟨by rw [h1]; exact a1, by rw [h1]; exact a2, by rw [h1]; exact a3, fun h hh => by rw [h1]; exact a4 h hh, fun p hp => by rw [h2 pl (by unfold SL; omega)]; exact a5 p hp⟩,
      ⟨fun p hp => by rw [h1]; exact b1 p hp, by rw [h1]; exact b2, by rw [h1]; exact b3, by rw [h1]; exact b4, fun h hh q hq => by rw [h2 (4 + 4) (by unfold SL; omega)]; exact b5 h hh q hq⟩⟩
  have hw : wp (F_X6_lay x 104 pl 4 fm (nI z)) (fun y => XL y e u f z ∧ y.1 = x.1 ∧ (∀ a, ¬ SL a → y.2.1 a = x.2.1 a) ∧ y.2.2 = x.2.2) := by
    unfold F_X6_lay
    refine loopN (F_X6_lay_3 _ _ _ _ _) (fun g k (y : zMem) => g fm (nI z) (nI k) y) 64
      (fun k y => (∀ p, p < k → f p = true → ∀ h, h < pn e → ∀ q, q < 64 → tb (y.2.1 ((104 + 1) + (1 + 1 * p)) h) q = addS e u p z q h) ∧ (∀ p, p < k → ∀ q, q < 64 → tb (y.2.1 (104 + 66) p) q = (f p && anyN (fun h => addS e u p z q h) (pn e))) ∧ y.1 = x.1 ∧ (∀ a, ¬ SL a → y.2.1 a = x.2.1 a) ∧ y.2.2 = x.2.2) _
      (fun g k y hk hI ih => ?_) (fun g y hI => ?_) (k := 0) (s := x) (by omega) ⟨fun p hp => absurd hp (Nat.not_lt_zero _), fun p hp => absurd hp (Nat.not_lt_zero _), rfl, fun _ _ => rfl, rfl⟩ (by omega)
    · obtain ⟨i1, i2, i3, i4, i5⟩ := hI
      try dsimp only at i1 i2 i3 i4 i5 ih ⊢
      unfold F_X6_lay_3
      rw [show (64 : Int32) = nI 64 from rfl, ile (by omega) (by omega), if_neg (by omega), gin_ok hk (by decide), zl_eq, nI_clamp (by omega)]
      have fin : ∀ y2 : zMem, (∀ p, p < k → ∀ h, y2.2.1 ((104 + 1) + (1 + 1 * p)) h = y.2.1 ((104 + 1) + (1 + 1 * p)) h) → (∀ p, p < k → y2.2.1 (104 + 66) p = y.2.1 (104 + 66) p) → y2.1 = x.1 → (∀ a, ¬ SL a → y2.2.1 a = x.2.1 a) → y2.2.2 = x.2.2 →
          (f k = true → ∀ h, h < pn e → ∀ q, q < 64 → tb (y2.2.1 ((104 + 1) + (1 + 1 * k)) h) q = addS e u k z q h) → (∀ q, q < 64 → tb (y2.2.1 (104 + 66) k) q = (f k && anyN (fun h => addS e u k z q h) (pn e))) →
          wp (F_X6_lay_103 104 pl 4 fm (nI z) g fm (nI z) (nI k) y2) (fun y => XL y e u f z ∧ y.1 = x.1 ∧ (∀ a, ¬ SL a → y.2.1 a = x.2.1 a) ∧ y.2.2 = x.2.2) := fun y2 j1 j2 j3 j4 j5 j6 j7 => by
        unfold F_X6_lay_103
        rw [nI_1]
        refine ih y2 ⟨fun p hp hfp h hh q hq => ?_, fun p hp q hq => ?_, j3, j4, j5⟩
        · by_cases c : p = k
          · rw [c] at hfp ⊢; exact j6 hfp h hh q hq
          · rw [j1 p (by omega) h]; exact i1 p (by omega) hfp h hh q hq
        · by_cases c : p = k
          · rw [c]; exact j7 q hq
          · rw [j2 p (by omega)]; exact i2 p (by omega) q hq
      refine loopN (F_X6_lay_21 _ _ _ _ _ _) (fun g2 h (y2 : zMem) => g2 fm (nI z) (nI k) (nI h) y2) (pn e)
        (fun h0 y2 => (∀ p, p < k → ∀ h, y2.2.1 ((104 + 1) + (1 + 1 * p)) h = y.2.1 ((104 + 1) + (1 + 1 * p)) h) ∧ (∀ p, p < k → y2.2.1 (104 + 66) p = y.2.1 (104 + 66) p) ∧ y2.1 = x.1 ∧ (∀ a, ¬ SL a → y2.2.1 a = x.2.1 a) ∧ y2.2.2 = x.2.2 ∧ (0 < h0 → f k = true) ∧ (∀ h, h < h0 → ∀ q, q < 64 → tb (y2.2.1 ((104 + 1) + (1 + 1 * k)) h) q = addS e u k z q h) ∧ (∀ q, q < 64 → tb (y2.2.1 (104 + 66) k) q = anyN (fun h => addS e u k z q h) h0)) _
        (fun g2 h0 y2 hh0 hI2 ih2 => ?_) (fun g2 y2 hI2 => ?_) (k := 0) (s := zL y (104 + 66) k 0) (by omega) ⟨fun p hp h => by rw [zL_n (by omega)], fun p hp => by rw [zL_1, updL_n (by omega)], i3, fun a ha => by rw [zL_n (fun c => ha (by rw [c]; unfold SL; omega))]; exact i4 a ha, i5, fun c => absurd c (Nat.lt_irrefl 0), fun h hh => absurd hh (Nat.not_lt_zero _), fun q hq => by rw [zL_1, updL_s, tb_0]; rfl⟩ (by omega)
      · obtain ⟨l1, l2, l3, l4, l5, l6, l7, l8⟩ := hI2
        try dsimp only at l1 l2 l3 l4 l5 l6 l7 l8 ih2 ⊢
        obtain ⟨kp, kr⟩ := keep y2 l3 l4 l5
        unfold F_X6_lay_21
        rw [kp.2.2.1, ile (by omega) (by omega), if_neg (by omega), show (10 : Int32) = nI 10 from rfl, ile (by omega) (by omega), if_neg (by omega), x_has y2 _ hk, zb_some]
        dsimp only
        rw [ibI, hf k hk]
        cases hfk : f k
        · have h00 : h0 = 0 := by
            by_cases c : h0 = 0
            · exact c
            · have := l6 (by omega); rw [hfk] at this; cases this
          rw [if_pos rfl]
          exact fin y2 l1 l2 l3 l4 l5 (fun c => by rw [hfk] at c; cases c) (fun q hq => by rw [l8 q hq, h00, hfk]; rfl)
        · rw [if_neg (by decide), gin_ok hk (by decide)]
          obtain ⟨mm, s1, s2⟩ := x_shadedBy (g := z) kp he hk (hin k hk hfk) (by omega) (by omega) hh0
          rw [s1, zb_some]
          dsimp only
          rw [x_shadeAt (by omega), zb_some]
          dsimp only
          rw [gin_ok (by omega) (by decide), zl_eq, zl_eq, nI_clamp (by omega), nI_clamp (by omega), nI_1]
          have hadd : ∀ q, q < 64 → tb (mm &&& (y2.2.1 (4 + 4) h0 ^^^ -1)) q = addS e u k z q h0 := fun q hq => by
            rw [tb_and, tb_not _ hq, s2 q hq, kr.2.2.2.2 h0 hh0 q hq]
            unfold addS
            cases inW e q <;> cases cov e k z q h0 <;> cases shd e u q h0 <;> rfl
          generalize hmm : mm &&& (y2.2.1 (4 + 4) h0 ^^^ -1) = mv at hadd
          refine ih2 _ ⟨fun p hp h => ?_, fun p hp => ?_, l3, fun a ha => ?_, l5, fun _ => hfk, fun h hh q hq => ?_, fun q hq => ?_⟩
          · rw [zL_n (by omega), zL_n (by omega)]; exact l1 p hp h
          · rw [zL_1, updL_n (by omega), zL_n (by omega)]; exact l2 p hp
          · rw [zL_n (fun c => ha (by rw [c]; unfold SL; omega)), zL_n (fun c => ha (by rw [c]; unfold SL; omega))]; exact l4 a ha
          · rw [zL_n (by omega), zL_1]
            by_cases c : h = h0
            · rw [c, updL_s]; exact hadd q hq
            · rw [updL_n c]; exact l7 h (by omega) q hq
          · rw [zL_1, updL_s, tb_or, zL_n (by omega), l8 q hq, zL_1, updL_s, hadd q hq]; rfl
      · obtain ⟨l1, l2, l3, l4, l5, l6, l7, l8⟩ := hI2
        try dsimp only at l1 l2 l3 l4 l5 l6 l7 l8 ⊢
        obtain ⟨kp, kr⟩ := keep y2 l3 l4 l5
        unfold F_X6_lay_21
        rw [kp.2.2.1, if_pos (Int32.le_refl _)]
        refine fin y2 l1 l2 l3 l4 l5 (fun _ => l7) (fun q hq => ?_)
        rw [l8 q hq]
        by_cases c : pn e = 0
        · rw [c]
          show false = (f k && false)
          rw [Bool.and_false]
        · rw [l6 (by omega), Bool.true_and]
    · obtain ⟨i1, i2, i3, i4, i5⟩ := hI
      try dsimp only at i1 i2 i3 i4 i5 ⊢
      unfold F_X6_lay_3
      rw [show (64 : Int32) = nI 64 from rfl, if_pos (Int32.le_refl _), wp_some]
      exact ⟨⟨i1, i2⟩, i3, i4, i5⟩
  obtain ⟨y, y1, y2, y3, y4, y5⟩ := hw
  exact ⟨y, y1, y2, y3, ⟨fun a _ _ _ => by rw [y3], y4, y5⟩⟩
/-- how many places, hour by hour, one or two heaps bring into shade -/
def togS (e : PL) (u : Nat → Nat) (z a b : Nat) : Nat := sumN (fun h => cnt (fun q => inW e q && ((cov e a z q h || cov e b z q h) && !shd e u q h)) 64) (pn e)
theorem togS_le {e : PL} {u : Nat → Nat} {z a b : Nat} (he : okPL e) : togS e u z a b ≤ 640 := by
  have hn := he.2.2.2.2.1
  have h1 := sumN_le (f := fun h => cnt (fun q => inW e q && ((cov e a z q h || cov e b z q h) && !shd e u q h)) 64) (b := 64) (n := pn e) (fun k _ => cnt_le _ _)
  unfold togS
  omega
theorem x_addedAt {y : zMem} {p h : Nat} (hp : p < 64) (hh : h < 10) : F_X6_addedAt y 104 (nI p) (nI h) = some (y.2.1 ((104 + 1) + (1 + 1 * p)) h, y) := by
  unfold F_X6_addedAt
  rw [x_inE, show F_X10_in y (nI p) (0 : Int32) (63 : Int32) = some (1, y) from m_inY _ (Nat.zero_le p) (show p ≤ 63 by omega) (by decide), zb_some]
  dsimp only
  rw [if_neg (by decide), x_inE, show F_X10_in y (nI h) (0 : Int32) (9 : Int32) = some (1, y) from m_inY _ (Nat.zero_le h) (show h ≤ 9 by omega) (by decide), zb_some]
  dsimp only
  rw [if_neg (by decide), gin_ok hp (by decide), gin_ok hh (by decide), nI_clamp (by omega), nI_clamp (by omega)]
theorem x_together {y : zMem} {e : PL} {u : Nat → Nat} {f : Nat → Bool} {z a b : Nat} (he : okPL e) (hl : XL y e u f z) (ha : a < 64) (hb : b < 64) (fa : f a = true) (fb : f b = true) :
    F_X6_together y 104 (nI a) (nI b) (nI (pn e)) = some (nI (togS e u z a b), y) := by
  have hn := he.2.2.2.2.1
  unfold F_X6_together
  refine loopP (F_X6_together_6 _ _ _ _) (fun g k (s : Nat) => g (nI a) (nI b) (nI (pn e)) (nI s) (nI k) y) (pn e) (fun h s => s + cnt (fun q => inW e q && ((cov e a z q h || cov e b z q h) && !shd e u q h)) 64) (fun s => some (nI s, y)) (fun g k s hk => ?_) (fun g s => ?_) (s := 0) rfl (by omega)
  · show F_X6_together_6 104 (nI a) (nI b) (nI (pn e)) g (nI a) (nI b) (nI (pn e)) (nI s) (nI k) y = _
    unfold F_X6_together_6
    rw [ile (by omega) (by omega), if_neg (by omega), x_addedAt ha (by omega), zb_some]
    dsimp only
    rw [x_addedAt hb (by omega), zb_some]
    dsimp only
    rw [x_bitCount, zb_some]
    dsimp only
    rw [zl_eq, nI_add, nI_1, cnt_congr (q := fun q => inW e q && ((cov e a z q k || cov e b z q k) && !shd e u q k)) (fun q hq => ?_)]
    rw [tb_or, hl.1 a ha fa k hk q hq, hl.1 b hb fb k hk q hq]
    unfold addS
    cases inW e q <;> cases cov e a z q k <;> cases cov e b z q k <;> cases shd e u q k <;> rfl
  · show F_X6_together_6 104 (nI a) (nI b) (nI (pn e)) g (nI a) (nI b) (nI (pn e)) (nI s) (nI (pn e)) y = _
    unfold F_X6_together_6
    rw [if_pos (Int32.le_refl _)]
theorem m_isFree {m : zMem} {e : PL} {u : Nat → Nat} (hp : RMp m e) (he : okPL e) (hr : RMr m u 451) (hv : okV u) {p : Nat} (h : p < 64) : F_X10_isFree m (nI p) = some (bI (inW e p && isFreeS u p), m) := by
  have b2 := hv (64 + p) (by omega)
  unfold F_X10_isFree isFreeS
  rw [m_isHere hp he h, zb_some]
  dsimp only
  rw [ibI]
  cases inW e p
  · rfl
  · rw [if_neg (by decide), m_isDry hr hv h, zb_some]
    dsimp only
    rw [ibI]
    cases isDryS u p
    · rfl
    · rw [if_neg (by decide), show (64 : Int32) + nI p = nI (64 + p) from nI_add 64 p, gin_ok (by omega) (by decide), nI_clamp (by omega), hr _ (by omega), ie0 (by omega)]
      by_cases c : u (64 + p) = 0
      · rw [if_pos c, decide_eq_true c]; rfl
      · rw [if_neg c, decide_eq_false c]; rfl
theorem m_shades {m : zMem} {e : PL} {u : Nat → Nat} (hp : RMp m e) (he : okPL e) (hr : RMr m u 451) (hv : okV u) {a z : Nat} {bb : Int32} {c2 : Nat → Nat → Bool} (ha : a < 64) (hz : z ≤ 999)
    (hb : (bb = -1 ∧ ∀ q h, c2 q h = false) ∨ ∃ b, b < 64 ∧ bb = nI b ∧ ∀ q h, c2 q h = cov e b z q h) :
    F_X10_shades m (nI a) bb (nI z) = some (nI (sumN (fun h => cnt (fun q => inW e q && ((cov e a z q h || c2 q h) && !shd e u q h)) 64) (pn e)), m) := by
  have hn := he.2.2.2.2.1
  have hw : wp (F_X10_shades m (nI a) bb (nI z)) (fun q => q = (nI (sumN (fun h => cnt (fun q => inW e q && ((cov e a z q h || c2 q h) && !shd e u q h)) 64) (pn e)), m)) := by
    unfold F_X10_shades
    refine loopN (F_X10_shades_6 _ _ _) (fun g k (s : Nat) => g (nI a) bb (nI z) (nI s) (nI k) m) (pn e) (fun k s => s = sumN (fun h => cnt (fun q => inW e q && ((cov e a z q h || c2 q h) && !shd e u q h)) 64) k) _ (fun g k s hk hI ih => ?_) (fun g s hI => ?_) (k := 0) (s := 0) (by omega) rfl (by omega)
    · try dsimp only at hI ih ⊢
      unfold F_X10_shades_6
      rw [hp.2.2.1, ile (by omega) (by omega), if_neg (by omega)]
      refine loopN (F_X10_shades_20 _ _ _ _) (fun g2 p (s2 : Nat) => g2 (nI a) bb (nI z) (nI s2) (nI k) (nI p) m) 64 (fun p s2 => s2 = s + cnt (fun q => inW e q && ((cov e a z q k || c2 q k) && !shd e u q k)) p) _ (fun g2 p s2 hp2 hI2 ih2 => ?_) (fun g2 s2 hI2 => ?_) (k := 0) (s := s) (by omega) rfl (by omega)
      · try dsimp only at hI2 ih2 ⊢
        have go : ∀ b : Bool, (inW e p && ((cov e a z p k || c2 p k) && !shd e u p k)) = b → wp (g2 (nI a) bb (nI z) (nI (s2 + if b then 1 else 0)) (nI k) (nI (p + 1)) m) (fun q => q = (nI (sumN (fun h => cnt (fun q => inW e q && ((cov e a z q h || c2 q h) && !shd e u q h)) 64) (pn e)), m)) := fun b hb2 => by
          refine ih2 _ ?_
          rw [hI2, cnt_succ, hb2, Nat.add_assoc]
        have g0 := go false
        have g1 := go true
        rw [if_neg (by decide), Nat.add_zero] at g0
        rw [if_pos rfl] at g1
        have shd_part : (cov e a z p k || c2 p k) = true → inW e p = true → wp (F_X10_shades_70 (nI a) bb (nI z) g g2 (nI a) bb (nI z) (nI s2) (nI k) (nI p) m) (fun q => q = (nI (sumN (fun h => cnt (fun q => inW e q && ((cov e a z q h || c2 q h) && !shd e u q h)) 64) (pn e)), m)) := fun hc hi => by
          unfold F_X10_shades_70 F_X10_shades_92 F_X10_shades_95
          rw [m_isShade hp he hr hv hp2 hk, zb_some]
          dsimp only
          rw [ibI]
          cases hs : shd e u p k
          · rw [if_pos rfl, zl_eq, nI_1, nI_1]
            exact g1 (by rw [hi, hc, hs]; rfl)
          · rw [if_neg (by decide), zl_eq, ya_0, nI_add, nI_1, Nat.add_zero]
            exact g0 (by rw [hi, hc, hs]; rfl)
        unfold F_X10_shades_20 F_X10_shades_95
        rw [show (64 : Int32) = nI 64 from rfl, ile (by omega) (by omega), if_neg (by omega), m_isHere hp he hp2, zb_some]
        dsimp only
        rw [ibI, nI_1]
        cases hi : inW e p
        · rw [if_pos rfl]
          exact g0 (by rw [hi]; rfl)
        · rw [if_neg (by decide), m_covers hp he ha hp2 (by omega) hk, zb_some]
          dsimp only
          rw [ibI]
          cases hc : cov e a z p k
          · rw [if_pos rfl]
            rcases hb with ⟨rfl, hc2⟩ | ⟨b, hb1, rfl, hc2⟩
            · rw [if_pos rfl]
              exact g0 (by rw [hi, hc, hc2]; rfl)
            · rw [if_neg (by rw [ya_ne_m1 (by omega)]; exact fun z => z), m_covers hp he hb1 hp2 (by omega) hk, zb_some]
              dsimp only
              rw [ibI]
              cases hcb : cov e b z p k
              · rw [if_pos rfl]
                exact g0 (by rw [hi, hc, hc2, hcb]; rfl)
              · rw [if_neg (by decide)]
                exact shd_part (by rw [hc2, hcb, Bool.or_true]) hi
          · rw [if_neg (by decide)]
            exact shd_part (by rw [hc, Bool.true_or]) hi
      · try dsimp only at hI2 ⊢
        unfold F_X10_shades_20
        rw [show (64 : Int32) = nI 64 from rfl, if_pos (Int32.le_refl _), nI_1]
        exact ih s2 (by rw [hI2, hI]; rfl)
    · try dsimp only at hI ⊢
      unfold F_X10_shades_6
      rw [hp.2.2.1, if_pos (Int32.le_refl _), wp_some, hI]
  obtain ⟨q, q1, q2⟩ := hw
  rw [q2] at q1
  exact q1
def freeS (e : PL) (u : Nat → Nat) (p : Nat) : Bool := inW e p && isFreeS u p
theorem XL.b {y y' : zMem} {e : PL} {u : Nat → Nat} {f : Nat → Bool} {z : Nat} (h : XL y e u f z) (k : y'.2 = y.2) : XL y' e u f z := by
  unfold XL
  rw [k]
  exact h
theorem x_layEverywhere {x : zMem} {e : PL} {L : LW} {u : Nat → Nat} {pl r z : Nat} (w : RXw x e L pl r) (he : okPL e) (hr : RXr x e u 4) (hv : okR e u) (hz : 1 ≤ z ∧ z ≤ 999) :
    ∃ fm y, F_X9_layEverywhere x (nI z) = some (fm, y) ∧ (∀ p, p < 64 → tb fm p = freeS e u p) ∧ XL y e u (freeS e u) z ∧ y.1 = x.1 ∧ frX r SL x y := by
  have hf : ∀ p, p < 64 → tb (freeM u &&& x.2.1 pl 3) p = freeS e u p := fun p hp => by
    rw [tb_and, tb_free hp, w.1.2.2.2.2 p hp, Bool.and_comm]; rfl
  obtain ⟨y, y1, y2, y3, y4⟩ := x_lay w he hr hv hf (fun p _ h => by unfold freeS at h; rw [Bool.and_eq_true] at h; exact h.1) hz
  refine ⟨_, y, ?_, hf, y2, y3, y4⟩
  unfold F_X9_layEverywhere
  rw [x_freePlaces hr.i hv.1, zb_some]
  dsimp only
  rw [w.2.2.1, gd_ok (sX_p w.2.2.2.2.1), zl_eq, y1, zbv_some]
theorem q_site {x m : zMem} {S : SS} (a b : Int32) (hX : RXo x S) (hM : RMn m S) (ok : okS S) : same T1 (F_X9_site x a b) (F_X10_site m a b) := by
  obtain ⟨pl, r, n, h⟩ := hX
  have hM1 := hM.t ok
  have he := ok.1
  have hn := he.2.2.2.2.1
  have hv := ok.u
  have hr := h.1.2.2.2.2.2
  have mb : F_X10_site_31 a b a b 1 (zI m 0 0 0) = some (0, zI (zI (zI m 0 0 0) 0 0 (nI 1)) 2 1 ((zI m 0 0 0).1 2 1 + 1)) := by
    unfold F_X10_site_31
    rw [m_bad11 t0_0, zb_some]; rfl
  have f : F_X9_site x a b = some (1, 0, zI x 0 17 (x.1 0 17 + 1)) → F_X10_site m a b = F_X10_site_31 a b a b 1 (zI m 0 0 0) → same T1 (F_X9_site x a b) (F_X10_site m a b) := fun h1 h2 =>
    same_1 (t := 1) h hM1 ok (Or.inr ⟨rfl, rfl⟩) frQ.refl frN.refl (v := 0) (w := 0) h1 (h2.trans mb)
  unfold F_X9_site F_X10_site at f ⊢
  rw [zl_eq] at f ⊢
  rcases ya_rng1 a (c := 1) (b := 999) (by decide) (by decide) with ⟨z, hz1, hz, rfl⟩ | ha
  · rw [show F_X9_within x (nI z) (1 : Int32) (999 : Int32) = some (1, x) from m_inY _ hz1 hz (by decide), show F_X10_in (zI m 0 0 0) (nI z) (1 : Int32) (999 : Int32) = some (1, zI m 0 0 0) from m_inY _ hz1 hz (by decide), zb_some, zb_some] at f ⊢
    dsimp only at f ⊢
    rw [if_neg (by decide), if_neg (by decide)] at f ⊢
    rcases ya_rng b (b := 1) (by decide) with ⟨w, hw, rfl⟩ | hb
    · rw [show F_X9_within x (nI w) (0 : Int32) (1 : Int32) = some (1, x) from m_inY _ (Nat.zero_le w) hw (by decide), show F_X10_in (zI m 0 0 0) (nI w) (0 : Int32) (1 : Int32) = some (1, zI m 0 0 0) from m_inY _ (Nat.zero_le w) hw (by decide), zb_some, zb_some]
      dsimp only
      rw [if_neg (by decide), if_neg (by decide)]
      generalize hsel : selL (freeS (sE S) (sN S).2.1) (fun p => togS (sE S) (sN S).2.1 z p p) = sel
      have ht : ∀ p q, togS (sE S) (sN S).2.1 z p q ≤ 640 := fun p q => togS_le he
      have okb64 : ∀ k, k ≤ 64 → okb (sel k) := fun k hk => by rw [← hsel]; exact selL_ok (by omega) (fun p hp => by have := ht p p; omega)
      have hs : ∀ k, sel (k + 1) = if freeS (sE S) (sN S).2.1 k = true then offL k (togS (sE S) (sN S).2.1 z k k) (sel k) else sel k := fun k => by rw [← hsel]; rfl
      have hX1 : wp (F_X9_site_26 (nI z) (nI w) (nI z) (nI w) 1 x) (fun q => q.1 = 0 ∧ q.2.1 = poa w (sel 64) ∧ frX r (fun a => 104 ≤ a ∧ a ≤ 172) x q.2.2) := by
        obtain ⟨fm, y0, c1, c2, c3, c4, c5⟩ := x_layEverywhere h.1 he h.u hv ⟨hz1, hz⟩
        obtain ⟨y1, d1, d2, d3⟩ := x_clear y0
        have fx : ∀ {y z : zMem}, fr172 y z → frX r (fun a => 104 ≤ a ∧ a ≤ 172) y z := fun h => ⟨fun a _ _ h3 => h.1 a (fun c => h3 ⟨by omega, by omega⟩), fun a _ => by rw [h.2], by rw [h.2]⟩
        unfold F_X9_site_26
        rw [x_need1, zbx_0, c1, zb_some]
        dsimp only
        rw [d1, zbv_some]
        refine loopN (F_X9_site_45 _ _) (fun g k (y : zMem) => g (nI w) fm (nI k) y) 64 (fun k y => XB y (sel k) ∧ fr172 y0 y) _ (fun g k y hk hI ih => ?_) (fun g y hI => ?_) (k := 0) (s := y1) (by omega) ⟨by rw [← hsel]; exact d2, d3⟩ (by omega)
        · obtain ⟨i1, i2⟩ := hI
          try dsimp only at i1 i2 ih ⊢
          have w' : RXw y (sE S) (sL S) pl r := ((c5.wid (S' := fun a => 104 ≤ a ∧ a ≤ 172) (fun a q => by unfold SL at q; exact ⟨q.1, by omega⟩)).trans (fx i2)).w (fun a h1 h2 q => by have : 104 ≤ a ∧ a ≤ 172 := q; omega) h.1
          have hsk := hs k
          unfold F_X9_site_45 F_X9_site_88
          rw [show (64 : Int32) = nI 64 from rfl, ile (by omega) (by omega), if_neg (by omega), x_has y _ hk, zb_some]
          dsimp only
          rw [ibI, c2 k hk, nI_1]
          cases hf : freeS (sE S) (sN S).2.1 k
          · rw [if_pos rfl]
            rw [hf, if_neg (by decide)] at hsk
            exact ih y ⟨by rw [hsk]; exact i1, i2⟩
          · rw [hf, if_pos rfl] at hsk
            rw [if_neg (by decide), w'.2.2.1, gd_ok (sX_p w'.2.2.2.2.1), w'.1.2.2.1, x_together he (c3.b i2.2) hk hk hf hf, zb_some]
            dsimp only
            obtain ⟨y2, e1, e2, e3⟩ := x_offerLeast (p := k) (v := togS (sE S) (sN S).2.1 z k k) i1 (by omega) (by have := ht k k; omega)
            rw [e1, zbv_some]
            exact ih y2 ⟨by rw [hsk]; exact e2, i2.trans e3⟩
        · obtain ⟨i1, i2⟩ := hI
          try dsimp only at i1 i2 ⊢
          unfold F_X9_site_45
          rw [show (64 : Int32) = nI 64 from rfl, if_pos (Int32.le_refl _), x_poa i1 (by omega), zb_some, wp_some]
          exact ⟨rfl, rfl, (c5.wid (fun a q => by unfold SL at q; exact ⟨q.1, by omega⟩)).trans (fx i2)⟩
      have hM2 : wp (F_X10_site_31 (nI z) (nI w) (nI z) (nI w) 0 (zI m 0 0 0)) (fun q => q = (poa w (sel 64), zI m 0 0 0)) := by
        unfold F_X10_site_31
        rw [m_bad0 t0_0, zb_some]
        dsimp only
        rw [if_pos rfl]
        refine loopN (F_X10_site_49 _ _) (fun g k (s : Int32 × Int32) => g (nI z) (nI w) s.1 s.2 (nI k) (zI m 0 0 0)) 64 (fun k s => s.1 = bF (sel k) ∧ s.2 = bA (sel k)) _ (fun g k s hk hI ih => ?_) (fun g s hI => ?_) (k := 0) (s := (-1, -1)) (by omega) ⟨by rw [← hsel]; rfl, by rw [← hsel]; rfl⟩ (by omega)
        · obtain ⟨s1, s2⟩ := s
          obtain ⟨i1, i2⟩ := hI
          try dsimp only at i1 i2 ih ⊢
          have hsk := hs k
          unfold F_X10_site_49 F_X10_site_93 F_X10_site_100
          rw [show (64 : Int32) = nI 64 from rfl, ile (by omega) (by omega), if_neg (by omega), m_isFree hM1.1 he hM1.u hv.1 hk, zb_some]
          dsimp only
          rw [ibI, nI_1]
          cases hf : freeS (sE S) (sN S).2.1 k
          · rw [if_pos (show (inW (sE S) k && isFreeS (sN S).2.1 k) = false from hf)]
            rw [hf, if_neg (by decide)] at hsk
            exact ih (s1, s2) ⟨by rw [hsk]; exact i1, by rw [hsk]; exact i2⟩
          · rw [hf, if_pos rfl] at hsk
            rw [if_neg (by rw [show (inW (sE S) k && isFreeS (sN S).2.1 k) = true from hf]; decide), m_shades (c2 := fun _ _ => false) hM1.1 he hM1.u hv.1 hk (by omega) (Or.inl ⟨rfl, fun _ _ => rfl⟩), zb_some]
            dsimp only
            have et : sumN (fun h => cnt (fun q => inW (sE S) q && ((cov (sE S) k z q h || false) && !shd (sE S) (sN S).2.1 q h)) 64) (pn (sE S)) = togS (sE S) (sN S).2.1 z k k := sumN_congr (fun h _ => cnt_congr (fun q _ => by rw [Bool.or_false, Bool.or_self]))
            rw [et]
            have htk := ht k k
            generalize togS (sE S) (sN S).2.1 z k k = v at hsk htk
            cases hb : sel k with
            | none =>
              rw [hb] at i1 i2 hsk
              rw [if_pos (show s1 = -1 from i1)]
              exact ih (_, _) ⟨by rw [hsk]; rfl, by rw [hsk]; rfl⟩
            | some q =>
              have hq := okb64 k (by omega) q hb
              rw [hb] at i1 i2 hsk
              have e1 : s1 = nI q.1 := i1
              have e2 : s2 = nI q.2 := i2
              have ho : offL k v (some q) = if v < q.2 then some (k, v) else some q := rfl
              rw [ho] at hsk
              rw [if_neg (by rw [e1, ya_ne_m1 hq.1]; exact fun z => z), e2, ilt (by omega) hq.2]
              by_cases c : v < q.2
              · rw [if_pos c]
                rw [if_pos c] at hsk
                exact ih (_, _) ⟨by rw [hsk]; rfl, by rw [hsk]; rfl⟩
              · rw [if_neg c]
                rw [if_neg c] at hsk
                exact ih (_, _) ⟨by rw [hsk]; exact i1, by rw [hsk]; rfl⟩
        · obtain ⟨s1, s2⟩ := s
          obtain ⟨i1, i2⟩ := hI
          try dsimp only at i1 i2 ⊢
          unfold F_X10_site_49 poa
          rw [show (64 : Int32) = nI 64 from rfl, if_pos (Int32.le_refl _), ie0 (by omega)]
          by_cases c : w = 0
          · rw [if_pos c, if_pos c, i1, m_asTold _ (okb64 64 (by omega)), zb_some, wp_some]
          · rw [if_neg c, if_neg c, wp_some, i2]
      obtain ⟨⟨k0, v0, x'⟩, g1, g2, g3, g4⟩ := hX1
      try dsimp only at g2 g3 g4
      subst g2
      subst g3
      obtain ⟨q, q1, q2⟩ := hM2
      rw [q2] at q1
      exact same_q h hM1 ok (Or.inl ⟨rfl, rfl⟩) g1 (g4.q (by omega) (fun a z => by have : 104 ≤ a ∧ a ≤ 172 := z; omega)) q1 frN.refl t0_0
    · rw [show F_X9_within x b (0 : Int32) (1 : Int32) = some (0, x) from m_inN _ hb, show F_X10_in (zI m 0 0 0) b (0 : Int32) (1 : Int32) = some (0, zI m 0 0 0) from m_inN _ hb, zb_some, zb_some] at f ⊢
      exact f rfl rfl
  · rw [show F_X9_within x a (1 : Int32) (999 : Int32) = some (0, x) from m_inN _ ha, show F_X10_in (zI m 0 0 0) a (1 : Int32) (999 : Int32) = some (0, zI m 0 0 0) from m_inN _ ha, zb_some, zb_some] at f ⊢
    exact f rfl rfl
