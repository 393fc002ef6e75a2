/-! water -/
def givS (u : Nat → Nat) (W j b w : Nat) : Nat := sumN (fun k => if b.testBit k then min (u (8 * j + k)) w else 0) W
theorem sumN_mono {f g : Nat → Nat} : ∀ {n}, (∀ k, k < n → f k ≤ g k) → sumN f n ≤ sumN g n
  | 0, _ => Nat.le_refl _
  | n + 1, h => by
    rw [sumN_succ, sumN_succ]
    exact Nat.add_le_add (sumN_mono (fun k hk => h k (by omega))) (h n (by omega))
theorem giv_mono {u : Nat → Nat} {W j b w w' : Nat} (h : w ≤ w') : givS u W j b w ≤ givS u W j b w' := sumN_mono (fun k _ => by split <;> omega)
theorem giv_top {u : Nat → Nat} {W j b w : Nat} (hW : W ≤ 8) (hj : j < 8) (hv : okV u) (h : 9999 ≤ w) : givS u W j b w = givS u W j b 9999 := sumN_congr (fun k hk => by
  have := hv (8 * j + k) (by omega)
  split
  · omega
  · rfl)
theorem giv_le {u : Nat → Nat} {W j b w : Nat} (hW : W ≤ 8) (hj : j < 8) (hv : okV u) : givS u W j b w ≤ 79992 := by
  have h1 := sumN_le (f := fun k => if b.testBit k then min (u (8 * j + k)) w else 0) (b := 9999) (n := W) (fun k hk => by
    have := hv (8 * j + k) (by omega)
    split
    · omega
    · omega)
  unfold givS
  omega
theorem ya_bit0 {α : Type} (b : Nat) {k : Nat} (hb : b < 2 ^ 31) (hk : k < 31) {d : Decidable (((nI b >>> (nI k &&& 31)) &&& (1 : Int32)) = 0)} {s t : α} : @ite α (((nI b >>> (nI k &&& 31)) &&& (1 : Int32)) = 0) d s t = if b.testBit k = false then s else t := by
  have hs : ∀ n, n < 32 → ((nI n &&& 31).toBitVec.smod 32).toNat = n := by decide +kernel
  have e0 : ((nI b >>> (nI k &&& 31)) &&& (1 : Int32)) = nI (b / 2 ^ k % 2) := by
    rw [pk_shrN hb _ k (hs k (by omega)), show (1 : Int32) = nI 1 from rfl, pk_andN (Nat.lt_of_le_of_lt (Nat.div_le_self _ _) (by omega)) 1 rfl, Nat.pow_one]
  have e : b.testBit k = decide (b / 2 ^ k % 2 = 1) := Nat.testBit_eq_decide_div_mod_eq
  have h2 : b / 2 ^ k % 2 < 2 := Nat.mod_lt _ (by decide)
  generalize b / 2 ^ k % 2 = v at e0 e h2
  have e1 : ((nI b >>> (nI k &&& 31)) &&& (1 : Int32)) = 0 ↔ b.testBit k = false := by
    rw [e0, ya_0, nI_eq (by omega) (by omega), e]
    by_cases c : v = 1
    · rw [decide_eq_true c]; exact ⟨fun z => by omega, fun z => by cases z⟩
    · rw [decide_eq_false c]; exact ⟨fun _ => rfl, fun _ => by omega⟩
  by_cases c : b.testBit k = false
  · rw [if_pos c, if_pos (e1.mpr c)]
  · rw [if_neg c, if_neg (fun z => c (e1.mp z))]
theorem ya_mask {W : Nat} (h1 : 1 ≤ W) (h2 : W ≤ 8) : ((1 : Int32) <<< (nI W &&& 31)) - 1 = nI (2 ^ W - 1) ∧ 2 ^ W - 1 ≤ 255 := by
  have : W = 1 ∨ W = 2 ∨ W = 3 ∨ W = 4 ∨ W = 5 ∨ W = 6 ∨ W = 7 ∨ W = 8 := by omega
  rcases this with rfl | rfl | rfl | rfl | rfl | rfl | rfl | rfl <;> decide
theorem x_givenOf {x : zMem} {e : PL} {L : LW} {u : Nat → Nat} {pl r j b w : Nat} (hw : RXw x e L pl r) (he : okPL e) (hr : RXr x e u 4) (hv : okV u) (hj : j < pH e) (hb : b ≤ 255) (hw2 : w < 20000) :
    F_X9_givenOf x (nI j) (nI b) (nI w) = some (nI (givS u (pW e) j b w), x) := by
  have e2 := he.2.1
  have e4 := he.2.2.2.1
  unfold F_X9_givenOf
  refine loopP (F_X9_givenOf_6 _ _ _) (fun g k (s : Nat) => g (nI j) (nI b) (nI w) (nI s) (nI k) x) (pW e) (fun k s => s + if b.testBit k then min (u (8 * j + k)) w else 0) (fun s => some (nI s, x)) (fun g k s hk => ?_) (fun g s => ?_) (s := 0) rfl (by omega)
  · show F_X9_givenOf_6 (nI j) (nI b) (nI w) g (nI j) (nI b) (nI w) (nI s) (nI k) x = _
    have b1 := hv (8 * j + k) (by omega)
    unfold F_X9_givenOf_6 F_X9_givenOf_53
    rw [hw.2.2.1, gd_ok (sX_p hw.2.2.2.2.1), hw.1.1, ile (by omega) (by omega), if_neg (by omega), ya_bit0 b (by omega) (by omega), nI_1]
    cases hk2 : b.testBit k
    · rw [if_pos rfl]; rfl
    · rw [if_neg (by decide), if_pos rfl, x_placeOf, zb_some]
      dsimp only
      rw [gin_ok (by omega) (by decide), zl_eq, nI_clamp (by omega), show x.1 5 (8 * j + k) = nI (u (8 * j + k)) from (hr.1 _ (by omega)).1, ya_min (by omega) (by omega), nI_add]
  · show F_X9_givenOf_6 (nI j) (nI b) (nI w) g (nI j) (nI b) (nI w) (nI s) (nI (pW e)) x = _
    unfold F_X9_givenOf_6
    rw [hw.2.2.1, gd_ok (sX_p hw.2.2.2.2.1), hw.1.1, if_pos (Int32.le_refl _)]
theorem m_givenBy {m : zMem} {e : PL} {u : Nat → Nat} {j b w : Nat} (hp : RMp m e) (he : okPL e) (hr : RMr m u 451) (hv : okV u) (hj : j < pH e) (hb : b ≤ 255) (hw2 : w < 20000) :
    F_X10_givenBy m (nI j) (nI b) (nI w) = some (nI (givS u (pW e) j b w), m) := by
  have e2 := he.2.1
  have e4 := he.2.2.2.1
  unfold F_X10_givenBy
  refine loopP (F_X10_givenBy_6 _ _ _) (fun g k (s : Nat) => g (nI j) (nI b) (nI w) (nI s) (nI k) m) (pW e) (fun k s => s + if b.testBit k then min (u (8 * j + k)) w else 0) (fun s => some (nI s, m)) (fun g k s hk => ?_) (fun g s => ?_) (s := 0) rfl (by omega)
  · show F_X10_givenBy_6 (nI j) (nI b) (nI w) g (nI j) (nI b) (nI w) (nI s) (nI k) m = _
    have b1 := hv (8 * j + k) (by omega)
    unfold F_X10_givenBy_6 F_X10_givenBy_50
    rw [hp.1, ile (by omega) (by omega), if_neg (by omega), m_has b (by omega) (by omega), zb_some]
    dsimp only
    rw [ibI, nI_1]
    cases hk2 : b.testBit k
    · rw [if_pos rfl, zl_eq, ya_0, nI_add]
      rfl
    · rw [if_neg (by decide), if_pos rfl, show (0 : Int32) + (8 : Int32) * nI j + nI k = nI (8 * j + k) from by rw [ya_0, show (8 : Int32) = nI 8 from rfl, pk_mul, nI_add, nI_add, Nat.zero_add], gin_ok (by omega) (by decide), nI_clamp (by omega), hr _ (by omega), m_lessN _ (by omega) (by omega), zb_some]
      dsimp only
      rw [zl_eq, nI_add, Nat.min_comm]
  · show F_X10_givenBy_6 (nI j) (nI b) (nI w) g (nI j) (nI b) (nI w) (nI s) (nI (pW e)) m = _
    unfold F_X10_givenBy_6
    rw [hp.1, if_pos (Int32.le_refl _)]
theorem wa_gap : ∀ k : Fin 14, 8192 / 2 ^ k.1 / 2 = 8192 / 2 ^ (k.1 + 1) ∧ 16384 / 2 ^ (k.1 + 1) = 8192 / 2 ^ k.1 ∧ 16384 / 2 ^ k.1 = 2 * (8192 / 2 ^ k.1) ∧ 1 ≤ 8192 / 2 ^ k.1 ∧ 8192 / 2 ^ k.1 ≤ 8192 := by decide
/-- the most that may be let in -/
theorem wa_eq {P : Nat → Prop} {r w v : Nat} (hm : ∀ a b, a ≤ b → P b → P a) (ht : ∀ a, 9999 ≤ a → P 9999 → P a) (h1 : P r) (h2 : r + 1 = 16384 ∨ ¬ P (r + 1)) (h3 : P w) (h4 : w ≤ 9999) (h5 : w = 9999 ∨ ¬ P (w + 1)) (hv : v ≤ 9999) : min v r = min v w := by
  rcases h5 with h5 | h5
  · rw [h5] at h3
    rcases h2 with h2 | h2
    · omega
    · by_cases c : r + 1 ≤ 9999
      · exact absurd (hm _ _ c h3) h2
      · by_cases d : 9999 ≤ r
        · omega
        · exact absurd (ht (r + 1) (by omega) h3) h2
  · have h6 : r < w + 1 := Nat.lt_of_not_le (fun z => h5 (hm _ _ z h1))
    rcases h2 with h2 | h2
    · omega
    · have h7 : w < r + 1 := Nat.lt_of_not_le (fun z => h2 (hm _ _ z h3))
      rw [show r = w by omega]
theorem q_water {x m : zMem} {S : SS} (a b c d : Int32) (hX : RXo x S) (hM : RMn m S) (ok : okS S) : same T3 (F_X9_water x a b c d) (F_X10_water m a b c d) := by
  obtain ⟨pl, r, n, h⟩ := hX
  have hM1 := hM.t ok
  have he := ok.1
  have hv := ok.u
  have e1 := he.1
  have e2 := he.2.1
  have e4 := he.2.2.2.1
  rcases plc he a b with ⟨i, j, hi, hj, rfl, rfl⟩ | hb
  · have hmk := ya_mask e1 e2
    have mb : F_X10_water_64 (nI i) (nI j) c d (nI i) (nI j) c d 1 (zI m 0 0 0) = some (0, zI (zI (zI m 0 0 0) 0 0 (nI 2)) 2 1 ((zI m 0 0 0).1 2 1 + 1)) := by
      unfold F_X10_water_64
      rw [m_bad21 t0_0, zb_some]; rfl
    have f : F_X9_water x (nI i) (nI j) c d = some (1, 0, zI x 0 17 (x.1 0 17 + 1)) → F_X10_water m (nI i) (nI j) c d = F_X10_water_64 (nI i) (nI j) c d (nI i) (nI j) c d 1 (zI m 0 0 0) → same T3 (F_X9_water x (nI i) (nI j) c d) (F_X10_water m (nI i) (nI j) c d) := fun h1 h2 =>
      same_1 (t := 2) h hM1 ok (Or.inr (Or.inr ⟨rfl, rfl⟩)) frQ.refl frN.refl (v := 0) (w := 0) h1 (h2.trans mb)
    unfold F_X9_water F_X10_water F_X10_water_20 at f ⊢
    rw [zl_eq, x_npY h.1 he hi hj, zbx_0, h.1.2.2.1, gd_ok (sX_p h.1.2.2.2.2.1), h.1.1.1, hmk.1, m_iwY hM1.1 he hi hj, zb_some] at f ⊢
    dsimp only at f ⊢
    rw [if_neg (by decide), m_bad0 t0_0, zb_some] at f ⊢
    dsimp only at f ⊢
    rw [if_pos rfl, hM1.1.1, hmk.1] at f ⊢
    rcases ya_rng c (b := 2 ^ pW (sE S) - 1) (by omega) with ⟨bb, hbb, rfl⟩ | hc
    · rw [show F_X9_within x (nI bb) (0 : Int32) (nI (2 ^ pW (sE S) - 1)) = some (1, x) from m_inY _ (Nat.zero_le bb) hbb (by omega), show F_X10_in (zI m 0 0 0) (nI bb) (0 : Int32) (nI (2 ^ pW (sE S) - 1)) = some (1, zI m 0 0 0) from m_inY _ (Nat.zero_le bb) hbb (by omega), zb_some, zb_some] at f ⊢
      dsimp only at f ⊢
      rw [if_neg (by decide), if_neg (by decide)] at f ⊢
      rcases ya_rng d (b := 99999) (by decide) with ⟨am, ham, rfl⟩ | hd
      · rw [show F_X9_within x (nI am) (0 : Int32) (99999 : Int32) = some (1, x) from m_inY _ (Nat.zero_le am) ham (by decide), show F_X10_in (zI m 0 0 0) (nI am) (0 : Int32) (99999 : Int32) = some (1, zI m 0 0 0) from m_inY _ (Nat.zero_le am) ham (by decide), zb_some, zb_some]
        dsimp only
        rw [if_neg (by decide), if_neg (by decide)]
        clear f
        have hpl : 8 * j + i < 64 := by omega
        have bp := hv.1 (8 * j + i) (by omega)
        generalize hu : (sN S).2.1 = u at hv bp
        have hXu : RXr x (sE S) u 4 := by rw [← hu]; exact h.u
        have hMu : RMr (zI m 0 0 0) u 451 := by rw [← hu]; exact hM1.u
        have hj8 : j < 8 := by omega
        have Pm : ∀ a b, a ≤ b → givS u (pW (sE S)) j bb b ≤ am → givS u (pW (sE S)) j bb a ≤ am := fun a b h1 h2 => Nat.le_trans (giv_mono h1) h2
        have Pt : ∀ a, 9999 ≤ a → givS u (pW (sE S)) j bb 9999 ≤ am → givS u (pW (sE S)) j bb a ≤ am := fun a h1 h2 => by rw [giv_top e2 hj8 hv.1 h1]; exact h2
        have P0 : givS u (pW (sE S)) j bb 0 ≤ am := by
          rw [show givS u (pW (sE S)) j bb 0 = 0 from sum_0 (fun k _ => by split <;> omega)]; exact Nat.zero_le _
        have gle : ∀ w, givS u (pW (sE S)) j bb w ≤ 79992 := fun w => giv_le e2 hj8 hv.1
        have hM2 : ∃ w, (w ≤ 9999 ∧ givS u (pW (sE S)) j bb w ≤ am ∧ (w = 9999 ∨ ¬ givS u (pW (sE S)) j bb (w + 1) ≤ am)) ∧ F_X10_water_64 (nI i) (nI j) (nI bb) (nI am) (nI i) (nI j) (nI bb) (nI am) 0 (zI m 0 0 0) = some (if bb.testBit i = false then 0 else nI (min (u (8 * j + i)) w), zI m 0 0 0) := by
          have hw : wp (F_X10_water_64 (nI i) (nI j) (nI bb) (nI am) (nI i) (nI j) (nI bb) (nI am) 0 (zI m 0 0 0)) (fun q => ∃ w, (w ≤ 9999 ∧ givS u (pW (sE S)) j bb w ≤ am ∧ (w = 9999 ∨ ¬ givS u (pW (sE S)) j bb (w + 1) ≤ am)) ∧ q = (if bb.testBit i = false then 0 else nI (min (u (8 * j + i)) w), zI m 0 0 0)) := by
            unfold F_X10_water_64
            rw [m_bad0 t0_0, zb_some]
            dsimp only
            rw [if_pos rfl]
            have fin : ∀ w, w ≤ 9999 → givS u (pW (sE S)) j bb w ≤ am → (w = 9999 ∨ ¬ givS u (pW (sE S)) j bb (w + 1) ≤ am) → wp (F_X10_water_106 (nI i) (nI j) (nI bb) (nI am) (nI i) (nI j) (nI bb) (nI w) (zI m 0 0 0)) (fun q => ∃ w, (w ≤ 9999 ∧ givS u (pW (sE S)) j bb w ≤ am ∧ (w = 9999 ∨ ¬ givS u (pW (sE S)) j bb (w + 1) ≤ am)) ∧ q = (if bb.testBit i = false then 0 else nI (min (u (8 * j + i)) w), zI m 0 0 0)) := fun w h1 h2 h3 => by
              unfold F_X10_water_106
              rw [m_has bb (by omega) (by omega), zb_some]
              dsimp only
              rw [ibI]
              cases ht : bb.testBit i
              · rw [if_pos rfl, wp_some]
                exact ⟨w, ⟨h1, h2, h3⟩, rfl⟩
              · rw [if_neg (by decide), show (0 : Int32) + (8 : Int32) * nI j + nI i = nI (8 * j + i) from by rw [ya_0, show (8 : Int32) = nI 8 from rfl, pk_mul, nI_add, nI_add, Nat.zero_add], gin_ok (by omega) (by decide), nI_clamp (by omega), hMu _ (by omega), m_lessN _ (by omega) (by omega), zb_some, wp_some]
                exact ⟨w, ⟨h1, h2, h3⟩, by rw [Nat.min_comm]; rfl⟩
            refine loopN (F_X10_water_77 _ _ _ _) (fun g w (_ : Unit) => g (nI i) (nI j) (nI bb) (nI am) (nI w) (zI m 0 0 0)) 9999 (fun w _ => givS u (pW (sE S)) j bb w ≤ am) _ (fun g w _ hw hI ih => ?_) (fun g _ hI => ?_) (k := 0) (s := ()) (by omega) P0 (by omega)
            · try dsimp only at hI ih ⊢
              have gl := gle (w + 1)
              unfold F_X10_water_77
              rw [show (9999 : Int32) = nI 9999 from rfl, ile (by omega) (by omega), if_neg (by omega), nI_1, m_givenBy hM1.1 he hMu hv.1 hj (by omega) (by omega), zb_some]
              dsimp only
              rw [ilt (by omega) (by omega)]
              by_cases cc : am < givS u (pW (sE S)) j bb (w + 1)
              · rw [if_pos cc]
                exact fin w (by omega) hI (Or.inr (by omega))
              · rw [if_neg cc]
                exact ih () (by omega)
            · try dsimp only at hI ⊢
              unfold F_X10_water_77
              rw [show (9999 : Int32) = nI 9999 from rfl, if_pos (Int32.le_refl _)]
              exact fin 9999 (by omega) hI (Or.inl rfl)
          obtain ⟨q, q1, w, q2, q3⟩ := hw
          exact ⟨w, q2, by rw [q1, q3]⟩
        obtain ⟨w, ⟨w1, w2, w3⟩, w4⟩ := hM2
        refine same_q h hM1 ok (Or.inl ⟨rfl, rfl⟩) (x' := x) ?_ frQ.refl w4 frN.refl t0_0
        unfold F_X9_water_43
        rw [x_need1, zbx_0, ya_bit0 bb (by omega) (by omega)]
        cases ht : bb.testBit i
        · rw [if_pos rfl, if_pos rfl]
        · rw [if_neg (by decide), if_neg (by decide)]
          have hX1 : wp (itF (fun _ _ _ _ _ _ _ => none) (F_X9_water_64 (nI i) (nI j) (nI bb) (nI am)) zFuel (nI i) (nI j) (nI bb) (nI am) (nI 0) (nI (8192 / 2 ^ 0)) x) (fun q => q = (0, nI (min (u (8 * j + i)) w), x)) := by
            refine loopN (F_X9_water_64 _ _ _ _) (fun g k (s : Nat) => g (nI i) (nI j) (nI bb) (nI am) (nI s) (nI (8192 / 2 ^ k)) x) 14 (fun k s => givS u (pW (sE S)) j bb s ≤ am ∧ s + 16384 / 2 ^ k ≤ 16384 ∧ (s + 16384 / 2 ^ k = 16384 ∨ ¬ givS u (pW (sE S)) j bb (s + 16384 / 2 ^ k) ≤ am)) _ (fun g k s hk hI ih => ?_) (fun g s hI => ?_) (k := 0) (s := 0) (by omega) ⟨P0, by decide, Or.inl (by decide)⟩ (by omega)
            · obtain ⟨i1, i2, i3⟩ := hI
              try dsimp only at i1 i2 i3 ih ⊢
              obtain ⟨g1, g2, g3, g4, g5⟩ := wa_gap ⟨k, hk⟩
              dsimp only at g1 g2 g3 g4 g5
              rw [g2] at ih
              rw [g3] at i2 i3
              generalize 8192 / 2 ^ k = st at ih i2 i3 g1 g4 g5
              have gl := gle (s + st)
              unfold F_X9_water_64 F_X9_water_92
              rw [if_neg (by rw [ya_0, nI_leI (by omega) (by omega)]; omega), nI_add, x_givenOf h.1 he hXu hv.1 hj (by omega) (by omega), zb_some]
              dsimp only
              rw [zl_eq, zl_eq, show (2 : Int32) = nI 2 from rfl, pk_div (by omega) (by omega) (by omega), g1, ilt (by omega) (by omega)]
              by_cases cc : am < givS u (pW (sE S)) j bb (s + st)
              · rw [if_pos cc]
                exact ih s ⟨i1, by omega, Or.inr (by omega)⟩
              · rw [if_neg cc, zl_eq]
                exact ih (s + st) ⟨by omega, by omega, by rw [show s + st + st = s + 2 * st by omega]; exact i3⟩
            · obtain ⟨i1, i2, i3⟩ := hI
              try dsimp only at i1 i2 i3 ⊢
              unfold F_X9_water_64
              rw [show (8192 : Nat) / 2 ^ 14 = 0 from rfl, if_pos (show nI 0 ≤ (0 : Int32) by decide), x_placeOf, zb_some]
              dsimp only
              rw [gin_ok hpl (by decide), nI_clamp (by omega), show x.1 5 (8 * j + i) = nI (u (8 * j + i)) from (hXu.1 _ hpl).1, ya_min (by omega) (by omega), wp_some]
              rw [show (16384 : Nat) / 2 ^ 14 = 1 from rfl] at i3
              rw [wa_eq (P := fun w => givS u (pW (sE S)) j bb w ≤ am) Pm Pt i1 i3 w2 w1 w3 bp]
          obtain ⟨q, q1, q2⟩ := hX1
          rw [q2] at q1
          exact q1
      · rw [show F_X9_within x d (0 : Int32) (99999 : Int32) = some (0, x) from m_inN _ hd, show F_X10_in (zI m 0 0 0) d (0 : Int32) (99999 : Int32) = some (0, zI m 0 0 0) from m_inN _ hd, zb_some, zb_some] at f ⊢
        exact f rfl rfl
    · rw [show F_X9_within x c (0 : Int32) (nI (2 ^ pW (sE S) - 1)) = some (0, x) from m_inN _ hc, show F_X10_in (zI m 0 0 0) c (0 : Int32) (nI (2 ^ pW (sE S) - 1)) = some (0, zI m 0 0 0) from m_inN _ hc, zb_some, zb_some] at f ⊢
      exact f rfl rfl
  · refine same_0 (t := 1) h hM1 ok (Or.inr (Or.inl ⟨rfl, rfl⟩)) frQ.refl frN.refl (v := 0) (w := 0) ?_ ?_
    · unfold F_X9_water
      rw [x_npN h.1 hb]; rfl
    · unfold F_X10_water
      rw [zl_eq, m_iwN hM1.1 he hb, zb_some]
      dsimp only
      rw [if_pos rfl]
      unfold F_X10_water_20
      rw [m_bad10 t0_0, zb_some]; rfl
