/-! what a pan holds after a day with one more heap; fits, look -/
theorem dries_at {e : PL} {L : LW} {v : Nat → Nat} {q : Nat} (hq : q < 64) : ∀ k, q < k → k ≤ 64 → fN (fun p u => dryS e L p u) v k q = v q - lossS e L v q (v q) (v 193) (nI (v 192))
  | 0, h, _ => absurd h (Nat.not_lt_zero _)
  | k + 1, h, h2 => by
    show dryS e L k (fN (fun p u => dryS e L p u) v k) q = _
    by_cases c : q = k
    · subst c
      rw [dryS_loss, if_pos rfl, dries_o e L v q (Nat.le_refl _), dries_o e L v q (i := 193) (by omega), dries_o e L v q (i := 192) (by omega), lossS_congr (w := v) (fun f hf => dries_o e L v q (by omega)) (dries_o e L v q (by omega))]
    · rw [dryS_o c]
      exact dries_at hq k (by omega) (by omega)
theorem hour_at {e : PL} {L : LW} {v : Nat → Nat} : (∀ q, q < 64 → hourS e L v q = v q - lossS e L v q (v q) (v 193) (nI (v 192))) ∧ hourS e L v 193 = (if pn e ≤ v 193 + 1 then 0 else v 193 + 1) ∧ hourS e L v 192 = (if pn e ≤ v 193 + 1 then v 192 + 1 else v 192) ∧ ∀ i, 64 ≤ i → i < 192 → hourS e L v i = v i := by
  have d3 : fN (fun p u => dryS e L p u) v 64 193 = v 193 := dries_o e L v 64 (by omega)
  have d2 : fN (fun p u => dryS e L p u) v 64 192 = v 192 := dries_o e L v 64 (by omega)
  have g : ∀ i, i < 192 → hourS e L v i = fN (fun p u => dryS e L p u) v 64 i := fun i hi => by
    unfold hourS nextS
    split
    · rw [updN_n (by omega), updN_n (by omega)]
    · rw [updN_n (by omega)]
  refine ⟨fun q hq => by rw [g q (by omega), dries_at hq 64 (by omega) (Nat.le_refl _)], ?_, ?_, fun i h1 h2 => by rw [g i h2, dries_o e L v 64 h1]⟩
  · unfold hourS nextS
    rw [d3]
    by_cases c : pn e ≤ v 193 + 1
    · rw [if_pos c, if_pos c, updN_n (by omega), updN_s]
    · rw [if_neg c, if_neg c, updN_s]
  · unfold hourS nextS
    rw [d3, d2]
    by_cases c : pn e ≤ v 193 + 1
    · rw [if_pos c, if_pos c, updN_s]
    · rw [if_neg c, if_neg c, updN_n (by omega), d2]
theorem adv_dst {e : PL} {L : LW} {u : Nat → Nat} {q : Nat} (hq : q < 64) (hn : pn e ≠ 0) : ∀ k, adv e L u k q = (dst e L u q k).1 ∧ adv e L u k 193 = (dst e L u q k).2.1 ∧ adv e L u k 192 = (dst e L u q k).2.2 ∧ ∀ i, 64 ≤ i → i < 192 → adv e L u k i = u i
  | 0 => by rw [adv_0]; exact ⟨rfl, rfl, rfl, fun _ _ _ => rfl⟩
  | k + 1 => by
    obtain ⟨h1, h2, h3, h4⟩ := adv_dst (L := L) hq hn k
    obtain ⟨g1, g2, g3, g4⟩ := hour_at (e := e) (L := L) (v := adv e L u k)
    rw [adv_s hn, dst_s]
    unfold dstep
    refine ⟨?_, ?_, ?_, fun i hi hj => by rw [g4 i hi hj, h4 i hi hj]⟩
    · rw [g1 q hq, h1, h2, h3, lossS_congr (w := u) (fun f hf => h4 _ (by omega) (by omega)) (h4 _ (by omega) (by omega))]
    · rw [g2, h2]
    · rw [g3, h2, h3]
def brS (e : PL) (L : LW) (u : Nat → Nat) (p z q : Nat) : Nat := (dst e L (updN u (128 + p) z) q (pn e)).1
theorem adv_br {e : PL} {L : LW} {u : Nat → Nat} {p z q : Nat} (hq : q < 64) : adv e L (updN u (128 + p) z) (pn e) q = brS e L u p z q := by
  unfold brS
  by_cases z0 : pn e = 0
  · rw [adv_z z0, z0]; rfl
  · exact (adv_dst hq z0 (pn e)).1
theorem dst_0 {e : PL} {L : LW} {u : Nat → Nat} {q k : Nat} (h : (dst e L u q k).1 = 0) : ∀ j, k ≤ j → (dst e L u q j).1 = 0
  | 0, hj => by
    have c : k = 0 := by omega
    rw [c] at h
    exact h
  | j + 1, hj => by
    by_cases c : k = j + 1
    · rw [← c]; exact h
    · have := dst_0 h j (by omega)
      rw [dst_s]
      unfold dstep
      rw [this]
      exact Nat.zero_sub _
theorem any_or {c d : Nat → Bool} {p n : Nat} {a : Bool} (hp : p < n) (hc : c p = false) (hd : ∀ f, f < n → d f = if f = p then a else c f) : anyN d n = (anyN c n || a) := by
  rw [Bool.eq_iff_iff, Bool.or_eq_true, anyN_iff, anyN_iff]
  constructor
  · rintro ⟨k, h1, h2⟩
    rw [hd k h1] at h2
    by_cases e : k = p
    · rw [if_pos e] at h2; exact Or.inr h2
    · rw [if_neg e] at h2; exact Or.inl ⟨k, h1, h2⟩
  · rintro (⟨k, h1, h2⟩ | h)
    · refine ⟨k, h1, ?_⟩
      rw [hd k h1, if_neg (fun e => by rw [e, hc] at h2; cases h2)]
      exact h2
    · exact ⟨p, hp, by rw [hd p hp, if_pos rfl]; exact h⟩
theorem cov_0 {e : PL} {f q h : Nat} : cov e f 0 q h = false := by unfold cov; rw [if_pos rfl]
theorem shd_add {e : PL} {u : Nat → Nat} {p z q h : Nat} (hp : p < 64) (h0 : u (128 + p) = 0) : shd e (updN u (128 + p) z) q h = (shd e u q h || cov e p z q h) := by
  unfold shd
  refine any_or hp (by rw [h0]; exact cov_0) (fun f hf => ?_)
  by_cases c : f = p
  · rw [if_pos c, c, updN_s]
  · rw [if_neg c, updN_n (by omega)]
theorem loss_add {e : PL} {L : LW} {u : Nat → Nat} {p z q b h : Nat} {d : Int32} (hp : p < 64) (hq : q < 64) (h0 : u (128 + p) = 0) (hi : inW e q = true) : lossS e L (updN u (128 + p) z) q b h d = if addS e u p z q h = true then 0 else lossS e L u q b h d := by
  unfold lossS addS
  rw [shd_add hp h0, updN_n (by omega), hi]
  by_cases c : b = 0
  · rw [if_pos c, if_pos c]
    split <;> rfl
  · rw [if_neg c, if_neg c]
    cases shd e u q h <;> cases cov e p z q h <;> rfl
theorem frX.eq2 {r : Nat} {x y : zMem} (h : frX r (fun _ => False) x y) : y.2 = x.2 := Prod.ext (funext fun a => h.2.1 a (fun z => z)) h.2.2
theorem okR.add {e : PL} {u : Nat → Nat} {p z : Nat} (h : okR e u) (hp : p < 64) (hi : inW e p = true) (hz : z ≤ 999) : okR e (updN u (128 + p) z) := by
  obtain ⟨h1, h2, h3⟩ := h
  refine ⟨okV_upd h1 (by omega), fun q hq hj => ?_, by rw [updN_n (by omega)]; exact h3⟩
  have hqp : q ≠ p := fun c => by rw [c, hi] at hj; cases hj
  rw [updN_n (by omega), updN_n (by omega), updN_n (by omega)]
  exact h2 q hq hj
theorem x_brineAfterDay {x : zMem} {e : PL} {L : LW} {u : Nat → Nat} {f : Nat → Bool} {pl r p z q : Nat} (w : RXw x e L pl r) (he : okPL e) (ok : okL L) (hr : RXr x e u 4) (hv : okR e u) (hl : XL x e u f z) (hp : p < 64) (hf : f p = true) (h0 : u (128 + p) = 0) (hq : q < 64) :
    ∃ y, F_X9_brineAfterDay x (nI q) (nI p) = some (nI (brS e L u p z q), y) ∧ frX r (fun _ => False) x y := by
  have hn := he.2.2.2.2.1
  have hrr := w.2.2.2.2.2
  have bq := hv.1 q (by omega)
  have hw0 : (updN u (128 + p) z) q = u q := updN_n (by omega)
  have hw3 : (updN u (128 + p) z) 193 = u 193 := updN_n (by omega)
  have hw2 : (updN u (128 + p) z) 192 = u 192 := updN_n (by omega)
  have hwx : wp (F_X9_brineAfterDay x (nI q) (nI p)) (fun s => s.1 = nI (brS e L u p z q) ∧ frX r (fun _ => False) x s.2) := by
    unfold F_X9_brineAfterDay
    rw [gin_ok hq (by decide), zl_eq, zl_eq, zl_eq, nI_clamp (by omega), show x.1 5 q = nI (u q) from (hr.1 q hq).1, hr.2.2.2.1, hr.2.2.1]
    have e0 : dst e L (updN u (128 + p) z) q 0 = (u q, u 193, u 192) := by
      show ((updN u (128 + p) z) q, (updN u (128 + p) z) 193, (updN u (128 + p) z) 192) = _
      rw [hw0, hw3, hw2]
    suffices hg : wp (itF (fun _ _ _ _ _ _ _ => none) (F_X9_brineAfterDay_31 (nI q) (nI p)) zFuel (nI q) (nI p) (nI (dst e L (updN u (128 + p) z) q 0).1) (nI (dst e L (updN u (128 + p) z) q 0).2.1) (nI (dst e L (updN u (128 + p) z) q 0).2.2) (nI 0) x) (fun s => s.1 = nI (brS e L u p z q) ∧ frX r (fun _ => False) x s.2) by
      rw [e0] at hg
      exact hg
    refine loopN (F_X9_brineAfterDay_31 _ _) (fun g k (y : zMem) => g (nI q) (nI p) (nI (dst e L (updN u (128 + p) z) q k).1) (nI (dst e L (updN u (128 + p) z) q k).2.1) (nI (dst e L (updN u (128 + p) z) q k).2.2) (nI k) y) (pn e) (fun k y => frX r (fun _ => False) x y) _ (fun g k y hk hI ih => ?_) (fun g y hI => ?_) (k := 0) (s := x) (by omega) ?_ (by omega)
    · try dsimp only at hI ih ⊢
      have hd := dst_s e L (updN u (128 + p) z) q k
      have bh := dst_h (e := e) (L := L) (u := updN u (128 + p) z) (p := q) (by rw [hw3]; have := hv.2.2; omega) k
      have bb := dst_b (e := e) (L := L) (u := updN u (128 + p) z) (p := q) (by rw [hw0]; exact bq) k
      have hz := dst_0 (e := e) (L := L) (u := updN u (128 + p) z) (q := q) (k := k)
      have hz0 := dst_0 (e := e) (L := L) (u := updN u (128 + p) z) (q := q) (k := 0)
      generalize hs : dst e L (updN u (128 + p) z) q k = s at hd bh bb hz ih
      obtain ⟨b, h, d⟩ := s
      dsimp only at hd bh bb hz ih ⊢
      have w' := hI.w (fun _ _ _ z => z) w
      have r' := hI.rr hrr (Or.inl (by omega)) (fun _ _ _ z => z) hr
      have l' := hl.b hI.eq2
      unfold F_X9_brineAfterDay_31 F_X9_brineAfterDay_82 F_X9_brineAfterDay_103
      rw [w'.2.2.1, gd_ok (sX_p w'.2.2.2.2.1), w'.1.2.2.1, ile (by omega) (by omega), if_neg (by omega)]
      by_cases c0 : b ≤ 0
      · rw [if_pos (by rw [ya_0, nI_leI (by omega) (by omega)]; exact c0), wp_some]
        refine ⟨?_, hI⟩
        have := hz (by omega) (pn e) (by omega)
        dsimp only
        unfold brS
        rw [this, show b = 0 by omega]
      · rw [if_neg (by rw [ya_0, nI_leI (by omega) (by omega)]; exact c0), x_addedAt hp (by omega), zb_some]
        dsimp only
        rw [x_has y _ hq, zb_some]
        dsimp only
        rw [ibI, l'.1 p hp hf h bh q hq]
        have hin : inW e q = true := by
          cases hi : inW e q
          · have := hz0 (show (updN u (128 + p) z) q = 0 by rw [hw0]; exact (hv.2.1 q hq hi).1) k (by omega)
            rw [hs] at this
            exact absurd this (by dsimp only; omega)
          · rfl
        have hla := loss_add (e := e) (L := L) (u := u) (p := p) (z := z) (q := q) (b := b) (h := h) (d := nI d) hp hq h0 hin
        have fin : ∀ b2 y2, b - lossS e L (updN u (128 + p) z) q b h (nI d) = b2 → frX r (fun _ => False) x y2 → wp (gd (shX (y2.2.2 0 8) == 6) (if nI h + 1 < y2.1 (y2.2.2 0 8) 2 then g (nI q) (nI p) (nI b2) (nI h + 1) (nI d) (nI k + 1) y2 else g (nI q) (nI p) (nI b2) 0 (nI d + 1) (nI k + 1) y2)) (fun s => s.1 = nI (brS e L u p z q) ∧ frX r (fun _ => False) x s.2) := fun b2 y2 hb2 hf2 => by
          have w2 := hf2.w (fun _ _ _ z => z) w
          have ih2 := ih y2 hf2
          rw [hd] at ih2
          unfold dstep at ih2
          dsimp only at ih2
          rw [hb2] at ih2
          rw [w2.2.2.1, gd_ok (sX_p w2.2.2.2.2.1), w2.1.2.2.1, nI_1, nI_1, nI_1, ilt (by omega) (by omega)]
          by_cases c : pn e ≤ h + 1
          · rw [if_pos c, if_pos c] at ih2
            rw [if_neg (by omega)]
            exact ih2
          · rw [if_neg c, if_neg c] at ih2
            rw [if_pos (by omega)]
            exact ih2
        cases ha : addS e u p z q h
        · rw [ha, if_neg (by decide)] at hla
          rw [if_pos rfl]
          obtain ⟨y2, e1, e2⟩ := x_lossOf w' he ok r' hq (b := b) (h := h) (by omega) (Or.inl hin) (Or.inl bh) (nI d)
          rw [e1, zb_some]
          dsimp only
          rw [zl_eq, pk_sub (lossS_le _ _ _ _ _ _ _)]
          exact fin _ y2 (by rw [hla]) (hI.trans e2)
        · rw [ha, if_pos rfl] at hla
          rw [if_neg (by decide)]
          exact fin b y (by rw [hla]; rfl) hI
    · try dsimp only at hI ⊢
      have w' := hI.w (fun _ _ _ z => z) w
      unfold F_X9_brineAfterDay_31
      rw [w'.2.2.1, gd_ok (sX_p w'.2.2.2.2.1), w'.1.2.2.1, if_pos (Int32.le_refl _), wp_some]
      exact ⟨rfl, hI⟩
    · exact frX.refl
  obtain ⟨⟨v, y⟩, y1, y2, y3⟩ := hwx
  dsimp only at y2 y3
  subst y2
  exact ⟨y, y1, y3⟩
def soS (e : PL) (L : LW) (B : BK) (u : Nat → Nat) (p z : Nat) : Bool := !anyN (fun k => decide (brS e L u p z (bpl B k) ≠ bbr B k)) (bn B)
theorem so_yes {e : PL} {L : LW} {B : BK} {u : Nat → Nat} {p z : Nat} (h : ∀ j, j < bn B → brS e L u p z (bpl B j) = bbr B j) : soS e L B u p z = true := by
  unfold soS
  rw [anyN_no (fun k hk => decide_eq_false (fun c => c (h k hk)))]; rfl
theorem so_no {e : PL} {L : LW} {B : BK} {u : Nat → Nat} {p z j : Nat} (hj : j < bn B) (h : brS e L u p z (bpl B j) ≠ bbr B j) : soS e L B u p z = false := by
  unfold soS
  rw [anyN_yes hj (decide_eq_true h)]; rfl
theorem sX_b {n : Nat} (h : n = 194 ∨ n = 197) : (shX n == 2) = true := by rcases h with rfl | rfl <;> decide
theorem RXb.fr {x y : zMem} {B : BK} {n r : Nat} (h : RXb x B n) (hr : r = 186 ∨ r = 190) (hn : n = 194 ∨ n = 197) (f : frX r (fun a => a < 174) x y) : RXb y B n := by
  obtain ⟨h1, h2, h3⟩ := h
  refine ⟨by rw [f.1 n (by omega) (by omega) (by omega)]; exact h1, fun k hk => ?_, fun p hp => by rw [f.2.1 n (by omega)]; exact h3 p hp⟩
  rw [f.1 (n + 1) (by omega) (by omega) (by omega), f.1 (n + 2) (by omega) (by omega) (by omega)]
  exact h2 k hk
theorem x_linesRight {x : zMem} {e : PL} {L : LW} {B : BK} {u : Nat → Nat} {f : Nat → Bool} {pl r p z n : Nat} (w : RXw x e L pl r) (he : okPL e) (ok : okL L) (hr : RXr x e u 4) (hv : okR e u) (hl : XL x e u f z) (hb : RXb x B n) (hn : n = 194 ∨ n = 197) (hh : x.2.2 0 12 = n) (okb : okB e B) (hp : p < 64) (hf : f p = true) (h0 : u (128 + p) = 0) :
    ∃ y, F_X9_linesRight x (nI p) = some (bI (soS e L B u p z), y) ∧ frX r (fun _ => False) x y := by
  have hrr := w.2.2.2.2.2
  have hwx : wp (F_X9_linesRight x (nI p)) (fun s => s.1 = bI (soS e L B u p z) ∧ frX r (fun _ => False) x s.2) := by
    unfold F_X9_linesRight
    refine loopN (F_X9_linesRight_2 _) (fun g k (y : zMem) => g (nI p) (nI k) y) (bn B) (fun k y => (∀ j, j < k → brS e L u p z (bpl B j) = bbr B j) ∧ frX r (fun _ => False) x y) _ (fun g k y hk hI ih => ?_) (fun g y hI => ?_) (k := 0) (s := x) (by omega) ⟨fun j hj => absurd hj (Nat.not_lt_zero _), frX.refl⟩ (by have := okb.1; omega)
    · obtain ⟨i1, i2⟩ := hI
      try dsimp only at i1 i2 ih ⊢
      have w' := i2.w (fun _ _ _ z => z) w
      have r' := i2.rr hrr (Or.inl (by omega)) (fun _ _ _ z => z) hr
      have l' := hl.b i2.eq2
      have b' := hb.fr hrr hn (i2.wid (fun _ z => z.elim))
      have hk8 := okb.1
      have hB := okb.2 k hk
      unfold F_X9_linesRight_2
      rw [i2.2.2, hh, gd_ok (sX_b hn), b'.1, ile (by omega) (by omega), if_neg (by omega), show (8 : Int32) = nI 8 from rfl, ile (by omega) (by omega), if_neg (by omega), gin_ok (by omega) (by decide), nI_clamp (by omega), (b'.2.1 k hk).1]
      obtain ⟨y2, d1, d2⟩ := x_brineAfterDay w' he ok r' hv l' hp hf h0 hB.1 (z := z)
      have f2 := i2.trans d2
      have b2 := hb.fr hrr hn (f2.wid (fun _ z => z.elim))
      have bb := dst_b (e := e) (L := L) (u := updN u (128 + p) z) (p := bpl B k) (by rw [updN_n (by omega)]; exact hv.1 _ (by omega)) (pn e)
      have bb2 : brS e L u p z (bpl B k) ≤ 9999 := bb
      rw [d1, zb_some]
      dsimp only
      rw [f2.2.2, hh, gd_ok (sX_b hn), (b2.2.1 k hk).2, ieq (by omega) (by omega), nI_1]
      by_cases c : brS e L u p z (bpl B k) = bbr B k
      · rw [if_pos c]
        refine ih y2 ⟨fun j hj => ?_, f2⟩
        by_cases cj : j = k
        · rw [cj]; exact c
        · exact i1 j (by omega)
      · rw [if_neg c, wp_some]
        exact ⟨by rw [so_no hk c]; rfl, f2⟩
    · obtain ⟨i1, i2⟩ := hI
      try dsimp only at i1 i2 ⊢
      have b' := hb.fr hrr hn (i2.wid (fun _ z => z.elim))
      unfold F_X9_linesRight_2
      rw [i2.2.2, hh, gd_ok (sX_b hn), b'.1, if_pos (Int32.le_refl _), wp_some]
      exact ⟨by rw [so_yes i1]; rfl, i2⟩
  obtain ⟨⟨v, y⟩, y1, y2, y3⟩ := hwx
  dsimp only at y2 y3
  subst y2
  exact ⟨y, y1, y3⟩
def fitS (e : PL) (L : LW) (B : BK) (u : Nat → Nat) (z p : Nat) : Bool := freeS e u p && soS e L B u p z
theorem free_0 {e : PL} {u : Nat → Nat} {p : Nat} (h : freeS e u p = true) : u (128 + p) = 0 ∧ inW e p = true := by
  unfold freeS isFreeS isDryS at h
  simp only [Bool.and_eq_true, decide_eq_true_eq] at h
  exact ⟨h.2.1.2, h.1⟩
theorem x_fittingPlaces {x : zMem} {e : PL} {L : LW} {B : BK} {u : Nat → Nat} {pl r z n : Nat} (w : RXw x e L pl r) (he : okPL e) (ok : okL L) (hr : RXr x e u 4) (hv : okR e u) (hb : RXb x B n) (hn : n = 194 ∨ n = 197) (hh : x.2.2 0 12 = n) (okb : okB e B) (hz : 1 ≤ z ∧ z ≤ 999) :
    ∃ fm y, F_X9_fittingPlaces x (nI z) = some (fm, y) ∧ (∀ p, p < 64 → tb fm p = fitS e L B u z p) ∧ XL y e u (freeS e u) z ∧ frX r SL x y := by
  have hrr := w.2.2.2.2.2
  obtain ⟨fm, y0, c1, c2, c3, c4, c5⟩ := x_layEverywhere w he hr hv hz
  have hSw : ∀ a, 174 ≤ a → a < 194 → ¬ SL a := fun a h1 h2 h3 => by unfold SL at h3; omega
  have hw0 := c5.w hSw w
  have hr0 := c5.rr hrr (Or.inl (by omega)) (fun a h1 h2 h3 => by unfold SL at h3; omega) hr
  have hb0 := hb.fr hrr hn (c5.wid (fun a h => by unfold SL at h; omega))
  have hwx : wp (F_X9_fittingPlaces x (nI z)) (fun s => (∀ p, p < 64 → tb s.1 p = fitS e L B u z p) ∧ frX r (fun _ => False) y0 s.2) := by
    unfold F_X9_fittingPlaces
    rw [c1, zb_some]
    dsimp only
    refine loopN (F_X9_fittingPlaces_12 _) (fun g k (s : Int64 × zMem) => g fm s.1 (nI k) s.2) 64 (fun k s => (∀ p, p < 64 → tb s.1 p = (decide (p < k) && fitS e L B u z p)) ∧ frX r (fun _ => False) y0 s.2) _ (fun g k s hk hI ih => ?_) (fun g s hI => ?_) (k := 0) (s := ((0 : Int64), y0)) (by omega) ⟨fun p hp => by rw [tb_0]; rfl, frX.refl⟩ (by omega)
    · obtain ⟨s1, y⟩ := s
      obtain ⟨i1, i2⟩ := hI
      try dsimp only at i1 i2 ih ⊢
      have w' := i2.w (fun _ _ _ z => z) hw0
      have r' := i2.rr hrr (Or.inl (by omega)) (fun _ _ _ z => z) hr0
      have l' := c3.b i2.eq2
      have b' := hb0.fr hrr hn (i2.wid (fun _ z => z.elim))
      have no : ∀ y2, fitS e L B u z k = false → frX r (fun _ => False) y0 y2 → wp (g fm s1 (nI (k + 1)) y2) (fun s => (∀ p, p < 64 → tb s.1 p = fitS e L B u z p) ∧ frX r (fun _ => False) y0 s.2) := fun y2 h1 h2 => by
        refine ih (s1, y2) ⟨fun p hp => ?_, h2⟩
        dsimp only
        rw [i1 p hp]
        by_cases c : p = k
        · rw [c, h1, Bool.and_false, Bool.and_false]
        · rw [show decide (p < k + 1) = decide (p < k) from by rw [decide_eq_decide]; omega]
      unfold F_X9_fittingPlaces_12 F_X9_fittingPlaces_47
      rw [show (64 : Int32) = nI 64 from rfl, ile (by omega) (by omega), if_neg (by omega), x_has y _ hk, zb_some]
      dsimp only
      rw [ibI, c2 k hk, nI_1]
      cases hf : freeS e u k
      · rw [if_pos rfl]
        exact no y (by unfold fitS; rw [hf]; rfl) i2
      · rw [if_neg (by decide)]
        obtain ⟨y2, d1, d2⟩ := x_linesRight w' he ok r' hv l' b' hn (by rw [i2.2.2, c5.2.2]; exact hh) okb hk hf (free_0 hf).1
        rw [d1, zb_some]
        dsimp only
        rw [ibI]
        cases hs : soS e L B u k z
        · rw [if_pos rfl]
          exact no y2 (by unfold fitS; rw [hs, Bool.and_false]) (i2.trans d2)
        · rw [if_neg (by decide), x_bit, zb_some]
          dsimp only
          rw [zl_eq]
          refine ih (_, y2) ⟨fun p hp => ?_, i2.trans d2⟩
          dsimp only
          rw [tb_or, i1 p hp, tb_bit hk hp]
          by_cases c : p = k
          · rw [c, decide_eq_true rfl, Bool.or_true, decide_eq_true (by omega)]
            unfold fitS
            rw [hf, hs]; rfl
          · rw [decide_eq_false c, Bool.or_false, show decide (p < k + 1) = decide (p < k) from by rw [decide_eq_decide]; omega]
    · obtain ⟨s1, y⟩ := s
      obtain ⟨i1, i2⟩ := hI
      try dsimp only at i1 i2 ⊢
      unfold F_X9_fittingPlaces_12
      rw [show (64 : Int32) = nI 64 from rfl, if_pos (Int32.le_refl _), wp_some]
      exact ⟨fun p hp => by dsimp only; rw [i1 p hp, decide_eq_true hp, Bool.true_and], i2⟩
  obtain ⟨⟨v, y⟩, y1, y2, y3⟩ := hwx
  dsimp only at y2 y3
  exact ⟨v, y, y1, y2, c3.b y3.eq2, c5.trans (y3.wid (fun _ z => z.elim))⟩
theorem frM.b {m y : zMem} {B : BK} {c : Nat} (h : frM c m y) (hc : c ≠ 0 ∧ 366 < c) (okb : bn B ≤ 8) (w : RMb m B) : RMb y B := by
  refine ⟨by rw [h.1 0 (by omega) (by omega) (by omega)]; exact w.1, fun k hk => ?_⟩
  rw [h.1 (350 + (1 + 1 * k)) (by omega) (by omega) (by omega)]
  exact w.2 k hk
theorem m_isSo {m : zMem} {e : PL} {L : LW} {B : BK} {u : Nat → Nat} {p z : Nat} (H : RMh m e L u 451) (hB : RMb m B) (okb : okB e B) (he : okPL e) (ok : okL L) (hv : okR e u) (hp : p < 64) (hi : inW e p = true) (hz : z ≤ 999) :
    ∃ y, F_X10_isSo m (nI p) (nI z) = some (bI (soS e L B u p z), y) ∧ frM 452 m y ∧ ∀ q, q < 64 → y.1 452 q = nI (brS e L u p z q) := by
  have hn := he.2.2.2.2.1
  have hv2 := hv.add hp hi hz
  have hwx : wp (F_X10_isSo m (nI p) (nI z)) (fun s => s.1 = bI (soS e L B u p z) ∧ frM 452 m s.2 ∧ ∀ q, q < 64 → s.2.1 452 q = nI (brS e L u p z q)) := by
    obtain ⟨m1, c1, c2, c3⟩ := m_copies (M := m) (a := 451) (b := 452) (by decide)
    unfold F_X10_isSo
    rw [c1, zbv_some, show (128 : Int32) + nI p = nI (128 + p) from nI_add 128 p, gin_ok (by omega) (by decide), zl_eq, nI_clamp (by omega)]
    have f2 : frM 452 m (zI m1 452 (128 + p) (nI z)) := c2.trans frM.set
    have H2 : RMh (zI m1 452 (128 + p) (nI z)) e L (updN u (128 + p) z) 452 := ⟨f2.p (by omega) he H.1, f2.l (by omega) ok H.2.1, RMr.set (fun i hi => by rw [c3 i hi]; exact H.2.2 i hi)⟩
    generalize zI m1 452 (128 + p) (nI z) = m2 at f2 H2
    refine loopN (F_X10_isSo_24 _ _) (fun g k (y : zMem) => g (nI k) y) (pn e) (fun k y => RMh y e L (adv e L (updN u (128 + p) z) k) 452 ∧ frM 452 m y) _ (fun g k y hk hI ih => ?_) (fun g y hI => ?_) (k := 0) (s := m2) (by omega) ⟨by rw [adv_0]; exact H2, f2⟩ (by omega)
    · obtain ⟨i1, i2⟩ := hI
      try dsimp only at i1 i2 ih ⊢
      have hv3 := adv_ok (L := L) hv2 k
      unfold F_X10_isSo_24
      rw [i1.1.2.2.1, ile (by omega) (by omega), if_neg (by omega)]
      obtain ⟨y', d1, d2, _, d3⟩ := m_hourEnds i1 he ok hv3.1 (by have := hv3.2.2; omega) (by omega)
      rw [d1, zbv_some, nI_1]
      exact ih y' ⟨by rw [adv_s (by omega)]; exact d2, i2.trans d3⟩
    · obtain ⟨i1, i2⟩ := hI
      try dsimp only at i1 i2 ⊢
      unfold F_X10_isSo_24
      rw [i1.1.2.2.1, if_pos (Int32.le_refl _)]
      have hq : ∀ q, q < 64 → y.1 452 q = nI (brS e L u p z q) := fun q hq => by rw [i1.2.2 q (by omega), adv_br hq]
      have hb' := i2.b (B := B) (by omega) okb.1 hB
      refine loopN (F_X10_isSo_50 _ _) (fun g k (_ : Unit) => g (nI k) y) (bn B) (fun k _ => ∀ j, j < k → brS e L u p z (bpl B j) = bbr B j) _ (fun g2 k _ hk hI2 ih2 => ?_) (fun g2 _ hI2 => ?_) (k := 0) (s := ()) (by omega) (fun j hj => absurd hj (Nat.not_lt_zero _)) (by have := okb.1; omega)
      · try dsimp only at hI2 ih2 ⊢
        have hk8 := okb.1
        have hBk := okb.2 k hk
        have bb : brS e L u p z (bpl B k) ≤ 9999 := dst_b (e := e) (L := L) (u := updN u (128 + p) z) (p := bpl B k) (by rw [updN_n (by omega)]; exact hv.1 _ (by omega)) (pn e)
        unfold F_X10_isSo_50
        rw [hb'.1, ile (by omega) (by omega), if_neg (by omega), gin_ok (by omega) (by decide), nI_clamp (by omega), (hb'.2 k hk).1, (hb'.2 k hk).2, show (0 : Int32) + nI (bpl B k) = nI (0 + bpl B k) from nI_add 0 _, Nat.zero_add, gin_ok (by omega) (by decide), nI_clamp (by omega), hq _ hBk.1, ieq (by omega) (by omega), nI_1]
        by_cases c : brS e L u p z (bpl B k) = bbr B k
        · rw [if_pos c]
          refine ih2 () (fun j hj => ?_)
          by_cases cj : j = k
          · rw [cj]; exact c
          · exact hI2 j (by omega)
        · rw [if_neg c, wp_some]
          exact ⟨by rw [so_no hk c]; rfl, i2, hq⟩
      · try dsimp only at hI2 ⊢
        unfold F_X10_isSo_50
        rw [hb'.1, if_pos (Int32.le_refl _), wp_some]
        exact ⟨by rw [so_yes hI2]; rfl, i2, hq⟩
  obtain ⟨⟨v, y⟩, y1, y2, y3⟩ := hwx
  dsimp only at y2 y3
  subst y2
  exact ⟨y, y1, y3⟩
