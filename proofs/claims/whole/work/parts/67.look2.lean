/-! look -/
def enN (c : Nat → Bool) (n : Nat) : Nat → Nat := fN (fun p g => if c p then (fun i => if i = cnt c p then p else g i) else g) (fun _ => 0) n
theorem enN_s (c : Nat → Bool) (n : Nat) : enN c (n + 1) = if c n then (fun i => if i = cnt c n then n else enN c n i) else enN c n := rfl
theorem enN_lt {c : Nat → Bool} : ∀ {n i}, i < cnt c n → enN c n i < n ∧ c (enN c n i) = true
  | 0, _, h => absurd h (Nat.not_lt_zero _)
  | n + 1, i, h => by
    rw [cnt_succ] at h
    rw [enN_s]
    cases hc : c n
    · rw [hc, if_neg (by decide)] at h
      have := enN_lt (c := c) (n := n) (i := i) (by omega)
      rw [if_neg (by decide)]
      exact ⟨by omega, this.2⟩
    · rw [hc, if_pos rfl] at h
      rw [if_pos rfl]
      by_cases e : i = cnt c n
      · rw [if_pos e]; exact ⟨by omega, hc⟩
      · rw [if_neg e]
        have := enN_lt (c := c) (n := n) (i := i) (by omega)
        exact ⟨by omega, this.2⟩
theorem br_un {e : PL} {L : LW} {u : Nat → Nat} {f z q : Nat} (hf : f < 64) (hq : q < 64) (h0 : u (128 + f) = 0) (hi : inW e q = true) (hh : u 193 < pn e ∨ (pn e = 0 ∧ u 193 = 0)) (hu : ∀ h, h < pn e → addS e u f z q h = false) : brS e L u f z q = (dst e L u q (pn e)).1 := by
  have a0 : (updN u (128 + f) z) q = u q := updN_n (by omega)
  have a3 : (updN u (128 + f) z) 193 = u 193 := updN_n (by omega)
  have a2 : (updN u (128 + f) z) 192 = u 192 := updN_n (by omega)
  have key : pn e ≠ 0 → ∀ k, dst e L (updN u (128 + f) z) q k = dst e L u q k := fun hn k => by
    induction k with
    | zero =>
      show ((updN u (128 + f) z) q, (updN u (128 + f) z) 193, (updN u (128 + f) z) 192) = (u q, u 193, u 192)
      rw [a0, a3, a2]
    | succ k ih =>
      have bh := dst_h (e := e) (L := L) (u := u) (p := q) (by omega) k
      rw [dst_s, dst_s, ih]
      unfold dstep
      rw [loss_add hf hq h0 hi, hu _ bh, if_neg (by decide)]
  unfold brS
  by_cases hn : pn e = 0
  · rw [hn]; exact a0
  · rw [key hn]
theorem x_touchedBy {y : zMem} {p : Nat} (hp : p < 64) : F_X6_touchedBy y 104 (nI p) = some (y.2.1 (104 + 66) p, y) := by
  unfold F_X6_touchedBy
  rw [x_inE, show F_X10_in y (nI p) (0 : Int32) (63 : Int32) = some (1, y) from m_inY _ (Nat.zero_le p) (show p ≤ 63 by omega) (by decide), zb_some]
  dsimp only
  rw [if_neg (by decide), gin_ok hp (by decide), nI_clamp (by omega)]
def SB : Nat → Prop := fun a => a = 173
theorem x_brinesSeen {x : zMem} {e : PL} {L : LW} {u : Nat → Nat} {c : Nat → Bool} {fm : Int64} {pl r z q : Nat} (w : RXw x e L pl r) (he : okPL e) (ok : okL L) (hr : RXr x e u 4) (hv : okR e u) (hl : XL x e u (freeS e u) z) (hc : ∀ p, p < 64 → tb fm p = c p) (hf : ∀ p, c p = true → freeS e u p = true) (hq : q < 64) (hi : inW e q = true) :
    ∃ y, F_X9_brinesSeen x (nI q) fm = some (nI (cnt c 64), y) ∧ frX r SB x y ∧ y.2 = x.2 ∧ ∀ i, i < cnt c 64 → y.1 173 i = nI (brS e L u (enN c 64 i) z q) := by
  have hrr := w.2.2.2.2.2
  have bq := hv.1 q (by omega)
  have hSw : ∀ a, 174 ≤ a → a < 194 → ¬ SB a := fun a h1 h2 h3 => by unfold SB at h3; omega
  have hwx : wp (F_X9_brinesSeen x (nI q) fm) (fun s => s.1 = nI (cnt c 64) ∧ frX r SB x s.2 ∧ s.2.2 = x.2 ∧ ∀ i, i < cnt c 64 → s.2.1 173 i = nI (brS e L u (enN c 64 i) z q)) := by
    unfold F_X9_brinesSeen
    refine loopN (F_X9_brinesSeen_9 _ _) (fun g k (s : Int32 × zMem) => g (nI q) fm (nI (cnt c k)) s.1 (nI k) s.2) 64 (fun k s => (s.1 = -1 ∨ s.1 = nI (dst e L u q (pn e)).1) ∧ frX r SB x s.2 ∧ s.2.2 = x.2 ∧ ∀ i, i < cnt c k → s.2.1 173 i = nI (brS e L u (enN c k i) z q)) _ (fun g k s hk hI ih => ?_) (fun g s hI => ?_) (k := 0) (s := ((-1 : Int32), x)) (by omega) ⟨Or.inl rfl, frX.refl, rfl, fun i hi => absurd hi (Nat.not_lt_zero _)⟩ (by omega)
    · obtain ⟨s1, y⟩ := s
      obtain ⟨i1, i2, i4, i3⟩ := hI
      try dsimp only at i1 i2 i3 i4 ih ⊢
      have hcl := cnt_le c k
      have w' := i2.w hSw w
      have r' := i2.rr hrr (Or.inl (by omega)) (fun a h1 h2 h3 => by unfold SB at h3; omega) hr
      have l' := hl.b i4
      -- one more brine
      have put : ∀ (y2 : zMem) (b2 : Int32), c k = true → (b2 = -1 ∨ b2 = nI (dst e L u q (pn e)).1) → frX r (fun _ => False) y y2 → wp (g (nI q) fm (nI (cnt c k + 1)) b2 (nI (k + 1)) (zI y2 173 (cnt c k) (nI (brS e L u k z q)))) (fun s => s.1 = nI (cnt c 64) ∧ frX r SB x s.2 ∧ s.2.2 = x.2 ∧ ∀ i, i < cnt c 64 → s.2.1 173 i = nI (brS e L u (enN c 64 i) z q)) := fun y2 b2 hck hb2 hf2 => by
        have h1 := ih (b2, zI y2 173 (cnt c k) (nI (brS e L u k z q)))
        dsimp only at h1
        rw [cnt_succ, enN_s, hck, if_pos rfl, if_pos rfl] at h1
        refine h1 ⟨hb2, i2.trans ((hf2.wid (fun _ z => z.elim)).trans ⟨fun a _ _ h3 => zI_n (fun z => h3 z), fun _ _ => rfl, rfl⟩), (show y2.2 = x.2 from hf2.eq2.trans i4), fun i hi => ?_⟩
        rw [zI_1]
        by_cases ci : i = cnt c k
        · rw [ci, upd_s, if_pos rfl]
        · rw [upd_n ci, if_neg ci, hf2.1 173 (by omega) (by omega) (fun z => z)]
          exact i3 i (by omega)
      unfold F_X9_brinesSeen_9 F_X9_brinesSeen_79 F_X9_brinesSeen_90 F_X9_brinesSeen_93
      rw [show (64 : Int32) = nI 64 from rfl, ile (by omega) (by omega), if_neg (by omega), x_has y _ hk, zb_some]
      dsimp only
      rw [ibI, hc k hk]
      cases hck : c k
      · rw [if_pos rfl, nI_1]
        have h1 := ih (s1, y)
        dsimp only at h1
        rw [cnt_succ, enN_s, hck, if_neg (by decide), if_neg (by decide)] at h1
        exact h1 ⟨i1, i2, i4, i3⟩
      · have hfk := hf k hck
        have h0 := (free_0 hfk).1
        rw [if_neg (by decide), x_touchedBy hk, zb_some]
        dsimp only
        rw [x_has y _ hq, zb_some]
        dsimp only
        rw [ibI, l'.2 k hk q hq, hfk, Bool.true_and]
        obtain ⟨y2, d1, d2⟩ := x_brineAfterDay w' he ok r' hv l' hk hfk h0 hq (z := z)
        cases ha : anyN (fun h => addS e u k z q h) (pn e)
        · have hu : ∀ h, h < pn e → addS e u k z q h = false := fun h hh => by
            cases hx : addS e u k z q h
            · rfl
            · rw [anyN_yes hh hx] at ha; cases ha
          have hbu := br_un (L := L) hk hq h0 hi hv.2.2 hu
          rw [if_pos rfl]
          by_cases c1 : s1 = -1
          · rw [if_pos c1, d1, zb_some]
            dsimp only
            rw [gin_ok (by omega) (by decide), zl_eq, nI_clamp (by omega), nI_1, nI_1]
            exact put y2 _ hck (Or.inr (by rw [hbu])) d2
          · rw [if_neg c1, gin_ok (by omega) (by decide), zl_eq, nI_clamp (by omega), nI_1, nI_1]
            have e1 : s1 = nI (dst e L u q (pn e)).1 := by
              rcases i1 with i1 | i1
              · exact absurd i1 c1
              · exact i1
            have hp := put y s1 hck (Or.inr e1) frX.refl
            rw [hbu, ← e1] at hp
            exact hp
        · rw [if_neg (by decide), d1, zb_some]
          dsimp only
          rw [gin_ok (by omega) (by decide), zl_eq, nI_clamp (by omega), nI_1, nI_1]
          exact put y2 s1 hck i1 d2
    · obtain ⟨s1, y⟩ := s
      obtain ⟨i1, i2, i4, i3⟩ := hI
      try dsimp only at i1 i2 i3 i4 ⊢
      unfold F_X9_brinesSeen_9
      rw [show (64 : Int32) = nI 64 from rfl, if_pos (Int32.le_refl _), wp_some]
      exact ⟨rfl, i2, i4, i3⟩
  obtain ⟨⟨v, y⟩, y1, y2, y3, y4⟩ := hwx
  dsimp only at y2 y3 y4
  subst y2
  exact ⟨y, y1, y3, y4⟩
theorem m_isTold {m : zMem} {e : PL} {B : BK} (h : RMb m B) (ok : okB e B) {p : Nat} (hp : p < 64) : F_X10_isTold m (nI p) = some (bI (inB B p), m) := by
  have hw : wp (F_X10_isTold m (nI p)) (fun s => s = (bI (inB B p), m)) := by
    have hn := ok.1
    unfold F_X10_isTold
    refine loopN (F_X10_isTold_2 _) (fun g k (_ : Unit) => g (nI p) (nI k) m) (bn B) (fun k _ => ∀ j, j < k → bpl B j ≠ p) _ (fun g k _ hk hI ih => ?_) (fun g _ hI => ?_) (k := 0) (s := ()) (by omega) (fun j hj => absurd hj (Nat.not_lt_zero _)) (by omega)
    · try dsimp only at hI ih ⊢
      have hB := ok.2 k hk
      unfold F_X10_isTold_2
      rw [h.1, ile (by omega) (by omega), if_neg (by omega), gin_ok (by omega) (by decide), nI_clamp (by omega), (h.2 k hk).1, ieq (by omega) (by omega), nI_1]
      by_cases c : bpl B k = p
      · rw [if_pos c, wp_some]
        unfold inB
        rw [anyN_yes hk (decide_eq_true c)]; rfl
      · rw [if_neg c]
        refine ih () (fun j hj => ?_)
        by_cases cj : j = k
        · rw [cj]; exact c
        · exact hI j (by omega)
    · try dsimp only at hI ⊢
      unfold F_X10_isTold_2
      rw [h.1, if_pos (Int32.le_refl _), wp_some]
      unfold inB
      rw [anyN_no (fun k hk => decide_eq_false (hI k hk))]; rfl
  obtain ⟨s, s1, s2⟩ := hw
  rw [s1, s2]
theorem br_le {e : PL} {L : LW} {u : Nat → Nat} {p z q : Nat} (hv : okV u) (hp : p < 64) (hq : q < 64) : brS e L u p z q ≤ 9999 :=
  dst_b (e := e) (L := L) (u := updN u (128 + p) z) (p := q) (by rw [updN_n (by omega)]; exact hv _ (by omega)) (pn e)
def frP (m y : zMem) : Prop := (∀ a, a ≠ 368 → a ≠ 369 → a ≠ 452 → ¬ (475 < a ∧ a < 540) → y.1 a = m.1 a) ∧ y.2 = m.2
theorem frP.q {m y : zMem} (h : frP m y) : frN m y := ⟨fun a _ h2 => h.1 a (by omega) (by omega) (by omega) (by omega), fun j _ _ => by rw [h.1 0 (by omega) (by omega) (by omega) (by omega)]⟩
theorem frP.m {m y z : zMem} (h : frP m y) (k : frM 452 y z) : frP m z := ⟨fun a h1 h2 h3 h4 => (k.1 a h1 h2 h3).trans (h.1 a h1 h2 h3 h4), k.2.trans h.2⟩
theorem frP.s {m y : zMem} (h : frP m y) {k j : Nat} {v : Int32} (hk : 475 < k ∧ k < 540) : frP m (zI y k j v) := ⟨fun a h1 h2 h3 h4 => by rw [zI_n (fun c => h4 (by rw [c]; exact hk))]; exact h.1 a h1 h2 h3 h4, h.2⟩
theorem q_look {x m : zMem} {S : SS} (a b : Int32) (hX : RXo x S) (hM : RMn m S) (ok : okS S) : same T1 (F_X9_look x a b) (F_X10_look m a b) := by
  obtain ⟨pl, r, n, h⟩ := hX
  have hM1 := hM.t ok
  have he := ok.1
  have hv := ok.u
  have hr := h.1.2.2.2.2.2
  have hpl := h.1.2.2.2.2.1
  have hnn := h.2.1.2.2.2.2
  have hnr := h.2.1.2.2.1
  have mb : F_X10_look_31 a b a b 1 (zI m 0 0 0) = some (0, zI (zI (zI m 0 0 0) 0 0 (nI 1)) 2 1 ((zI m 0 0 0).1 2 1 + 1)) := by
    unfold F_X10_look_31
    rw [m_bad11 t0_0, zb_some]; rfl
  have f : F_X9_look x a b = some (1, 0, zI x 0 17 (x.1 0 17 + 1)) → F_X10_look m a b = F_X10_look_31 a b a b 1 (zI m 0 0 0) → same T1 (F_X9_look x a b) (F_X10_look m a b) := fun h1 h2 =>
    same_1 (t := 1) h hM1 ok (Or.inr ⟨rfl, rfl⟩) frQ.refl frN.refl (v := 0) (w := 0) h1 (h2.trans mb)
  unfold F_X9_look F_X10_look at f ⊢
  rw [zl_eq] at f ⊢
  rcases ya_rng1 a (c := 1) (b := 999) (by decide) (by decide) with ⟨z, hz1, hz, rfl⟩ | ha
  · rw [show F_X9_within x (nI z) (1 : Int32) (999 : Int32) = some (1, x) from m_inY _ hz1 hz (by decide), show F_X10_in (zI m 0 0 0) (nI z) (1 : Int32) (999 : Int32) = some (1, zI m 0 0 0) from m_inY _ hz1 hz (by decide), zb_some, zb_some] at f ⊢
    dsimp only at f ⊢
    rw [if_neg (by decide), if_neg (by decide)] at f ⊢
    rcases ya_rng b (b := 1) (by decide) with ⟨w, hw, rfl⟩ | hb
    · rw [show F_X9_within x (nI w) (0 : Int32) (1 : Int32) = some (1, x) from m_inY _ (Nat.zero_le w) hw (by decide), show F_X10_in (zI m 0 0 0) (nI w) (0 : Int32) (1 : Int32) = some (1, zI m 0 0 0) from m_inY _ (Nat.zero_le w) hw (by decide), zb_some, zb_some]
      dsimp only
      rw [if_neg (by decide), if_neg (by decide)]
      generalize hfit : fitS (sE S) (sL S) (sB S) (sN S).2.1 z = fit
      have hff : ∀ p, fit p = true → freeS (sE S) (sN S).2.1 p = true := fun p hp => by
        rw [← hfit] at hp
        unfold fitS at hp
        rw [Bool.and_eq_true] at hp
        exact hp.1
      have hcl := cnt_le fit 64
      have hen : ∀ i, i < cnt fit 64 → enN fit 64 i < 64 := fun i hi => (enN_lt hi).1
      generalize hwv : (fun q => worstA (fun i => brS (sE S) (sL S) (sN S).2.1 (enN fit 64 i) z q) (cnt fit 64)) = wv
      have hwl : ∀ q, wv q ≤ 64 := fun q => by
        rw [← hwv]
        dsimp only
        rw [← most_worst]
        exact Nat.le_trans mostA_le hcl
      generalize hsel : selL (fun p => inW (sE S) p && !inB (sB S) p) wv = sel
      have okb64 : ∀ k, k ≤ 64 → okb (sel k) := fun k hk => by rw [← hsel]; exact selL_ok (by omega) (fun p hp => by have := hwl p; omega)
      have hs : ∀ k, sel (k + 1) = if (inW (sE S) k && !inB (sB S) k) = true then offL k (wv k) (sel k) else sel k := fun k => by rw [← hsel]; rfl
      have hX1 : wp (F_X9_look_26 (nI z) (nI w) (nI z) (nI w) 1 x) (fun q => q.1 = 0 ∧ q.2.1 = poa w (sel 64) ∧ frX r (fun a => 104 ≤ a ∧ a ≤ 173) x q.2.2) := by
        obtain ⟨fm, y0, c1, c2, c3, c5⟩ := x_fittingPlaces h.1 he ok.2.1 h.u hv h.2.2.1 hnn hnr ok.2.2.1 ⟨hz1, hz⟩
        obtain ⟨y1, d1, d2, d3⟩ := x_clear y0
        have fx : ∀ {y z : zMem}, fr172 y z → frX r (fun a => 104 ≤ a ∧ a ≤ 173) y z := fun h => ⟨fun a _ _ h3 => h.1 a (fun c => h3 ⟨by omega, by omega⟩), fun a _ => by rw [h.2], by rw [h.2]⟩
        have f0 : frX r (fun a => 104 ≤ a ∧ a ≤ 173) x y0 := c5.wid (fun a q => by unfold SL at q; exact ⟨q.1, by omega⟩)
        have hSw : ∀ a, 174 ≤ a → a < 194 → ¬ (fun a => 104 ≤ a ∧ a ≤ 173) a := fun a h1 h2 h3 => by dsimp only at h3; omega
        rw [hfit] at c2
        unfold F_X9_look_26
        have w0 := f0.w hSw h.1
        have b0 := h.2.2.1.fr hr hnn (f0.wid (fun a h => by omega))
        rw [x_need1, zbx_0, c1, zb_some]
        dsimp only
        rw [w0.2.2.1, gd_ok (sX_p hpl), f0.2.2, hnr, gd_ok (sX_b hnn), zl_eq, d1, zbv_some]
        have hm : ∀ p, p < 64 → tb (y0.2.1 pl 3 &&& (y0.2.1 n 3 ^^^ -1)) p = (inW (sE S) p && !inB (sB S) p) := fun p hp => by
          rw [tb_and, tb_not _ hp, w0.1.2.2.2.2 p hp, b0.2.2 p hp]
        generalize y0.2.1 pl 3 &&& (y0.2.1 n 3 ^^^ -1) = um at hm
        refine loopN (F_X9_look_66 _ _) (fun g k (y : zMem) => g (nI w) fm um (nI k) y) 64 (fun k y => XB y (sel k) ∧ frX r (fun a => 104 ≤ a ∧ a ≤ 173) x y ∧ y.2 = y0.2) _ (fun g k y hk hI ih => ?_) (fun g y hI => ?_) (k := 0) (s := y1) (by omega) ⟨by rw [← hsel]; exact d2, f0.trans (fx d3), d3.2⟩ (by omega)
        · obtain ⟨i1, i2, i3⟩ := hI
          try dsimp only at i1 i2 i3 ih ⊢
          have w' := i2.w hSw h.1
          have r' := i2.rr hr (Or.inl (by omega)) (fun a h1 h2 h3 => by omega) h.u
          have l' := c3.b i3
          have hsk := hs k
          unfold F_X9_look_66 F_X9_look_103
          rw [show (64 : Int32) = nI 64 from rfl, ile (by omega) (by omega), if_neg (by omega), x_has y _ hk, zb_some]
          dsimp only
          rw [ibI, hm k hk, nI_1]
          cases hc : (inW (sE S) k && !inB (sB S) k)
          · rw [hc, if_neg (by decide)] at hsk
            rw [if_pos rfl]
            exact ih y ⟨by rw [hsk]; exact i1, i2, i3⟩
          · rw [hc, if_pos rfl] at hsk
            rw [if_neg (by decide)]
            have hin : inW (sE S) k = true := by rw [Bool.and_eq_true] at hc; exact hc.1
            obtain ⟨y2, e1, e2, e4, e3⟩ := x_brinesSeen (z := z) w' he ok.2.1 r' hv l' c2 hff hk hin
            rw [e1, zb_some]
            dsimp only
            rw [x_mostAlike (v := fun i => brS (sE S) (sL S) (sN S).2.1 (enN fit 64 i) z k) hcl e3 (fun i hi => br_le hv.1 (hen i hi) hk), zb_some]
            dsimp only
            rw [most_worst, show worstA (fun i => brS (sE S) (sL S) (sN S).2.1 (enN fit 64 i) z k) (cnt fit 64) = wv k from by rw [← hwv]]
            have i1' : XB y2 (sel k) := e2.b hr (fun z => by unfold SB at z; omega) i1
            obtain ⟨y3, g1, g2, g3⟩ := x_offerLeast (p := k) (v := wv k) i1' (by omega) (by have := hwl k; omega)
            rw [g1, zbv_some]
            exact ih y3 ⟨by rw [hsk]; exact g2, (i2.trans (e2.wid (fun a z => by unfold SB at z; omega))).trans (fx g3), g3.2.trans (e4.trans i3)⟩
        · obtain ⟨i1, i2, i3⟩ := hI
          try dsimp only at i1 i2 i3 ⊢
          unfold F_X9_look_66
          rw [show (64 : Int32) = nI 64 from rfl, if_pos (Int32.le_refl _), x_poa i1 (by omega), zb_some, wp_some]
          exact ⟨rfl, rfl, i2⟩
      have hM2 : wp (F_X10_look_31 (nI z) (nI w) (nI z) (nI w) 0 (zI m 0 0 0)) (fun q => q.1 = poa w (sel 64) ∧ frP (zI m 0 0 0) q.2) := by
        unfold F_X10_look_31
        rw [m_bad0 t0_0, zb_some]
        dsimp only
        rw [if_pos rfl]
        refine loopN (F_X10_look_46 _ _) (fun g k (y : zMem) => g (nI z) (nI w) (nI (cnt fit k)) (nI k) y) 64 (fun k y => frP (zI m 0 0 0) y ∧ ∀ i, i < cnt fit k → ∀ q, q < 64 → y.1 (475 + (1 + 1 * i)) q = nI (brS (sE S) (sL S) (sN S).2.1 (enN fit k i) z q)) _ (fun g k y hk hI ih => ?_) (fun g y hI => ?_) (k := 0) (s := zI m 0 0 0) (by omega) ⟨⟨fun _ _ _ _ _ => rfl, rfl⟩, fun i hi => absurd hi (Nat.not_lt_zero _)⟩ (by omega)
        · obtain ⟨i1, i2⟩ := hI
          try dsimp only at i1 i2 ih ⊢
          have N' := hM1.fr ok i1.q
          have hck := cnt_le fit k
          have hfk : fit k = (freeS (sE S) (sN S).2.1 k && soS (sE S) (sL S) (sB S) (sN S).2.1 k z) := by rw [← hfit]; rfl
          have no : ∀ y2, fit k = false → frM 452 y y2 → wp (g (nI z) (nI w) (nI (cnt fit k)) (nI (k + 1)) y2) (fun q => q.1 = poa w (sel 64) ∧ frP (zI m 0 0 0) q.2) := fun y2 h1 h2 => by
            have g1 := ih y2
            rw [cnt_succ, enN_s, h1, if_neg (by decide), if_neg (by decide)] at g1
            refine g1 ⟨i1.m h2, fun i hi q hq => ?_⟩
            rw [h2.1 _ (by omega) (by omega) (by omega)]
            exact i2 i hi q hq
          unfold F_X10_look_46 F_X10_look_112
          rw [show (64 : Int32) = nI 64 from rfl, ile (by omega) (by omega), if_neg (by omega), m_isFree N'.1 he N'.u hv.1 hk, zb_some]
          dsimp only
          rw [ibI, nI_1, show (inW (sE S) k && isFreeS (sN S).2.1 k) = freeS (sE S) (sN S).2.1 k from rfl]
          cases hf : freeS (sE S) (sN S).2.1 k
          · rw [if_pos rfl]
            exact no y (by rw [hfk, hf]; rfl) frM.refl
          · obtain ⟨y2, d1, d2, d3⟩ := m_isSo (z := z) N'.h N'.2.2.1 ok.2.2.1 he ok.2.1 hv hk (free_0 hf).2 (by omega)
            rw [if_neg (by decide), d1, zb_some]
            dsimp only
            rw [ibI]
            cases hso : soS (sE S) (sL S) (sB S) (sN S).2.1 k z
            · rw [if_pos rfl]
              exact no y2 (by rw [hfk, hso, Bool.and_false]) d2
            · have hft : fit k = true := by rw [hfk, hf, hso]; rfl
              rw [if_neg (by decide)]
              have g1 := fun y3 => ih y3
              rw [cnt_succ, enN_s, hft, if_pos rfl, if_pos rfl] at g1
              refine loopN (F_X10_look_78 _ _ _) (fun g2 q (y3 : zMem) => g2 (nI z) (nI w) (nI (cnt fit k)) (nI k) (nI q) y3) 64 (fun q y3 => frP (zI m 0 0 0) y3 ∧ (∀ i, i ≠ cnt fit k → y3.1 (475 + (1 + 1 * i)) = y2.1 (475 + (1 + 1 * i))) ∧ y3.1 452 = y2.1 452 ∧ ∀ p, p < q → y3.1 (475 + (1 + 1 * cnt fit k)) p = nI (brS (sE S) (sL S) (sN S).2.1 k z p)) _ (fun g2 q y3 hq hI2 ih2 => ?_) (fun g2 y3 hI2 => ?_) (k := 0) (s := y2) (by omega) ⟨i1.m d2, fun _ _ => rfl, rfl, fun p hp => absurd hp (Nat.not_lt_zero _)⟩ (by omega)
              · obtain ⟨j1, j2, j3, j4⟩ := hI2
                try dsimp only at j1 j2 j3 j4 ih2 ⊢
                unfold F_X10_look_78
                rw [show (64 : Int32) = nI 64 from rfl, ile (by omega) (by omega), if_neg (by omega), gin_ok (by omega) (by decide), show (0 : Int32) + nI q = nI (0 + q) from nI_add 0 q, Nat.zero_add, gin_ok (by omega) (by decide), gin_ok hq (by decide), zl_eq, nI_clamp (by omega), nI_clamp (by omega), j3, d3 q hq, nI_1]
                refine ih2 _ ⟨j1.s (by omega), fun i hi => by rw [zI_n (by omega)]; exact j2 i hi, by rw [zI_n (by omega)]; exact j3, fun p hp => ?_⟩
                rw [zI_1]
                by_cases cp : p = q
                · rw [cp, upd_s]
                · rw [upd_n cp]; exact j4 p (by omega)
              · obtain ⟨j1, j2, j3, j4⟩ := hI2
                try dsimp only at j1 j2 j3 j4 ⊢
                unfold F_X10_look_78 F_X10_look_112
                rw [show (64 : Int32) = nI 64 from rfl, if_pos (Int32.le_refl _), nI_1, nI_1]
                refine g1 y3 ⟨j1, fun i hi q hq => ?_⟩
                by_cases ci : i = cnt fit k
                · rw [ci, if_pos rfl]; exact j4 q hq
                · rw [if_neg ci, j2 i ci, d2.1 _ (by omega) (by omega) (by omega)]
                  exact i2 i (by omega) q hq
        · obtain ⟨i1, i2⟩ := hI
          try dsimp only at i1 i2 ⊢
          have N' := hM1.fr ok i1.q
          unfold F_X10_look_46
          rw [show (64 : Int32) = nI 64 from rfl, if_pos (Int32.le_refl _)]
          refine loopN (F_X10_look_127 _ _) (fun g k (s : Int32 × Int32) => g (nI w) (nI (cnt fit 64)) s.1 s.2 (nI k) y) 64 (fun k s => s.1 = bF (sel k) ∧ s.2 = bA (sel k)) _ (fun g k s hk hI ih => ?_) (fun g s hI => ?_) (k := 0) (s := (-1, -1)) (by omega) ⟨by rw [← hsel]; rfl, by rw [← hsel]; rfl⟩ (by omega)
          · obtain ⟨s1, s2⟩ := s
            obtain ⟨l1, l2⟩ := hI
            try dsimp only at l1 l2 ih ⊢
            have hsk := hs k
            have hwk := hwl k
            have skip : (inW (sE S) k && !inB (sB S) k) = false → wp (g (nI w) (nI (cnt fit 64)) s1 s2 (nI (k + 1)) y) (fun q => q.1 = poa w (sel 64) ∧ frP (zI m 0 0 0) q.2) := fun h1 => by
              rw [h1, if_neg (by decide)] at hsk
              exact ih (s1, s2) ⟨by rw [hsk]; exact l1, by rw [hsk]; exact l2⟩
            unfold F_X10_look_127 F_X10_look_180 F_X10_look_188
            rw [show (64 : Int32) = nI 64 from rfl, ile (by omega) (by omega), if_neg (by omega), m_isHere N'.1 he hk, zb_some]
            dsimp only
            rw [ibI, nI_1]
            cases hi : inW (sE S) k
            · rw [if_pos rfl]
              exact skip (by rw [hi]; rfl)
            · rw [if_neg (by decide), m_isTold (e := sE S) N'.2.2.1 ok.2.2.1 hk, zb_some]
              dsimp only
              cases ht : inB (sB S) k
              · rw [hi, ht] at hsk
                rw [if_pos (show bI false = 0 from rfl), m_worstAt (v := fun i => brS (sE S) (sL S) (sN S).2.1 (enN fit 64 i) z k) hcl hk (fun i hi => i2 i hi k hk) (fun i hi => br_le hv.1 (hen i hi) hk), zb_some]
                dsimp only
                rw [show worstA (fun i => brS (sE S) (sL S) (sN S).2.1 (enN fit 64 i) z k) (cnt fit 64) = wv k from by rw [← hwv]]
                have hsk2 : sel (k + 1) = offL k (wv k) (sel k) := hsk
                generalize wv k = v at hsk2 hwk
                cases hb : sel k with
                | none =>
                  rw [hb] at l1 l2 hsk2
                  rw [if_pos (show s1 = -1 from l1)]
                  exact ih (_, _) ⟨by rw [hsk2]; rfl, by rw [hsk2]; rfl⟩
                | some q =>
                  have hq := okb64 k (by omega) q hb
                  rw [hb] at l1 l2 hsk2
                  have e1 : s1 = nI q.1 := l1
                  have e2 : s2 = nI q.2 := l2
                  have ho : offL k v (some q) = if v < q.2 then some (k, v) else some q := rfl
                  rw [ho] at hsk2
                  rw [if_neg (by rw [e1, ya_ne_m1 hq.1]; exact fun z => z), e2, ilt (by omega) hq.2]
                  by_cases c : v < q.2
                  · rw [if_pos c]
                    rw [if_pos c] at hsk2
                    exact ih (_, _) ⟨by rw [hsk2]; rfl, by rw [hsk2]; rfl⟩
                  · rw [if_neg c]
                    rw [if_neg c] at hsk2
                    exact ih (_, _) ⟨by rw [hsk2]; exact l1, by rw [hsk2]; rfl⟩
              · rw [if_neg (show ¬ bI true = 0 by decide)]
                exact skip (by rw [hi, ht]; rfl)
          · obtain ⟨s1, s2⟩ := s
            obtain ⟨l1, l2⟩ := hI
            try dsimp only at l1 l2 ⊢
            unfold F_X10_look_127 poa
            rw [show (64 : Int32) = nI 64 from rfl, if_pos (Int32.le_refl _), ie0 (by omega)]
            by_cases c : w = 0
            · rw [if_pos c, if_pos c, l1, m_asTold _ (okb64 64 (by omega)), zb_some, wp_some]
              exact ⟨rfl, i1⟩
            · rw [if_neg c, if_neg c, wp_some]
              exact ⟨l2, i1⟩
      obtain ⟨⟨k0, v0, x'⟩, g1, g2, g3, g4⟩ := hX1
      try dsimp only at g2 g3 g4
      subst g2
      subst g3
      obtain ⟨⟨v1, m'⟩, j1, j2, j3⟩ := hM2
      try dsimp only at j2 j3
      subst j2
      exact same_q h hM1 ok (Or.inl ⟨rfl, rfl⟩) g1 (g4.q (by omega) (fun a z => by have : 104 ≤ a ∧ a ≤ 173 := z; omega)) j1 j3.q (by rw [j3.1 0 (by omega) (by omega) (by omega) (by omega)]; exact t0_0)
    · rw [show F_X9_within x b (0 : Int32) (1 : Int32) = some (0, x) from m_inN _ hb, show F_X10_in (zI m 0 0 0) b (0 : Int32) (1 : Int32) = some (0, zI m 0 0 0) from m_inN _ hb, zb_some, zb_some] at f ⊢
      exact f rfl rfl
  · rw [show F_X9_within x a (1 : Int32) (999 : Int32) = some (0, x) from m_inN _ ha, show F_X10_in (zI m 0 0 0) a (1 : Int32) (999 : Int32) = some (0, zI m 0 0 0) from m_inN _ ha, zb_some, zb_some] at f ⊢
    exact f rfl rfl
