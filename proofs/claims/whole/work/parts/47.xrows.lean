/-! the class' pans -/
def RXr (x : zMem) (e : PL) (u : Nat → Nat) (t : Nat) : Prop := (∀ p, p < 64 → x.1 (t + 1) p = nI (u p) ∧ x.1 (t + 2) p = nI (u (64 + p)) ∧ x.1 (t + 3) p = nI (u (128 + p))) ∧ x.1 t 3 = nI (u 194) ∧ x.1 t 4 = nI (u 192) ∧ x.1 t 5 = nI (u 193) ∧ ∀ h, h < pn e → ∀ q, q < 64 → tb (x.2.1 (t + 4) h) q = (inW e q && shd e u q h)
theorem zL_1 {M : zMem} {k j : Nat} {v : Int64} : (zL M k j v).2.1 k = vp_updL (M.2.1 k) j v := if_pos rfl
theorem zL_n {M : zMem} {k j a : Nat} {v : Int64} (h : a ≠ k) : (zL M k j v).2.1 a = M.2.1 a := if_neg h
theorem updL_s {f : Nat → Int64} {k : Nat} {v : Int64} : vp_updL f k v k = v := if_pos rfl
theorem updL_n {f : Nat → Int64} {k j : Nat} {v : Int64} (h : j ≠ k) : vp_updL f k v j = f j := if_neg h
theorem shd_congr {e : PL} {u w : Nat → Nat} {q h : Nat} (hh : ∀ f, f < 64 → u (128 + f) = w (128 + f)) : shd e u q h = shd e w q h := anyN_congr (fun k hk => by rw [hh k hk])
theorem anyN_succ (p : Nat → Bool) (n : Nat) : anyN p (n + 1) = (anyN p n || p n) := rfl
/-- the shades are learnt: all that stood in them is forgotten -/
theorem x_learnShades {M : zMem} {e : PL} {u : Nat → Nat} {t pl : Nat} (hp : RXp M e pl) (he : okPL e) (hv : okV u) (hpl : pl ≠ t + 4) (hg : ∀ p, p < 64 → M.1 (t + 3) p = nI (u (128 + p))) (hz : ∀ p, p < 64 → inW e p = false → u (128 + p) = 0) :
    ∃ M', F_X4_learnShades M t pl = some M' ∧ M'.1 = M.1 ∧ (∀ a, a ≠ t + 4 → M'.2.1 a = M.2.1 a) ∧ M'.2.2 = M.2.2 ∧ ∀ h, h < pn e → ∀ q, q < 64 → tb (M'.2.1 (t + 4) h) q = (inW e q && shd e u q h) := by
  have hn := he.2.2.2.2.1
  have hrp : ∀ m : zMem, m.1 = M.1 → (∀ a, a ≠ t + 4 → m.2.1 a = M.2.1 a) → RXp m e pl := fun m h1 h2 => by
    obtain ⟨a1, a2, a3, a4, a5⟩ := hp
    exact ⟨by rw [h1]; exact a1, by rw [h1]; exact a2, by rw [h1]; exact a3, fun h hh => by rw [h1]; exact a4 h hh, fun p pp => by rw [h2 pl hpl]; exact a5 p pp⟩
  have hw : wp (F_X4_learnShades M t pl) (fun r => r.1 = M.1 ∧ (∀ a, a ≠ t + 4 → r.2.1 a = M.2.1 a) ∧ r.2.2 = M.2.2 ∧ ∀ h, h < pn e → ∀ q, q < 64 → tb (r.2.1 (t + 4) h) q = (inW e q && shd e u q h)) := by
    unfold F_X4_learnShades
    refine loopN (F_X4_learnShades_2 _ _) (fun f k (m : zMem) => f (nI k) m) 10 (fun k m => m.1 = M.1 ∧ (∀ a, a ≠ t + 4 → m.2.1 a = M.2.1 a) ∧ m.2.2 = M.2.2 ∧ ∀ h, h < k → m.2.1 (t + 4) h = 0) _ (fun f k m hk hI ih => ?_) (fun f m hI => ?_) (k := 0) (s := M) (by omega) ⟨rfl, fun _ _ => rfl, rfl, fun h hh => absurd hh (Nat.not_lt_zero _)⟩ (by omega)
    · try dsimp only at hI ih ⊢
      obtain ⟨i1, i2, i3, i4⟩ := hI
      unfold F_X4_learnShades_2
      rw [show (10 : Int32) = nI 10 from rfl, ile (by omega) (by omega), if_neg (by omega), gin_ok hk (by decide), zl_eq, nI_clamp (by omega), nI_1]
      refine ih _ ⟨i1, fun a ha => by rw [zL_n ha]; exact i2 a ha, i3, fun h hh => ?_⟩
      rw [zL_1]
      by_cases eh : h = k
      · rw [eh, updL_s]
      · rw [updL_n eh]; exact i4 h (by omega)
    · try dsimp only at hI ⊢
      obtain ⟨i1, i2, i3, i4⟩ := hI
      unfold F_X4_learnShades_2
      rw [show (10 : Int32) = nI 10 from rfl, ile (by omega) (by omega), if_pos (by omega)]
      refine loopN (F_X4_learnShades_23 _ _) (fun f k (m : zMem) => f (nI k) m) 64 (fun k m => m.1 = M.1 ∧ (∀ a, a ≠ t + 4 → m.2.1 a = M.2.1 a) ∧ m.2.2 = M.2.2 ∧ ∀ h, h < pn e → ∀ q, q < 64 → tb (m.2.1 (t + 4) h) q = (inW e q && anyN (fun f => cov e f (u (128 + f)) q h) k)) _ (fun f k m hk hI ih => ?_) (fun f m hI => ?_) (k := 0) (s := m) (by omega) ⟨i1, i2, i3, fun h hh q hq => ?_⟩ (by omega)
      · try dsimp only at hI ih ⊢
        obtain ⟨j1, j2, j3, j4⟩ := hI
        have hgk : m.1 (t + 3) k = nI (u (128 + k)) := by rw [j1]; exact hg k hk
        have hvk := hv (128 + k) (by omega)
        unfold F_X4_learnShades_23
        rw [show (64 : Int32) = nI 64 from rfl, ile (by omega) (by omega), if_neg (by omega)]
        refine loopN (F_X4_learnShades_31 _ _ _) (fun f h (m : zMem) => f (nI k) (nI h) m) (pn e) (fun h0 m => m.1 = M.1 ∧ (∀ a, a ≠ t + 4 → m.2.1 a = M.2.1 a) ∧ m.2.2 = M.2.2 ∧ (0 < h0 → u (128 + k) ≠ 0) ∧ ∀ h, h < pn e → ∀ q, q < 64 → tb (m.2.1 (t + 4) h) q = (inW e q && anyN (fun f => cov e f (u (128 + f)) q h) (if h < h0 then k + 1 else k))) _ (fun f2 h0 m2 hk2 hI2 ih2 => ?_) (fun f2 m2 hI2 => ?_) (k := 0) (s := m) (by omega) ⟨j1, j2, j3, fun z => absurd z (Nat.lt_irrefl 0), fun h hh q hq => by rw [if_neg (Nat.not_lt_zero h)]; exact j4 h hh q hq⟩ (by omega)
        · try dsimp only at hI2 ih2 ⊢
          obtain ⟨l1, l2, l3, l5, l4⟩ := hI2
          have hp2 := hrp m2 l1 l2
          have hgk2 : m2.1 (t + 3) k = nI (u (128 + k)) := by rw [l1]; exact hg k hk
          unfold F_X4_learnShades_31
          rw [hp2.2.2.1, ile (by omega) (by omega), if_neg (by omega), show (10 : Int32) = nI 10 from rfl, ile (by omega) (by omega), if_neg (by omega), gin_ok hk (by decide), nI_clamp (by omega), hgk2, ya_0, ile (by omega) (by omega)]
          by_cases c0 : u (128 + k) ≤ 0
          · rw [if_pos c0]
            unfold F_X4_learnShades_81
            rw [nI_1]
            refine ih m2 ⟨l1, l2, l3, fun h hh q hq => ?_⟩
            rw [l4 h hh q hq, anyN_succ]
            have h00 : h0 = 0 := by
              by_cases z : h0 = 0
              · exact z
              · exact absurd (show u (128 + k) = 0 by omega) (l5 (by omega))
            rw [h00, if_neg (Nat.not_lt_zero h)]
            have : cov e k (u (128 + k)) q h = false := by unfold cov; rw [if_pos (by omega)]
            rw [this, Bool.or_false]
          · have hin : inW e k = true := by
              cases z : inW e k
              · exact absurd (hz k hk z) (by omega)
              · rfl
            rw [if_neg c0, gin_ok (by omega) (by decide)]
            obtain ⟨msk, s1, s2⟩ := x_shadedBy hp2 he hk hin (by omega) hvk hk2
            rw [s1, zb_some]
            dsimp only
            rw [zl_eq, nI_clamp (by omega), nI_1]
            refine ih2 _ ⟨l1, fun a ha => by rw [zL_n ha]; exact l2 a ha, l3, fun _ => by omega, fun h hh q hq => ?_⟩
            rw [zL_1]
            by_cases eh : h = h0
            · rw [eh, updL_s, tb_or, l4 h0 hk2 q hq, if_neg (Nat.lt_irrefl h0), if_pos (by omega), s2 q hq, anyN_succ, Bool.and_or_distrib_left]
            · rw [updL_n eh, l4 h hh q hq]
              by_cases z : h < h0
              · rw [if_pos z, if_pos (by omega)]
              · rw [if_neg z, if_neg (by omega)]
        · try dsimp only at hI2 ⊢
          obtain ⟨l1, l2, l3, l5, l4⟩ := hI2
          have hp2 := hrp m2 l1 l2
          unfold F_X4_learnShades_31
          rw [hp2.2.2.1, ile (by omega) (by omega), if_pos (by omega)]
          unfold F_X4_learnShades_81
          rw [nI_1]
          refine ih m2 ⟨l1, l2, l3, fun h hh q hq => ?_⟩
          rw [l4 h hh q hq, if_pos hh]
      · try dsimp only at hI ⊢
        obtain ⟨j1, j2, j3, j4⟩ := hI
        unfold F_X4_learnShades_23
        rw [show (64 : Int32) = nI 64 from rfl, ile (by omega) (by omega), if_pos (by omega), wp_some]
        exact ⟨j1, j2, j3, fun h hh q hq => j4 h hh q hq⟩
      · rw [i4 h (by omega), tb_0]
        have : anyN (fun f => cov e f (u (128 + f)) q h) 0 = false := rfl
        rw [this, Bool.and_false]
  exact hw
theorem x_shadeAt {M : zMem} {t h : Nat} (hh : h < 10) : F_X4_shadeAt M t (nI h) = some (M.2.1 (t + 4) h, M) := by
  unfold F_X4_shadeAt
  rw [ya_0, ilt (by omega) (by omega), if_neg (by omega), show (10 : Int32) = nI 10 from rfl, ile (by omega) (by omega), if_neg (by omega), gin_ok hh (by decide), nI_clamp (by omega)]
/-- the class' world in which an hour goes by: its works at pl, its law at r -/
def RXw (x : zMem) (e : PL) (L : LW) (pl r : Nat) : Prop := RXp x e pl ∧ RXl x L r ∧ x.2.2 0 8 = pl ∧ x.2.2 0 10 = r ∧ (pl = 174 ∨ pl = 180) ∧ (r = 186 ∨ r = 190)
theorem sX_p {pl : Nat} (h : pl = 174 ∨ pl = 180) : (shX pl == 6) = true := by rcases h with rfl | rfl <;> decide
theorem sX_r {r : Nat} (h : r = 186 ∨ r = 190) : (shX r == 4) = true := by rcases h with rfl | rfl <;> decide
theorem frX.w {r : Nat} {S : Nat → Prop} {M M' : zMem} {e : PL} {L : LW} {pl : Nat} (h : frX r S M M') (hS : ∀ a, 174 ≤ a → a < 194 → ¬ S a) (w : RXw M e L pl r) : RXw M' e L pl r := by
  obtain ⟨⟨p1, p2, p3, p4, p5⟩, ⟨l1, l2⟩, w1, w2, w3, w4⟩ := w
  have g : ∀ a, 174 ≤ a → a < 194 → a ≠ r + 2 → a ≠ r + 3 → M'.1 a = M.1 a := fun a h1 h2 h3 h4 => h.1 a h3 h4 (hS a h1 h2)
  refine ⟨⟨?_, ?_, ?_, fun k hk => ?_, fun p hp => ?_⟩, ⟨?_, fun k hk => ?_⟩, ?_, ?_, w3, w4⟩
  · rw [g pl (by omega) (by omega) (by omega) (by omega)]; exact p1
  · rw [g pl (by omega) (by omega) (by omega) (by omega)]; exact p2
  · rw [g pl (by omega) (by omega) (by omega) (by omega)]; exact p3
  · rw [g (pl + 1) (by omega) (by omega) (by omega) (by omega), g (pl + 2) (by omega) (by omega) (by omega) (by omega)]; exact p4 k hk
  · rw [h.2.1 pl (hS pl (by omega) (by omega))]; exact p5 p hp
  · rw [g r (by omega) (by omega) (by omega) (by omega)]; exact l1
  · rw [g (r + 1) (by omega) (by omega) (by omega) (by omega)]; exact l2 k hk
  · rw [h.2.2]; exact w1
  · rw [h.2.2]; exact w2
theorem frX.rr {r : Nat} {S : Nat → Prop} {M M' : zMem} {e : PL} {u : Nat → Nat} {t : Nat} (h : frX r S M M') (hr : r = 186 ∨ r = 190) (ht : t + 4 < 188 ∨ 194 ≤ t) (hS : ∀ a, t ≤ a → a ≤ t + 4 → ¬ S a) (w : RXr M e u t) : RXr M' e u t := by
  obtain ⟨w1, w2, w3, w4, w5⟩ := w
  have g : ∀ a, t ≤ a → a ≤ t + 4 → M'.1 a = M.1 a := fun a h1 h2 => h.1 a (by omega) (by omega) (hS a h1 h2)
  refine ⟨fun p hp => ?_, ?_, ?_, ?_, fun k hk q hq => ?_⟩
  · rw [g (t + 1) (by omega) (by omega), g (t + 2) (by omega) (by omega), g (t + 3) (by omega) (by omega)]; exact w1 p hp
  · rw [g t (by omega) (by omega)]; exact w2
  · rw [g t (by omega) (by omega)]; exact w3
  · rw [g t (by omega) (by omega)]; exact w4
  · rw [h.2.1 (t + 4) (hS _ (by omega) (by omega))]; exact w5 k hk q hq
/-- what a pan of row u at p, of brine b, loses by hour h of day d -/
def lossS (e : PL) (L : LW) (u : Nat → Nat) (p b h : Nat) (d : Int32) : Nat :=
  if b = 0 then 0 else if shd e u p h then 0 else min b (rateL L (kn8 (nI b) (nI (u (64 + p))) (nI (prc e h)) (nI (psd e h)) (nI h) d (nI (p % 8)) (nI (p / 8))))
theorem lossS_le (e : PL) (L : LW) (u : Nat → Nat) (p b h : Nat) (d : Int32) : lossS e L u p b h d ≤ b := by
  unfold lossS
  split
  · omega
  · split
    · omega
    · exact Nat.min_le_left _ _
theorem x_lossOf {M : zMem} {e : PL} {L : LW} {u : Nat → Nat} {t pl r p b h : Nat} (w : RXw M e L pl r) (he : okPL e) (ok : okL L) (hr : RXr M e u t) (hp : p < 64) (hb : b ≤ 9999) (hin : inW e p = true ∨ b = 0) (hh : h < pn e ∨ b = 0) (d : Int32) :
    ∃ M', F_X9_lossOf M t (nI p) (nI b) (nI h) d = some (nI (lossS e L u p b h d), M') ∧ frX r (fun _ => False) M M' := by
  have hn := he.2.2.2.2.1
  obtain ⟨wp1, wl, w1, w2, w3, w4⟩ := w
  unfold F_X9_lossOf lossS
  rw [ie0 (by omega)]
  by_cases b0 : b = 0
  · rw [if_pos b0, if_pos b0]
    exact ⟨M, rfl, frX.refl⟩
  · have hh' : h < pn e := by omega
    have hin' : inW e p = true := by
      rcases hin with z | z
      · exact z
      · exact absurd z b0
    rw [if_neg b0, if_neg b0, ya_0, ilt (by omega) (by omega), if_neg (by omega), w1, gd_ok (sX_p w3), wp1.2.2.1, ile (by omega) (by omega), if_neg (by omega), x_shadeAt (by omega), zb_some]
    dsimp only
    rw [x_has M _ hp, zb_some]
    dsimp only
    rw [← ya_0, ibI, hr.2.2.2.2 h hh' p hp, hin', Bool.true_and]
    cases hs : shd e u p h
    · rw [if_pos rfl, if_neg (by decide), w1, gd_ok (sX_p w3), gin_ok (by omega) (by decide), zl_eq, w2, gd_ok (sX_r w4), gin_ok hp (by decide), nI_clamp (by omega), nI_clamp (by omega), (wp1.2.2.2.1 h hh').1, (wp1.2.2.2.1 h hh').2, (hr.1 p hp).2.1]
      obtain ⟨M', e1, e2⟩ := x_rate wl ok (nI b) (nI (u (64 + p))) (nI (prc e h)) (nI (psd e h)) (nI h) d hp
      have hra := rateL_le L (kn8 (nI b) (nI (u (64 + p))) (nI (prc e h)) (nI (psd e h)) (nI h) d (nI (p % 8)) (nI (p / 8)))
      rw [e1, zb_some]
      dsimp only
      rw [ya_min (by omega) (by omega)]
      exact ⟨M', rfl, e2⟩
    · rw [if_neg (by decide), if_pos rfl]
      exact ⟨M, rfl, frX.refl⟩
def ST (t : Nat) : Nat → Prop := fun a => t ≤ a ∧ a ≤ t + 4
theorem frX.setI {r t k j : Nat} {M : zMem} {v : Int32} (h1 : t ≤ k) (h2 : k ≤ t + 4) : frX r (ST t) M (zI M k j v) := ⟨fun a _ _ h => zI_n (fun z => h (by rw [z]; exact ⟨h1, h2⟩)), fun _ _ => rfl, rfl⟩
theorem dryS_loss {e : PL} {L : LW} {p : Nat} {u : Nat → Nat} (i : Nat) : dryS e L p u i = if i = p then u p - lossS e L u p (u p) (u 193) (nI (u 192)) else u i := by
  unfold dryS lossS knR
  by_cases h0 : u p = 0
  · rw [if_pos h0, if_pos h0]
    by_cases z : i = p
    · rw [if_pos z, z]; omega
    · rw [if_neg z]
  · rw [if_neg h0, if_neg h0]
    by_cases hs : shd e u p (u 193) = true
    · rw [if_pos hs, if_pos hs]
      by_cases z : i = p
      · rw [if_pos z, z]; omega
      · rw [if_neg z]
    · rw [if_neg hs, if_neg hs]
      by_cases z : i = p
      · rw [if_pos z, z, updN_s]; omega
      · rw [if_neg z, updN_n z]
theorem RXr.dry {M : zMem} {e : PL} {L : LW} {u : Nat → Nat} {t p : Nat} {v : Int32} (hr : RXr M e u t) (hp : p < 64) (hv : v = nI (u p - lossS e L u p (u p) (u 193) (nI (u 192)))) : RXr (zI M (t + 1) p v) e (dryS e L p u) t := by
  obtain ⟨w1, w2, w3, w4, w5⟩ := hr
  refine ⟨fun q hq => ?_, ?_, ?_, ?_, fun h hh q hq => ?_⟩
  · refine ⟨?_, ?_, ?_⟩
    · rw [zI_1, dryS_loss]
      by_cases z : q = p
      · rw [z, upd_s, if_pos rfl, hv]
      · rw [upd_n z, if_neg z]; exact (w1 q hq).1
    · rw [zI_n (by omega), dryS_o (by omega)]; exact (w1 q hq).2.1
    · rw [zI_n (by omega), dryS_o (by omega)]; exact (w1 q hq).2.2
  · rw [zI_n (by omega), dryS_o (by omega)]; exact w2
  · rw [zI_n (by omega), dryS_o (by omega)]; exact w3
  · rw [zI_n (by omega), dryS_o (by omega)]; exact w4
  · have : shd e (dryS e L p u) q h = shd e u q h := shd_congr (fun f hf => dryS_o (by omega))
    rw [this]
    exact w5 h hh q hq
theorem okV.dry {e : PL} {L : LW} {p : Nat} {u : Nat → Nat} (h : okV u) : okV (dryS e L p u) := by
  intro i hi
  rw [dryS_loss]
  split
  · rename_i z
    have := h i hi
    rw [← z]; omega
  · exact h i hi
theorem okV.drys {e : PL} {L : LW} {u : Nat → Nat} (h : okV u) : ∀ k, okV (fN (fun p u => dryS e L p u) u k)
  | 0 => h
  | k + 1 => (okV.drys h k).dry
theorem dries_z {e : PL} {L : LW} {u : Nat → Nat} {i : Nat} (h : u i = 0) (hi : i < 192) : ∀ k, fN (fun p u => dryS e L p u) u k i = 0
  | 0 => h
  | k + 1 => by
    show dryS e L k (fN (fun p u => dryS e L p u) u k) i = 0
    have ih := dries_z h hi (L := L) (e := e) k
    rw [dryS_loss]
    split
    · rename_i z
      subst z
      rw [ih]; omega
    · exact ih
theorem x_passHour {M : zMem} {e : PL} {L : LW} {u : Nat → Nat} {t pl r : Nat} (w : RXw M e L pl r) (he : okPL e) (ok : okL L) (hr : RXr M e u t) (hv : okR e u) (hh : u 193 < pn e) (ht : t + 4 < 174) :
    ∃ M', F_X9_passHour M t = some M' ∧ RXr M' e (hourS e L u) t ∧ frX r (ST t) M M' := by
  have hn := he.2.2.2.2.1
  have hS : ∀ a, 174 ≤ a → a < 194 → ¬ ST t a := fun a h1 h2 z => by unfold ST at z; omega
  have hw : wp (itF (fun _ _ => none) (F_X9_passHour_2 t) zFuel (nI 0) M) (fun m => RXr m e (hourS e L u) t ∧ frX r (ST t) M m) := by
    refine loopN (F_X9_passHour_2 _) (fun f k (m : zMem) => f (nI k) m) 64 (fun k m => RXr m e (fN (fun p u => dryS e L p u) u k) t ∧ frX r (ST t) M m) _ (fun f k m hk hI ih => ?_) (fun f m hI => ?_) (k := 0) (s := M) (by omega) ⟨hr, frX.refl⟩ (by omega)
    · try dsimp only at hI ih ⊢
      obtain ⟨i1, i2⟩ := hI
      have w' := i2.w hS w
      have hvk := (hv.1.drys (e := e) (L := L) k) k (by omega)
      have h193 : (fN (fun p u => dryS e L p u) u k) 193 = u 193 := dries_o e L u k (by omega)
      have hwk : inW e k = true ∨ (fN (fun p u => dryS e L p u) u k) k = 0 := by
        cases z : inW e k
        · exact Or.inr (dries_z (hv.2.1 k hk z).1 (by omega) k)
        · exact Or.inl rfl
      have hs : fN (fun p u => dryS e L p u) u (k + 1) = dryS e L k (fN (fun p u => dryS e L p u) u k) := rfl
      rw [hs] at ih
      generalize fN (fun p u => dryS e L p u) u k = v at i1 hvk h193 hwk ih
      unfold F_X9_passHour_2
      rw [show (64 : Int32) = nI 64 from rfl, ile (by omega) (by omega), if_neg (by omega), gin_ok hk (by decide), nI_clamp (by omega), (i1.1 k hk).1, i1.2.2.1, i1.2.2.2.1]
      obtain ⟨M', e1, e2⟩ := x_lossOf (h := v 193) w' he ok i1 hk hvk hwk (Or.inl (by rw [h193]; exact hh)) (nI (v 192))
      rw [e1, zb_some]
      dsimp only
      have hle := lossS_le e L v k (v k) (v 193) (nI (v 192))
      rw [pk_sub hle, zl_eq, nI_1]
      have i1' := e2.rr w.2.2.2.2.2 (Or.inl (by omega)) (fun _ _ _ z => z) i1
      exact ih _ ⟨i1'.dry hk rfl, (i2.trans (e2.wid (fun _ z => z.elim))).trans (frX.setI (by omega) (by omega))⟩
    · try dsimp only at hI ⊢
      obtain ⟨i1, i2⟩ := hI
      have w' := i2.w hS w
      have h193 : (fN (fun p u => dryS e L p u) u 64) 193 = u 193 := dries_o e L u 64 (by omega)
      have h192 : (fN (fun p u => dryS e L p u) u 64) 192 = u 192 := dries_o e L u 64 (by omega)
      unfold hourS nextS
      generalize fN (fun p u => dryS e L p u) u 64 = v at i1 h193 h192
      unfold F_X9_passHour_2
      rw [show (64 : Int32) = nI 64 from rfl, ile (by omega) (by omega), if_pos (by omega), i1.2.2.2.1, nI_1, zl_eq]
      have w'' : RXw (zI m t 5 (nI (v 193 + 1))) e L pl r := (i2.trans (frX.setI (by omega) (by omega))).w hS w
      obtain ⟨q1, q2, q3, q4, q5⟩ := i1
      rw [w''.2.2.1, gd_ok (sX_p w''.2.2.2.2.1), w''.1.2.2.1, zI_1, upd_s, ilt (by omega) (by omega)]
      by_cases c : pn e ≤ v 193 + 1
      · rw [if_neg (by omega), if_pos c, zl_eq, zl_eq, wp_some]
        refine ⟨⟨fun p hp => ?_, ?_, ?_, ?_, fun h hh2 q hq => ?_⟩, ((i2.trans (frX.setI (by omega) (by omega))).trans (frX.setI (by omega) (by omega))).trans (frX.setI (by omega) (by omega))⟩
        · rw [zI_n (by omega), zI_n (by omega), zI_n (by omega), zI_n (by omega), zI_n (by omega), zI_n (by omega), zI_n (by omega), zI_n (by omega), zI_n (by omega), updN_n (by omega), updN_n (by omega), updN_n (by omega), updN_n (by omega), updN_n (by omega), updN_n (by omega)]
          exact q1 p hp
        · rw [zI_1, upd_n (by omega), zI_1, upd_n (by omega), zI_1, upd_n (by omega), updN_n (by omega), updN_n (by omega)]; exact q2
        · rw [zI_1, upd_s, zI_1, upd_n (by omega), zI_1, upd_n (by omega), updN_s, q3, nI_1]
        · rw [zI_1, upd_n (by omega), zI_1, upd_s, updN_n (by omega), updN_s]; rfl
        · have : shd e (updN (updN v 193 0) 192 (v 192 + 1)) q h = shd e v q h := shd_congr (fun f hf => by rw [updN_n (by omega), updN_n (by omega)])
          rw [this]
          exact q5 h hh2 q hq
      · rw [if_pos (by omega), if_neg c, wp_some]
        refine ⟨⟨fun p hp => ?_, ?_, ?_, ?_, fun h hh2 q hq => ?_⟩, i2.trans (frX.setI (by omega) (by omega))⟩
        · rw [zI_n (by omega), zI_n (by omega), zI_n (by omega), updN_n (by omega), updN_n (by omega), updN_n (by omega)]
          exact q1 p hp
        · rw [zI_1, upd_n (by omega), updN_n (by omega)]; exact q2
        · rw [zI_1, upd_n (by omega), updN_n (by omega)]; exact q3
        · rw [zI_1, upd_s, updN_s]
        · have : shd e (updN v 193 (v 193 + 1)) q h = shd e v q h := shd_congr (fun f hf => by rw [updN_n (by omega)])
          rw [this]
          exact q5 h hh2 q hq
  exact hw
