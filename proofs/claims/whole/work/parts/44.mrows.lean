/-! what changes a row -/
def updN (u : Nat → Nat) (k v : Nat) : Nat → Nat := fun j => if j = k then v else u j
theorem updN_s {u : Nat → Nat} {k v : Nat} : updN u k v k = v := if_pos rfl
theorem updN_n {u : Nat → Nat} {k j v : Nat} (h : j ≠ k) : updN u k v j = u j := if_neg h
def canLet (u : Nat → Nat) (p n : Nat) : Bool := decide (u (128 + p) = 0) && (decide (u p + n ≤ 9999) && decide (u (64 + p) + n / 8 ≤ 9999))
def letS (u : Nat → Nat) (p n : Nat) : Nat → Nat := updN (updN u p (u p + n)) (64 + p) (u (64 + p) + n / 8)
def isDryS (u : Nat → Nat) (p : Nat) : Bool := decide (u p = 0) && decide (u (128 + p) = 0)
def canRk (u : Nat → Nat) (p q : Nat) : Bool := isDryS u p && (decide (0 < u (64 + p)) && (decide (p ≠ q) && (decide (u q = 0) && (decide (u (64 + q) = 0) && decide (u (128 + q) + u (64 + p) ≤ 9999)))))
def rkS (u : Nat → Nat) (p q : Nat) : Nat → Nat := updN (updN u (128 + q) (u (128 + q) + u (64 + p))) (64 + p) 0
def cartS (u : Nat → Nat) (p : Nat) : Nat → Nat := updN (updN u 194 (u 194 + u (128 + p))) (128 + p) 0
def rain1 (e : PL) (n p : Nat) (u : Nat → Nat) : Nat → Nat := if inW e p then (if u (128 + p) = 0 then updN u p (min 9999 (u p + n)) else updN u (128 + p) (u (128 + p) - n)) else u
def rainS (e : PL) (u : Nat → Nat) (n : Nat) : Nat → Nat := fN (fun p u => rain1 e n p u) u 64
def knR (e : PL) (u : Nat → Nat) (p h : Nat) : Nat → Int32 := kn8 (nI (u p)) (nI (u (64 + p))) (nI (prc e h)) (nI (psd e h)) (nI h) (nI (u 192)) (nI (p % 8)) (nI (p / 8))
def dryS (e : PL) (L : LW) (p : Nat) (u : Nat → Nat) : Nat → Nat := if u p = 0 then u else if shd e u p (u 193) then u else updN u p (u p - rateL L (knR e u p (u 193)))
def nextS (e : PL) (u : Nat → Nat) : Nat → Nat := if pn e ≤ u 193 + 1 then updN (updN u 193 0) 192 (u 192 + 1) else updN u 193 (u 193 + 1)
def hourS (e : PL) (L : LW) (u : Nat → Nat) : Nat → Nat := nextS e (fN (fun p u => dryS e L p u) u 64)
theorem okV.set {u : Nat → Nat} {k v : Nat} (h : okV u) (hv : v ≤ 9999) : okV (updN u k v) := by
  intro i hi
  by_cases e : i = k
  · rw [e, updN_s]; exact hv
  · rw [updN_n e]; exact h i hi
theorem okV.set2 {u : Nat → Nat} {k v : Nat} (h : okV u) (hk : 192 ≤ k) : okV (updN u k v) := by
  intro i hi
  rw [updN_n (by omega)]
  exact h i hi
theorem RMr.set {M : zMem} {u : Nat → Nat} {c k v : Nat} (h : RMr M u c) : RMr (zI M c k (nI v)) (updN u k v) c := by
  intro i hi
  rw [zI_1]
  by_cases e : i = k
  · rw [e, upd_s, updN_s]
  · rw [upd_n e, updN_n e]; exact h i hi
theorem frM.set {M : zMem} {c k : Nat} {v : Int32} : frM c M (zI M c k v) := ⟨fun a _ _ h => zI_n h, rfl⟩
theorem m_lets {M : zMem} {u : Nat → Nat} {c p n : Nat} (hr : RMr M u c) (hv : okV u) (hp : p < 64) (hn : n ≤ 9999) :
    ∃ M', F_X10_lets M c (nI p) (nI n) = some (bI (canLet u p n), M') ∧ RMr M' (if canLet u p n then letS u p n else u) c ∧ frM c M M' := by
  have b1 := hv p (by omega)
  have b2 := hv (64 + p) (by omega)
  have b3 := hv (128 + p) (by omega)
  unfold F_X10_lets canLet
  rw [show (128 : Int32) = nI 128 from rfl, show (64 : Int32) = nI 64 from rfl, show (0 : Int32) = nI 0 from rfl, show (9999 : Int32) = nI 9999 from rfl, show (8 : Int32) = nI 8 from rfl,
    nI_add, nI_add, nI_add, gin_ok (by omega) (by decide), gin_ok (by omega) (by decide), gin_ok (by omega) (by decide), nI_clamp (by omega), nI_clamp (by omega), nI_clamp (by omega),
    Nat.zero_add, hr _ (by omega), hr _ (by omega), hr _ (by omega), ilt (by omega) (by omega), pk_div (by omega) (by decide) (by decide), nI_add, nI_add, ilt (by omega) (by omega), ile (by omega) (by omega)]
  by_cases h1 : u (128 + p) = 0
  · rw [if_neg (by omega)]
    by_cases h2 : 9999 < u p + n
    · rw [if_pos h2]
      have : ¬ u p + n ≤ 9999 := by omega
      exact ⟨M, by simp [this]; rfl, by simpa [this] using hr, frM.refl⟩
    · rw [if_neg h2]
      have h2' : u p + n ≤ 9999 := by omega
      by_cases h3 : u (64 + p) + n / 8 ≤ 9999
      · rw [if_pos h3]
        simp only [zl_eq]
        refine ⟨_, by simp only [h1, h2', h3, decide_true, Bool.and_true]; rfl, ?_, frM.set.trans frM.set⟩
        have e : (zI M c p (nI (u p + n))).1 c (64 + p) = nI (u (64 + p)) := by rw [zI_1, upd_n (by omega)]; exact hr _ (by omega)
        simp only [h1, h2', h3, decide_true, Bool.and_true, if_true, e, nI_add]
        exact hr.set.set
      · rw [if_neg h3]
        exact ⟨M, by simp [h3]; rfl, by simpa [h3] using hr, frM.refl⟩
  · rw [if_pos (by omega)]
    exact ⟨M, by simp [h1]; rfl, by simpa [h1] using hr, frM.refl⟩
theorem m_carts {M : zMem} {u : Nat → Nat} {c p : Nat} (hr : RMr M u c) (hv : okV u) (hp : p < 64) :
    ∃ M', F_X10_carts M c (nI p) = some (bI (decide (u (128 + p) ≠ 0)), M') ∧ RMr M' (if u (128 + p) = 0 then u else cartS u p) c ∧ frM c M M' := by
  have b3 := hv (128 + p) (by omega)
  unfold F_X10_carts
  rw [show (128 : Int32) = nI 128 from rfl, nI_add, gin_ok (by omega) (by decide), nI_clamp (by omega), hr _ (by omega), ie0 (by omega)]
  by_cases h1 : u (128 + p) = 0
  · rw [if_pos h1, if_pos h1]
    exact ⟨M, by simp [h1]; rfl, hr, frM.refl⟩
  · rw [if_neg h1, if_neg h1]
    simp only [zl_eq]
    refine ⟨_, by simp only [ne_eq, h1, not_false_eq_true, decide_true]; rfl, ?_, frM.set.trans frM.set⟩
    rw [hr 194 (by omega), nI_add]
    exact hr.set.set
theorem m_isDry {M : zMem} {u : Nat → Nat} {c p : Nat} (hr : RMr M u c) (hv : okV u) (hp : p < 64) : F_X10_isDry M c (nI p) = some (bI (isDryS u p), M) := by
  have b1 := hv p (by omega)
  have b3 := hv (128 + p) (by omega)
  unfold F_X10_isDry isDryS
  rw [show (128 : Int32) = nI 128 from rfl, ya_0, nI_add, nI_add, gin_ok (by omega) (by decide), gin_ok (by omega) (by decide), nI_clamp (by omega), nI_clamp (by omega), Nat.zero_add, hr _ (by omega), hr _ (by omega), ieq (by omega) (by omega), ieq (by omega) (by omega)]
  by_cases h1 : u p = 0
  · by_cases h2 : u (128 + p) = 0
    · simp [h1, h2]; rfl
    · simp [h1, h2]; rfl
  · simp [h1]; rfl
theorem m_canRake {M : zMem} {u : Nat → Nat} {c p q : Nat} (hr : RMr M u c) (hv : okV u) (hp : p < 64) (hq : q < 64) : F_X10_canRake M c (nI p) (nI q) = some (bI (canRk u p q), M) := by
  have b1 := hv p (by omega)
  have b2 := hv (64 + p) (by omega)
  have c1 := hv q (by omega)
  have c2 := hv (64 + q) (by omega)
  have c3 := hv (128 + q) (by omega)
  unfold F_X10_canRake canRk
  rw [m_isDry hr hv hp, zb_some]
  dsimp only
  rw [show (128 : Int32) = nI 128 from rfl, show (64 : Int32) = nI 64 from rfl, show (9999 : Int32) = nI 9999 from rfl]
  cases hd : isDryS u p
  · rfl
  · rw [if_neg (show ¬ bI true = 0 by decide), ya_0, nI_add, nI_add, nI_add, nI_add, gin_ok (by omega) (by decide), gin_ok (by omega) (by decide), gin_ok (by omega) (by decide), gin_ok (by omega) (by decide),
      nI_clamp (by omega), nI_clamp (by omega), nI_clamp (by omega), nI_clamp (by omega), Nat.zero_add, hr _ (by omega), hr _ (by omega), hr _ (by omega), hr _ (by omega), ile (by omega) (by omega), ieq (by omega) (by omega), ieq (by omega) (by omega), ieq (by omega) (by omega), nI_add, ilt (by omega) (by omega)]
    by_cases h1 : u (64 + p) ≤ 0
    · have : ¬ 0 < u (64 + p) := by omega
      simp [h1, this]; rfl
    · have h1' : 0 < u (64 + p) := by omega
      by_cases h2 : p = q
      · simp [h1, h2]; rfl
      · by_cases h3 : u q = 0
        · by_cases h4 : u (64 + q) = 0
          · by_cases h5 : 9999 < u (128 + q) + u (64 + p)
            · have : ¬ u (128 + q) + u (64 + p) ≤ 9999 := by omega
              simp [h1, h1', h2, h3, h4, h5, this]; rfl
            · have : u (128 + q) + u (64 + p) ≤ 9999 := by omega
              simp [h1, h1', h2, h3, h4, h5, this]; rfl
          · simp [h1, h1', h2, h3, h4]; rfl
        · simp [h1, h1', h2, h3]; rfl
theorem m_rains {M : zMem} {e : PL} {u : Nat → Nat} {c n : Nat} (hp : RMp M e) (he : okPL e) (hr : RMr M u c) (hv : okV u) (hn : n ≤ 99) (hc : 27 < c) :
    ∃ M', F_X10_rains M c (nI n) = some M' ∧ RMr M' (rainS e u n) c ∧ okV (rainS e u n) ∧ frM c M M' := by
  have hw : wp (itF (fun _ _ _ => none) (F_X10_rains_2 c (nI n)) zFuel (nI n) (nI 0) M) (fun r => RMr r (rainS e u n) c ∧ okV (rainS e u n) ∧ frM c M r) := by
    refine loopN (F_X10_rains_2 _ _) (fun f k (m : zMem) => f (nI n) (nI k) m) 64 (fun k m => RMr m (fN (fun p u => rain1 e n p u) u k) c ∧ okV (fN (fun p u => rain1 e n p u) u k) ∧ frM c M m) _ (fun f k m hk hI ih => ?_) (fun f m hI => ?_) (k := 0) (s := M) (by omega) ⟨hr, hv, frM.refl⟩ (by omega)
    · try dsimp only at hI ih ⊢
      obtain ⟨i1, i2, i3⟩ := hI
      have hp' : RMp m e := i3.p hc he hp
      generalize hu : fN (fun p u => rain1 e n p u) u k = w at i1 i2 ih
      have hs : fN (fun p u => rain1 e n p u) u (k + 1) = rain1 e n k w := by rw [← hu]; rfl
      rw [hs] at ih
      have b1 := i2 k (by omega)
      have b3 := i2 (128 + k) (by omega)
      unfold F_X10_rains_2
      rw [show (64 : Int32) = nI 64 from rfl, ile (by omega) (by omega), if_neg (by omega), m_isHere hp' he hk, zb_some]
      dsimp only
      rw [ibI]
      cases hin : inW e k
      · rw [if_pos rfl]
        unfold F_X10_rains_70
        rw [nI_1]
        have : rain1 e n k w = w := by unfold rain1; rw [hin]; rfl
        rw [this] at ih
        exact ih m ⟨i1, i2, i3⟩
      · rw [if_neg (by decide), show (128 : Int32) = nI 128 from rfl, show (9999 : Int32) = nI 9999 from rfl, nI_add, gin_ok (by omega) (by decide), nI_clamp (by omega), i1 _ (by omega), ya_0, ile (by omega) (by omega)]
        by_cases h : w (128 + k) = 0
        · have hr1 : rain1 e n k w = updN w k (min 9999 (w k + n)) := by unfold rain1; rw [hin, if_pos rfl, if_pos h]
          rw [if_pos (by omega), nI_add, gin_ok (by omega) (by decide), nI_clamp (by omega), Nat.zero_add, i1 _ (by omega), nI_add, m_lessN m (by omega) (by omega), zb_some]
          dsimp only
          rw [zl_eq]
          unfold F_X10_rains_70
          rw [nI_1]
          rw [hr1] at ih
          exact ih _ ⟨i1.set, i2.set (by omega), i3.trans frM.set⟩
        · have hr1 : rain1 e n k w = updN w (128 + k) (w (128 + k) - n) := by unfold rain1; rw [hin, if_pos rfl, if_neg h]
          rw [if_neg (by omega), ← ya_0, m_more0 m (by omega) (by omega), zb_some]
          dsimp only
          rw [zl_eq]
          unfold F_X10_rains_70
          rw [nI_1]
          rw [hr1] at ih
          exact ih _ ⟨i1.set, i2.set (by omega), i3.trans frM.set⟩
    · try dsimp only at hI ⊢
      unfold F_X10_rains_2
      rw [show (64 : Int32) = nI 64 from rfl, ile (by omega) (by omega), if_pos (by omega), wp_some]
      exact hI
  exact hw
theorem m_driesOf {M : zMem} {e : PL} {L : LW} {u : Nat → Nat} {c p h : Nat} (hp : RMp M e) (he : okPL e) (hL : RMl M L) (ok : okL L) (hr : RMr M u c) (hpp : p < 64) (hh : h < pn e) :
    ∃ M', F_X10_driesOf M c (nI p) (nI h) = some (nI (rateL L (knR e u p h)), M') ∧ frM 368 M M' := by
  have hn := he.2.2.2.2.1
  unfold F_X10_driesOf
  rw [show (64 : Int32) = nI 64 from rfl, ya_rem8 (by omega), ya_div8 (by omega), ya_0, nI_add, nI_add, gin_ok (by omega) (by decide), gin_ok (by omega) (by decide), gin_ok (by omega) (by decide), nI_clamp (by omega), nI_clamp (by omega), nI_clamp (by omega), Nat.zero_add,
    hr _ (by omega), hr _ (by omega), hr 192 (by omega), (hp.2.2.2 h hh).1, (hp.2.2.2 h hh).2]
  obtain ⟨M', e1, e2⟩ := m_driesBy hL ok (nI (u p)) (nI (u (64 + p))) (nI (prc e h)) (nI (psd e h)) (nI h) (nI (u 192)) (nI (p % 8)) (nI (p / 8))
  exact ⟨M', by rw [e1, zb_some]; rfl, e2⟩
/-- what M needs for an hour to go by in row c -/
def RMh (M : zMem) (e : PL) (L : LW) (u : Nat → Nat) (c : Nat) : Prop := RMp M e ∧ RMl M L ∧ RMr M u c
theorem frM.h {c d : Nat} {M M' : zMem} {e : PL} {L : LW} {u : Nat → Nat} (h : frM c M M') (hc : 349 < c) (he : okPL e) (ok : okL L) (h1 : d ≠ 368) (h2 : d ≠ 369) (h3 : d ≠ c) (hh : RMh M e L u d) : RMh M' e L u d :=
  ⟨h.p (by omega) he hh.1, h.l hc ok hh.2.1, h.r h1 h2 h3 hh.2.2⟩
theorem RMh.set {M : zMem} {e : PL} {L : LW} {u : Nat → Nat} {c k v : Nat} (h : RMh M e L u c) (hc : 349 < c) (he : okPL e) (ok : okL L) : RMh (zI M c k (nI v)) e L (updN u k v) c :=
  ⟨frM.set.p (by omega) he h.1, frM.set.l hc ok h.2.1, h.2.2.set⟩
theorem m_driesOne {M : zMem} {e : PL} {L : LW} {u : Nat → Nat} {c p : Nat} (H : RMh M e L u c) (he : okPL e) (ok : okL L) (hv : okV u) (hpp : p < 64) (hh : u 193 < pn e ∨ u p = 0) (hc : 370 < c) :
    ∃ M', F_X10_driesOne M c (nI p) = some M' ∧ RMh M' e L (dryS e L p u) c ∧ okV (dryS e L p u) ∧ frM c M M' := by
  have hn := he.2.2.2.2.1
  have b1 := hv p (by omega)
  obtain ⟨hp, hL, hr⟩ := H
  unfold F_X10_driesOne dryS
  rw [ya_0, nI_add, gin_ok (by omega) (by decide), nI_clamp (by omega), Nat.zero_add, hr _ (by omega), hr 193 (by omega), ile (by omega) (by omega)]
  by_cases h0 : u p = 0
  · rw [if_pos (by omega), if_pos h0]
    exact ⟨M, rfl, ⟨hp, hL, hr⟩, hv, frM.refl⟩
  · have hh' : u 193 < pn e := by omega
    rw [if_neg (by omega), if_neg h0, m_isShade hp he hr hv hpp hh', zb_some]
    dsimp only
    rw [show nI 0 = (0 : Int32) from rfl, ibI]
    cases hs : shd e u p (u 193)
    · rw [if_pos rfl, if_neg (by decide), hr 193 (by omega), hr _ (by omega)]
      obtain ⟨M', e1, e2⟩ := m_driesOf (c := c) hp he hL ok hr hpp hh'
      have hra := rateL_le L (knR e u p (u 193))
      rw [e1, zb_some]
      dsimp only
      rw [m_more0 M' (by omega) (by omega), zb_some]
      dsimp only
      rw [zl_eq]
      have H' : RMh M' e L u c := e2.h (by omega) he ok (by omega) (by omega) (by omega) ⟨hp, hL, hr⟩
      exact ⟨_, rfl, H'.set (by omega) he ok, hv.set (by omega), e2.wid.trans frM.set⟩
    · rw [if_neg (by decide), if_pos rfl]
      exact ⟨M, rfl, ⟨hp, hL, hr⟩, hv, frM.refl⟩
theorem m_nextHour {M : zMem} {e : PL} {L : LW} {u : Nat → Nat} {c : Nat} (H : RMh M e L u c) (he : okPL e) (ok : okL L) (hh : u 193 < 20) (hc : 370 < c) :
    ∃ M', F_X10_nextHour M c = some M' ∧ RMh M' e L (nextS e u) c ∧ frM c M M' := by
  have hn := he.2.2.2.2.1
  unfold F_X10_nextHour nextS
  rw [H.2.2 193 (by omega), nI_1]
  have H1 : RMh (zI M c 193 (nI (u 193 + 1))) e L (updN u 193 (u 193 + 1)) c := H.set (by omega) he ok
  simp only [zl_eq]
  rw [H1.1.2.2.1, H1.2.2 193 (by omega), updN_s, ile (by omega) (by omega)]
  by_cases h : pn e ≤ u 193 + 1
  · rw [if_pos h, if_pos h]
    refine ⟨_, rfl, ?_, (frM.set.trans frM.set).trans frM.set⟩
    have H2 : RMh (zI (zI M c 193 (nI (u 193 + 1))) c 193 0) e L (updN (updN u 193 (u 193 + 1)) 193 0) c := H1.set (by omega) he ok
    have e2 : updN (updN u 193 (u 193 + 1)) 193 0 = updN u 193 0 := by
      funext j; unfold updN; split <;> rfl
    rw [e2] at H2
    rw [H2.2.2 192 (by omega), updN_n (by omega), nI_1]
    exact H2.set (by omega) he ok
  · rw [if_neg h, if_neg h]
    exact ⟨_, rfl, H1, frM.set⟩
theorem dryS_o {e : PL} {L : LW} {p i : Nat} {u : Nat → Nat} (h : i ≠ p) : dryS e L p u i = u i := by
  unfold dryS
  split
  · rfl
  · split
    · rfl
    · exact updN_n h
theorem dries_o (e : PL) (L : LW) (u : Nat → Nat) {i : Nat} : ∀ k, k ≤ i → fN (fun p u => dryS e L p u) u k i = u i
  | 0, _ => rfl
  | k + 1, h => by
    show dryS e L k (fN (fun p u => dryS e L p u) u k) i = u i
    rw [dryS_o (by omega), dries_o e L u k (by omega)]
theorem m_hourEnds {M : zMem} {e : PL} {L : LW} {u : Nat → Nat} {c : Nat} (H : RMh M e L u c) (he : okPL e) (ok : okL L) (hv : okV u) (hh : u 193 < pn e) (hc : 370 < c) :
    ∃ M', F_X10_hourEnds M c = some M' ∧ RMh M' e L (hourS e L u) c ∧ okV (hourS e L u) ∧ frM c M M' := by
  have hn := he.2.2.2.2.1
  have hw : wp (itF (fun _ _ => none) (F_X10_hourEnds_2 c) zFuel (nI 0) M) (fun r => RMh r e L (hourS e L u) c ∧ okV (hourS e L u) ∧ frM c M r) := by
    refine loopN (F_X10_hourEnds_2 _) (fun f k (m : zMem) => f (nI k) m) 64 (fun k m => RMh m e L (fN (fun p u => dryS e L p u) u k) c ∧ okV (fN (fun p u => dryS e L p u) u k) ∧ frM c M m) _ (fun f k m hk hI ih => ?_) (fun f m hI => ?_) (k := 0) (s := M) (by omega) ⟨H, hv, frM.refl⟩ (by omega)
    · try dsimp only at hI ih ⊢
      obtain ⟨i1, i2, i3⟩ := hI
      unfold F_X10_hourEnds_2
      rw [show (64 : Int32) = nI 64 from rfl, ile (by omega) (by omega), if_neg (by omega)]
      obtain ⟨M', e1, e2, e3, e4⟩ := m_driesOne i1 he ok i2 hk (Or.inl (by rw [dries_o e L u k (by omega)]; exact hh)) hc
      rw [e1, zbv_some, nI_1]
      exact ih M' ⟨e2, e3, i3.trans e4⟩
    · try dsimp only at hI ⊢
      obtain ⟨i1, i2, i3⟩ := hI
      unfold F_X10_hourEnds_2
      rw [show (64 : Int32) = nI 64 from rfl, ile (by omega) (by omega), if_pos (by omega)]
      obtain ⟨M', e1, e2, e4⟩ := m_nextHour i1 he ok (by rw [dries_o e L u 64 (by omega)]; omega) hc
      rw [e1, zbv_some, wp_some]
      refine ⟨e2, ?_, i3.trans e4⟩
      unfold hourS nextS
      split
      · exact (i2.set2 (by omega)).set2 (by omega)
      · exact i2.set2 (by omega)
  exact hw
