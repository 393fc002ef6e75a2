/-! work being done: items, segments, both sides at once -/
noncomputable def hL (rr : zMem → Int32 → Int32 → Option zMem) (p0 p1 : Int32) (N : Nat) : Int32 → Int32 → zMem → Option zMem := itF (fun _ _ _ => none) (F_X10_goes_2 rr p0 p1) N
noncomputable def HL (rr : zMem → Int32 → Int32 → Option zMem) (p0 p1 : Int32) (N to s : Nat) (m : zMem) : Option zMem := hL rr p0 p1 N (nI to) (nI s) m
theorem hl_s (rr : zMem → Int32 → Int32 → Option zMem) (p0 p1 : Int32) (N to s : Nat) (m : zMem) : HL rr p0 p1 (N + 1) to s m = F_X10_goes_2 rr p0 p1 (hL rr p0 p1 N) (nI to) (nI s) m := rfl
noncomputable def jL (rr : zMem → Int32 → Int32 → Option zMem) (p0 p1 : Int32) (self2 : Int32 → Int32 → zMem → Option zMem) (N : Nat) : Int32 → Int32 → Int32 → zMem → Option zMem := itF (fun _ _ _ _ => none) (F_X10_goes_42 rr p0 p1 self2) N
theorem jl_s (rr : zMem → Int32 → Int32 → Option zMem) (p0 p1 : Int32) (self2 : Int32 → Int32 → zMem → Option zMem) (N : Nat) (a b c : Int32) (m : zMem) : jL rr p0 p1 self2 (N + 1) a b c m = F_X10_goes_42 rr p0 p1 self2 (jL rr p0 p1 self2 N) a b c m := rfl
theorem hl_stop {rr : zMem → Int32 → Int32 → Option zMem} {p0 p1 : Int32} {N to s : Nat} {m : zMem} (ht : to < 100) (hs : s < 100) (h : to ≤ s ∨ m.1 0 35 = nI 200) : HL rr p0 p1 (N + 1) to s m = some m := by
  rw [hl_s]
  unfold F_X10_goes_2
  rw [ile (by omega) (by omega)]
  by_cases c : to ≤ s
  · rw [if_pos c]
  · have h35 : m.1 0 35 = nI 200 := h.elim (fun w => absurd w c) id
    rw [if_neg c, h35, if_pos (by decide)]
theorem rho_b {W : WS} {i : Nat} (h : jc W ≤ 75) (hi : i ≤ jc W) : rho (jk W) i ≤ 75 := by
  have := rho_le (jk W) i
  omega
theorem MS.z35 {m0 m : zMem} {U : US} (h : MS m0 m U) : MS m0 (zI m 0 35 (nI (ub U + 1))) (beU U) := by
  obtain ⟨h1, h2, h3, h4, h5⟩ := h
  exact ⟨h1.trans (frF.z (by omega)), fun i hi => by rw [zI_n (by omega)]; exact h2 i hi, by rw [zI_1, upd_s]; rfl, by rw [zI_s (by omega)]; exact h4, by rw [zI_s (by omega)]; exact h5⟩
theorem hl_simple {x0 m0 m : zMem} {r pl i to : Nat} {e : PL} {L : LW} {W : WS} {U : US} {rr : zMem → Int32 → Int32 → Option zMem} {p0 p1 : Int32} (c : CX x0 m0 e L pl r W) (h : MS m0 m U) (o : okU e U) (hi : i < jc W) (hK : jk W i < 5) (hb : ub U < 200) (ht : rho (jk W) i < to) (ht2 : to < 100) :
    ∃ m', MS m0 m' (tkU e L W i U) ∧ ∀ N, HL rr p0 p1 (N + 1) to (rho (jk W) i) m = HL rr p0 p1 N to (rho (jk W) i + 1) m' := by
  have h35 := h.z35
  obtain ⟨w1, w2⟩ := h35.w c
  obtain ⟨-, -, -, -, -, he, ok, hc, hok⟩ := c
  obtain ⟨j0, j1, j2, j3⟩ := w2.2 i hi (by omega)
  obtain ⟨o1, o2, o3⟩ := o
  have hr := rho_b hc (Nat.le_of_lt hi)
  have er : 370 + (1 + 1 * rho (jk W) i) = rw_ (jk W) i := rfl
  have hb1 := rw_b (W := W) (i := i) hc (by omega)
  obtain ⟨y, a1, a2, a3⟩ := m_does w1 he ok o3 (hok i hi) hK j0 j1 j2
  have y36 : y.1 0 36 = nI (ud U) := by rw [a3.1 0 (by omega) (by omega) (by omega)]; exact h35.2.2.2.1
  have y32 : y.1 0 32 = nI (uq U) := by rw [a3.1 0 (by omega) (by omega) (by omega)]; exact h35.2.2.2.2
  have y35 : y.1 0 35 = nI (ub U + 1) := by rw [a3.1 0 (by omega) (by omega) (by omega)]; exact h35.2.2.1
  have yr : y.1 (rw_ (jk W) i) 3 = nI (rho (jk W) i + 1) := by
    rw [a3.1 _ (by omega) (by omega) (by omega), j3 (Or.inl (by omega))]
    unfold enW
    rw [if_neg (by omega)]
  have base : ∀ N, HL rr p0 p1 (N + 1) to (rho (jk W) i) m = (if bI (doR e L W i (uu (beU U))) = 0 then F_X10_goes_120 rr p0 p1 (hL rr p0 p1 N) (nI to) (nI (rho (jk W) i)) (bI (doR e L W i (uu (beU U)))) (y.1 0 36) 0 y else F_X10_goes_120 rr p0 p1 (hL rr p0 p1 N) (nI to) (nI (rho (jk W) i)) (bI (doR e L W i (uu (beU U)))) (y.1 0 36) 1 y) := fun N => by
    rw [hl_s]
    unfold F_X10_goes_2
    rw [ile (by omega) (by omega), if_neg (by omega), h.2.2.1, show (200 : Int32) = nI 200 from rfl, ile (by omega) (by omega), if_neg (by omega), nI_1, zl_eq, gin_ok (by omega) (by decide), nI_clamp (by omega), er, j0, show (5 : Int32) = nI 5 from rfl, ieq (by omega) (by omega), if_neg (by omega), a1, zb_some]
  have fin : ∀ d q N, F_X10_goes_143 rr p0 p1 (hL rr p0 p1 N) (nI to) (nI (rho (jk W) i)) (zI (zI y 0 36 (nI d)) 0 32 (nI q)) = HL rr p0 p1 N to (rho (jk W) i + 1) (zI (zI y 0 36 (nI d)) 0 32 (nI q)) := fun d q N => by
    unfold F_X10_goes_143
    rw [gin_ok (by omega) (by decide), nI_clamp (by omega), er, zI_n (by omega), zI_n (by omega), yr, zl_eq]
    rfl
  have ms : ∀ d q, d = ud (tkU e L W i U) → q = uq (tkU e L W i U) → MS m0 (zI (zI y 0 36 (nI d)) 0 32 (nI q)) (tkU e L W i U) := fun d q hd hq => by
    refine ⟨((h35.1.trans a3.f).trans (frF.z (by omega))).trans (frF.z (by omega)), fun j hj => ?_, ?_, ?_, ?_⟩
    · rw [zI_n (by omega), zI_n (by omega)]; exact a2.2.2 j hj
    · rw [zI_s (by omega), zI_s (by omega), y35]; rfl
    · rw [zI_s (by omega), zI_1, upd_s, hd]
    · rw [zI_1, upd_s, hq]
  have eu : uu (beU U) = uu U := rfl
  by_cases cd : doR e L W i (uu U) = true
  · have e1 : ud (tkU e L W i U) = ud U + 1 := by show ud U + (if doR e L W i (uu U) = true then 1 else 0) = _; rw [if_pos cd]
    have e2 : uq (tkU e L W i U) = uq U := by show uq U + (if doR e L W i (uu U) = true then 0 else 1) = _; rw [if_pos cd]; rfl
    refine ⟨_, ms _ _ e1.symm e2.symm, fun N => ?_⟩
    rw [base N, eu, cd, if_neg (by decide)]
    unfold F_X10_goes_120 F_X10_goes_139
    rw [y36, nI_1, zl_eq, if_neg (by decide), zI_s (by omega), y32, zl_eq, show nI (uq U) + 0 = nI (uq U) from Int32.add_zero _]
    exact fin _ _ N
  · have cf : doR e L W i (uu U) = false := by simpa using cd
    have e1 : ud (tkU e L W i U) = ud U := by show ud U + (if doR e L W i (uu U) = true then 1 else 0) = _; rw [if_neg cd]; rfl
    have e2 : uq (tkU e L W i U) = uq U + 1 := by show uq U + (if doR e L W i (uu U) = true then 0 else 1) = _; rw [if_neg cd]
    refine ⟨_, ms _ _ e1.symm e2.symm, fun N => ?_⟩
    rw [base N, eu, cf, if_pos (by decide)]
    unfold F_X10_goes_120 F_X10_goes_139
    rw [y36, show nI (ud U) + 0 = nI (ud U) from Int32.add_zero _, zl_eq, if_pos (by decide), zI_s (by omega), y32, nI_1, zl_eq]
    exact fin _ _ N
theorem okU.tk {e : PL} {L : LW} {W : WS} {i : Nat} {U : US} (h : okU e U) (hb : ub U < 200) (hk : okK e W i) (hK : jk W i < 5) : okU e (tkU e L W i U) := by
  obtain ⟨h1, h2, h3⟩ := h
  refine ⟨?_, hb, doU_ok h3 hk hK⟩
  show ud U + (if doR e L W i (uu U) = true then 1 else 0) + (uq U + (if doR e L W i (uu U) = true then 0 else 1)) ≤ ub U + 1
  split <;> omega
/-- what a run of both leaves -/
def EXo (x0 m0 : zMem) (r : Nat) (e : PL) (W : WS) (KK lo i : Nat) (x : zMem) (U : US) (k j : Nat) (x' m' : zMem) (U' : US) (a nn : Nat) : Prop :=
  XS x0 r e x' U' ∧ MS m0 m' U' ∧ okU e U' ∧ (∀ N, GJ (N + nn) (ud U) (ub U) i k x = GJ N (ud U') (ub U') a (k + nn) x') ∧ (a = j ∨ ub U' = 200) ∧ a ≤ jc W ∧ k + nn + 62 * (200 - ub U') ≤ KK ∧ ∀ q, q < lo → x'.1 97 q = x.1 97 q
def RG (x0 m0 : zMem) (r : Nat) (e : PL) (W : WS) (d : Nat) : Prop := ∀ i j, SegI (itD (jk W) (jm W) d) i j → j ≤ jc W → ∀ n, d + 1 ≤ n → ∀ x m U k KK, XS x0 r e x U → MS m0 m U → okU e U → k + 62 * (200 - ub U) ≤ KK → KK ≤ 20000 →
  ∃ x' m' U' a nn, EXo x0 m0 r e W KK i i x U k j x' m' U' a nn ∧ FG_X10_goes n m (nI (rho (jk W) i)) (nI (rho (jk W) j)) = some m'
def IT (x0 m0 : zMem) (r : Nat) (e : PL) (W : WS) (d : Nat) : Prop := ∀ i j, itD (jk W) (jm W) d i j → j ≤ jc W → ∀ n, d ≤ n → ∀ (p0 p1 : Int32) to, rho (jk W) j ≤ to → to < 100 → ∀ x m U k KK, XS x0 r e x U → MS m0 m U → okU e U → ub U < 200 → k + 62 * (200 - ub U) ≤ KK → KK ≤ 20000 →
  ∃ x' m' U' a nn, EXo x0 m0 r e W KK i i x U k j x' m' U' a nn ∧ ∀ N, HL (FG_X10_goes n) p0 p1 (N + 1) to (rho (jk W) i) m = HL (FG_X10_goes n) p0 p1 N to (rho (jk W) j) m'
theorem rg_of {x0 m0 : zMem} {r pl d : Nat} {e : PL} {L : LW} {W : WS} (c : CX x0 m0 e L pl r W) (hit : IT x0 m0 r e W d) : RG x0 m0 r e W d := by
  intro i j hs hj n hn x m U k KK hx hm ho hk hKK
  obtain ⟨n', rfl⟩ : ∃ n', n = n' + 1 := ⟨n - 1, by omega⟩
  obtain ⟨c0, f, f1, f2, f3⟩ := hs
  have hmono := fun t ht => seg_mono (fun _ _ h => itD_lt h) f3 t ht
  have hc := c.2.2.2.2.2.2.2.1
  have main : ∀ s t, t + s = c0 → ∀ x m U k, XS x0 r e x U → MS m0 m U → okU e U → k + 62 * (200 - ub U) ≤ KK →
      ∃ x' m' U' a nn, EXo x0 m0 r e W KK i (f t) x U k j x' m' U' a nn ∧ ∃ v, v ≤ s + 1 ∧ ∀ N, HL (FG_X10_goes n') (nI (rho (jk W) i)) (nI (rho (jk W) j)) (N + v) (rho (jk W) j) (rho (jk W) (f t)) m = some m' := fun s => by
    induction s with
    | zero =>
      intro t ht x m U k hx hm ho hk
      have : t = c0 := by omega
      subst this
      rw [f2]
      have := rho_b hc hj
      exact ⟨x, m, U, j, 0, ⟨hx, hm, ho, fun N => rfl, Or.inl rfl, hj, hk, fun _ _ => rfl⟩, 1, by omega, fun N => hl_stop (by omega) (by omega) (Or.inl (Nat.le_refl _))⟩
    | succ s ih =>
      intro t ht x m U k hx hm ho hk
      have hft := hmono t (by omega)
      have hft1 := hmono (t + 1) (by omega)
      have r1 := rho_b hc hj
      have r2 := rho_b (i := f t) hc (by omega)
      by_cases cb : ub U = 200
      · exact ⟨x, m, U, f t, 0, ⟨hx, hm, ho, fun N => rfl, Or.inr cb, by omega, hk, fun _ _ => rfl⟩, 1, by omega, fun N => hl_stop (by omega) (by omega) (Or.inr (by rw [hm.2.2.1, cb]))⟩
      · have hb := ho.2.1
        obtain ⟨x1, m1, U1, a1, n1, ⟨e1, e2, e3, e4, e5, e6, e7, e8⟩, g⟩ := hit (f t) (f (t + 1)) (f3 t (by omega)) (by omega) n' (by omega) (nI (rho (jk W) i)) (nI (rho (jk W) j)) (rho (jk W) j) (rho_mono (by omega)) (by omega) x m U k KK hx hm ho (by omega) hk hKK
        by_cases cb1 : ub U1 = 200
        · have r3 := rho_b (i := f (t + 1)) hc (by omega)
          refine ⟨x1, m1, U1, a1, n1, ⟨e1, e2, e3, e4, Or.inr cb1, e6, e7, fun q hq => e8 q (by omega)⟩, 2, by omega, fun N => ?_⟩
          rw [show N + 2 = (N + 1) + 1 from rfl, g]
          exact hl_stop (by omega) (by omega) (Or.inr (by rw [e2.2.2.1, cb1]))
        · have ea : a1 = f (t + 1) := e5.elim id (fun w => absurd w cb1)
          obtain ⟨x2, m2, U2, a2, n2, ⟨h1, h2, h3, h4, h5, h6, h7, h8⟩, v, hv, g2⟩ := ih (t + 1) (by omega) x1 m1 U1 (k + n1) e1 e2 e3 e7
          refine ⟨x2, m2, U2, a2, n1 + n2, ⟨h1, h2, h3, fun N => ?_, h5, h6, by omega, fun q hq => by rw [h8 q hq, e8 q (by omega)]⟩, v + 1, by omega, fun N => ?_⟩
          · rw [show N + (n1 + n2) = (N + n2) + n1 by omega, e4, ea, h4, show k + n1 + n2 = k + (n1 + n2) by omega]
          · rw [show N + (v + 1) = (N + v) + 1 from rfl, g, g2]
  obtain ⟨x', m', U', a, nn, h, v, hv, g⟩ := main c0 0 (by omega) x m U k hx hm ho hk
  rw [f1] at h g
  refine ⟨x', m', U', a, nn, h, ?_⟩
  have hcv := hmono c0 (Nat.le_refl _)
  have := g (zFuel - v)
  rw [show zFuel - v + v = zFuel by have := zFuel_eq; omega] at this
  exact this
