/-! work being done: agains; all depths -/
theorem jl_look {x0 m0 m : zMem} {r pl i q n t : Nat} {e : PL} {L : LW} {W : WS} {U : US} {p0 p1 : Int32} (c : CX x0 m0 e L pl r W) (hiq : i < q) (hq : q < jc W) (hK5 : jk W i = 5) (hm1 : jm W i = q) (hm : MS m0 m U) (hb : ub U ≤ 200) (htt : t ≤ 60) (self2 : Int32 → Int32 → zMem → Option zMem) (to : Int32) (N : Nat) :
    jL (FG_X10_goes n) p0 p1 self2 (N + 1) to (nI (rho (jk W) i)) (nI t) m = if ja W i ≤ t ∨ 200 ≤ ub U then F_X10_goes_143 (FG_X10_goes n) p0 p1 self2 to (nI (rho (jk W) i)) m else zbv (FG_X10_goes n m (nI (rho (jk W) (i + 1))) (nI (rho (jk W) q))) fun M6 => jL (FG_X10_goes n) p0 p1 self2 N to (nI (rho (jk W) i)) (nI (t + 1)) M6 := by
  obtain ⟨w1, w2⟩ := hm.w c
  obtain ⟨-, -, -, -, -, he, ok, hc, hok⟩ := c
  have ha60 := (hok i (by omega)).2.2.2.2.2.1 hK5
  have hri := rho_b (i := i) hc (by omega)
  have er : 370 + (1 + 1 * rho (jk W) i) = rw_ (jk W) i := rfl
  obtain ⟨j0, j1, j2, j3⟩ := w2.2 i (by omega) (by omega)
  have j1 := j1 (by omega)
  have j3 := j3 (Or.inr (by omega))
  unfold enW at j3
  rw [if_pos hK5, hm1] at j3
  rw [jl_s]
  unfold F_X10_goes_42
  rw [gin_ok (by omega) (by decide), nI_clamp (by omega), er, j1, ile (by omega) (by omega)]
  by_cases c1 : ja W i ≤ t
  · rw [if_pos c1, if_pos (Or.inl c1)]
  · rw [if_neg c1, hm.2.2.1, show (200 : Int32) = nI 200 from rfl, ile (by omega) (by omega)]
    by_cases c2 : 200 ≤ ub U
    · rw [if_pos c2, if_pos (Or.inr c2)]
    · rw [if_neg c2, if_neg (fun w => w.elim c1 c2), j3, nI_1, nI_1, rho_s (jk W) i, if_pos (by omega)]
theorem again_it {x0 m0 : zMem} {r pl d i q n : Nat} {e : PL} {L : LW} {W : WS} {p0 p1 : Int32} (c : CX x0 m0 e L pl r W) (hrg : RG x0 m0 r e W d) (hn : d + 1 ≤ n) (hs : SegI (itD (jk W) (jm W) d) (i + 1) q) (hiq : i < q) (hq : q < jc W) (hK5 : jk W i = 5) (hK6 : jk W q = 6) (hm1 : jm W i = q) (hm2 : jm W q = i) :
    ∀ s t x m U k KK, t + s + 1 = ja W i → x.1 97 i = nI (s + 1) → XS x0 r e x U → MS m0 m U → okU e U → k + 62 * (200 - ub U) + (s + 1) ≤ KK → KK ≤ 20000 →
    ∃ x' m' U' a nn, EXo x0 m0 r e W KK i (i + 1) x U k (q + 1) x' m' U' a nn ∧ ∀ self2 to N, jL (FG_X10_goes n) p0 p1 self2 (N + (s + 2)) to (nI (rho (jk W) i)) (nI t) m = F_X10_goes_143 (FG_X10_goes n) p0 p1 self2 to (nI (rho (jk W) i)) m' := fun s => by
  have hc := c.2.2.2.2.2.2.2.1
  have hok := c.2.2.2.2.2.2.2.2
  have ha60 := (hok i (by omega)).2.2.2.2.2.1 hK5
  induction s with
  | zero =>
    intro t x m U k KK hts h97 hx hm ho hk hKK
    have hb := ho.2.1
    by_cases cb : ub U = 200
    · refine ⟨x, m, U, i + 1, 0, ⟨hx, hm, ho, fun N => rfl, Or.inr cb, by omega, by omega, fun _ _ => rfl⟩, fun self2 to N => ?_⟩
      rw [show N + (0 + 2) = (N + 1) + 1 from rfl, jl_look c hiq hq hK5 hm1 hm hb (by omega), if_pos (Or.inr (by omega))]
    · obtain ⟨x1, m1, U1, a1, n1, ⟨e1, e2, e3, e4, e5, e6, e7, e8⟩, g⟩ := hrg (i + 1) q hs (by omega) n hn x m U k (KK - 1) hx hm ho (by omega) (by omega)
      have hb1 := e3.2.1
      have jl : ∀ self2 to N, jL (FG_X10_goes n) p0 p1 self2 (N + (0 + 2)) to (nI (rho (jk W) i)) (nI t) m = F_X10_goes_143 (FG_X10_goes n) p0 p1 self2 to (nI (rho (jk W) i)) m1 := fun self2 to N => by
        rw [show N + (0 + 2) = (N + 1) + 1 from rfl, jl_look c hiq hq hK5 hm1 hm hb (by omega), if_neg (by omega), g, zbv_some, jl_look c hiq hq hK5 hm1 e2 hb1 (by omega), if_pos (Or.inl (by omega))]
      by_cases cb1 : ub U1 = 200
      · exact ⟨x1, m1, U1, a1, n1, ⟨e1, e2, e3, e4, Or.inr cb1, e6, by omega, fun r hr => e8 r (by omega)⟩, jl⟩
      · have ea : a1 = q := e5.elim id (fun w => absurd w cb1)
        have l1 : x1.1 97 i = nI (0 + 1) := by rw [e8 i (by omega)]; exact h97
        have gc := gj_close (k := k + n1) c e1 hq hK6 hm2 hiq l1 (by omega) (by have := e3.1; omega) hb1 (by omega)
        refine ⟨_, m1, U1, q + 1, n1 + 1, ⟨e1.z97 (j := i) (v := nI 0), e2, e3, fun N => ?_, Or.inl rfl, hq, by omega, fun r hr => by rw [zI_s (by omega)]; exact e8 r (by omega)⟩, jl⟩
        rw [show N + (n1 + 1) = (N + 1) + n1 by omega, e4, ea, gc, if_pos rfl]
        rfl
  | succ s ih =>
    intro t x m U k KK hts h97 hx hm ho hk hKK
    have hb := ho.2.1
    by_cases cb : ub U = 200
    · refine ⟨x, m, U, i + 1, 0, ⟨hx, hm, ho, fun N => rfl, Or.inr cb, by omega, by omega, fun _ _ => rfl⟩, fun self2 to N => ?_⟩
      rw [show N + (s + 1 + 2) = (N + (s + 2)) + 1 from rfl, jl_look c hiq hq hK5 hm1 hm hb (by omega), if_pos (Or.inr (by omega))]
    · obtain ⟨x1, m1, U1, a1, n1, ⟨e1, e2, e3, e4, e5, e6, e7, e8⟩, g⟩ := hrg (i + 1) q hs (by omega) n hn x m U k (KK - (s + 2)) hx hm ho (by omega) (by omega)
      have hb1 := e3.2.1
      by_cases cb1 : ub U1 = 200
      · refine ⟨x1, m1, U1, a1, n1, ⟨e1, e2, e3, e4, Or.inr cb1, e6, by omega, fun r hr => e8 r (by omega)⟩, fun self2 to N => ?_⟩
        rw [show N + (s + 1 + 2) = (N + (s + 1) + 1) + 1 from rfl, jl_look c hiq hq hK5 hm1 hm hb (by omega), if_neg (by omega), g, zbv_some, jl_look c hiq hq hK5 hm1 e2 hb1 (by omega), if_pos (Or.inr (by omega))]
      · have ea : a1 = q := e5.elim id (fun w => absurd w cb1)
        have l1 : x1.1 97 i = nI (s + 1 + 1) := by rw [e8 i (by omega)]; exact h97
        have gc := gj_close (k := k + n1) c e1 hq hK6 hm2 hiq l1 (by omega) (by have := e3.1; omega) hb1 (by omega)
        obtain ⟨x2, m2, U2, a2, n2, ⟨h1, h2, h3, h4, h5, h6, h7, h8⟩, g2⟩ := ih (t + 1) (zI x1 97 i (nI (s + 1))) m1 U1 (k + n1 + 1) KK (by omega) (by rw [zI_1, upd_s]) e1.z97 e2 e3 (by omega) hKK
        refine ⟨x2, m2, U2, a2, n1 + 1 + n2, ⟨h1, h2, h3, fun N => ?_, h5, h6, by omega, fun r hr => by rw [h8 r hr, zI_s (by omega)]; exact e8 r (by omega)⟩, fun self2 to N => ?_⟩
        · rw [show N + (n1 + 1 + n2) = (N + n2 + 1) + n1 by omega, e4, ea, gc, if_neg (by omega), h4, show k + n1 + 1 + n2 = k + (n1 + 1 + n2) by omega]
        · rw [show N + (s + 1 + 2) = (N + (s + 2)) + 1 from rfl, jl_look c hiq hq hK5 hm1 hm hb (by omega), if_neg (by omega), g, zbv_some]
          exact g2 self2 to N
theorem it_simp {x0 m0 : zMem} {r pl : Nat} {e : PL} {L : LW} {W : WS} (c : CX x0 m0 e L pl r W) {i j : Nat} (hK : jk W i < 5) (hj1 : j = i + 1) (hj : j ≤ jc W) {n : Nat} {p0 p1 : Int32} {to : Nat} (hto : rho (jk W) j ≤ to) (ht : to < 100) {x m : zMem} {U : US} {k KK : Nat} (hx : XS x0 r e x U) (hm : MS m0 m U) (ho : okU e U) (hb : ub U < 200) (hk : k + 62 * (200 - ub U) ≤ KK) (hKK : KK ≤ 20000) :
    ∃ x' m' U' a nn, EXo x0 m0 r e W KK i i x U k j x' m' U' a nn ∧ ∀ N, HL (FG_X10_goes n) p0 p1 (N + 1) to (rho (jk W) i) m = HL (FG_X10_goes n) p0 p1 N to (rho (jk W) j) m' := by
  subst hj1
  have er : rho (jk W) (i + 1) = rho (jk W) i + 1 := by rw [rho_s, if_pos (by omega)]
  rw [er] at hto ⊢
  have hok := c.2.2.2.2.2.2.2.2
  obtain ⟨x', a1, a2, a3⟩ := gj_simple (k := k) c hx ho (by omega) hK hb (by omega)
  obtain ⟨m', b1, b2⟩ := hl_simple (rr := FG_X10_goes n) (p0 := p0) (p1 := p1) c hm ho (by omega) hK hb (by omega) ht
  exact ⟨x', m', tkU e L W i U, i + 1, 1, ⟨a1, b1, ho.tk hb (hok i (by omega)) hK, a3, Or.inl rfl, hj, by show k + 1 + 62 * (200 - (ub U + 1)) ≤ KK; omega, fun q _ => a2 q⟩, b2⟩
theorem it_0 {x0 m0 : zMem} {r pl : Nat} {e : PL} {L : LW} {W : WS} (c : CX x0 m0 e L pl r W) : IT x0 m0 r e W 0 := fun i j h hj n _ p0 p1 to hto ht x m U k KK hx hm ho hb hk hKK => it_simp c h.1 h.2 hj hto ht hx hm ho hb hk hKK
theorem it_s {x0 m0 : zMem} {r pl d : Nat} {e : PL} {L : LW} {W : WS} (c : CX x0 m0 e L pl r W) (hrg : RG x0 m0 r e W d) : IT x0 m0 r e W (d + 1) := fun i j h hj n hn p0 p1 to hto ht x m U k KK hx hm ho hb hk hKK => by
  rcases h with h | ⟨hK5, q, hiq, hjq, hK6, hm1, hm2, hs⟩
  · exact it_simp c h.1 h.2 hj hto ht hx hm ho hb hk hKK
  subst hjq
  have hc := c.2.2.2.2.2.2.2.1
  have hok := c.2.2.2.2.2.2.2.2
  have ha60 := (hok i (by omega)).2.2.2.2.2.1 hK5
  have h35 := hm.z35
  have ho1 : okU e (beU U) := ⟨by show ud U + uq U ≤ ub U + 1; have := ho.1; omega, hb, ho.2.2⟩
  have hri := rho_b (i := i) hc (by omega)
  have hlt := rho_lt (K := jk W) (i := i) (j := q) hiq (by omega)
  have erq : rho (jk W) (q + 1) = rho (jk W) q := by rw [rho_s, if_neg (by omega)]; rfl
  rw [erq] at hto ⊢
  have er : 370 + (1 + 1 * rho (jk W) i) = rw_ (jk W) i := rfl
  have ga := gj_again (k := k) c hx (by omega) hK5 (by omega) hb (by have := ho.1; omega) (by omega)
  have base : ∀ N, HL (FG_X10_goes n) p0 p1 (N + 1) to (rho (jk W) i) m = jL (FG_X10_goes n) p0 p1 (hL (FG_X10_goes n) p0 p1 N) zFuel (nI to) (nI (rho (jk W) i)) (nI 0) (zI m 0 35 (nI (ub U + 1))) := fun N => by
    obtain ⟨w1, w2⟩ := h35.w c
    obtain ⟨j0, j1, j2, j3⟩ := w2.2 i (by omega) (by omega)
    rw [hl_s]
    unfold F_X10_goes_2
    rw [ile (by omega) (by omega), if_neg (by omega), hm.2.2.1, show (200 : Int32) = nI 200 from rfl, ile (by omega) (by omega), if_neg (by omega), nI_1, zl_eq, gin_ok (by omega) (by decide), nI_clamp (by omega), er, j0, hK5, if_pos (by decide)]
    rfl
  have fin : ∀ m' U' N, MS m0 m' U' → F_X10_goes_143 (FG_X10_goes n) p0 p1 (hL (FG_X10_goes n) p0 p1 N) (nI to) (nI (rho (jk W) i)) m' = HL (FG_X10_goes n) p0 p1 N to (rho (jk W) q) m' := fun m' U' N hm' => by
    obtain ⟨w1, w2⟩ := hm'.w c
    obtain ⟨j0, j1, j2, j3⟩ := w2.2 i (by omega) (by omega)
    have j3 := j3 (Or.inr (by omega))
    unfold enW at j3
    rw [if_pos hK5, hm1] at j3
    unfold F_X10_goes_143
    rw [gin_ok (by omega) (by decide), nI_clamp (by omega), er, j3, zl_eq]
    rfl
  have hfu := zFuel_eq
  by_cases cz : ja W i = 0
  · refine ⟨x, zI m 0 35 (nI (ub U + 1)), beU U, q + 1, 1, ⟨hx, h35, ho1, fun N => by rw [ga, if_pos cz, hm1]; rfl, Or.inl rfl, hj, by show k + 1 + 62 * (200 - (ub U + 1)) ≤ KK; omega, fun _ _ => rfl⟩, fun N => ?_⟩
    rw [base N, show zFuel = (zFuel - 1) + 1 by omega, jl_look c hiq (by omega) hK5 hm1 h35 hb (by omega), if_pos (Or.inl (by omega))]
    exact fin _ _ N h35
  · obtain ⟨s, hs1⟩ : ∃ s, ja W i = s + 1 := ⟨ja W i - 1, by omega⟩
    obtain ⟨x', m', U', a, nn, ⟨e1, e2, e3, e4, e5, e6, e7, e8⟩, g⟩ := again_it (p0 := p0) (p1 := p1) (n := n) c hrg hn hs hiq (by omega) hK5 hK6 hm1 hm2 s 0 (zI x 97 i (nI (ja W i))) (zI m 0 35 (nI (ub U + 1))) (beU U) (k + 1) KK (by omega) (by rw [zI_1, upd_s, hs1]) hx.z97 h35 ho1 (by show k + 1 + 62 * (200 - (ub U + 1)) + (s + 1) ≤ KK; omega) hKK
    refine ⟨x', m', U', a, nn + 1, ⟨e1, e2, e3, fun N => ?_, e5, e6, by omega, fun r hr => by rw [e8 r hr, zI_s (by omega)]⟩, fun N => ?_⟩
    · rw [show N + (nn + 1) = (N + nn) + 1 from rfl, ga, if_neg cz]
      have := e4 N
      rw [show k + (nn + 1) = k + 1 + nn by omega]
      exact this
    · rw [base N, show zFuel = (zFuel - (s + 2)) + (s + 2) by omega, g]
      exact fin _ _ N e2
theorem rg_all {x0 m0 : zMem} {r pl : Nat} {e : PL} {L : LW} {W : WS} (c : CX x0 m0 e L pl r W) : ∀ d, RG x0 m0 r e W d
  | 0 => rg_of c (it_0 c)
  | d + 1 => rg_of c (it_s c (rg_all c d))
/-- the whole work -/
theorem job_done {x0 m0 : zMem} {r pl : Nat} {e : PL} {L : LW} {W : WS} {u : Nat → Nat} (c : CX x0 m0 e L pl r W) (hs : SegI (itD (jk W) (jm W) 6) 0 (jc W)) (hx : RXr x0 e u 4) (hx15 : x0.1 0 15 = 0) (hm : RMr m0 u 451) (h35 : m0.1 0 35 = 0) (h36 : m0.1 0 36 = 0) (h32 : m0.1 0 32 = 0) (hu : okD e u) :
    ∃ x' m' U', itF (fun _ _ _ _ _ => none) (F_X9_doJob_14) zFuel 0 0 0 0 x0 = some (nI (ud U'), x') ∧ F_X10_goes m0 0 (nI (rho (jk W) (jc W))) = some m' ∧ XS x0 r e x' U' ∧ MS m0 m' U' ∧ okU e U' := by
  have hc := c.2.2.2.2.2.2.2.1
  obtain ⟨x', m', U', a, nn, ⟨e1, e2, e3, e4, e5, e6, e7, e8⟩, g⟩ := rg_all c 6 0 (jc W) hs (Nat.le_refl _) 48 (by omega) x0 m0 (0, 0, 0, u) 0 20000 ⟨frE.refl, hx, hx15⟩ ⟨frF.refl, hm, h35, h36, h32⟩ ⟨Nat.le_refl _, Nat.zero_le _, hu⟩ (by show 0 + 62 * (200 - 0) ≤ 20000; omega) (Nat.le_refl _)
  have hfu := zFuel_eq
  have hd : ud U' ≤ 200 := by have := e3.1; have := e3.2.1; omega
  have hb := e3.2.1
  have e4' := e4 (zFuel - nn)
  rw [show zFuel - nn + nn = zFuel by omega] at e4'
  have g' : F_X10_goes m0 0 (nI (rho (jk W) (jc W))) = some m' := g
  have e4'' : itF (fun _ _ _ _ _ => none) (F_X9_doJob_14) zFuel 0 0 0 0 x0 = GJ (zFuel - nn) (ud U') (ub U') a (0 + nn) x' := e4'
  by_cases cb : ub U' = 200
  · obtain ⟨x2, f1, f2⟩ := gj_stop c cb hd 1000000 (zFuel - nn) x' a (0 + nn) e1 e6 (by omega) (by omega) (by omega)
    exact ⟨x2, m', U', by rw [e4'', cb] at *; exact f1, g', f2, e2, e3⟩
  · have ea : a = jc W := e5.elim id (fun w => absurd w cb)
    refine ⟨x', m', U', ?_, g', e1, e2, e3⟩
    rw [e4'', show zFuel - nn = (zFuel - nn - 1) + 1 by omega, gj_s, ea]
    unfold F_X9_doJob_14
    rw [show (1000000 : Int32) = nI 1000000 from rfl, ile (by omega) (by omega), if_neg (by omega), x_isAt (e1.w c).2 hc (Nat.le_refl _), zb_some]
    dsimp only
    rw [decide_eq_false (Nat.lt_irrefl _), if_pos (by decide)]
