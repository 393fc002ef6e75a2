/-! work being done: one step -/
def doR (e : PL) (L : LW) (W : WS) (i : Nat) (u : Nat → Nat) : Bool :=
  if jk W i = 0 then canLet u (ja W i) (jb W i) else if jk W i = 1 then canRk u (ja W i) (jb W i) else if jk W i = 2 then decide (u (128 + ja W i) ≠ 0) else if jk W i = 3 then true else (if pn e = 0 then false else if 400 ≤ u 192 then false else true)
def doU (e : PL) (L : LW) (W : WS) (i : Nat) (u : Nat → Nat) : Nat → Nat :=
  if jk W i = 0 then (if canLet u (ja W i) (jb W i) then letS u (ja W i) (jb W i) else u) else if jk W i = 1 then (if canRk u (ja W i) (jb W i) then rkS u (ja W i) (jb W i) else u) else if jk W i = 2 then (if u (128 + ja W i) = 0 then u else cartS u (ja W i))
  else if jk W i = 3 then rainS e u (ja W i) else (if pn e = 0 then u else if 400 ≤ u 192 then u else hourS e L u)
theorem hour_day {e : PL} {L : LW} {u : Nat → Nat} : hourS e L u 192 ≤ u 192 + 1 := by
  have h2 : fN (fun p u => dryS e L p u) u 64 192 = u 192 := dries_o e L u 64 (by omega)
  unfold hourS nextS
  split
  · rw [updN_s, h2]
    exact Nat.le_refl _
  · rw [updN_n (by omega), h2]
    omega
theorem doU_ok {e : PL} {L : LW} {W : WS} {i : Nat} {u : Nat → Nat} (h : okD e u) (hk : okK e W i) (hK : jk W i < 5) : okD e (doU e L W i u) := by
  obtain ⟨h1, h2⟩ := h
  obtain ⟨k1, k2, k3, k4, k5, k6, k7, k8, k9⟩ := hk
  unfold doU
  by_cases c0 : jk W i = 0
  · rw [if_pos c0]
    obtain ⟨p1, p2⟩ := k2 (by omega)
    by_cases c : canLet u (ja W i) (jb W i) = true
    · rw [if_pos c]
      refine ⟨okR.letR h1 p1 p2 c, ?_⟩
      unfold letS
      rw [updN_n (by omega), updN_n (by omega)]; exact h2
    · rw [if_neg c]; exact ⟨h1, h2⟩
  rw [if_neg c0]
  by_cases c1 : jk W i = 1
  · rw [if_pos c1]
    obtain ⟨p1, p2⟩ := k2 (by omega)
    obtain ⟨q1, q2⟩ := k4 c1
    by_cases c : canRk u (ja W i) (jb W i) = true
    · rw [if_pos c]
      refine ⟨okR.rk h1 p1 q1 q2 c, ?_⟩
      unfold rkS
      rw [updN_n (by omega), updN_n (by omega)]; exact h2
    · rw [if_neg c]; exact ⟨h1, h2⟩
  rw [if_neg c1]
  by_cases c2 : jk W i = 2
  · rw [if_pos c2]
    obtain ⟨p1, p2⟩ := k2 (by omega)
    by_cases c : u (128 + ja W i) = 0
    · rw [if_pos c]; exact ⟨h1, h2⟩
    · rw [if_neg c]
      refine ⟨okR.cart h1 p1, ?_⟩
      unfold cartS
      rw [updN_n (by omega), updN_n (by omega)]; exact h2
  rw [if_neg c2]
  by_cases c3 : jk W i = 3
  · rw [if_pos c3]
    refine ⟨okR.rain h1, ?_⟩
    unfold rainS
    rw [rain_o (by omega) 64 (by omega)]; exact h2
  rw [if_neg c3]
  by_cases cn : pn e = 0
  · rw [if_pos cn]; exact ⟨h1, h2⟩
  rw [if_neg cn]
  by_cases cd : 400 ≤ u 192
  · rw [if_pos cd]; exact ⟨h1, h2⟩
  · rw [if_neg cd]
    have := hour_day (e := e) (L := L) (u := u)
    exact ⟨okR.hour h1 (by rcases h1.2.2 with w | w <;> omega), by omega⟩
theorem x_doStep {x : zMem} {e : PL} {L : LW} {W : WS} {pl r i : Nat} {u : Nat → Nat} (w : RXw x e L pl r) (he : okPL e) (ok : okL L) (hr : RXr x e u 4) (hu : okD e u) (hk : okK e W i) (hK : jk W i < 5)
    (h93 : x.1 93 i = nI (if jk W i < 3 then ja W i else 0)) (h94 : x.1 94 i = nI (if jk W i = 1 then jb W i else 0)) (h95 : x.1 95 i = nI (if jk W i = 0 then jb W i else if jk W i = 3 ∨ jk W i = 5 then ja W i else 0)) :
    ∃ y, F_X9_doStep x (nI (jk W i)) (x.1 93 i) (x.1 94 i) (x.1 95 i) = some (bI (doR e L W i u), y) ∧ RXr y e (doU e L W i u) 4 ∧ frX r (ST 4) x y := by
  obtain ⟨h1, h2⟩ := hu
  obtain ⟨k1, k2, k3, k4, k5, k6, k7, k8, k9⟩ := hk
  have hn := he.2.2.2.2.1
  have w8 := w.2.2.1
  have hpl := w.2.2.2.2.1
  rw [h93, h94, h95]
  unfold F_X9_doStep doR doU
  rw [show (1 : Int32) = nI 1 from rfl, show (2 : Int32) = nI 2 from rfl, show (3 : Int32) = nI 3 from rfl, ie0 (by omega), ieq (by omega) (by omega), ieq (by omega) (by omega), ieq (by omega) (by omega)]
  by_cases c0 : jk W i = 0
  · obtain ⟨p1, p2⟩ := k2 (by omega)
    obtain ⟨q1, q2⟩ := k3 c0
    obtain ⟨y, a1, a2, a3⟩ := x_pour (r := r) hr h1.1 p1 (n := jb W i) (by omega)
    unfold F_X9_doStep_40
    rw [if_pos c0, if_pos c0, if_pos c0, if_pos c0, if_pos (by omega), a1, zb_some]
    dsimp only
    rw [gd_ok (bI_gd _)]
    exact ⟨y, rfl, a2, a3⟩
  simp only [if_neg c0]
  by_cases c1 : jk W i = 1
  · obtain ⟨p1, p2⟩ := k2 (by omega)
    obtain ⟨q1, q2⟩ := k4 c1
    obtain ⟨y, a1, a2, a3⟩ := x_scrape w he hr h1 p1 q1 q2 (by omega)
    unfold F_X9_doStep_49
    rw [if_pos c1, if_pos c1, if_pos c1, if_pos c1, if_pos (by omega), w8, gd_ok (sX_p hpl), a1, zb_some]
    dsimp only
    rw [gd_ok (bI_gd _)]
    exact ⟨y, rfl, a2, a3⟩
  simp only [if_neg c1]
  by_cases c2 : jk W i = 2
  · obtain ⟨p1, p2⟩ := k2 (by omega)
    obtain ⟨y, a1, a2, a3⟩ := x_haul w he hr h1 p1 (by omega)
    unfold F_X9_doStep_61
    rw [if_pos c2, if_pos c2, if_pos c2, if_pos (by omega), w8, gd_ok (sX_p hpl), a1, zb_some]
    dsimp only
    rw [gd_ok (bI_gd _)]
    exact ⟨y, rfl, a2, a3⟩
  simp only [if_neg c2]
  by_cases c3 : jk W i = 3
  · obtain ⟨p1, p2⟩ := k5 c3
    obtain ⟨y, a1, a2, a3⟩ := x_wet w he hr h1 p2 (by omega)
    unfold F_X9_doStep_72
    rw [if_pos c3, if_pos c3, if_pos c3, if_pos (Or.inl c3), w8, gd_ok (sX_p hpl), a1, zbv_some]
    exact ⟨y, rfl, a2, a3⟩
  simp only [if_neg c3]
  unfold F_X9_doStep_85
  rw [w8, gd_ok (sX_p hpl), w.1.2.2.1, ie0 (by omega)]
  by_cases cn : pn e = 0
  · rw [if_pos cn, if_pos cn, if_pos cn]
    exact ⟨x, rfl, hr, frX.refl⟩
  rw [if_neg cn, if_neg cn, if_neg cn, hr.2.2.1, show (400 : Int32) = nI 400 from rfl, ilt (by omega) (by omega)]
  by_cases cd : 400 ≤ u 192
  · rw [if_neg (by omega), if_pos cd, if_pos cd]
    exact ⟨x, rfl, hr, frX.refl⟩
  · obtain ⟨y, a1, a2, a3⟩ := x_passHour w he ok hr h1 (by rcases h1.2.2 with w | w <;> omega) (by omega)
    rw [if_pos (by omega), if_neg cd, if_neg cd, a1, zbv_some]
    exact ⟨y, rfl, a2, a3⟩
theorem m_does {m : zMem} {e : PL} {L : LW} {W : WS} {i c : Nat} {u : Nat → Nat} (H : RMh m e L u 451) (he : okPL e) (ok : okL L) (hu : okD e u) (hk : okK e W i) (hK : jk W i < 5)
    (h0 : m.1 c 0 = nI (jk W i)) (h1' : jk W i ≠ 4 → m.1 c 1 = nI (ja W i)) (h2' : jk W i < 2 → m.1 c 2 = nI (jb W i)) :
    ∃ y, F_X10_does m 451 c = some (bI (doR e L W i u), y) ∧ RMh y e L (doU e L W i u) 451 ∧ frM 451 m y := by
  obtain ⟨h1, h2⟩ := hu
  obtain ⟨k1, k2, k3, k4, k5, k6, k7, k8, k9⟩ := hk
  have hn := he.2.2.2.2.1
  obtain ⟨Hp, Hl, Hr⟩ := H
  have fin : ∀ y u', RMr y u' 451 → frM 451 m y → RMh y e L u' 451 := fun y u' a b => by
    obtain ⟨l1, l2⟩ := Hl
    have hl := ok.1
    refine ⟨⟨by rw [b.1 4 (by omega) (by omega) (by omega)]; exact Hp.1, by rw [b.1 4 (by omega) (by omega) (by omega)]; exact Hp.2.1, by rw [b.1 4 (by omega) (by omega) (by omega)]; exact Hp.2.2.1, fun k hk => by rw [b.1 _ (by omega) (by omega) (by omega)]; exact Hp.2.2.2 k hk⟩, ⟨by rw [b.1 0 (by omega) (by omega) (by omega)]; exact l1, fun k hk => by rw [b.1 _ (by omega) (by omega) (by omega)]; exact l2 k hk⟩, a⟩
  unfold F_X10_does doR doU
  rw [zl_eq, h0, show (1 : Int32) = nI 1 from rfl, show (2 : Int32) = nI 2 from rfl, show (3 : Int32) = nI 3 from rfl, ie0 (by omega), ieq (by omega) (by omega), ieq (by omega) (by omega), ieq (by omega) (by omega)]
  by_cases c0 : jk W i = 0
  · obtain ⟨p1, p2⟩ := k2 (by omega)
    obtain ⟨q1, q2⟩ := k3 c0
    obtain ⟨y, a1, a2, a3⟩ := m_lets Hr h1.1 p1 (n := jb W i) (by omega)
    unfold F_X10_does_36
    rw [if_pos c0, if_pos c0, if_pos c0, h1' (by omega), h2' (by omega), a1, zb_some]
    dsimp only
    rw [gd_ok (bI_gd _)]
    exact ⟨y, rfl, fin y _ a2 a3, a3⟩
  rw [if_neg c0, if_neg c0, if_neg c0]
  by_cases c1 : jk W i = 1
  · obtain ⟨p1, p2⟩ := k2 (by omega)
    obtain ⟨q1, q2⟩ := k4 c1
    have hb1 := h1.1 (128 + jb W i) (by omega)
    have hb2 := h1.1 (64 + ja W i) (by omega)
    unfold F_X10_does_45
    rw [if_pos c1, if_pos c1, if_pos c1, h1' (by omega), h2' (by omega), m_canRake Hr h1.1 p1 q1, zb_some]
    dsimp only
    rw [ibI]
    by_cases cr : canRk u (ja W i) (jb W i) = true
    · rw [cr, if_neg (by decide), if_pos rfl, h2' (by omega), show (128 : Int32) = nI 128 from rfl, show (64 : Int32) = nI 64 from rfl, nI_add, nI_add, gin_ok (by omega) (by decide), gin_ok (by omega) (by decide), zl_eq, zl_eq, nI_clamp (by omega), nI_clamp (by omega), Hr _ (by omega), Hr _ (by omega), nI_add, ya_0]
      exact ⟨_, rfl, fin _ _ (RMr.set (RMr.set Hr)) (frM.trans frM.set frM.set), frM.trans frM.set frM.set⟩
    · rw [if_pos (by simpa using cr), if_neg cr]
      have : canRk u (ja W i) (jb W i) = false := by simpa using cr
      rw [this]
      exact ⟨m, rfl, ⟨Hp, Hl, Hr⟩, frM.refl⟩
  rw [if_neg c1, if_neg c1, if_neg c1]
  by_cases c2 : jk W i = 2
  · obtain ⟨p1, p2⟩ := k2 (by omega)
    obtain ⟨y, a1, a2, a3⟩ := m_carts Hr h1.1 p1
    unfold F_X10_does_86
    rw [if_pos c2, if_pos c2, if_pos c2, h1' (by omega), a1, zb_some]
    dsimp only
    rw [gd_ok (bI_gd _)]
    exact ⟨y, rfl, fin y _ a2 a3, a3⟩
  rw [if_neg c2, if_neg c2, if_neg c2]
  by_cases c3 : jk W i = 3
  · obtain ⟨p1, p2⟩ := k5 c3
    obtain ⟨y, a1, a2, a3, a4⟩ := m_rains Hp he Hr h1.1 p2 (by omega)
    unfold F_X10_does_92
    rw [if_pos c3, if_pos c3, if_pos c3, h1' (by omega), a1, zbv_some]
    exact ⟨y, rfl, fin y _ a2 a4, a4⟩
  rw [if_neg c3, if_neg c3, if_neg c3]
  unfold F_X10_does_100
  rw [Hp.2.2.1, ie0 (by omega)]
  by_cases cn : pn e = 0
  · rw [if_pos cn, if_pos cn, if_pos cn]
    exact ⟨m, rfl, ⟨Hp, Hl, Hr⟩, frM.refl⟩
  rw [if_neg cn, if_neg cn, if_neg cn, Hr 192 (by omega), show (400 : Int32) = nI 400 from rfl, ilt (by omega) (by omega)]
  by_cases cd : 400 ≤ u 192
  · rw [if_neg (by omega), if_pos cd, if_pos cd]
    exact ⟨m, rfl, ⟨Hp, Hl, Hr⟩, frM.refl⟩
  · obtain ⟨y, a1, a2, a3, a4⟩ := m_hourEnds ⟨Hp, Hl, Hr⟩ he ok h1.1 (by rcases h1.2.2 with w | w <;> omega) (by omega)
    rw [if_pos (by omega), if_neg cd, if_neg cd, a1, zbv_some]
    exact ⟨y, rfl, a2, a4⟩
