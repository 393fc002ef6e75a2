/-! THE LAW: what both constructors leave -/
def S00 : SS := (wd0.1, lw0, (0, fun _ => 0, fun _ => 0), (0, stU wd0, fun _ _ => 0), 0, fun _ => (0, fun _ => 0, fun _ _ => 0), 0, fun _ => 0, -1, 0, 0, 0)
def M00 : zMem := (fun _ _ => 0, fun _ _ => 0, fun _ _ => 0)
theorem stU_wd0 (i : Nat) : stU wd0 i = 0 := by
  unfold stU
  have h : ∀ j, wd0.2 j = 0 := fun _ => rfl
  rw [h, h, h, ite_self, ite_self, ite_self, ite_self, ite_self, ite_self]
theorem S00_ok : okS S00 := by
  refine ⟨wd0_ok.1, ⟨Nat.zero_le _, fun k hk => absurd hk (Nat.not_lt_zero _)⟩, ⟨Nat.zero_le _, fun k hk => absurd hk (Nat.not_lt_zero _)⟩, ⟨Nat.zero_le _, stU_ok wd0_ok, fun k hk => absurd hk (Nat.not_lt_zero _)⟩, Nat.zero_le _, fun k hk => absurd hk (Nat.not_lt_zero _), Nat.zero_le _, fun k hk => absurd hk (Nat.not_lt_zero _)⟩
/-- below t nothing changes, what was 0 stays 0 -/
def bP (t : Nat) (M M' : zMem) : Prop := (∀ c, c < t → M'.1 c = M.1 c ∧ M'.2.1 c = M.2.1 c ∧ M'.2.2 c = M.2.2 c) ∧ (∀ c f, M.1 c f = 0 → M'.1 c f = 0) ∧ ∀ c f, M.2.1 c f = 0 → M'.2.1 c f = 0
theorem bP.rf {t : Nat} {M : zMem} : bP t M M := ⟨fun _ _ => ⟨rfl, rfl, rfl⟩, fun _ _ h => h, fun _ _ h => h⟩
theorem bP.tr {t u : Nat} {M M1 M2 : zMem} (h : bP t M M1) (k : bP u M1 M2) (htu : t ≤ u) : bP t M M2 := ⟨fun c hc => ⟨(k.1 c (by omega)).1.trans (h.1 c hc).1, (k.1 c (by omega)).2.1.trans (h.1 c hc).2.1, (k.1 c (by omega)).2.2.trans (h.1 c hc).2.2⟩, fun c f q => k.2.1 c f (h.2.1 c f q), fun c f q => k.2.2 c f (h.2.2 c f q)⟩
theorem bP_N {n k : Nat} {M : zMem} : bP n M (zNew M n k) := by
  refine ⟨fun c hc => zNew_off (by omega), fun c f h => ?_, fun c f h => ?_⟩
  · by_cases q : n ≤ c ∧ c < n + k
    · rw [(zNew_on q).1]
    · rw [(zNew_off q).1]; exact h
  · by_cases q : n ≤ c ∧ c < n + k
    · rw [(zNew_on q).2.1]
    · rw [(zNew_off q).2.1]; exact h
theorem bP_R {n j v : Nat} {M : zMem} : bP n M (zR M n j v) := ⟨fun c hc => ⟨rfl, rfl, if_neg (by omega)⟩, fun _ _ h => h, fun _ _ h => h⟩
section ZW
variable {t n : Nat} {M0 M1 : zMem} {β : Type} {Q : β → Prop}
theorem w_N {j : Nat} {k : zMem → Option β} (h : bP t M0 M1) (hn : t ≤ n) (kk : ∀ M2, bP t M0 M2 → wp (k M2) Q) : wp (zl (zNew M1 n j) k) Q := kk _ (h.tr bP_N hn)
theorem w_R {j v : Nat} {k : zMem → Option β} (h : bP t M0 M1) (hn : t ≤ n) (kk : ∀ M2, bP t M0 M2 → wp (k M2) Q) : wp (zl (zR M1 n j v) k) Q := kk _ (h.tr bP_R hn)
theorem w_B {o : Option zMem} {k : zMem → Option β} (ho : wp o (bP n M1)) (h : bP t M0 M1) (hn : t ≤ n) (kk : ∀ M2, bP t M0 M2 → wp (k M2) Q) : wp (zbv o k) Q := by
  obtain ⟨M2, rfl, h2⟩ := ho
  exact kk M2 (h.tr h2 hn)
end ZW
theorem i_X4 (M : zMem) (t : Nat) : wp (F_X4_init M t) (bP t M) := by
  have h : bP t M M := bP.rf
  unfold F_X4_init
  repeat first | refine w_N h (by omega) (fun _ h => ?_) | refine w_R h (by omega) (fun _ h => ?_)
  exact wp_some.mpr h
theorem i_X2 (M : zMem) (t : Nat) : wp (F_X2_init M t) (bP t M) := by
  have h : bP t M M := bP.rf
  unfold F_X2_init
  repeat first | refine w_N h (by omega) (fun _ h => ?_) | refine w_R h (by omega) (fun _ h => ?_)
  exact wp_some.mpr h
theorem i_X1 (M : zMem) (t : Nat) : wp (F_X1_init M t) (bP t M) := by
  have h : bP t M M := bP.rf
  unfold F_X1_init
  repeat first | refine w_N h (by omega) (fun _ h => ?_) | refine w_R h (by omega) (fun _ h => ?_)
  exact wp_some.mpr h
theorem i_X6 (M : zMem) (t : Nat) : wp (F_X6_init M t) (bP t M) := by
  have h : bP t M M := bP.rf
  unfold F_X6_init
  repeat first | refine w_N h (by omega) (fun _ h => ?_) | refine w_R h (by omega) (fun _ h => ?_)
  exact wp_some.mpr h
theorem i_X7 (M : zMem) (t : Nat) : wp (F_X7_init M t) (bP t M) := by
  have h : bP t M M := bP.rf
  unfold F_X7_init
  repeat first | refine w_N h (by omega) (fun _ h => ?_) | refine w_R h (by omega) (fun _ h => ?_) | refine w_B (i_X4 _ _) h (by omega) (fun _ h => ?_)
  exact wp_some.mpr h
/-- cells that begin with other than 0 -/
def sp9 (c : Nat) : Prop := c = 1 ∨ c = 172 ∨ c = 174 ∨ c = 180 ∨ c = 186 ∨ c = 187 ∨ c = 190 ∨ c = 191
def J9 (t : Nat) (L : List (Nat × Nat)) (M : zMem) : Prop := (∀ c, ¬ sp9 c → ∀ f, M.1 c f = 0 ∧ M.2.1 c f = 0) ∧ (1 < t → M.1 1 1 = 0 ∧ M.1 1 3 = -1) ∧ (174 < t → M.1 174 0 = 4 ∧ M.1 174 1 = 4 ∧ M.1 174 2 = 0 ∧ ∀ p, p < 64 → tb (M.2.1 174 3) p = inW wd0.1 p) ∧ (187 < t → RXl M lw0 186) ∧ ∀ q, q ∈ L → M.2.2 0 q.1 = q.2
theorem J9.mv {t n : Nat} {L : List (Nat × Nat)} {M M' : zMem} (h : J9 t L M) (k : bP n M M') (htn : t ≤ n) (h0 : 0 < n) : J9 t L M' := by
  obtain ⟨a1, a2, a3, a4, a5⟩ := h
  obtain ⟨k1, k2, k3⟩ := k
  refine ⟨fun c hc f => ⟨k2 c f (a1 c hc f).1, k3 c f (a1 c hc f).2⟩, fun q => ?_, fun q => ?_, fun q => ?_, fun q hq => ?_⟩
  · rw [(k1 1 (by omega)).1]; exact a2 q
  · rw [(k1 174 (by omega)).1, (k1 174 (by omega)).2.1]; exact a3 q
  · obtain ⟨b1, b2⟩ := a4 q
    refine ⟨by rw [(k1 186 (by omega)).1]; exact b1, fun j hj => by rw [(k1 (186 + 1) (by omega)).1]; exact b2 j hj⟩
  · rw [(k1 0 h0).2.2]; exact a5 q hq
section JW
variable {t n : Nat} {L : List (Nat × Nat)} {M : zMem} {β : Type} {Q : β → Prop}
theorem j_N {j : Nat} {k : zMem → Option β} (h : J9 t L M) (hn : t ≤ n) (h0 : 0 < n) (kk : ∀ M2, J9 t L M2 → wp (k M2) Q) : wp (zl (zNew M n j) k) Q := kk _ (h.mv bP_N hn h0)
theorem j_B {o : Option zMem} {k : zMem → Option β} (ho : wp o (bP n M)) (h : J9 t L M) (hn : t ≤ n) (h0 : 0 < n) (kk : ∀ M2, J9 t L M2 → wp (k M2) Q) : wp (zbv o k) Q := by
  obtain ⟨M2, rfl, h2⟩ := ho
  exact kk M2 (h.mv h2 hn h0)
/-- a reference of another cell -/
theorem j_Rn {j v : Nat} {k : zMem → Option β} (h : J9 t L M) (h0 : n ≠ 0) (kk : ∀ M2, J9 t L M2 → wp (k M2) Q) : wp (zl (zR M n j v) k) Q := kk _ ⟨h.1, h.2.1, h.2.2.1, h.2.2.2.1, fun q hq => by
  have : (zR M n j v).2.2 0 = M.2.2 0 := if_neg (by omega)
  rw [this]; exact h.2.2.2.2 q hq⟩
/-- a reference of the object -/
theorem j_R0 {j v : Nat} {k : zMem → Option β} (h : J9 t L M) (hj : ∀ q, q ∈ L → q.1 ≠ j) (kk : ∀ M2, J9 t ((j, v) :: L) M2 → wp (k M2) Q) : wp (zl (zR M 0 j v) k) Q := kk _ ⟨h.1, h.2.1, h.2.2.1, h.2.2.2.1, fun q hq => by
  have e : (zR M 0 j v).2.2 0 = fun i => if i = j then v else M.2.2 0 i := rfl
  rw [e]
  rcases List.mem_cons.mp hq with rfl | hq
  · exact if_pos rfl
  · exact (if_neg (hj q hq)).trans (h.2.2.2.2 q hq)⟩
/-- the text -/
theorem j_8 {k : zMem → Option β} (h : J9 0 L M) (kk : ∀ M2, J9 2 L M2 → wp (k M2) Q) : wp (zl (zNew M 1 1) (fun M1 => zbv (F_X8_init M1 1) k)) Q := by
  obtain ⟨a1, a2, a3, a4, a5⟩ := h
  rw [zl_eq]
  unfold F_X8_init
  rw [zl_eq, zl_eq, zl_eq, zbv_some]
  have c2 : ∀ c, c ≠ 1 → (zI (zR (zNew (zNew M 1 1) (1 + 1) 1) 1 0 (1 + 1)) 1 3 (-1)).1 c = (zNew (zNew M 1 1) (1 + 1) 1).1 c := fun c hc => zI_n hc
  refine kk _ ⟨fun c hc f => ⟨?_, ?_⟩, fun _ => ⟨?_, ?_⟩, fun q => by omega, fun q => by omega, fun q hq => ?_⟩
  · rw [c2 c (fun e => hc (Or.inl e))]
    exact (bP_N (M := zNew M 1 1)).2.1 c f (bP_N.2.1 c f (a1 c hc f).1)
  · exact (bP_N (M := zNew M 1 1)).2.2 c f (bP_N.2.2 c f (a1 c hc f).2)
  · rw [zI_s (by omega)]
    show (zNew (zNew M 1 1) (1 + 1) 1).1 1 1 = 0
    rw [(zNew_off (by omega)).1, (zNew_on (by omega)).1]
  · rw [zI_1, upd_s]
  · have e : (zI (zR (zNew (zNew M 1 1) (1 + 1) 1) 1 0 (1 + 1)) 1 3 (-1)).2.2 0 = M.2.2 0 := by
      show (zR (zNew (zNew M 1 1) (1 + 1) 1) 1 0 (1 + 1)).2.2 0 = M.2.2 0
      have : (zR (zNew (zNew M 1 1) (1 + 1) 1) 1 0 (1 + 1)).2.2 0 = (zNew (zNew M 1 1) (1 + 1) 1).2.2 0 := zR22n (by omega)
      rw [this, (zNew_off (by omega)).2.2, (zNew_off (by omega)).2.2]
    rw [e]; exact a5 q hq
/-- the best -/
theorem j_b {k : zMem → Option β} (h : J9 2 L M) (kk : ∀ M2, J9 2 L M2 → wp (k M2) Q) : wp (zbv (F_X0_init M 172) k) Q := by
  obtain ⟨a1, a2, a3, a4, a5⟩ := h
  unfold F_X0_init
  rw [zl_eq, zl_eq, zbv_some]
  have c2 : ∀ c, c ≠ 172 → (zI (zI M 172 0 (-1)) 172 1 (-1)).1 c = M.1 c := fun c hc => (zI_n hc).trans (zI_n hc)
  refine kk _ ⟨fun c hc f => ⟨?_, (a1 c hc f).2⟩, fun q => ?_, fun q => by omega, fun q => by omega, a5⟩
  · rw [c2 c (fun e => hc (Or.inr (Or.inl e)))]; exact (a1 c hc f).1
  · rw [c2 1 (by omega)]; exact a2 q
theorem i_X5 (M : zMem) (t : Nat) : wp (F_X5_init M t) (fun M' => (∀ c, c ≠ t → ∀ f, (M.1 c f = 0 → M'.1 c f = 0) ∧ (M.2.1 c f = 0 → M'.2.1 c f = 0)) ∧ (∀ c, c < t → M'.1 c = M.1 c ∧ M'.2.1 c = M.2.1 c ∧ M'.2.2 c = M.2.2 c) ∧ M'.1 t 0 = 4 ∧ M'.1 t 1 = 4 ∧ M'.1 t 2 = M.1 t 2 ∧ ∀ p, p < 64 → tb (M'.2.1 t 3) p = inW wd0.1 p) := by
  unfold F_X5_init
  obtain ⟨v, hv, hv2⟩ := x_square (x := zI (zI M t 0 (nI 4)) t 1 (nI 4)) (a := 4) (b := 4) (by omega) (by omega)
  rw [zl_eq, zl_eq, show (4 : Int32) = nI 4 from rfl, hv, zb_some, zl_eq]
  obtain ⟨N, hN⟩ : ∃ N, N = zL (zI (zI M t 0 (nI 4)) t 1 (nI 4)) t 3 v := ⟨_, rfl⟩
  rw [← hN]
  have n1 : ∀ c, c ≠ t → N.1 c = M.1 c ∧ N.2.1 c = M.2.1 c := fun c hc => by
    rw [hN]
    exact ⟨(zI_n hc).trans (zI_n hc), zL_n hc⟩
  have n2 : N.2.2 = M.2.2 := by rw [hN]; rfl
  have n3 : N.1 t 0 = nI 4 := by rw [hN]; exact (zI_s (by omega)).trans (by rw [zI_1, upd_s])
  have n4 : N.1 t 1 = nI 4 := by rw [hN]; show (zI (zI M t 0 (nI 4)) t 1 (nI 4)).1 t 1 = _; rw [zI_1, upd_s]
  have n5 : N.1 t 2 = M.1 t 2 := by rw [hN]; exact (zI_s (by omega)).trans (zI_s (by omega))
  have n6 : N.2.1 t 3 = v := by rw [hN, zL_1, updL_s]
  have key : wp (zl (zNew N (t + 1) 1) fun M6 => zl (zR M6 t 4 (t + 1)) fun M7 => zl (zNew M7 (t + 2) 1) fun M8 => zl (zR M8 t 5 (t + 2)) fun M9 => zl (zNew M9 (t + 3) 1) fun M10 => zl (zR M10 t 6 (t + 3)) fun M11 => zl (zNew M11 (t + 4) 1) fun M12 => zl (zR M12 t 7 (t + 4)) fun M13 => zl (zNew M13 (t + 5) 1) fun M14 => zl (zR M14 t 8 (t + 5)) fun M15 => some M15) (fun M' => bP t N M' ∧ M'.1 t = N.1 t ∧ M'.2.1 t = N.2.1 t) := by
    have a : ∀ (A : zMem) (n : Nat), t < n → (bP t N A ∧ A.1 t = N.1 t ∧ A.2.1 t = N.2.1 t) → (bP t N (zNew A n 1) ∧ (zNew A n 1).1 t = N.1 t ∧ (zNew A n 1).2.1 t = N.2.1 t) := fun A n hn hA => ⟨hA.1.tr bP_N (by omega), (zNew_off (by omega)).1.trans hA.2.1, (zNew_off (by omega)).2.1.trans hA.2.2⟩
    have b : ∀ (A : zMem) (j v : Nat), (bP t N A ∧ A.1 t = N.1 t ∧ A.2.1 t = N.2.1 t) → (bP t N (zR A t j v) ∧ (zR A t j v).1 t = N.1 t ∧ (zR A t j v).2.1 t = N.2.1 t) := fun A j v hA => ⟨hA.1.tr bP_R (Nat.le_refl _), hA.2⟩
    exact wp_some.mpr (b _ _ _ (a _ _ (by omega) (b _ _ _ (a _ _ (by omega) (b _ _ _ (a _ _ (by omega) (b _ _ _ (a _ _ (by omega) (b _ _ _ (a _ _ (by omega) ⟨bP.rf, rfl, rfl⟩))))))))))
  obtain ⟨M', hM', ⟨k1, k2, k3⟩, k4, k5⟩ := key
  refine ⟨M', hM', fun c hc f => ⟨fun h => k2 c f (by rw [(n1 c hc).1]; exact h), fun h => k3 c f (by rw [(n1 c hc).2]; exact h)⟩, fun c hc => ⟨(k1 c hc).1.trans (n1 c (by omega)).1, (k1 c hc).2.1.trans (n1 c (by omega)).2, (k1 c hc).2.2.trans (by rw [n2])⟩, by rw [k4]; exact n3, by rw [k4]; exact n4, by rw [k4]; exact n5, fun p hp => ?_⟩
  rw [k5, n6]
  exact hv2 p hp
/-- the two plans -/
theorem j_pA {k : zMem → Option β} (h : J9 2 L M) (kk : ∀ M2, J9 175 L M2 → wp (k M2) Q) : wp (zl (zNew M 174 1) fun M1 => zbv (F_X5_init M1 174) k) Q := by
  obtain ⟨M2, hM2, b1, b2, b3, b4, b5, b6⟩ := i_X5 (zNew M 174 1) 174
  obtain ⟨a1, a2, a3, a4, a5⟩ := h.mv (bP_N (n := 174) (k := 1)) (by omega) (by omega)
  rw [zl_eq, hM2, zbv_some]
  refine kk _ ⟨fun c hc f => ?_, fun q => ?_, fun q => ⟨b3, b4, ?_, b6⟩, fun q => by omega, fun q hq => ?_⟩
  · have hc' : c ≠ 174 := fun e => hc (Or.inr (Or.inr (Or.inl e)))
    exact ⟨(b1 c hc' f).1 (a1 c hc f).1, (b1 c hc' f).2 (a1 c hc f).2⟩
  · rw [(b2 1 (by omega)).1]; exact a2 (by omega)
  · rw [b5, (zNew_on (by omega)).1]
  · rw [(b2 0 (by omega)).2.2]; exact a5 q hq
theorem j_pB {k : zMem → Option β} (h : J9 175 L M) (kk : ∀ M2, J9 175 L M2 → wp (k M2) Q) : wp (zbv (F_X5_init M 180) k) Q := by
  obtain ⟨M2, hM2, b1, b2, b3, b4, b5, b6⟩ := i_X5 M 180
  obtain ⟨a1, a2, a3, a4, a5⟩ := h
  rw [hM2, zbv_some]
  refine kk _ ⟨fun c hc f => ?_, fun q => ?_, fun q => ?_, fun q => by omega, fun q hq => ?_⟩
  · have hc' : c ≠ 180 := fun e => hc (Or.inr (Or.inr (Or.inr (Or.inl e))))
    exact ⟨(b1 c hc' f).1 (a1 c hc f).1, (b1 c hc' f).2 (a1 c hc f).2⟩
  · rw [(b2 1 (by omega)).1]; exact a2 q
  · rw [(b2 174 (by omega)).1, (b2 174 (by omega)).2.1]; exact a3 q
  · rw [(b2 0 (by omega)).2.2]; exact a5 q hq
theorem i_X3 (M : zMem) (t : Nat) : wp (F_X3_init M t) (fun M' => (∀ c, c ≠ t → c ≠ t + 1 → ∀ f, M.1 c f = 0 → M'.1 c f = 0) ∧ (∀ c f, M.2.1 c f = 0 → M'.2.1 c f = 0) ∧ (∀ c, c < t → M'.1 c = M.1 c ∧ M'.2.1 c = M.2.1 c ∧ M'.2.2 c = M.2.2 c) ∧ RXl M' lw0 t) := by
  unfold F_X3_init
  have h : bP t M M := bP.rf
  repeat first | refine w_N h (by omega) (fun _ h => ?_) | refine w_R h (by omega) (fun _ h => ?_)
  rename_i N
  obtain ⟨y, hy, r1, r2, r3⟩ := x_reset (x := N) (r := t)
  rw [hy, zbv_some, wp_some]
  refine ⟨fun c h1 h2 f h0 => by rw [r2 c h1 h2]; exact h.2.1 c f h0, fun c f h0 => by rw [r3]; exact h.2.2 c f h0, fun c hc => ?_, r1⟩
  rw [r2 c (by omega) (by omega), r3]
  exact h.1 c hc
/-- the two laws -/
theorem j_lA {k : zMem → Option β} (h : J9 175 L M) (kk : ∀ M2, J9 188 L M2 → wp (k M2) Q) : wp (zbv (F_X3_init M 186) k) Q := by
  obtain ⟨M2, hM2, b1, b2, b3, b4⟩ := i_X3 M 186
  obtain ⟨a1, a2, a3, a4, a5⟩ := h
  rw [hM2, zbv_some]
  refine kk _ ⟨fun c hc f => ⟨b1 c (fun e => hc (by unfold sp9; omega)) (fun e => hc (by unfold sp9; omega)) f (a1 c hc f).1, b2 c f (a1 c hc f).2⟩, fun q => ?_, fun q => ?_, fun q => b4, fun q hq => ?_⟩
  · rw [(b3 1 (by omega)).1]; exact a2 (by omega)
  · rw [(b3 174 (by omega)).1, (b3 174 (by omega)).2.1]; exact a3 (by omega)
  · rw [(b3 0 (by omega)).2.2]; exact a5 q hq
theorem j_lB {k : zMem → Option β} (h : J9 188 L M) (kk : ∀ M2, J9 188 L M2 → wp (k M2) Q) : wp (zbv (F_X3_init M 190) k) Q := by
  obtain ⟨M2, hM2, b1, b2, b3, b4⟩ := i_X3 M 190
  obtain ⟨a1, a2, a3, a4, a5⟩ := h
  rw [hM2, zbv_some]
  refine kk _ ⟨fun c hc f => ⟨b1 c (fun e => hc (by unfold sp9; omega)) (fun e => hc (by unfold sp9; omega)) f (a1 c hc f).1, b2 c f (a1 c hc f).2⟩, fun q => ?_, fun q => ?_, fun q => ?_, fun q hq => ?_⟩
  · rw [(b3 1 (by omega)).1]; exact a2 q
  · rw [(b3 174 (by omega)).1, (b3 174 (by omega)).2.1]; exact a3 q
  · obtain ⟨c1, c2⟩ := a4 q
    refine ⟨by rw [(b3 186 (by omega)).1]; exact c1, fun j hj => by rw [(b3 (186 + 1) (by omega)).1]; exact c2 j hj⟩
  · rw [(b3 0 (by omega)).2.2]; exact a5 q hq
end JW
theorem J9_0 : J9 0 [] M00 := ⟨fun _ _ _ => ⟨rfl, rfl⟩, fun q => by omega, fun q => by omega, fun q => by omega, fun q hq => absurd hq List.not_mem_nil⟩
theorem J9_end {M : zMem} {L : List (Nat × Nat)} (h : J9 188 L M) (hL : (8, 174) ∈ L ∧ (9, 180) ∈ L ∧ (10, 186) ∈ L ∧ (11, 190) ∈ L ∧ (12, 194) ∈ L ∧ (13, 197) ∈ L) : RXo M S00 := by
  obtain ⟨a1, a2, a3, a4, a5⟩ := h
  obtain ⟨l8, l9, l10, l11, l12, l13⟩ := hL
  obtain ⟨p1, p2, p3, p4⟩ := a3 (by omega)
  have z1 : ∀ c f, ¬ sp9 c → M.1 c f = nI 0 := fun c f hc => (a1 c hc f).1
  have tb0 : ∀ c f p, ¬ sp9 c → tb (M.2.1 c f) p = false := fun c f p hc => by
    rw [(a1 c hc f).2]
    unfold tb
    simp
  have u0 : ∀ i, nI (stU wd0 i) = nI 0 := fun i => by rw [stU_wd0]
  refine ⟨174, 186, 194, ⟨⟨p1, p2, p3, fun h hh => absurd hh (Nat.not_lt_zero _), p4⟩, a4 (by omega), a5 _ l8, a5 _ l10, Or.inl rfl, Or.inl rfl⟩, ⟨a5 _ l9, a5 _ l11, a5 _ l12, a5 _ l13, Or.inl rfl⟩, ⟨z1 194 2 (by unfold sp9; omega), fun k hk => absurd hk (Nat.not_lt_zero _), fun p _ => tb0 194 3 p (by unfold sp9; omega)⟩, ⟨z1 3 1 (by unfold sp9; omega), ⟨fun p hp => ?_, ?_, ?_, ?_, fun h hh => absurd hh (Nat.not_lt_zero _)⟩, fun k hk => absurd hk (Nat.not_lt_zero _)⟩, z1 0 14 (by unfold sp9; omega), fun i hi => absurd hi (Nat.not_lt_zero _), (a2 (by omega)).1, fun k hk => absurd hk (Nat.not_lt_zero _), (a2 (by omega)).2, z1 0 15 (by unfold sp9; omega), z1 0 16 (by unfold sp9; omega), z1 0 17 (by unfold sp9; omega)⟩
  · show M.1 (3 + 1 + 1) p = nI (stU wd0 p) ∧ M.1 (3 + 1 + 2) p = nI (stU wd0 (64 + p)) ∧ M.1 (3 + 1 + 3) p = nI (stU wd0 (128 + p))
    rw [u0, u0, u0]
    exact ⟨z1 5 p (by unfold sp9; omega), z1 6 p (by unfold sp9; omega), z1 7 p (by unfold sp9; omega)⟩
  · show M.1 (3 + 1) 3 = nI (stU wd0 194)
    rw [u0]; exact z1 4 3 (by unfold sp9; omega)
  · show M.1 (3 + 1) 4 = nI (stU wd0 192)
    rw [u0]; exact z1 4 4 (by unfold sp9; omega)
  · show M.1 (3 + 1) 5 = nI (stU wd0 193)
    rw [u0]; exact z1 4 5 (by unfold sp9; omega)
set_option maxRecDepth 100000 in
theorem x_init : ∃ M, F_X9_init M00 = some M ∧ RXo M S00 := by
  have h := J9_0
  show wp (F_X9_init M00) (fun M => RXo M S00)
  unfold F_X9_init
  refine j_8 h (fun _ h => ?_)
  have nj : ∀ {L : List (Nat × Nat)} {j : Nat}, L.all (fun q => !(q.1 == j)) = true → ∀ q, q ∈ L → q.1 ≠ j := fun hL q hq e => by
    have := List.all_eq_true.mp hL q hq
    simp [e] at this
  refine j_R0 h (nj rfl) (fun _ h => ?_)
  refine j_N h (by omega) (by omega) (fun _ h => ?_)
  refine j_B (i_X7 _ 3) h (by omega) (by omega) (fun _ h => ?_)
  refine j_R0 h (nj rfl) (fun _ h => ?_)
  refine j_N h (by omega) (by omega) (fun _ h => ?_)
  refine j_R0 h (nj rfl) (fun _ h => ?_)
  refine j_N h (by omega) (by omega) (fun _ h => ?_)
  refine j_B (i_X2 _ 91) h (by omega) (by omega) (fun _ h => ?_)
  refine j_R0 h (nj rfl) (fun _ h => ?_)
  refine j_N h (by omega) (by omega) (fun _ h => ?_)
  refine j_B (i_X4 _ 99) h (by omega) (by omega) (fun _ h => ?_)
  refine j_R0 h (nj rfl) (fun _ h => ?_)
  refine j_N h (by omega) (by omega) (fun _ h => ?_)
  refine j_B (i_X6 _ 104) h (by omega) (by omega) (fun _ h => ?_)
  refine j_R0 h (nj rfl) (fun _ h => ?_)
  refine j_N h (by omega) (by omega) (fun _ h => ?_)
  refine j_b h (fun _ h => ?_)
  refine j_R0 h (nj rfl) (fun _ h => ?_)
  refine j_N h (by omega) (by omega) (fun _ h => ?_)
  refine j_R0 h (nj rfl) (fun _ h => ?_)
  refine j_pA h (fun _ h => ?_)
  refine j_R0 h (nj rfl) (fun _ h => ?_)
  refine j_N h (by omega) (by omega) (fun _ h => ?_)
  refine j_pB h (fun _ h => ?_)
  refine j_R0 h (nj rfl) (fun _ h => ?_)
  refine j_N h (by omega) (by omega) (fun _ h => ?_)
  refine j_lA h (fun _ h => ?_)
  refine j_R0 h (nj rfl) (fun _ h => ?_)
  refine j_N h (by omega) (by omega) (fun _ h => ?_)
  refine j_lB h (fun _ h => ?_)
  refine j_R0 h (nj rfl) (fun _ h => ?_)
  refine j_N h (by omega) (by omega) (fun _ h => ?_)
  refine j_B (i_X1 _ 194) h (by omega) (by omega) (fun _ h => ?_)
  refine j_R0 h (nj rfl) (fun _ h => ?_)
  refine j_N h (by omega) (by omega) (fun _ h => ?_)
  refine j_B (i_X1 _ 197) h (by omega) (by omega) (fun _ h => ?_)
  refine j_R0 h (nj rfl) (fun _ h => ?_)
  refine j_N h (by omega) (by omega) (fun _ h => ?_)
  refine j_B (i_X7 _ 200) h (by omega) (by omega) (fun _ h => ?_)
  refine j_Rn h (by omega) (fun _ h => ?_)
  refine j_N h (by omega) (by omega) (fun _ h => ?_)
  refine j_B (i_X7 _ 287) h (by omega) (by omega) (fun _ h => ?_)
  refine j_Rn h (by omega) (fun _ h => ?_)
  refine j_N h (by omega) (by omega) (fun _ h => ?_)
  refine j_B (i_X7 _ 374) h (by omega) (by omega) (fun _ h => ?_)
  refine j_Rn h (by omega) (fun _ h => ?_)
  exact wp_some.mpr (J9_end h ⟨by decide, by decide, by decide, by decide, by decide, by decide⟩)
/-- the reference: its cells but 3 of 0 begin with 0 -/
def JM (M : zMem) : Prop := (∀ c f, ¬ (c = 0 ∧ f = 3) → M.1 c f = 0) ∧ M.1 0 3 = -1
section JN
variable {n : Nat} {M : zMem} {β : Type} {Q : β → Prop}
theorem m_N {j : Nat} {k : zMem → Option β} (h : JM M) (h0 : 0 < n) (kk : ∀ M2, JM M2 → wp (k M2) Q) : wp (zl (zNew M n j) k) Q := kk _ ⟨fun c f hc => bP_N.2.1 c f (h.1 c f hc), by rw [(zNew_off (by omega)).1]; exact h.2⟩
theorem m_R {j v : Nat} {k : zMem → Option β} (h : JM M) (kk : ∀ M2, JM M2 → wp (k M2) Q) : wp (zl (zR M n j v) k) Q := kk _ h
end JN
set_option maxRecDepth 100000 in
theorem m_init : ∃ M, F_X10_init M00 = some M ∧ RMn M S00 := by
  show wp (F_X10_init M00) (fun M => RMn M S00)
  unfold F_X10_init
  rw [zl_eq]
  have h : JM (zI M00 0 3 (-1)) := by
    refine ⟨fun c f hc => ?_, by rw [zI_1, upd_s]⟩
    by_cases q : c = 0
    · rw [q, zI_s (fun e => hc ⟨q, e⟩)]; rfl
    · rw [zI_n q]; rfl
  generalize zI M00 0 3 (-1) = M1 at h ⊢
  repeat first | refine m_N h (by omega) (fun _ h => ?_) | refine m_R h (fun _ h => ?_)
  rename_i N
  obtain ⟨y, hy, y1, y2, y3⟩ := m_tellsNothing (m := N)
  rw [hy, zbv_some]
  obtain ⟨z, hz, z1, z2, z3, z4, z5, z6, z7, z8, z9⟩ := m_begins y1 wd0_ok
  rw [hz, zbv_some, wp_some]
  refine ⟨z1, ⟨z5, fun k hk => absurd hk (Nat.not_lt_zero _)⟩, ⟨z6, fun k hk => absurd hk (Nat.not_lt_zero _)⟩, ⟨z7, z2, fun k hk => absurd hk (Nat.not_lt_zero _)⟩, z9, fun i hi => absurd hi (Nat.not_lt_zero _), ?_, fun k hk => absurd hk (Nat.not_lt_zero _), ?_, z8, ?_, ?_⟩
  · rw [z4 1 (by omega) (by omega) (by omega) (by omega) (by omega), y2 0 (by omega) (by omega)]
    exact h.1 0 1 (by omega)
  · rw [z4 3 (by omega) (by omega) (by omega) (by omega) (by omega), y2 0 (by omega) (by omega)]
    exact h.2
  · rw [z3 2 (by omega) (by omega) (by omega) (by omega), y2 2 (by omega) (by omega)]
    exact h.1 2 0 (by omega)
  · rw [z3 2 (by omega) (by omega) (by omega) (by omega), y2 2 (by omega) (by omega)]
    exact h.1 2 1 (by omega)
