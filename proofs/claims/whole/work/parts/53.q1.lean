/-! questions: fault, status, count, told, pan, hour, shade, dries, would -/
theorem RXn.u {x : zMem} {S : SS} {pl r n : Nat} (h : RXn x S pl r n) : RXr x (sE S) (sN S).2.1 4 := h.2.2.2.1.2.1
theorem RMn.u {m : zMem} {S : SS} (h : RMn m S) : RMr m (sN S).2.1 451 := h.2.2.2.1.2.1
theorem okS.u {S : SS} (h : okS S) : okR (sE S) (sN S).2.1 := h.2.2.2.1.2.1.1
theorem RMn.t {m : zMem} {S : SS} (h : RMn m S) (ok : okS S) : RMn (zI m 0 0 0) S := h.fr ok frN_t
theorem t0_0 {m : zMem} : (zI m 0 0 0).1 0 0 = 0 := by rw [zI_1, upd_s]
theorem m_bad11 {m : zMem} (h : m.1 0 0 = 0) : F_X10_bad m 1 1 1 = some (1, zI (zI m 0 0 (nI 1)) 2 1 (m.1 2 1 + 1)) := m_bad1 h (w := 1) (k := 1) (by omega) (by omega) (by omega)
theorem m_bad10 {m : zMem} (h : m.1 0 0 = 0) : F_X10_bad m 1 1 0 = some (1, zI (zI m 0 0 (nI 1)) 2 0 (m.1 2 0 + 1)) := m_bad1 h (w := 1) (k := 0) (by omega) (by omega) (by omega)
theorem m_bad21 {m : zMem} (h : m.1 0 0 = 0) : F_X10_bad m 1 2 1 = some (1, zI (zI m 0 0 (nI 2)) 2 1 (m.1 2 1 + 1)) := m_bad1 h (w := 2) (k := 1) (by omega) (by omega) (by omega)
theorem q_fault {x m : zMem} {S : SS} (hX : RXo x S) (hM : RMn m S) (ok : okS S) : same0 (F_X9_fault x) (F_X10_fault m) := by
  obtain ⟨pl, r, n, h⟩ := hX
  refine ⟨sF S, x, zI m 0 0 0, S, ?_, ?_, ⟨pl, r, n, h⟩, hM.t ok, ok⟩
  · unfold F_X9_fault
    rw [h.2.2.2.2.2.2.2.2.1]
  · unfold F_X10_fault
    rw [zl_eq, (hM.t ok).2.2.2.2.2.2.2.2.1]
theorem q_status {x m : zMem} {S : SS} (a : Int32) (hX : RXo x S) (hM : RMn m S) (ok : okS S) : same0 (F_X9_status x a) (F_X10_status m a) := by
  obtain ⟨pl, r, n, h⟩ := hX
  have hM1 := hM.t ok
  have f : ∀ v, F_X9_status x a = some (v, x) → F_X10_status m a = some (v, zI m 0 0 0) → same0 (F_X9_status x a) (F_X10_status m a) := fun v h1 h2 => ⟨v, x, _, S, h1, h2, ⟨pl, r, n, h⟩, hM1, ok⟩
  rcases ya_rng a (b := 1) (by decide) with ⟨k, hk, rfl⟩ | hb
  · have : k = 0 ∨ k = 1 := by omega
    rcases this with rfl | rfl
    · refine f (nI (s0 S)) ?_ ?_
      · rw [← h.2.2.2.2.2.2.2.2.2.2.1]; rfl
      · rw [← hM1.2.2.2.2.2.2.2.2.2.2.1]; rfl
    · refine f (nI (s1 S)) ?_ ?_
      · rw [← h.2.2.2.2.2.2.2.2.2.2.2]; rfl
      · rw [← hM1.2.2.2.2.2.2.2.2.2.2.2]; rfl
  · refine f (-1) ?_ ?_
    · unfold F_X9_status
      rw [if_neg, if_neg]
      · rintro rfl; rcases hb with hb | hb <;> revert hb <;> decide
      · rintro rfl; rcases hb with hb | hb <;> revert hb <;> decide
    · unfold F_X10_status
      rw [zl_eq, show (1 : Int32) = nI 1 from rfl, m_inN _ hb, zb_some]; rfl
theorem q_count {x m : zMem} {S : SS} (a : Int32) (hX : RXo x S) (hM : RMn m S) (ok : okS S) : same0 (F_X9_count x a) (F_X10_count m a) := by
  obtain ⟨pl, r, n, h⟩ := hX
  have hM1 := hM.t ok
  have f : ∀ v, F_X9_count x a = some (v, x) → F_X10_count m a = some (v, zI m 0 0 0) → same0 (F_X9_count x a) (F_X10_count m a) := fun v h1 h2 => ⟨v, x, _, S, h1, h2, ⟨pl, r, n, h⟩, hM1, ok⟩
  by_cases c0 : a = 0
  · subst c0
    refine f (nI (sI S)) ?_ ?_
    · rw [← h.2.2.2.2.1]; rfl
    · rw [← hM1.2.2.2.2.1]; rfl
  by_cases c1 : a = 1
  · subst c1
    refine f (nI (sT S)) ?_ ?_
    · rw [← h.2.2.2.2.2.2.1]; rfl
    · rw [← hM1.2.2.2.2.2.2.1]; rfl
  by_cases c2 : a = 2
  · subst c2
    refine f (nI (sN S).1) ?_ ?_
    · rw [← h.2.2.2.1.1]; rfl
    · rw [← hM1.2.2.2.1.1]; rfl
  refine f (-1) ?_ ?_
  · unfold F_X9_count
    rw [if_neg c0, if_neg c1, if_neg c2]
  · unfold F_X10_count
    simp only [zl_eq, c0, c1, c2, if_false]
theorem q_told {x m : zMem} {S : SS} (a : Int32) (hX : RXo x S) (hM : RMn m S) (ok : okS S) : same T1 (F_X9_told x a) (F_X10_told m a) := by
  obtain ⟨pl, r, n, h⟩ := hX
  have hM1 := hM.t ok
  have t1 : T1 0 0 := Or.inl ⟨rfl, rfl⟩
  have he := ok.1
  have hn := he.2.2.2.2.1
  have hv := ok.u
  have f : ∀ v, F_X9_told x a = some (0, v, x) → F_X10_told m a = some (v, zI m 0 0 0) → same T1 (F_X9_told x a) (F_X10_told m a) := fun v h1 h2 => same_q h hM1 ok t1 h1 frQ.refl h2 frN.refl t0_0
  have w1 := h.1.2.2.1
  have gp : ∀ o : Option (Nat × Int32 × zMem), gd (shX pl == 6) o = o := fun o => gd_ok (sX_p h.1.2.2.2.2.1)
  rcases ya_rng a (b := 12) (by decide) with ⟨k, hk, rfl⟩ | hb
  · have : k = 0 ∨ k = 1 ∨ k = 2 ∨ k = 3 ∨ k = 4 ∨ k = 5 ∨ k = 6 ∨ k = 7 ∨ k = 8 ∨ k = 9 ∨ k = 10 ∨ k = 11 ∨ k = 12 := by omega
    rcases this with rfl | rfl | rfl | rfl | rfl | rfl | rfl | rfl | rfl | rfl | rfl | rfl | rfl
    · refine f (nI (pW (sE S))) ?_ ?_
      · show gd (shX (x.2.2 0 8) == 6) (some (0, x.1 (x.2.2 0 8) 0, x)) = _
        rw [w1, gp, h.1.1.1]
      · rw [← hM1.1.1]; rfl
    · refine f (nI (pH (sE S))) ?_ ?_
      · show gd (shX (x.2.2 0 8) == 6) (some (0, x.1 (x.2.2 0 8) 1, x)) = _
        rw [w1, gp, h.1.1.2.1]
      · rw [← hM1.1.2.1]; rfl
    · refine f (nI (pn (sE S))) ?_ ?_
      · show gd (shX (x.2.2 0 8) == 6) (some (0, x.1 (x.2.2 0 8) 2, x)) = _
        rw [w1, gp, h.1.1.2.2.1]
      · rw [← hM1.1.2.2.1]; rfl
    · refine f (nI ((sN S).2.1 192)) ?_ ?_
      · rw [← h.u.2.2.1]; rfl
      · rw [← hM1.u 192 (by omega)]; rfl
    · refine f (if pn (sE S) = 0 then -1 else nI ((sN S).2.1 193)) ?_ ?_
      · show gd (shX (x.2.2 0 8) == 6) (if x.1 (x.2.2 0 8) 2 = 0 then some (0, -1, x) else some (0, x.1 4 5, x)) = _
        rw [w1, gp, h.1.1.2.2.1, ie0 (by omega), h.u.2.2.2.1]
        split <;> rfl
      · show (if (zI m 0 0 0).1 4 2 = 0 then some ((-1 : Int32), zI m 0 0 0) else some ((zI m 0 0 0).1 451 193, zI m 0 0 0)) = _
        rw [hM1.1.2.2.1, ie0 (by omega), hM1.u 193 (by omega)]
        split <;> rfl
    · refine f (nI (sumN (sN S).2.1 64)) ?_ ?_
      · show F_X9_told_140 (nI 5) x = _
        unfold F_X9_told_140
        rw [x_sumOf (f := (sN S).2.1) (fun p hp => (h.u.1 p hp).1), zb_some]
      · show F_X10_told_134 (nI 5) (zI m 0 0 0) = _
        unfold F_X10_told_134
        rw [show F_X10_together (zI m 0 0 0) 451 (0 : Int32) = _ from m_together (fr := 0) hM1.u (by omega), zb_some]
        simp only [Nat.zero_add]
    · refine f (nI (sumN (fun p => (sN S).2.1 (64 + p)) 64)) ?_ ?_
      · show F_X9_told_148 (nI 6) x = _
        unfold F_X9_told_148
        rw [x_sumOf (f := fun p => (sN S).2.1 (64 + p)) (fun p hp => (h.u.1 p hp).2.1), zb_some]
      · show F_X10_told_143 (nI 6) (zI m 0 0 0) = _
        unfold F_X10_told_143
        rw [show (64 : Int32) = nI 64 from rfl, m_together hM1.u (by omega), zb_some]
    · refine f (nI (sumN (fun p => (sN S).2.1 (128 + p)) 64)) ?_ ?_
      · show F_X9_told_156 (nI 7) x = _
        unfold F_X9_told_156
        rw [x_sumOf (f := fun p => (sN S).2.1 (128 + p)) (fun p hp => (h.u.1 p hp).2.2), zb_some]
      · show F_X10_told_153 (nI 7) (zI m 0 0 0) = _
        unfold F_X10_told_153
        rw [show (128 : Int32) = nI 128 from rfl, m_together hM1.u (by omega), zb_some]
    · refine f (nI ((sN S).2.1 194)) ?_ ?_
      · rw [← h.u.2.1]; rfl
      · rw [← hM1.u 194 (by omega)]; rfl
    · refine f (nI (bn (sB S))) ?_ ?_
      · show gd (shX (x.2.2 0 12) == 2) (some (0, x.1 (x.2.2 0 12) 2, x)) = _
        rw [h.2.1.2.2.1, gd_ok (by rcases h.2.1.2.2.2.2 with rfl | rfl <;> decide), h.2.2.1.1]
      · rw [← hM1.2.2.1.1]; rfl
    · refine f (nI (sQ S)) ?_ ?_
      · rw [← h.2.2.2.2.2.2.2.2.2.1]; rfl
      · rw [← hM1.2.2.2.2.2.2.2.2.2.1]; rfl
    · refine f (nI (cnt (fun p => decide (0 < (sN S).2.1 (128 + p))) 64)) ?_ ?_
      · show F_X9_told_182 (nI 11) x = _
        unfold F_X9_told_182
        rw [x_heapPlaces h.u.i hv.1, zb_some]
        dsimp only
        rw [x_bitCount, zb_some]
        dsimp only
        rw [cnt_congr (fun k hk => tb_over (f := fun p => (sN S).2.1 (128 + p)) hk)]
      · show F_X10_told_183 (nI 11) (zI m 0 0 0) = _
        unfold F_X10_told_183
        rw [m_heaps hM1.u hv.1, zb_some]
    · refine f (nI (cnt (fun p => inW (sE S) p && (isDryS (sN S).2.1 p && (!true || decide (0 < (sN S).2.1 (64 + p))))) 64)) ?_ ?_
      · show F_X9_told_190 (nI 12) x = _
        unfold F_X9_told_190
        rw [w1, gp, x_dryPlaces h.u.i hv.1, zb_some]
        dsimp only
        rw [x_saltPlaces h.u.i hv.1, zb_some]
        dsimp only
        rw [x_bitCount, zb_some]
        dsimp only
        rw [cnt_congr (fun k hk => show tb _ k = _ by rw [tb_and, tb_and, h.1.1.2.2.2.2 k hk, tb_dry hk, tb_over (f := fun p => (sN S).2.1 (64 + p)) hk, Bool.and_assoc])]
        rfl
      · show F_X10_told_188 (nI 12) (zI m 0 0 0) = _
        unfold F_X10_told_188
        rw [show (1 : Int32) = bI true from rfl, m_dryOnes hM1.1 he hM1.u hv.1, zb_some]
  · refine same_1 (t := 1) h hM1 ok (Or.inr ⟨rfl, rfl⟩) frQ.refl frN.refl (v := 0) (w := 0) ?_ ?_
    · unfold F_X9_told
      rcases hb with hb | hb
      · rw [if_pos hb]; rfl
      · split
        · rfl
        · rw [if_pos (show (12 : Int32) < a from hb)]; rfl
    · unfold F_X10_told
      rw [zl_eq, show (12 : Int32) = nI 12 from rfl, m_inN _ hb, zb_some]
      dsimp only
      rw [if_pos rfl]
      unfold F_X10_told_21
      rw [m_bad11 t0_0, zb_some]; rfl
