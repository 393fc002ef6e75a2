/-! mounds, ready, cast, poured, line, would -/
theorem q_mounds {x m : zMem} {S : SS} (a : Int32) (hX : RXo x S) (hM : RMn m S) (ok : okS S) : same T2 (F_X9_mounds x a) (F_X10_mounds m a) := by
  obtain ⟨pl, r, n, h⟩ := hX
  have hM1 := hM.t ok
  have he := ok.1
  have hv := ok.u
  have e2 := he.2.1
  have e4 := he.2.2.2.1
  rcases ya_rlt a (n := pH (sE S)) (by omega) with ⟨y, h2, rfl⟩ | hb
  · obtain ⟨v, v1, v2⟩ := x_rowOf x (mk (fun p => decide (0 < (sN S).2.1 (128 + p))) 64) (y := y) (by omega)
    have ev : v = rowB (fun q => decide (0 < (sN S).2.1 (128 + (8 * y + q)))) (pW (sE S)) := by
      apply ib_ext
      intro q hq
      rw [v2 q hq, ib_row _ hq (by omega)]
      by_cases c : q < 8
      · rw [decide_eq_true c, Bool.true_and, tb_over (f := fun p => (sN S).2.1 (128 + p)) (by omega)]
        by_cases d : q < pW (sE S)
        · rw [decide_eq_true d, Bool.true_and]
        · have hi : inW (sE S) (8 * y + q) = false := by
            unfold inW
            rw [show (8 * y + q) % 8 = q by omega, decide_eq_false d, Bool.false_and]
          have := (hv.2.1 (8 * y + q) (by omega) hi).2.2
          rw [this, decide_eq_false d, Bool.false_and]; rfl
      · rw [decide_eq_false c, decide_eq_false (by omega), Bool.false_and, Bool.false_and]
    refine same_q h hM1 ok (Or.inl ⟨rfl, rfl⟩) (v := v) (x' := x) (m' := zI m 0 0 0) ?_ frQ.refl ?_ frN.refl t0_0
    · unfold F_X9_mounds
      rw [x_nrY h.1 he h2, zbx_0, x_heapPlaces h.u.i hv.1, zb_some]
      dsimp only
      rw [v1, zb_some]
    · unfold F_X10_mounds
      rw [zl_eq, hM1.1.2.1, m_hinY _ h2 (by omega), zb_some]
      dsimp only
      rw [if_neg (by decide)]
      unfold F_X10_mounds_27
      rw [m_bad0 t0_0, zb_some]
      dsimp only
      rw [if_pos rfl, ev]
      refine loopP (F_X10_mounds_41 _) (fun g k (s : Int32) => g (nI y) s (nI k) (zI m 0 0 0)) (pW (sE S)) (fun q b => b ||| (if decide (0 < (sN S).2.1 (128 + (8 * y + q))) = true then (1 : Int32) <<< (nI q &&& 31) else 0)) (fun s => some (s, zI m 0 0 0)) (fun g k s hk => ?_) (fun g s => ?_) (s := 0) rfl (by omega)
      · show F_X10_mounds_41 (nI y) g (nI y) s (nI k) (zI m 0 0 0) = _
        have b3 := hv.1 (128 + (8 * y + k)) (by omega)
        unfold F_X10_mounds_41 F_X10_mounds_77
        rw [hM1.1.1, ile (by omega) (by omega), if_neg (by omega), show (128 : Int32) + (8 : Int32) * nI y + nI k = nI (128 + (8 * y + k)) from by rw [show (8 : Int32) = nI 8 from rfl, show (128 : Int32) = nI 128 from rfl, pk_mul, nI_add, nI_add, Nat.add_assoc], gin_ok (by omega) (by decide), nI_clamp (by omega), hM1.u _ (by omega)]
        by_cases z : (sN S).2.1 (128 + (8 * y + k)) ≤ 0
        · rw [if_pos (by rw [ya_0, nI_leI (by omega) (by omega)]; exact z), zl_eq, nI_1, if_neg (by simp; omega)]
        · rw [if_neg (by rw [ya_0, nI_leI (by omega) (by omega)]; exact z), zl_eq, nI_1, if_pos (by simp; omega)]
      · show F_X10_mounds_41 (nI y) g (nI y) s (nI (pW (sE S))) (zI m 0 0 0) = _
        unfold F_X10_mounds_41
        rw [hM1.1.1, if_pos (Int32.le_refl _)]
  · refine same_0 (t := 1) h hM1 ok (Or.inr ⟨rfl, rfl⟩) frQ.refl frN.refl (v := 0) (w := 0) ?_ ?_
    · unfold F_X9_mounds
      rw [x_nrN h.1 he hb]; rfl
    · unfold F_X10_mounds
      rw [zl_eq, hM1.1.2.1, m_hinN _ (by omega) hb, zb_some]
      dsimp only
      rw [if_pos rfl]
      unfold F_X10_mounds_27
      rw [m_bad10 t0_0, zb_some]; rfl
theorem q_ready {x m : zMem} {S : SS} (a b c : Int32) (hX : RXo x S) (hM : RMn m S) (ok : okS S) : same T2 (F_X9_ready x a b c) (F_X10_ready m a b c) := by
  obtain ⟨pl, r, n, h⟩ := hX
  have hM1 := hM.t ok
  have he := ok.1
  have hv := ok.u
  have e2 := he.2.1
  have e4 := he.2.2.2.1
  rcases plc he a b with ⟨i, j, hi, hj, rfl, rfl⟩ | hb
  · have hp : 8 * j + i < 64 := by omega
    rcases ya_rlt c (n := pH (sE S)) (by omega) with ⟨y, h1, rfl⟩ | hc
    · refine same_q h hM1 ok (Or.inl ⟨rfl, rfl⟩) (v := rowB (fun q => canRk (sN S).2.1 (8 * y + q) (8 * j + i)) (pW (sE S))) (x' := x) (m' := zI m 0 0 0) ?_ frQ.refl ?_ frN.refl t0_0
      · unfold F_X9_ready
        rw [x_npY h.1 he hi hj, zbx_0, x_nrY h.1 he h1, zbx_0]
        refine loopP (F_X9_ready_17 _ _ _) (fun g k (s : Int32) => g (nI i) (nI j) (nI y) s (nI k) x) (pW (sE S)) (fun q b => b ||| (if canRk (sN S).2.1 (8 * y + q) (8 * j + i) = true then (1 : Int32) <<< (nI q &&& 31) else 0)) (fun s => some (0, s, x)) (fun g k s hk => ?_) (fun g s => ?_) (s := 0) rfl (by omega)
        · show F_X9_ready_17 (nI i) (nI j) (nI y) g (nI i) (nI j) (nI y) s (nI k) x = _
          unfold F_X9_ready_17 F_X9_ready_62
          rw [h.1.2.2.1, gd_ok (sX_p h.1.2.2.2.2.1), h.1.1.1, ile (by omega) (by omega), if_neg (by omega), x_placeOf, zb_some]
          dsimp only
          rw [x_placeOf, zb_some]
          dsimp only
          rw [x_canScrape h.u.i hv.1 (by omega) hp, zb_some]
          dsimp only
          rw [ibI, nI_1]
          cases hc : canRk (sN S).2.1 (8 * y + k) (8 * j + i)
          · rw [if_pos rfl, if_neg (by decide)]
            have : s ||| 0 = s := by apply ib_ext; intro p hp; rw [ib_or, ib_0, Bool.or_false]
            rw [this]
          · rw [if_neg (by decide), zl_eq, if_pos rfl]
        · show F_X9_ready_17 (nI i) (nI j) (nI y) g (nI i) (nI j) (nI y) s (nI (pW (sE S))) x = _
          unfold F_X9_ready_17
          rw [h.1.2.2.1, gd_ok (sX_p h.1.2.2.2.2.1), h.1.1.1, if_pos (Int32.le_refl _)]
      · unfold F_X10_ready
        rw [zl_eq, m_iwY hM1.1 he hi hj, zb_some]
        dsimp only
        rw [if_neg (by decide), hM1.1.2.1, m_hinY _ h1 (by omega), zb_some]
        dsimp only
        rw [if_neg (by decide)]
        unfold F_X10_ready_36
        rw [m_bad0 t0_0, zb_some]
        dsimp only
        rw [if_pos rfl]
        refine loopP (F_X10_ready_52 _ _ _) (fun g k (s : Int32) => g (nI i) (nI j) (nI y) s (nI k) (zI m 0 0 0)) (pW (sE S)) (fun q b => b ||| (if canRk (sN S).2.1 (8 * y + q) (8 * j + i) = true then (1 : Int32) <<< (nI q &&& 31) else 0)) (fun s => some (s, zI m 0 0 0)) (fun g k s hk => ?_) (fun g s => ?_) (s := 0) rfl (by omega)
        · show F_X10_ready_52 (nI i) (nI j) (nI y) g (nI i) (nI j) (nI y) s (nI k) (zI m 0 0 0) = _
          unfold F_X10_ready_52 F_X10_ready_97
          rw [hM1.1.1, ile (by omega) (by omega), if_neg (by omega), show (8 : Int32) = nI 8 from rfl, pk_mul, pk_mul, nI_add, nI_add, m_canRake hM1.u hv.1 (by omega) hp, zb_some]
          dsimp only
          rw [ibI, nI_1]
          cases canRk (sN S).2.1 (8 * y + k) (8 * j + i) <;> rfl
        · show F_X10_ready_52 (nI i) (nI j) (nI y) g (nI i) (nI j) (nI y) s (nI (pW (sE S))) (zI m 0 0 0) = _
          unfold F_X10_ready_52
          rw [hM1.1.1, if_pos (Int32.le_refl _)]
    · refine same_0 (t := 1) h hM1 ok (Or.inr ⟨rfl, rfl⟩) frQ.refl frN.refl (v := 0) (w := 0) ?_ ?_
      · unfold F_X9_ready
        rw [x_npY h.1 he hi hj, zbx_0, x_nrN h.1 he hc]; rfl
      · unfold F_X10_ready
        rw [zl_eq, m_iwY hM1.1 he hi hj, zb_some]
        dsimp only
        rw [if_neg (by decide), hM1.1.2.1, m_hinN _ (by omega) hc, zb_some]
        dsimp only
        rw [if_pos rfl]
        unfold F_X10_ready_36
        rw [m_bad10 t0_0, zb_some]; rfl
  · refine same_0 (t := 1) h hM1 ok (Or.inr ⟨rfl, rfl⟩) frQ.refl frN.refl (v := 0) (w := 0) ?_ ?_
    · unfold F_X9_ready
      rw [x_npN h.1 hb]; rfl
    · unfold F_X10_ready
      rw [zl_eq, m_iwN hM1.1 he hb, zb_some]
      dsimp only
      rw [if_pos rfl]
      unfold F_X10_ready_36
      rw [m_bad10 t0_0, zb_some]; rfl
/-- a set with one place taken out -/
theorem cnt_one {f : Nat → Bool} {p : Nat} (hf : f p = true) : ∀ n, cnt f n = cnt (fun q => decide (q ≠ p) && f q) n + (if p < n then 1 else 0)
  | 0 => by simp [cnt, fN]
  | n + 1 => by
    rw [cnt_succ, cnt_succ, cnt_one hf n]
    by_cases z : n = p
    · subst z
      rw [hf]
      simp
    · by_cases c : p < n
      · have : p < n + 1 := by omega
        simp [z, c, this]
        omega
      · have : ¬ p < n + 1 := by omega
        simp [z, c, this]
theorem q_cast {x m : zMem} {S : SS} (a b c : Int32) (hX : RXo x S) (hM : RMn m S) (ok : okS S) : same T2 (F_X9_cast x a b c) (F_X10_cast m a b c) := by
  obtain ⟨pl, r, n, h⟩ := hX
  have hM1 := hM.t ok
  have he := ok.1
  have hn := he.2.2.2.2.1
  have hv := ok.u
  have e2 := he.2.1
  have e4 := he.2.2.2.1
  rcases plc he a b with ⟨i, j, hi, hj, rfl, rfl⟩ | hb
  · have hp : 8 * j + i < 64 := by omega
    have hin := inW_of he hi hj
    have b3 := hv.1 (128 + (8 * j + i)) (by omega)
    rcases ya_rlt c (n := pn (sE S)) (by omega) with ⟨hh, h1, rfl⟩ | hc
    · refine same_q h hM1 ok (Or.inl ⟨rfl, rfl⟩) (v := nI (cnt (fun q => decide (q ≠ 8 * j + i) && (inW (sE S) q && cov (sE S) (8 * j + i) ((sN S).2.1 (128 + (8 * j + i))) q hh)) 64)) (x' := x) (m' := zI m 0 0 0) ?_ frQ.refl ?_ frN.refl t0_0
      · unfold F_X9_cast
        rw [x_npY h.1 he hi hj, zbx_0, x_nhY h.1 he h1, zbx_0, x_placeOf, zb_some]
        dsimp only
        rw [gin_ok hp (by decide), zl_eq, nI_clamp (by omega), (h.u.1 _ hp).2.2, ya_0, ile (by omega) (by omega)]
        by_cases z : (sN S).2.1 (128 + (8 * j + i)) ≤ 0
        · rw [if_pos z]
          have : cnt (fun q => decide (q ≠ 8 * j + i) && (inW (sE S) q && cov (sE S) (8 * j + i) ((sN S).2.1 (128 + (8 * j + i))) q hh)) 64 = 0 := by
            rw [cnt_congr (q := fun _ => false) (fun k hk => by unfold cov; rw [if_pos (by omega), Bool.and_false, Bool.and_false])]
            decide
          rw [this]
        · rw [if_neg z, h.1.2.2.1, gd_ok (sX_p h.1.2.2.2.2.1)]
          obtain ⟨mm, s1, s2⟩ := x_shadedBy h.1.1 he hp hin (by omega) b3 h1
          rw [s1, zb_some]
          dsimp only
          rw [x_bitCount, zb_some]
          dsimp only
          rw [cnt_congr s2, cnt_one (f := fun q => inW (sE S) q && cov (sE S) (8 * j + i) ((sN S).2.1 (128 + (8 * j + i))) q hh) (p := 8 * j + i) (by rw [hin, Bool.true_and]; unfold cov; rw [if_neg (by omega), if_pos rfl]), if_pos hp, show (1 : Int32) = nI 1 from rfl, pk_sub (by omega), Nat.add_sub_cancel]
      · unfold F_X10_cast
        rw [zl_eq, m_iwY hM1.1 he hi hj, zb_some]
        dsimp only
        rw [if_neg (by decide), m_ihY hM1.1 he h1, zb_some]
        dsimp only
        rw [if_neg (by decide)]
        unfold F_X10_cast_28
        rw [m_bad0 t0_0, zb_some]
        dsimp only
        rw [if_pos rfl, zl_eq, show (8 : Int32) * nI j + nI i = nI (8 * j + i) from by rw [show (8 : Int32) = nI 8 from rfl, pk_mul, nI_add]]
        generalize 8 * j + i = p at hp hin b3
        refine loopP (F_X10_cast_52 _ _ _) (fun g k (s : Nat) => g (nI hh) (nI p) (nI s) (nI k) (zI m 0 0 0)) 64 (fun q s => s + if decide (q ≠ p) && (inW (sE S) q && cov (sE S) p ((sN S).2.1 (128 + p)) q hh) then 1 else 0) (fun s => some (nI s, zI m 0 0 0)) (fun g k s hk => ?_) (fun g s => ?_) (s := 0) rfl (by omega)
        · show F_X10_cast_52 (nI i) (nI j) (nI hh) g (nI hh) (nI p) (nI s) (nI k) (zI m 0 0 0) = _
          have f0 : F_X10_cast_105 (nI i) (nI j) (nI hh) g (nI hh) (nI p) (nI k) (nI s) 0 (zI m 0 0 0) = g (nI hh) (nI p) (nI (s + 0)) (nI (k + 1)) (zI m 0 0 0) := by
            unfold F_X10_cast_105
            rw [zl_eq, nI_1, Nat.add_zero, show (0 : Int32) = nI 0 from rfl, nI_add, Nat.add_zero]
          have f1 : F_X10_cast_105 (nI i) (nI j) (nI hh) g (nI hh) (nI p) (nI k) (nI s) 1 (zI m 0 0 0) = g (nI hh) (nI p) (nI (s + 1)) (nI (k + 1)) (zI m 0 0 0) := by
            unfold F_X10_cast_105
            rw [zl_eq, nI_1, nI_1]
          unfold F_X10_cast_52 F_X10_cast_104
          rw [show (64 : Int32) = nI 64 from rfl, ile (by omega) (by omega), if_neg (by omega), ieq (by omega) (by omega)]
          by_cases z : k = p
          · rw [if_pos z, f0, z]; simp
          · rw [if_neg z, m_isHere hM1.1 he hk, zb_some]
            dsimp only
            rw [ibI]
            cases hi2 : inW (sE S) k
            · rw [if_pos rfl, f0]; simp
            · rw [if_neg (by decide), show (128 : Int32) + nI p = nI (128 + p) from nI_add 128 p, gin_ok (by omega) (by decide), nI_clamp (by omega), hM1.u _ (by omega), m_covers hM1.1 he hp hk b3 h1, zb_some]
              dsimp only
              rw [ibI]
              cases hc : cov (sE S) p ((sN S).2.1 (128 + p)) k hh
              · rw [if_pos rfl, f0]; simp
              · rw [if_neg (by decide), f1]; simp [z]
        · show F_X10_cast_52 (nI i) (nI j) (nI hh) g (nI hh) (nI p) (nI s) (nI 64) (zI m 0 0 0) = _
          unfold F_X10_cast_52
          rw [show (64 : Int32) = nI 64 from rfl, if_pos (Int32.le_refl _)]
    · refine same_0 (t := 1) h hM1 ok (Or.inr ⟨rfl, rfl⟩) frQ.refl frN.refl (v := 0) (w := 0) ?_ ?_
      · unfold F_X9_cast
        rw [x_npY h.1 he hi hj, zbx_0, x_nhN h.1 he hc]; rfl
      · unfold F_X10_cast
        rw [zl_eq, m_iwY hM1.1 he hi hj, zb_some]
        dsimp only
        rw [if_neg (by decide), m_ihN hM1.1 he hc, zb_some]
        dsimp only
        rw [if_pos rfl]
        unfold F_X10_cast_28
        rw [m_bad10 t0_0, zb_some]; rfl
  · refine same_0 (t := 1) h hM1 ok (Or.inr ⟨rfl, rfl⟩) frQ.refl frN.refl (v := 0) (w := 0) ?_ ?_
    · unfold F_X9_cast
      rw [x_npN h.1 hb]; rfl
    · unfold F_X10_cast
      rw [zl_eq, m_iwN hM1.1 he hb, zb_some]
      dsimp only
      rw [if_pos rfl]
      unfold F_X10_cast_28
      rw [m_bad10 t0_0, zb_some]; rfl
theorem q_poured {x m : zMem} {S : SS} (a b c : Int32) (hX : RXo x S) (hM : RMn m S) (ok : okS S) : same T3 (F_X9_poured x a b c) (F_X10_poured m a b c) := by
  obtain ⟨pl, r, n, h⟩ := hX
  have hM1 := hM.t ok
  have he := ok.1
  have hv := ok.u
  have e2 := he.2.1
  have e4 := he.2.2.2.1
  rcases plc he a b with ⟨i, j, hi, hj, rfl, rfl⟩ | hb
  · have hp : 8 * j + i < 64 := by omega
    have hin := inW_of he hi hj
    rcases ya_rng1 c (c := 1) (b := 999) (by decide) (by decide) with ⟨k, hk1, hk, rfl⟩ | hc
    · obtain ⟨m2, c1, c2, c3⟩ := m_copies (M := zI m 0 0 0) (a := 451) (b := 452) (by decide)
      have hr2 : RMr m2 (sN S).2.1 452 := fun i hi => by rw [c3 i hi]; exact hM1.u i hi
      obtain ⟨m3, d1, d2, d3⟩ := m_lets (n := k) hr2 hv.1 hp (by omega)
      have b1 := hv.1 (8 * j + i) (by omega)
      have b2 := hv.1 (64 + (8 * j + i)) (by omega)
      refine same_q h hM1 ok (Or.inl ⟨rfl, rfl⟩) (v := if canLet (sN S).2.1 (8 * j + i) k then nI (strS (letS (sN S).2.1 (8 * j + i) k) (8 * j + i)) else -1) (x' := x) (m' := m3) ?_ frQ.refl ?_ ((c2.q (Or.inr (Or.inl rfl))).trans (d3.q (Or.inr (Or.inl rfl)))) (by rw [d3.1 0 (by omega) (by omega) (by omega), c2.1 0 (by omega) (by omega) (by omega)]; exact t0_0)
      · unfold F_X9_poured
        rw [x_npY h.1 he hi hj, zbx_0, x_inE, show F_X10_in x (nI k) (1 : Int32) (999 : Int32) = some (1, x) from m_inY _ hk1 hk (by decide), zb_some]
        dsimp only
        rw [x_need1, zbx_0, x_placeOf, zb_some]
        dsimp only
        rw [x_canPour h.u.i hv.1 hp (by omega), zb_some]
        dsimp only
        rw [ibI]
        cases hcl : canLet (sN S).2.1 (8 * j + i) k
        · rw [if_pos rfl, if_neg (by decide)]
        · rw [if_neg (by decide), gin_ok hp (by decide), nI_clamp (by omega), (h.u.1 _ hp).1, (h.u.1 _ hp).2.1, show (8 : Int32) = nI 8 from rfl, pk_div (by omega) (by decide) (by decide), nI_add, nI_add, x_strengthOf x (by omega) (by omega), zb_some, if_pos rfl]
          dsimp only
          have l1 : letS (sN S).2.1 (8 * j + i) k (64 + (8 * j + i)) = (sN S).2.1 (64 + (8 * j + i)) + k / 8 := by unfold letS; rw [updN_s]
          have l2 : letS (sN S).2.1 (8 * j + i) k (8 * j + i) = (sN S).2.1 (8 * j + i) + k := by unfold letS; rw [updN_n (by omega), updN_s]
          unfold strS
          rw [l1, l2]
      · unfold F_X10_poured
        rw [zl_eq, m_iwY hM1.1 he hi hj, zb_some]
        dsimp only
        rw [if_neg (by decide)]
        unfold F_X10_poured_20
        rw [m_bad0 t0_0, zb_some]
        dsimp only
        rw [if_pos rfl, show F_X10_in (zI m 0 0 0) (nI k) (1 : Int32) (999 : Int32) = some (1, zI m 0 0 0) from m_inY _ hk1 hk (by decide), zb_some]
        dsimp only
        rw [if_neg (by decide)]
        unfold F_X10_poured_45
        rw [m_bad0 t0_0, zb_some]
        dsimp only
        rw [if_pos rfl, c1, zbv_some, show (8 : Int32) = nI 8 from rfl, pk_mul, nI_add, d1, zb_some]
        dsimp only
        rw [ibI]
        cases hcl : canLet (sN S).2.1 (8 * j + i) k
        · rw [if_pos rfl, if_neg (by decide)]
        · rw [if_neg (by decide)]
          rw [hcl, if_pos rfl] at d2
          have hv3 := (hv.letR hp hin hcl).1
          rw [m_strength d2 hv3 hp, zb_some, if_pos rfl]
    · refine same_1 (t := 2) h hM1 ok (Or.inr (Or.inr ⟨rfl, rfl⟩)) frQ.refl frN.refl (v := 0) (w := 0) ?_ ?_
      · unfold F_X9_poured
        rw [x_npY h.1 he hi hj, zbx_0, x_inE, show F_X10_in x c (1 : Int32) (999 : Int32) = some (0, x) from m_inN _ hc, zb_some]; rfl
      · unfold F_X10_poured
        rw [zl_eq, m_iwY hM1.1 he hi hj, zb_some]
        dsimp only
        rw [if_neg (by decide)]
        unfold F_X10_poured_20
        rw [m_bad0 t0_0, zb_some]
        dsimp only
        rw [if_pos rfl, show F_X10_in (zI m 0 0 0) c (1 : Int32) (999 : Int32) = some (0, zI m 0 0 0) from m_inN _ hc, zb_some]
        dsimp only
        rw [if_pos rfl]
        unfold F_X10_poured_45
        rw [m_bad21 t0_0, zb_some]; rfl
  · refine same_0 (t := 1) h hM1 ok (Or.inr (Or.inl ⟨rfl, rfl⟩)) frQ.refl frN.refl (v := 0) (w := 0) ?_ ?_
    · unfold F_X9_poured
      rw [x_npN h.1 hb]; rfl
    · unfold F_X10_poured
      rw [zl_eq, m_iwN hM1.1 he hb, zb_some]
      dsimp only
      rw [if_pos rfl]
      unfold F_X10_poured_20
      rw [m_bad10 t0_0, zb_some]; rfl
