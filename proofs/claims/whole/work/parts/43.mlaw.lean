/-! the law: a row of numbers, names, joins on a stack -/
abbrev LW := Nat × (Nat → Nat) × (Nat → Nat)
def lk (L : LW) : Nat := L.1
def lki (L : LW) : Nat → Nat := L.2.1
def lva (L : LW) : Nat → Nat := L.2.2
def opS (k : Nat) (u v : Int32) : Int32 :=
  if k = 2 then u + v else if k = 3 then u - v else if k = 4 then u * v else if k = 5 then (if v = 0 then 0 else u / v)
  else if k = 6 then (if v = 0 then 0 else u - u / v * v) else if k = 7 then (if v ≤ u then v else u) else (if u ≤ v then v else u)
def stepL (L : LW) (kn : Nat → Int32) (k : Nat) (s : Nat × (Nat → Int32)) : Nat × (Nat → Int32) :=
  if lki L k < 2 then (s.1 + 1, upd s.2 s.1 (if lki L k = 0 then nI (lva L k) else kn (lva L k)))
  else (s.1 - 1, upd s.2 (s.1 - 2) (opS (lki L k) (s.2 (s.1 - 2)) (s.2 (s.1 - 1))))
def runL (L : LW) (kn : Nat → Int32) (k : Nat) : Nat × (Nat → Int32) := fN (stepL L kn) (0, fun _ => 0) k
def htL (L : LW) (k : Nat) : Nat := fN (fun k n => if lki L k < 2 then n + 1 else n - 1) 0 k
def okL (L : LW) : Prop := lk L ≤ 150 ∧ ∀ k, k < lk L → (lki L k = 0 ∧ lva L k ≤ 999) ∨ (lki L k = 1 ∧ lva L k ≤ 7) ∨ (2 ≤ lki L k ∧ lki L k ≤ 8 ∧ 2 ≤ htL L k)
theorem runL_ht (L : LW) (kn : Nat → Int32) : ∀ k, (runL L kn k).1 = htL L k
  | 0 => rfl
  | k + 1 => by
    have ih := runL_ht L kn k
    show (stepL L kn k (runL L kn k)).1 = (if lki L k < 2 then htL L k + 1 else htL L k - 1)
    unfold stepL
    split <;> simp [ih]
theorem htL_succ (L : LW) (k : Nat) : htL L (k + 1) = if lki L k < 2 then htL L k + 1 else htL L k - 1 := rfl
theorem htL_le (L : LW) : ∀ k, htL L k ≤ k
  | 0 => Nat.le_refl 0
  | k + 1 => by
    have := htL_le L k
    rw [htL_succ]
    split <;> omega
theorem htL_pos {L : LW} (ok : okL L) : ∀ k, 0 < k → k ≤ lk L → 1 ≤ htL L k
  | 0, h, _ => absurd h (Nat.lt_irrefl 0)
  | k + 1, _, hk => by
    rw [htL_succ]
    have h := ok.2 k (by omega)
    split <;> omega
def rawL (L : LW) (kn : Nat → Int32) : Int32 := if lk L = 0 then 10 + kn 2 / 4 else (runL L kn (lk L)).2 0
def clampN (x : Int32) : Nat := min 99 x.toInt.toNat
def rateL (L : LW) (kn : Nat → Int32) : Nat := clampN (rawL L kn)
theorem rateL_le (L : LW) (kn : Nat → Int32) : rateL L kn ≤ 99 := Nat.min_le_left _ _
theorem m_clamp (M : zMem) (x : Int32) : (zb (F_X10_more M (0 : Int32) x) fun v2 M1 => zb (F_X10_less M1 (99 : Int32) v2) fun v4 M3 => some (v4, M3)) = some (nI (clampN x), M) := by
  simp only [m_more, m_less, zb_some, Option.some.injEq, Prod.mk.injEq, and_true]
  unfold clampN
  have hx := x.toInt_lt
  have hx2 := x.le_toInt
  rw [show (0 : Int32) = nI 0 from rfl, show (99 : Int32) = nI 99 from rfl, fa_eq, nI_toInt (by omega)]
  simp only [fa_le]
  split
  · rename_i h
    rw [nI_toInt (by omega)] at h
    split
    · rename_i h2
      rw [nI_toInt (by omega)] at h2
      omega
    · rename_i h2
      rw [nI_toInt (by omega)] at h2 ⊢
      omega
  · rename_i h
    rw [nI_toInt (by omega)] at h
    split
    · rename_i h2
      rw [nI_toInt (by omega)] at h2 ⊢
      omega
    · rename_i h2
      rw [nI_toInt (by omega), nI_toInt (by omega)] at h2
      omega
theorem ya_divm1 (u : Int32) : u / (-1) = -u := by
  rw [fa_eq, Int32.toInt_div, show (-1 : Int32).toInt = -1 from by decide, Int.tdiv_neg, Int.tdiv_one, Int32.toInt_neg]
theorem ya_remm1 (u : Int32) : u - u / (-1) * (-1) = 0 := by
  rw [ya_divm1, Int32.neg_mul_neg, Int32.mul_one, Int32.sub_self]
theorem m_by (M : zMem) {k : Nat} (h : k ≤ 8) (h2 : 2 ≤ k) (u v : Int32) : F_X10_by M (nI k) u v = some (opS k u v, M) := by
  have : k = 2 ∨ k = 3 ∨ k = 4 ∨ k = 5 ∨ k = 6 ∨ k = 7 ∨ k = 8 := by omega
  rcases this with rfl | rfl | rfl | rfl | rfl | rfl | rfl
  · rfl
  · rfl
  · rfl
  · show F_X10_by_52 (nI 5) u v u v M = some (if v = 0 then 0 else u / v, M)
    unfold F_X10_by_52
    by_cases h0 : v = 0
    · rw [if_pos h0, if_pos h0]
    · rw [if_neg h0, if_neg h0]
      by_cases h1 : v = -1
      · rw [if_pos h1, h1, ya_divm1]
      · rw [if_neg h1, gd_ok (by simp [h0])]
  · show F_X10_by_74 (nI 6) u v u v M = some (if v = 0 then 0 else u - u / v * v, M)
    unfold F_X10_by_74
    by_cases h0 : v = 0
    · rw [if_pos h0, if_pos h0]
    · rw [if_neg h0, if_neg h0]
      by_cases h1 : v = -1
      · rw [if_pos h1, h1, ya_remm1]
      · rw [if_neg h1, gd_ok (by simp [h0])]
  · show F_X10_by_91 (nI 7) u v u v M = some (if v ≤ u then v else u, M)
    unfold F_X10_by_91
    rw [m_less]; rfl
  · show F_X10_by_97 (nI 8) u v u v M = some (if u ≤ v then v else u, M)
    unfold F_X10_by_97
    rw [m_more]; rfl
/-- the reference's memory holds a law -/
def RMl (m : zMem) (L : LW) : Prop := m.1 0 16 = nI (lk L) ∧ ∀ k, k < lk L → m.1 (28 + (1 + 1 * k)) 0 = nI (lki L k) ∧ m.1 (28 + (1 + 1 * k)) 1 = nI (lva L k)
/-- nothing changed but the stack's cells and one more -/
def frM (c : Nat) (M M' : zMem) : Prop := (∀ a, a ≠ 368 → a ≠ 369 → a ≠ c → M'.1 a = M.1 a) ∧ M'.2 = M.2
theorem frM.refl {c : Nat} {M : zMem} : frM c M M := ⟨fun _ _ _ _ => rfl, rfl⟩
theorem frM.trans {c : Nat} {M M' M'' : zMem} (h : frM c M M') (k : frM c M' M'') : frM c M M'' := ⟨fun a h1 h2 h3 => (k.1 a h1 h2 h3).trans (h.1 a h1 h2 h3), k.2.trans h.2⟩
theorem frM.wid {c : Nat} {M M' : zMem} (h : frM 368 M M') : frM c M M' := ⟨fun a h1 h2 _ => h.1 a h1 h2 h1, h.2⟩
theorem frM.p {c : Nat} {M M' : zMem} {e : PL} (h : frM c M M') (hc : 27 < c) (he : okPL e) (hp : RMp M e) : RMp M' e := by
  have hn := he.2.2.2.2.1
  refine ⟨?_, ?_, ?_, fun k hk => ?_⟩
  · rw [h.1 4 (by omega) (by omega) (by omega)]; exact hp.1
  · rw [h.1 4 (by omega) (by omega) (by omega)]; exact hp.2.1
  · rw [h.1 4 (by omega) (by omega) (by omega)]; exact hp.2.2.1
  · rw [h.1 (17 + (1 + 1 * k)) (by omega) (by omega) (by omega)]; exact hp.2.2.2 k hk
theorem frM.l {c : Nat} {M M' : zMem} {L : LW} (h : frM c M M') (hc : 349 < c) (hl : okL L) (hp : RMl M L) : RMl M' L := by
  have hn := hl.1
  refine ⟨?_, fun k hk => ?_⟩
  · rw [h.1 0 (by omega) (by omega) (by omega)]; exact hp.1
  · rw [h.1 (28 + (1 + 1 * k)) (by omega) (by omega) (by omega)]; exact hp.2 k hk
theorem frM.r {c d : Nat} {M M' : zMem} {u : Nat → Nat} (h : frM c M M') (h1 : d ≠ 368) (h2 : d ≠ 369) (h3 : d ≠ c) (hr : RMr M u d) : RMr M' u d := by
  intro i hi
  rw [h.1 d h1 h2 h3]
  exact hr i hi
theorem zI_1 {M : zMem} {k j : Nat} {v : Int32} : (zI M k j v).1 k = upd (M.1 k) j v := if_pos rfl
theorem zI_n {M : zMem} {k j a : Nat} {v : Int32} (h : a ≠ k) : (zI M k j v).1 a = M.1 a := if_neg h
theorem zI_2 {M : zMem} {k j : Nat} {v : Int32} : (zI M k j v).2 = M.2 := rfl
theorem upd_s {f : Nat → Int32} {k : Nat} {v : Int32} : upd f k v k = v := if_pos rfl
theorem upd_n {f : Nat → Int32} {k j : Nat} {v : Int32} (h : j ≠ k) : upd f k v j = f j := if_neg h
theorem m_byLaw {M : zMem} {L : LW} (hL : RMl M L) (ok : okL L) : ∃ M', F_X10_byLaw M = some (nI (rateL L (M.1 369)), M') ∧ (∀ a, a ≠ 368 → M'.1 a = M.1 a) ∧ M'.2 = M.2 := by
  have hlk := ok.1
  have hw : wp (F_X10_byLaw M) (fun r => r.1 = nI (rateL L (M.1 369)) ∧ (∀ a, a ≠ 368 → r.2.1 a = M.1 a) ∧ r.2.2 = M.2) := by
    unfold F_X10_byLaw
    rw [zl_eq]
    refine loopN (F_X10_byLaw_21) (fun f k (s : Int32 × zMem) => f s.1 (nI k) s.2) (lk L)
      (fun k s => s.1 = nI (htL L k) ∧ (∀ j, j < htL L k → s.2.1 368 j = (runL L (M.1 369) k).2 j) ∧ (k = 0 → s.2.1 368 0 = 10 + M.1 369 2 / 4) ∧ (∀ a, a ≠ 368 → s.2.1 a = M.1 a) ∧ s.2.2 = M.2) _
      (fun f k s hk hI ih => ?_) (fun f s hI => ?_) (k := 0) (s := (0, _)) (by omega) ⟨rfl, fun j hj => absurd hj (Nat.not_lt_zero _), fun _ => ?_, fun a ha => ?_, rfl⟩ (by omega)
    · obtain ⟨n, m⟩ := s
      obtain ⟨h1, h2, _, h4, h5⟩ := hI
      dsimp only at h1 h2 h4 h5 ih ⊢
      subst h1
      have hm16 : m.1 0 16 = nI (lk L) := by rw [h4 0 (by omega)]; exact hL.1
      have hki : m.1 (28 + (1 + 1 * k)) 0 = nI (lki L k) := by rw [h4 _ (by omega)]; exact (hL.2 k hk).1
      have hva : m.1 (28 + (1 + 1 * k)) 1 = nI (lva L k) := by rw [h4 _ (by omega)]; exact (hL.2 k hk).2
      have hle := htL_le L k
      have okk := ok.2 k hk
      unfold F_X10_byLaw_21
      rw [hm16, ile (by omega) (by omega), if_neg (by omega), gin_ok (by omega) (by decide), nI_clamp (by omega), hki, hva]
      by_cases hop : lki L k < 2
      · rw [show (2 : Int32) = nI 2 from rfl, ile (by omega) (by omega), if_neg (by omega), ie0 (by omega)]
        have hht : htL L (k + 1) = htL L k + 1 := by rw [htL_succ, if_pos hop]
        have hrun : runL L (M.1 369) (k + 1) = ((runL L (M.1 369) k).1 + 1, upd (runL L (M.1 369) k).2 (runL L (M.1 369) k).1 (if lki L k = 0 then nI (lva L k) else M.1 369 (lva L k))) := by
          show stepL L (M.1 369) k (runL L (M.1 369) k) = _
          unfold stepL
          rw [if_pos hop]
        have fin : ∀ v, v = (if lki L k = 0 then nI (lva L k) else M.1 369 (lva L k)) → wp (f (nI (htL L k) + 1) (nI k + 1) (zI m 368 (htL L k) v)) (fun r => r.1 = nI (rateL L (M.1 369)) ∧ (∀ a, a ≠ 368 → r.2.1 a = M.1 a) ∧ r.2.2 = M.2) := by
          intro v hv
          rw [nI_1, nI_1]
          refine ih (nI (htL L k + 1), zI m 368 (htL L k) v) ⟨by rw [hht], fun j hj => ?_, fun z => absurd z (Nat.succ_ne_zero k), fun a ha => ?_, h5⟩
          · dsimp only
            rw [zI_1, hrun, runL_ht]
            dsimp only
            by_cases ej : j = htL L k
            · rw [ej, upd_s, upd_s, hv]
            · rw [upd_n ej, upd_n ej]; exact h2 j (by omega)
          · dsimp only
            rw [zI_n ha]; exact h4 a ha
        by_cases h0 : lki L k = 0
        · rw [if_pos h0, gin_ok (by omega) (by decide), zl_eq, nI_clamp (by omega)]
          unfold F_X10_byLaw_124
          exact fin _ (by rw [if_pos h0])
        · rw [if_neg h0, gin_ok (by omega) (by decide), gin_ok (by omega) (by decide), zl_eq, nI_clamp (by omega), nI_clamp (by omega)]
          unfold F_X10_byLaw_124
          exact fin _ (by rw [if_neg h0, h4 369 (by omega)])
      · have h28 : 2 ≤ lki L k ∧ lki L k ≤ 8 ∧ 2 ≤ htL L k := by omega
        obtain ⟨q1, q2, q3⟩ := h28
        have hht : htL L (k + 1) = htL L k - 1 := by rw [htL_succ, if_neg hop]
        have hrun : runL L (M.1 369) (k + 1) = ((runL L (M.1 369) k).1 - 1, upd (runL L (M.1 369) k).2 ((runL L (M.1 369) k).1 - 2) (opS (lki L k) ((runL L (M.1 369) k).2 ((runL L (M.1 369) k).1 - 2)) ((runL L (M.1 369) k).2 ((runL L (M.1 369) k).1 - 1)))) := by
          show stepL L (M.1 369) k (runL L (M.1 369) k) = _
          unfold stepL
          rw [if_neg hop]
        have e1 : nI (htL L k) + (-1) = nI (htL L k - 1) := by
          rw [show htL L k = (htL L k - 1) + 1 by omega, pk_m1]; congr 1
        have e2 : nI (htL L k - 1) - 1 = nI (htL L k - 2) := by
          rw [show (1 : Int32) = nI 1 from rfl, pk_sub (by omega)]; congr 1
        rw [show (2 : Int32) = nI 2 from rfl, ile (by omega) (by omega), if_pos q1, e1, e2, gin_ok (by omega) (by decide), gin_ok (by omega) (by decide), nI_clamp (by omega), nI_clamp (by omega), m_by m q2 q1, zb_some]
        dsimp only
        rw [zl_eq]
        unfold F_X10_byLaw_124
        rw [nI_1]
        refine ih (nI (htL L k - 1), zI m 368 (htL L k - 2) _) ⟨by rw [hht], fun j hj => ?_, fun z => absurd z (Nat.succ_ne_zero k), fun a ha => ?_, h5⟩
        · dsimp only
          rw [zI_1, hrun, runL_ht]
          dsimp only
          by_cases ej : j = htL L k - 2
          · rw [ej, upd_s, upd_s, h2 _ (by omega), h2 _ (by omega)]
          · rw [upd_n ej, upd_n ej]; exact h2 j (by omega)
        · dsimp only
          rw [zI_n ha]; exact h4 a ha
    · obtain ⟨n, m⟩ := s
      obtain ⟨h1, h2, h3, h4, h5⟩ := hI
      dsimp only at h1 h2 h3 h4 h5 ⊢
      have hm16 : m.1 0 16 = nI (lk L) := by rw [h4 0 (by omega)]; exact hL.1
      unfold F_X10_byLaw_21
      rw [hm16, ile (by omega) (by omega), if_pos (Nat.le_refl _), m_clamp, wp_some]
      refine ⟨?_, h4, h5⟩
      show nI (clampN (m.1 368 0)) = nI (clampN (rawL L (M.1 369)))
      congr 2
      unfold rawL
      by_cases z : lk L = 0
      · rw [if_pos z, h3 z]
      · rw [if_neg z, h2 0 (by have := htL_pos ok (lk L) (by omega) (Nat.le_refl _); omega)]
    · show (zI M 368 0 _).1 368 0 = _
      rw [zI_1, upd_s]
    · show (zI M 368 0 _).1 a = _
      rw [zI_n ha]
  obtain ⟨r, h1, h2, h3, h4⟩ := hw
  exact ⟨r.2, by rw [h1, ← h2], h3, h4⟩
def kn8 (p0 p1 p2 p3 p4 p5 p6 p7 : Int32) : Nat → Int32 := fun i => match i with
  | 0 => p0
  | 1 => p1
  | 2 => p2
  | 3 => p3
  | 4 => p4
  | 5 => p5
  | 6 => p6
  | _ => p7
/-- what comes out hangs on the eight names alone -/
theorem runL_congr {L : LW} {kn kn' : Nat → Int32} (ok : okL L) (h : ∀ i, i < 8 → kn i = kn' i) : ∀ k, k ≤ lk L → runL L kn k = runL L kn' k
  | 0, _ => rfl
  | k + 1, hk => by
    have ih := runL_congr ok h k (by omega)
    show stepL L kn k (runL L kn k) = stepL L kn' k (runL L kn' k)
    rw [ih]
    unfold stepL
    have okk := ok.2 k (by omega)
    by_cases z : lki L k = 0
    · simp only [z, if_true]
    · by_cases z1 : lki L k < 2
      · have : lva L k < 8 := by omega
        simp only [z1, if_true, z, if_false, h _ this]
      · simp only [z1, if_false]
theorem rateL_congr {L : LW} {kn kn' : Nat → Int32} (ok : okL L) (h : ∀ i, i < 8 → kn i = kn' i) : rateL L kn = rateL L kn' := by
  unfold rateL rawL
  rw [runL_congr ok h (lk L) (Nat.le_refl _), h 2 (by omega)]
theorem m_driesBy {M : zMem} {L : LW} (hL : RMl M L) (ok : okL L) (p0 p1 p2 p3 p4 p5 p6 p7 : Int32) :
    ∃ M', F_X10_driesBy M p0 p1 p2 p3 p4 p5 p6 p7 = some (nI (rateL L (kn8 p0 p1 p2 p3 p4 p5 p6 p7)), M') ∧ frM 368 M M' := by
  unfold F_X10_driesBy
  simp only [zl_eq]
  generalize hM : zI (zI (zI (zI (zI (zI (zI (zI M 369 0 p0) 369 1 p1) 369 2 p2) 369 3 p3) 369 4 p4) 369 5 p5) 369 6 p6) 369 7 p7 = M8
  have ha : ∀ a, a ≠ 369 → M8.1 a = M.1 a := by
    intro a h
    rw [← hM]
    simp only [zI_n h]
  have h2 : M8.2 = M.2 := by rw [← hM]; rfl
  have hk : ∀ i, i < 8 → M8.1 369 i = kn8 p0 p1 p2 p3 p4 p5 p6 p7 i := by
    intro i hi
    have : i = 0 ∨ i = 1 ∨ i = 2 ∨ i = 3 ∨ i = 4 ∨ i = 5 ∨ i = 6 ∨ i = 7 := by omega
    rw [← hM]
    rcases this with rfl | rfl | rfl | rfl | rfl | rfl | rfl | rfl <;> rfl
  have hL8 : RMl M8 L := ⟨by rw [ha 0 (by omega)]; exact hL.1, fun k hk => by have := ok.1; rw [ha _ (by omega)]; exact hL.2 k hk⟩
  obtain ⟨M', e, f1, f2⟩ := m_byLaw hL8 ok
  refine ⟨M', ?_, fun a h1 h3 _ => ?_, f2.trans h2⟩
  · rw [e, zb_some, rateL_congr ok hk]
  · rw [f1 a h1, ha a h3]
