/-! feed -/
def byt (a : Int32) (j : Nat) : Nat := a.toBitVec.toNat / 2 ^ (24 - 8 * j) % 256
theorem byt_lt {a : Int32} {j : Nat} : byt a j < 256 := Nat.mod_lt _ (by decide)
theorem by_m : ∀ i : Fin 32, (255#32).getLsbD i.1 = decide (i.1 < 8) := by decide
theorem by_cu : ∀ s, s < 32 → ((nI s).toUInt32 &&& Int32.toUInt32 31) = UInt32.ofNat s := by decide +kernel
theorem by_cs : ∀ s, s < 32 → ((nI s &&& 31).toBitVec.smod 32).toNat = s := by decide +kernel
theorem by_u (a : Int32) {s : Nat} (hs : s < 32) : (a.toUInt32 >>> ((nI s).toUInt32 &&& Int32.toUInt32 31)).toInt32.toBitVec = a.toBitVec >>> s := by
  apply BitVec.eq_of_toNat_eq
  rw [by_cu s hs]
  show (a.toUInt32 >>> UInt32.ofNat s).toNat = _
  have h1 : (UInt32.ofNat s).toNat = s := by
    show (BitVec.ofNat 32 s).toNat = s
    rw [BitVec.toNat_ofNat, Nat.mod_eq_of_lt (by omega)]
  rw [UInt32.toNat_shiftRight, h1, Nat.mod_eq_of_lt hs, BitVec.toNat_ushiftRight]
  rfl
theorem by_x (a : Int32) {s : Nat} (hs : s < 32) : ((a.toUInt32 >>> ((nI s).toUInt32 &&& Int32.toUInt32 31)).toInt32 &&& (255 : Int32)) = nI (a.toBitVec.toNat / 2 ^ s % 256) := by
  apply Int32.toBitVec_inj.mp
  rw [Int32.toBitVec_and, by_u a hs]
  apply BitVec.eq_of_toNat_eq
  have h1 : a.toBitVec.toNat / 2 ^ s % 256 < 256 := Nat.mod_lt _ (by decide)
  show ((a.toBitVec >>> s) &&& 255#32).toNat = (BitVec.ofNat 32 (a.toBitVec.toNat / 2 ^ s % 256)).toNat
  rw [BitVec.toNat_and, BitVec.toNat_ushiftRight, BitVec.toNat_ofNat, BitVec.toNat_ofNat, Nat.mod_eq_of_lt (show a.toBitVec.toNat / 2 ^ s % 256 < 2 ^ 32 by omega), Nat.mod_eq_of_lt (show 255 < 2 ^ 32 by decide), Nat.shiftRight_eq_div_pow, show (255 : Nat) = 2 ^ 8 - 1 from rfl, Nat.and_two_pow_sub_one_eq_mod]
theorem by_s (a : Int32) {s : Nat} (hs : s ≤ 24) : ((a >>> (nI s &&& 31)) &&& (255 : Int32)) = nI (a.toBitVec.toNat / 2 ^ s % 256) := by
  rw [← by_x a (show s < 32 by omega)]
  apply Int32.toBitVec_inj.mp
  rw [Int32.toBitVec_and, Int32.toBitVec_and, by_u a (by omega), Int32.toBitVec_shiftRight]
  apply BitVec.eq_of_getLsbD_eq
  intro i hi
  rw [BitVec.getLsbD_and, BitVec.getLsbD_and, BitVec.sshiftRight_eq', by_cs s (by omega), show (255 : Int32).toBitVec = 255#32 from rfl, by_m ⟨i, hi⟩, BitVec.getLsbD_sshiftRight, BitVec.getLsbD_ushiftRight]
  by_cases c : i < 8
  · have h3 : s + i < 32 := by omega
    simp [c, h3, hi]
  · simp [c]
def frT (x y : zMem) : Prop := (∀ c, c ≠ 1 → c ≠ 2 → y.1 c = x.1 c) ∧ (∀ j, j ≠ 1 → y.1 1 j = x.1 1 j) ∧ y.2 = x.2
theorem x_add {x : zMem} {T : Nat} {a : Int32} (hT : x.1 1 1 = nI T) (h6 : T + 4 ≤ 600) :
    ∃ y, F_X8_add x 1 a = some y ∧ y.1 1 1 = nI (T + 4) ∧ (∀ j, j < 4 → y.1 2 (T + j) = nI (byt a j)) ∧ (∀ k, k < T → y.1 2 k = x.1 2 k) ∧ frT x y := by
  have hw : wp (F_X8_add x 1 a) (fun y => y.1 1 1 = nI (T + 4) ∧ (∀ j, j < 4 → y.1 2 (T + j) = nI (byt a j)) ∧ (∀ k, k < T → y.1 2 k = x.1 2 k) ∧ frT x y) := by
    unfold F_X8_add
    refine loopN (F_X8_add_3 _ _) (fun g j (y : zMem) => g a (iI (24 - 8 * (j : Int))) y) 4 (fun j y => y.1 1 1 = nI (T + j) ∧ (∀ i, i < j → y.1 2 (T + i) = nI (byt a i)) ∧ (∀ k, k < T → y.1 2 k = x.1 2 k) ∧ frT x y) _ (fun g j y hj hI ih => ?_) (fun g y hI => ?_) (k := 0) (s := x) (by omega) ⟨hT, fun i hi => absurd hi (Nat.not_lt_zero _), fun _ _ => rfl, fun _ _ _ => rfl, fun _ _ => rfl, rfl⟩ (by omega)
    · obtain ⟨i1, i2, i3, i4, i5, i6⟩ := hI
      try dsimp only at i1 i2 i3 i4 i5 i6 ih ⊢
      unfold F_X8_add_3 F_X8_add_45
      have e1 : iI (24 - 8 * (j : Int)) = nI (24 - 8 * j) := by rw [iI_pos (by omega)]; congr 1; omega
      have e2 : iI (24 - 8 * (j : Int)) + (-8) = iI (24 - 8 * ((j + 1 : Nat) : Int)) := by rw [show (-8 : Int32) = iI (-8) from rfl, iI_add]; congr 1; omega
      rw [e2, e1, if_neg (by rw [ya_0, nI_ltI (by omega) (by omega)]; omega), i1, ile (by omega) (by omega), if_neg (by omega), gin_ok (by omega) (by decide), zl_eq, zl_eq, nI_clamp (by omega), by_x a (by omega), zI_n (a := 1) (k := 1 + 1) (by omega), i1, nI_1]
      refine ih _ ⟨by rw [zI_1, upd_s]; rfl, fun i hi => ?_, fun k hk => ?_, fun c h1 h2 => ?_, fun i hi => ?_, i6⟩
      · rw [zI_n (by omega), zI_1]
        by_cases c : i = j
        · rw [c, upd_s]; rfl
        · rw [upd_n (by omega)]; exact i2 i (by omega)
      · rw [zI_n (by omega), zI_1, upd_n (by omega)]; exact i3 k hk
      · rw [zI_n h1, zI_n (by omega)]; exact i4 c h1 h2
      · rw [zI_s hi, zI_n (by omega)]; exact i5 i hi
    · obtain ⟨i1, i2, i3, i4⟩ := hI
      try dsimp only at i1 i2 i3 i4 ⊢
      unfold F_X8_add_3
      rw [if_pos (by decide), wp_some]
      exact ⟨i1, i2, i3, i4⟩
  obtain ⟨y, y1, y2⟩ := hw
  exact ⟨y, y1, y2⟩
theorem frT.trans {x y z : zMem} (h : frT x y) (k : frT y z) : frT x z := ⟨fun c h1 h2 => (k.1 c h1 h2).trans (h.1 c h1 h2), fun j hj => (k.2.1 j hj).trans (h.2.1 j hj), k.2.2.trans h.2.2⟩
def agN (a b c d e : Int32) (i : Nat) : Int32 := if i = 0 then a else if i = 1 then b else if i = 2 then c else if i = 3 then d else e
def YF (T : Nat) (Y : Nat → Nat) (ag : Nat → Int32) (k : Nat) : Nat := if k < T then Y k else byt (ag ((k - T) / 4)) ((k - T) % 4)
theorem YF_a {T i j : Nat} {Y : Nat → Nat} {ag : Nat → Int32} (hj : j < 4) : YF T Y ag (T + 4 * i + j) = byt (ag i) j := by
  unfold YF
  rw [if_neg (by omega), show (T + 4 * i + j - T) / 4 = i by omega, show (T + 4 * i + j - T) % 4 = j by omega]
abbrev SY (S : SS) (T : Nat) (Y : Nat → Nat) : SS := (sE S, sL S, sB S, sN S, sI S, sG S, T, Y, sF S, sQ S, s0 S, s1 S)
theorem okS.setT {S : SS} {T : Nat} {Y : Nat → Nat} (h : okS S) (hT : T ≤ 600) (hY : ∀ k, k < T → Y k < 256) : okS (SY S T Y) := by
  obtain ⟨o1, o2, o3, o4, o5, o6, o7, o8⟩ := h
  exact ⟨o1, o2, o3, o4, o5, o6, hT, hY⟩
theorem RXn.setT {x y : zMem} {S : SS} {pl r n T : Nat} {Y : Nat → Nat} (h : RXn x S pl r n) (ok : okS S) (f : frT x y) (hT : y.1 1 1 = nI T) (hY : ∀ k, k < T → y.1 2 k = nI (Y k)) : RXn y (SY S T Y) pl r n := by
  obtain ⟨a1, ⟨b1, b2, b3, b4, b5⟩, ⟨c1, c2, c3⟩, d1, e1, e2, g1, g2, g3, g4, g5, g6⟩ := h
  obtain ⟨o1, o2, o3, o4, o5, o6, o7, o8⟩ := ok
  have f3 : ∀ a, y.2.1 a = x.2.1 a := fun a => by rw [f.2.2]
  have f4 : y.2.2 = x.2.2 := by rw [f.2.2]
  refine ⟨a1.same (fun a a1 a2 => f.1 a (by omega) (by omega)) (fun a a1 a2 => f3 a) f4, ⟨?_, ?_, ?_, ?_, b5⟩, ⟨?_, fun k hk => ?_, fun p hp => ?_⟩, d1.same o4.1 (fun a a1 a2 => f.1 a (by omega) (by omega)) (fun a a1 a2 => f3 a), ?_, fun i hi => (e2 i hi).same (o6 i hi).1 (fun a a1 a2 => f.1 a (by omega) (by omega)) (fun a a1 a2 => f3 a), hT, hY, ?_, ?_, ?_, ?_⟩
  · rw [f4]; exact b1
  · rw [f4]; exact b2
  · rw [f4]; exact b3
  · rw [f4]; exact b4
  · rw [f.1 n (by omega) (by omega)]; exact c1
  · rw [f.1 (n + 1) (by omega) (by omega), f.1 (n + 2) (by omega) (by omega)]; exact c2 k hk
  · rw [f3]; exact c3 p hp
  · rw [f.1 0 (by omega) (by omega)]; exact e1
  · rw [f.2.1 3 (by omega)]; exact g3
  · rw [f.1 0 (by omega) (by omega)]; exact g4
  · rw [f.1 0 (by omega) (by omega)]; exact g5
  · rw [f.1 0 (by omega) (by omega)]; exact g6
theorem RMn.setT {m y : zMem} {S : SS} {T : Nat} {Y : Nat → Nat} (h : RMn m S) (ok : okS S) (f1 : ∀ a, a ≠ 0 → a ≠ 1 → y.1 a = m.1 a) (f2 : ∀ j, 0 < j → j < 34 → j ≠ 1 → y.1 0 j = m.1 0 j) (hT : y.1 0 1 = nI T) (hY : ∀ k, k < T → y.1 1 k = nI (Y k)) : RMn y (SY S T Y) := by
  obtain ⟨a1, ⟨l1, l2⟩, ⟨c1, c2⟩, ⟨d1, d2, d3⟩, e1, e2, g1, g2, g3, g4, g5, g6⟩ := h
  obtain ⟨o1, o2, o3, o4, o5, o6, o7, o8⟩ := ok
  refine ⟨⟨?_, ?_, ?_, fun k hk => ?_⟩, ⟨?_, fun k hk => ?_⟩, ⟨?_, fun k hk => ?_⟩, ⟨?_, fun i hi => ?_, fun k hk i hi => ?_⟩, ?_, fun i hi => ?_, hT, hY, ?_, ?_, ?_, ?_⟩
  · rw [f1 4 (by omega) (by omega)]; exact a1.1
  · rw [f1 4 (by omega) (by omega)]; exact a1.2.1
  · rw [f1 4 (by omega) (by omega)]; exact a1.2.2.1
  · rw [f1 (17 + (1 + 1 * k)) (by omega) (by omega)]; exact a1.2.2.2 k hk
  · rw [f2 16 (by omega) (by omega) (by omega)]; exact l1
  · rw [f1 (28 + (1 + 1 * k)) (by omega) (by omega)]; exact l2 k hk
  · rw [f2 30 (by omega) (by omega) (by omega)]; exact c1
  · rw [f1 (350 + (1 + 1 * k)) (by omega) (by omega)]; exact c2 k hk
  · rw [f2 31 (by omega) (by omega) (by omega)]; exact d1
  · rw [f1 451 (by omega) (by omega)]; exact d2 i hi
  · rw [f1 (453 + (1 + 1 * k)) (by omega) (by omega)]; exact d3 k hk i hi
  · rw [f2 33 (by omega) (by omega) (by omega)]; exact e1
  · obtain ⟨q1, q2, q3⟩ := e2 i hi
    refine ⟨?_, fun j hj => ?_, fun k hk j hj => ?_⟩
    · rw [f1 (470 + (1 + 1 * i)) (by omega) (by omega)]; exact q1
    · rw [f1 (470 + (1 + 1 * i)) (by omega) (by omega)]; exact q2 j hj
    · rw [f1 (470 + (1 + 1 * i)) (by omega) (by omega)]; exact q3 k hk j hj
  · rw [f2 3 (by omega) (by omega) (by omega)]; exact g3
  · rw [f2 32 (by omega) (by omega) (by omega)]; exact g4
  · rw [f1 2 (by omega) (by omega)]; exact g5
  · rw [f1 2 (by omega) (by omega)]; exact g6
theorem q_feed {x m : zMem} {S : SS} (a b c d e : Int32) (hX : RXo x S) (hM : RMn m S) (ok : okS S) : same0 (F_X9_feed x a b c d e) (F_X10_feed m a b c d e) := by
  obtain ⟨pl, r, n, h⟩ := hX
  have hM1 := hM.t ok
  have x11 := h.2.2.2.2.2.2.1
  have x2 := h.2.2.2.2.2.2.2.1
  have m01 := hM1.2.2.2.2.2.2.1
  have m1 := hM1.2.2.2.2.2.2.2.1
  have hT := ok.2.2.2.2.2.2.1
  have hY := ok.2.2.2.2.2.2.2
  generalize hTT : sT S = T at x11 x2 m01 m1 hT hY
  unfold F_X9_feed F_X10_feed
  rw [zl_eq, x11, m01, show (20 : Int32) = nI 20 from rfl, show (600 : Int32) = nI 600 from rfl, nI_add, ile (by omega) (by omega), ile (by omega) (by omega)]
  by_cases z : T + 20 ≤ 600
  · rw [if_pos z, if_pos z]
    let Y := YF T (sY S) (agN a b c d e)
    have hYl : ∀ k, k < T + 20 → Y k < 256 := fun k hk => by
      show YF T (sY S) (agN a b c d e) k < 256
      unfold YF
      by_cases ck : k < T
      · rw [if_pos ck]; exact hY k ck
      · rw [if_neg ck]; exact byt_lt
    have x0 : ∀ k, k < T → x.1 2 k = nI (Y k) := fun k hk => by rw [x2 k hk]; show _ = nI (YF T (sY S) (agN a b c d e) k); unfold YF; rw [if_pos hk]
    have grow : ∀ (i : Nat) (v : Int32) (y y2 : zMem), agN a b c d e i = v → (∀ k, k < T + 4 * i → y.1 2 k = nI (Y k)) → (∀ j, j < 4 → y2.1 2 (T + 4 * i + j) = nI (byt v j)) → (∀ k, k < T + 4 * i → y2.1 2 k = y.1 2 k) → ∀ k, k < T + 4 * (i + 1) → y2.1 2 k = nI (Y k) := fun i v y y2 hv h1 h2 h3 k hk => by
      by_cases ck : k < T + 4 * i
      · rw [h3 k ck]; exact h1 k ck
      · have e1 : k = T + 4 * i + (k - (T + 4 * i)) := by omega
        rw [e1, h2 _ (by omega)]
        show _ = nI (YF T (sY S) (agN a b c d e) _)
        rw [YF_a (by omega), hv]
    obtain ⟨y1, a1, a2, a3, a4, a5⟩ := x_add (a := a) x11 (by omega)
    obtain ⟨y2, b1, b2, b3, b4, b5⟩ := x_add (a := b) a2 (by omega)
    obtain ⟨y3, c1, c2, c3, c4, c5⟩ := x_add (a := c) b2 (by omega)
    obtain ⟨y4, d1, d2, d3, d4, d5⟩ := x_add (a := d) c2 (by omega)
    obtain ⟨y5, e1, e2, e3, e4, e5⟩ := x_add (a := e) d2 (by omega)
    have g1 := grow 0 a x y1 rfl x0 a3 a4
    have g2 := grow 1 b y1 y2 rfl g1 b3 b4
    have g3 := grow 2 c y2 y3 rfl g2 c3 c4
    have g4 := grow 3 d y3 y4 rfl g3 d3 d4
    have g5 := grow 4 e y4 y5 rfl g4 e3 e4
    rw [a1, zbv_some, b1, zbv_some, c1, zbv_some, d1, zbv_some, e1, zbv_some, e2]
    have hX' : RXn y5 (SY S (T + 20) Y) pl r n := h.setT ok (a5.trans (b5.trans (c5.trans (d5.trans e5)))) e2 g5
    have hM2 : wp (itF (fun _ _ _ _ _ _ _ => none) (F_X10_feed_23 a b c d e) zFuel a b c d e (nI 0) (zI m 0 0 0)) (fun q => q.1 = nI (T + 20) ∧ q.2.1 0 1 = nI (T + 20) ∧ (∀ k, k < T + 20 → q.2.1 1 k = nI (Y k)) ∧ (∀ a, a ≠ 0 → a ≠ 1 → q.2.1 a = (zI m 0 0 0).1 a) ∧ ∀ j, j ≠ 1 → q.2.1 0 j = (zI m 0 0 0).1 0 j) := by
      refine loopN (F_X10_feed_23 _ _ _ _ _) (fun g k (y : zMem) => g a b c d e (nI k) y) 20 (fun k y => y.1 0 1 = nI (T + k) ∧ (∀ i, i < T + k → y.1 1 i = nI (Y i)) ∧ (∀ a, a ≠ 0 → a ≠ 1 → y.1 a = (zI m 0 0 0).1 a) ∧ ∀ j, j ≠ 1 → y.1 0 j = (zI m 0 0 0).1 0 j) _ (fun g k y hk hI ih => ?_) (fun g y hI => ?_) (k := 0) (s := zI m 0 0 0) (by omega) ⟨m01, fun k hk => ?_, fun _ _ _ => rfl, fun _ _ => rfl⟩ (by omega)
      · obtain ⟨i1, i2, i3, i4⟩ := hI
        try dsimp only at i1 i2 i3 i4 ih ⊢
        have fin : ∀ v, v = agN a b c d e (k / 4) → wp (F_X10_feed_76 a b c d e g a b c d e (nI k) v y) (fun q => q.1 = nI (T + 20) ∧ q.2.1 0 1 = nI (T + 20) ∧ (∀ k, k < T + 20 → q.2.1 1 k = nI (Y k)) ∧ (∀ a, a ≠ 0 → a ≠ 1 → q.2.1 a = (zI m 0 0 0).1 a) ∧ ∀ j, j ≠ 1 → q.2.1 0 j = (zI m 0 0 0).1 0 j) := fun v hv => by
          have e6 : (24 : Int32) - (8 : Int32) * (nI k - nI k / (4 : Int32) * (4 : Int32)) = nI (24 - 8 * (k % 4)) := by
            rw [show nI k - nI k / (4 : Int32) * (4 : Int32) = nI (k % 4) from pk_rem (by omega) (by decide) (by decide), show (8 : Int32) = nI 8 from rfl, pk_mul, show (24 : Int32) = nI 24 from rfl, pk_sub (by omega)]
          unfold F_X10_feed_76
          rw [i1, gin_ok (by omega) (by decide), zl_eq, zl_eq, nI_clamp (by omega), e6, by_s v (by omega), zI_n (a := 0) (k := 1) (by omega), i1, nI_1, nI_1]
          refine ih _ ⟨by rw [zI_1, upd_s]; rfl, fun i hi => ?_, fun c h1 h2 => ?_, fun j hj => ?_⟩
          · rw [zI_n (by omega), zI_1]
            by_cases ci : i = T + k
            · rw [ci, upd_s]
              show _ = nI (YF T (sY S) (agN a b c d e) (T + k))
              unfold YF
              rw [if_neg (by omega), show T + k - T = k by omega, ← hv]; rfl
            · rw [upd_n ci]; exact i2 i (by omega)
          · rw [zI_n h1, zI_n h2]; exact i3 c h1 h2
          · rw [zI_s hj, zI_n (by omega)]; exact i4 j hj
        unfold F_X10_feed_23
        rw [show (20 : Int32) = nI 20 from rfl, show (4 : Int32) = nI 4 from rfl, show (8 : Int32) = nI 8 from rfl, show (12 : Int32) = nI 12 from rfl, show (16 : Int32) = nI 16 from rfl, ile (by omega) (by omega), if_neg (by omega), ile (by omega) (by omega), ile (by omega) (by omega), ile (by omega) (by omega), ile (by omega) (by omega)]
        by_cases k4 : 4 ≤ k
        · rw [if_pos k4]
          by_cases k8 : 8 ≤ k
          · rw [if_pos k8]
            by_cases k12 : 12 ≤ k
            · rw [if_pos k12]
              by_cases k16 : 16 ≤ k
              · rw [if_pos k16]
                exact fin e (by rw [show k / 4 = 4 by omega]; rfl)
              · rw [if_neg k16]
                exact fin d (by rw [show k / 4 = 3 by omega]; rfl)
            · rw [if_neg k12]
              exact fin c (by rw [show k / 4 = 2 by omega]; rfl)
          · rw [if_neg k8]
            exact fin b (by rw [show k / 4 = 1 by omega]; rfl)
        · rw [if_neg k4]
          exact fin a (by rw [show k / 4 = 0 by omega]; rfl)
      · obtain ⟨i1, i2, i3, i4⟩ := hI
        try dsimp only at i1 i2 i3 i4 ⊢
        unfold F_X10_feed_23
        rw [show (20 : Int32) = nI 20 from rfl, if_pos (Int32.le_refl _), wp_some]
        exact ⟨i1, i1, i2, i3, i4⟩
      · rw [m1 k (by omega)]
        show nI _ = nI (YF T (sY S) (agN a b c d e) k)
        unfold YF
        rw [if_pos (by omega)]
    obtain ⟨⟨v, y⟩, j1, j2, j3, j4, j5, j6⟩ := hM2
    dsimp only at j2 j3 j4 j5 j6
    subst j2
    have hM' : RMn y (SY S (T + 20) Y) := hM1.setT ok j5 (fun j _ _ h3 => j6 j h3) j3 j4
    exact ⟨_, _, _, _, rfl, j1, ⟨pl, r, n, hX'⟩, hM', ok.setT (by omega) hYl⟩
  · rw [if_neg z, if_neg z]
    exact ⟨_, _, _, S, rfl, rfl, ⟨pl, r, n, h⟩, hM1, ok⟩
