/-! Long.bitCount counts bits -/
def uN (x : Int64) : Nat := x.toUInt64.toNat
theorem uN_lt (x : Int64) : uN x < 18446744073709551616 := x.toUInt64.toNat_lt
theorem uN_add (x y : Int64) : uN (x + y) = (uN x + uN y) % 18446744073709551616 := by
  show (x.toUInt64 + y.toUInt64).toNat = _
  exact UInt64.toNat_add _ _
theorem uN_sub {x y : Int64} (h : uN y ≤ uN x) : uN (x - y) = uN x - uN y := by
  show (x.toUInt64 - y.toUInt64).toNat = _
  exact UInt64.toNat_sub_of_le _ _ h
theorem uN_and (x y : Int64) : uN (x &&& y) = uN x &&& uN y := by
  show (x.toUInt64 &&& y.toUInt64).toNat = _
  exact UInt64.toNat_and _ _
theorem uN_sk (x : Int64) {k : Nat} (hk : k < 64) : uN (x.toUInt64 >>> ((nI k).toInt64.toUInt64 &&& Int64.toUInt64 63)).toInt64 = uN x / 2 ^ k := by
  rw [wb_cu k hk]
  show (x.toUInt64 >>> UInt64.ofNat k).toNat = _
  have h1 : (UInt64.ofNat k).toNat = k := by
    show (BitVec.ofNat 64 k).toNat = k
    rw [BitVec.toNat_ofNat, Nat.mod_eq_of_lt (by omega)]
  rw [UInt64.toNat_shiftRight, h1, Nat.mod_eq_of_lt hk, Nat.shiftRight_eq_div_pow]
  rfl
theorem tb_uN (x : Int64) (p : Nat) : tb x p = (uN x).testBit p := rfl
theorem and256 (a A m B : Nat) (ha : a < 256) (hm : m < 256) : (a + 256 * A) &&& (m + 256 * B) = (a &&& m) + 256 * (A &&& B) := by
  have h1 : ((a + 256 * A) &&& (m + 256 * B)) % 2 ^ 8 = (a &&& m) := by
    rw [Nat.and_mod_two_pow, show (a + 256 * A) % 2 ^ 8 = a by omega, show (m + 256 * B) % 2 ^ 8 = m by omega]
  have h2 : ((a + 256 * A) &&& (m + 256 * B)) / 2 ^ 8 = (A &&& B) := by
    rw [Nat.and_div_two_pow, show (a + 256 * A) / 2 ^ 8 = A by omega, show (m + 256 * B) / 2 ^ 8 = B by omega]
  omega
def oct (f : Nat → Nat) : Nat := f 0 + 256 * (f 1 + 256 * (f 2 + 256 * (f 3 + 256 * (f 4 + 256 * (f 5 + 256 * (f 6 + 256 * (f 7 + 256 * 0)))))))
theorem oct_and {f g : Nat → Nat} (hf : ∀ i, f i < 256) (hg : ∀ i, g i < 256) : oct f &&& oct g = oct (fun i => f i &&& g i) := by
  unfold oct
  rw [and256 _ _ _ _ (hf 0) (hg 0), and256 _ _ _ _ (hf 1) (hg 1), and256 _ _ _ _ (hf 2) (hg 2), and256 _ _ _ _ (hf 3) (hg 3), and256 _ _ _ _ (hf 4) (hg 4), and256 _ _ _ _ (hf 5) (hg 5), and256 _ _ _ _ (hf 6) (hg 6), and256 _ _ _ _ (hf 7) (hg 7)]
  rfl
theorem oct_of {x : Nat} (h : x < 18446744073709551616) : x = oct (fun i => x / 256 ^ i % 256) := by
  unfold oct
  simp only [Nat.pow_zero, Nat.div_one, show 256 ^ 1 = 256 from rfl, show 256 ^ 2 = 65536 from rfl, show 256 ^ 3 = 16777216 from rfl, show 256 ^ 4 = 4294967296 from rfl, show 256 ^ 5 = 1099511627776 from rfl, show 256 ^ 6 = 281474976710656 from rfl, show 256 ^ 7 = 72057594037927936 from rfl]
  omega
theorem oct_lt {f : Nat → Nat} (hf : ∀ i, f i < 256) : oct f < 18446744073709551616 := by
  unfold oct
  have := hf 0; have := hf 1; have := hf 2; have := hf 3; have := hf 4; have := hf 5; have := hf 6; have := hf 7
  omega
def pop8 (v : Nat) : Nat :=
  let a := v - ((v / 2) &&& 85)
  let b := (a &&& 51) + ((a / 4) &&& 51)
  (b + b / 16) &&& 15
theorem pop8_ok : ∀ v, v < 256 → pop8 v = cnt (fun i => v.testBit i) 8 ∧ (v / 2) &&& 85 ≤ v ∧ (let a := v - ((v / 2) &&& 85); a &&& 51 ≤ 51 ∧ (a / 4) &&& 51 ≤ 51 ∧ (a &&& 51) + ((a / 4) &&& 51) ≤ 68 ∧ a < 256 ∧ ((a &&& 51) + ((a / 4) &&& 51)) % 16 ≤ 4) := by decide +kernel
theorem nx_half : ∀ v, v < 256 → ∀ c, c < 2 → (v / 2 + 128 * c) &&& 85 = (v / 2) &&& 85 := by decide +kernel
theorem nx_quart : ∀ v, v < 256 → ∀ c, c < 4 → (v / 4 + 64 * c) &&& 51 = (v / 4) &&& 51 := by decide +kernel
theorem nx_nib : ∀ v, v < 256 → ∀ c, c < 16 → v + v / 16 + 16 * c < 256 → (v + v / 16 + 16 * c) &&& 15 = (v + v / 16) &&& 15 := by decide +kernel
theorem oct_half (f : Nat → Nat) (hf : ∀ i, f i < 256) (h8 : f 8 = 0) : oct f / 2 = oct (fun i => f i / 2 + 128 * (f (i + 1) % 2)) := by
  unfold oct
  dsimp only
  simp only [Nat.reduceAdd, h8]
  have := hf 0; have := hf 1; have := hf 2; have := hf 3; have := hf 4; have := hf 5; have := hf 6; have := hf 7
  omega
theorem oct_quart (f : Nat → Nat) (hf : ∀ i, f i < 256) (h8 : f 8 = 0) : oct f / 4 = oct (fun i => f i / 4 + 64 * (f (i + 1) % 4)) := by
  unfold oct
  dsimp only
  simp only [Nat.reduceAdd, h8]
  have := hf 0; have := hf 1; have := hf 2; have := hf 3; have := hf 4; have := hf 5; have := hf 6; have := hf 7
  omega
theorem oct_nib (f : Nat → Nat) (hf : ∀ i, f i < 256) (h8 : f 8 = 0) : oct f / 16 = oct (fun i => f i / 16 + 16 * (f (i + 1) % 16)) := by
  unfold oct
  dsimp only
  simp only [Nat.reduceAdd, h8]
  have := hf 0; have := hf 1; have := hf 2; have := hf 3; have := hf 4; have := hf 5; have := hf 6; have := hf 7
  omega
theorem oct_sub (f g : Nat → Nat) (h : ∀ i, g i ≤ f i) : oct f - oct g = oct (fun i => f i - g i) := by
  unfold oct
  dsimp only
  have := h 0; have := h 1; have := h 2; have := h 3; have := h 4; have := h 5; have := h 6; have := h 7
  omega
theorem oct_mono (f g : Nat → Nat) (h : ∀ i, g i ≤ f i) : oct g ≤ oct f := by
  unfold oct
  have := h 0; have := h 1; have := h 2; have := h 3; have := h 4; have := h 5; have := h 6; have := h 7
  omega
theorem oct_add (f g : Nat → Nat) : oct f + oct g = oct (fun i => f i + g i) := by
  unfold oct
  dsimp only
  omega
theorem oct_congr {f g : Nat → Nat} (h : ∀ i, i < 8 → f i = g i) : oct f = oct g := by
  unfold oct
  rw [h 0 (by omega), h 1 (by omega), h 2 (by omega), h 3 (by omega), h 4 (by omega), h 5 (by omega), h 6 (by omega), h 7 (by omega)]
def o8 (x i : Nat) : Nat := if i < 8 then x / 256 ^ i % 256 else 0
theorem o8_lt (x i : Nat) : o8 x i < 256 := by
  unfold o8
  split
  · exact Nat.mod_lt _ (by decide)
  · omega
theorem cnt8 (f : Nat → Bool) : cnt f 64 = cnt (fun j => f j) 8 + (cnt (fun j => f (8 + j)) 8 + (cnt (fun j => f (16 + j)) 8 + (cnt (fun j => f (24 + j)) 8 + (cnt (fun j => f (32 + j)) 8 + (cnt (fun j => f (40 + j)) 8 + (cnt (fun j => f (48 + j)) 8 + cnt (fun j => f (56 + j)) 8)))))) := by
  have h : ∀ m n, cnt f (m + n) = cnt f m + cnt (fun j => f (m + j)) n := by
    intro m n
    induction n with
    | zero => rfl
    | succ n ih =>
      rw [← Nat.add_assoc, cnt_succ, cnt_succ, ih]
      omega
  rw [show 64 = 8 + 56 from rfl, h 8 56, show 56 = 8 + 48 from rfl]
  have h2 : ∀ c m n, cnt (fun j => f (c + j)) (m + n) = cnt (fun j => f (c + j)) m + cnt (fun j => f (c + m + j)) n := by
    intro c m n
    induction n with
    | zero => rfl
    | succ n ih =>
      rw [← Nat.add_assoc, cnt_succ, cnt_succ, ih, show c + m + n = c + (m + n) by omega]
      omega
  rw [h2 8 8 48, show 48 = 8 + 40 from rfl, h2 (8 + 8) 8 40, show 40 = 8 + 32 from rfl, h2 (8 + 8 + 8) 8 32, show 32 = 8 + 24 from rfl, h2 (8 + 8 + 8 + 8) 8 24, show 24 = 8 + 16 from rfl, h2 (8 + 8 + 8 + 8 + 8) 8 16, show 16 = 8 + 8 from rfl, h2 (8 + 8 + 8 + 8 + 8 + 8) 8 8]
def oc (a b c d e f g h : Nat) : Nat := a + 256 * (b + 256 * (c + 256 * (d + 256 * (e + 256 * (f + 256 * (g + 256 * (h + 256 * 0)))))))
theorem oc_d1 {a b c d e f g h : Nat} (ha : a < 256) : oc a b c d e f g h / 256 = oc b c d e f g h 0 := by
  unfold oc
  omega
theorem oc_add {a b c d e f g h a' b' c' d' e' f' g' h' : Nat} : oc a b c d e f g h + oc a' b' c' d' e' f' g' h' = oc (a + a') (b + b') (c + c') (d + d') (e + e') (f + f') (g + g') (h + h') := by
  unfold oc
  omega
theorem oc_m {a b c d e f g h : Nat} : oc a b c d e f g h % 128 = a % 128 := by
  unfold oc
  omega
theorem oc_lt {a b c d e f g h : Nat} (h0 : a < 256) (h1 : b < 256) (h2 : c < 256) (h3 : d < 256) (h4 : e < 256) (h5 : f < 256) (h6 : g < 256) (h7 : h < 256) : oc a b c d e f g h < 18446744073709551616 := by
  unfold oc
  omega
theorem pop_sum (c : Nat → Nat) (hc : ∀ i, c i ≤ 8) :
    (let v3 := oct c; let v4 := v3 + v3 / 256; let v5 := v4 + v4 / 65536; let v6 := v5 + v5 / 4294967296; v6 < 18446744073709551616 ∧ v5 < 18446744073709551616 ∧ v4 < 18446744073709551616 ∧ v6 % 128 = c 0 + (c 1 + (c 2 + (c 3 + (c 4 + (c 5 + (c 6 + c 7))))))) := by
  have h0 := hc 0; have h1 := hc 1; have h2 := hc 2; have h3 := hc 3; have h4 := hc 4; have h5 := hc 5; have h6 := hc 6; have h7 := hc 7
  dsimp only
  rw [show oct c = oc (c 0) (c 1) (c 2) (c 3) (c 4) (c 5) (c 6) (c 7) from rfl]
  generalize c 0 = c0 at *
  generalize c 1 = c1 at *
  generalize c 2 = c2 at *
  generalize c 3 = c3 at *
  generalize c 4 = c4 at *
  generalize c 5 = c5 at *
  generalize c 6 = c6 at *
  generalize c 7 = c7 at *
  have e2 : ∀ x : Nat, x / 65536 = x / 256 / 256 := fun x => by omega
  have e4 : ∀ x : Nat, x / 4294967296 = x / 256 / 256 / 256 / 256 := fun x => by omega
  rw [oc_d1 (by omega), oc_add, e2, oc_d1 (by omega), oc_d1 (by omega), oc_add, e4, oc_d1 (by omega), oc_d1 (by omega), oc_d1 (by omega), oc_d1 (by omega), oc_add, oc_m]
  refine ⟨oc_lt (by omega) (by omega) (by omega) (by omega) (by omega) (by omega) (by omega) (by omega), oc_lt (by omega) (by omega) (by omega) (by omega) (by omega) (by omega) (by omega) (by omega), oc_lt (by omega) (by omega) (by omega) (by omega) (by omega) (by omega) (by omega) (by omega), ?_⟩
  omega
theorem x_bitCount (M : zMem) (x : Int64) : F_J13_bitCount_95d88 M x = some (nI (cnt (fun p => tb x p) 64), M) := by
  unfold F_J13_bitCount_95d88
  simp only [zl_eq]
  have hx := uN_lt x
  have ho : uN x = oct (o8 (uN x)) := by
    rw [show oct (o8 (uN x)) = oct (fun i => uN x / 256 ^ i % 256) from oct_congr (fun i hi => by unfold o8; rw [if_pos hi])]
    exact oct_of hx
  generalize hf : o8 (uN x) = f at ho
  have hfl : ∀ i, f i < 256 := fun i => by rw [← hf]; exact o8_lt _ _
  have hf8 : ∀ i, 8 ≤ i → f i = 0 := fun i hi => by rw [← hf]; unfold o8; rw [if_neg (by omega)]
  -- the first step
  have s1 : uN (x - ((x.toUInt64 >>> ((1 : Int32).toInt64.toUInt64 &&& Int64.toUInt64 63)).toInt64 &&& (6148914691236517205 : Int64))) = oct (fun i => f i - ((f i / 2) &&& 85)) := by
    have h1 : uN ((x.toUInt64 >>> ((1 : Int32).toInt64.toUInt64 &&& Int64.toUInt64 63)).toInt64 &&& (6148914691236517205 : Int64)) = oct (fun i => (f i / 2) &&& 85) := by
      rw [uN_and, show (1 : Int32) = nI 1 from rfl, uN_sk x (by omega), ho, Nat.pow_one, oct_half f hfl (hf8 8 (by omega)), show uN (6148914691236517205 : Int64) = oct (fun _ => 85) from by decide, oct_and (fun i => by have := hfl i; omega) (fun i => by omega)]
      exact oct_congr (fun i _ => nx_half _ (hfl i) _ (Nat.mod_lt _ (by decide)))
    rw [uN_sub (by rw [h1, ho]; exact oct_mono _ _ (fun i => (pop8_ok _ (hfl i)).2.1)), h1, ho, oct_sub _ _ (fun i => (pop8_ok _ (hfl i)).2.1)]
  generalize x - ((x.toUInt64 >>> ((1 : Int32).toInt64.toUInt64 &&& Int64.toUInt64 63)).toInt64 &&& (6148914691236517205 : Int64)) = v1 at s1
  generalize hA : (fun i => f i - ((f i / 2) &&& 85)) = A at s1
  have hAl : ∀ i, A i < 256 := fun i => by rw [← hA]; exact (pop8_ok _ (hfl i)).2.2.2.2.2.1
  have hA8 : A 8 = 0 := by rw [← hA]; dsimp only; rw [hf8 8 (by omega)]; rfl
  have s2 : uN ((v1 &&& (3689348814741910323 : Int64)) + ((v1.toUInt64 >>> ((2 : Int32).toInt64.toUInt64 &&& Int64.toUInt64 63)).toInt64 &&& (3689348814741910323 : Int64))) = oct (fun i => (A i &&& 51) + ((A i / 4) &&& 51)) := by
    rw [uN_add, uN_and, uN_and, show (2 : Int32) = nI 2 from rfl, uN_sk v1 (by omega), s1, show (2 : Nat) ^ 2 = 4 from rfl, oct_quart A hAl hA8, show uN (3689348814741910323 : Int64) = oct (fun _ => 51) from by decide, oct_and hAl (fun i => by omega), oct_and (fun i => by have := hAl i; omega) (fun i => by omega), oct_add, Nat.mod_eq_of_lt]
    · exact oct_congr (fun i _ => by rw [nx_quart _ (hAl i) _ (Nat.mod_lt _ (by decide))])
    · refine oct_lt (fun i => ?_)
      rw [nx_quart _ (hAl i) _ (Nat.mod_lt _ (by decide)), ← hA]
      have := (pop8_ok _ (hfl i)).2.2.2.2.1
      dsimp only at this ⊢
      omega
  generalize (v1 &&& (3689348814741910323 : Int64)) + ((v1.toUInt64 >>> ((2 : Int32).toInt64.toUInt64 &&& Int64.toUInt64 63)).toInt64 &&& (3689348814741910323 : Int64)) = v2 at s2
  generalize hB : (fun i => (A i &&& 51) + ((A i / 4) &&& 51)) = B at s2
  have hBl : ∀ i, B i ≤ 68 ∧ B i % 16 ≤ 4 := fun i => by
    have := (pop8_ok _ (hfl i)).2.2
    rw [← hB, ← hA]
    exact ⟨this.2.2.1, this.2.2.2.2⟩
  have hB8 : B 8 = 0 := by rw [← hB]; dsimp only; rw [hA8]; rfl
  have s3 : uN ((v2 + (v2.toUInt64 >>> ((4 : Int32).toInt64.toUInt64 &&& Int64.toUInt64 63)).toInt64) &&& (1085102592571150095 : Int64)) = oct (fun i => (B i + B i / 16) &&& 15) := by
    have hl : ∀ i, B i + (B i / 16 + 16 * (B (i + 1) % 16)) < 256 := fun i => by have := hBl i; have := hBl (i + 1); omega
    rw [uN_and, uN_add, show (4 : Int32) = nI 4 from rfl, uN_sk v2 (by omega), s2, show (2 : Nat) ^ 4 = 16 from rfl, oct_nib B (fun i => by have := hBl i; omega) hB8, oct_add, Nat.mod_eq_of_lt (oct_lt hl), show uN (1085102592571150095 : Int64) = oct (fun _ => 15) from by decide, oct_and hl (fun i => by omega)]
    refine oct_congr (fun i _ => ?_)
    have h1 := hBl i
    have h2 := hBl (i + 1)
    rw [← Nat.add_assoc, nx_nib _ (by omega) _ (Nat.mod_lt _ (by decide)) (by omega)]
  generalize (v2 + (v2.toUInt64 >>> ((4 : Int32).toInt64.toUInt64 &&& Int64.toUInt64 63)).toInt64) &&& (1085102592571150095 : Int64) = v3 at s3
  have hC : (fun i => (B i + B i / 16) &&& 15) = fun i => pop8 (f i) := by rw [← hB, ← hA]; rfl
  rw [hC] at s3
  have hcl : ∀ i, pop8 (f i) ≤ 8 := fun i => by rw [(pop8_ok _ (hfl i)).1]; exact cnt_le _ _
  have ps := pop_sum (fun i => pop8 (f i)) hcl
  dsimp only at ps
  obtain ⟨p6, p5, p4, pe⟩ := ps
  have s4 : uN (v3 + (v3.toUInt64 >>> ((8 : Int32).toInt64.toUInt64 &&& Int64.toUInt64 63)).toInt64) = oct (fun i => pop8 (f i)) + oct (fun i => pop8 (f i)) / 256 := by
    rw [uN_add, show (8 : Int32) = nI 8 from rfl, uN_sk v3 (by omega), s3, show (2 : Nat) ^ 8 = 256 from rfl, Nat.mod_eq_of_lt p4]
  generalize v3 + (v3.toUInt64 >>> ((8 : Int32).toInt64.toUInt64 &&& Int64.toUInt64 63)).toInt64 = v4 at s4
  rw [← s4] at p5 p6 pe
  have s5 : uN (v4 + (v4.toUInt64 >>> ((16 : Int32).toInt64.toUInt64 &&& Int64.toUInt64 63)).toInt64) = uN v4 + uN v4 / 65536 := by
    rw [uN_add, show (16 : Int32) = nI 16 from rfl, uN_sk v4 (by omega), show (2 : Nat) ^ 16 = 65536 from rfl, Nat.mod_eq_of_lt p5]
  generalize v4 + (v4.toUInt64 >>> ((16 : Int32).toInt64.toUInt64 &&& Int64.toUInt64 63)).toInt64 = v5 at s5
  rw [← s5] at p6 pe
  have s6 : uN (v5 + (v5.toUInt64 >>> ((32 : Int32).toInt64.toUInt64 &&& Int64.toUInt64 63)).toInt64) = uN v5 + uN v5 / 4294967296 := by
    rw [uN_add, show (32 : Int32) = nI 32 from rfl, uN_sk v5 (by omega), show (2 : Nat) ^ 32 = 4294967296 from rfl, Nat.mod_eq_of_lt p6]
  generalize v5 + (v5.toUInt64 >>> ((32 : Int32).toInt64.toUInt64 &&& Int64.toUInt64 63)).toInt64 = v6 at s6
  rw [← s6] at pe
  have e7 : v6.toInt32 &&& (127 : Int32) = nI (uN v6 % 128) := by
    rw [pk_and _ 7 (by decide)]
    have : v6.toInt32.toBitVec.toNat = uN v6 % 2 ^ 32 := by
      show (v6.toBitVec.signExtend 32).toNat = _
      rw [BitVec.signExtend_eq_setWidth_of_le _ (by decide), BitVec.toNat_setWidth]
      rfl
    rw [this]
    congr 1
    omega
  rw [e7, pe, cnt8]
  have hb : ∀ i, i < 8 → pop8 (f i) = cnt (fun j => tb x (8 * i + j)) 8 := by
    intro i hi
    rw [(pop8_ok _ (hfl i)).1]
    refine cnt_congr (fun j hj => ?_)
    rw [tb_uN, ← hf]
    unfold o8
    rw [if_pos hi, show (256 : Nat) = 2 ^ 8 from rfl, Nat.testBit_mod_two_pow, ← Nat.pow_mul, Nat.testBit_div_two_pow]
    simp only [hj, decide_true, Bool.true_and]
    congr 1
    omega
  rw [hb 0 (by omega), hb 1 (by omega), hb 2 (by omega), hb 3 (by omega), hb 4 (by omega), hb 5 (by omega), hb 6 (by omega), hb 7 (by omega)]
  simp only [Nat.mul_zero, Nat.zero_add, Nat.mul_one, show 8 * 2 = 16 from rfl, show 8 * 3 = 24 from rfl, show 8 * 4 = 32 from rfl, show 8 * 5 = 40 from rfl, show 8 * 6 = 48 from rfl, show 8 * 7 = 56 from rfl]
