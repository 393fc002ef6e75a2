/-! BASE of the mathematics: numbers, results of programs, loops, bits of longs -/
theorem fa_lt (a b : Int32) : a < b ↔ a.toInt < b.toInt := Int32.lt_iff_toInt_lt
theorem fa_le (a b : Int32) : a ≤ b ↔ a.toInt ≤ b.toInt := Int32.le_iff_toInt_le
theorem fa_eq (a b : Int32) : a = b ↔ a.toInt = b.toInt := Int32.toInt_inj.symm
theorem fa_lit (n : Nat) : (OfNat.ofNat n : Int32) = nI n := rfl
theorem ya_0 : (0 : Int32) = nI 0 := rfl
theorem ya_1 : (1 : Int32) = nI 1 := rfl
theorem ya_eq0 {a : Nat} (ha : a < 2 ^ 31) : nI a = 0 ↔ a = 0 := by rw [ya_0, nI_eq ha (by decide)]
theorem ya_ne_m1 {a : Nat} (ha : a < 2 ^ 31) : nI a = (-1 : Int32) ↔ False := by
  rw [fa_eq, nI_toInt ha, show (-1 : Int32).toInt = -1 from by decide]
  constructor
  · intro h; omega
  · exact False.elim
theorem ya_m1_ne {a : Nat} (ha : a < 2 ^ 31) : (-1 : Int32) = nI a ↔ False := by rw [eq_comm, ya_ne_m1 ha]
/-! conditions, under an 'if' -/
theorem ile {α : Type} {a b : Nat} (ha : a < 2 ^ 31) (hb : b < 2 ^ 31) {d : Decidable (nI a ≤ nI b)} {x y : α} : @ite α (nI a ≤ nI b) d x y = if a ≤ b then x else y := by
  by_cases h : a ≤ b
  · rw [if_pos h, if_pos ((nI_leI ha hb).mpr h)]
  · rw [if_neg h, if_neg (fun z => h ((nI_leI ha hb).mp z))]
theorem ilt {α : Type} {a b : Nat} (ha : a < 2 ^ 31) (hb : b < 2 ^ 31) {d : Decidable (nI a < nI b)} {x y : α} : @ite α (nI a < nI b) d x y = if a < b then x else y := by
  by_cases h : a < b
  · rw [if_pos h, if_pos ((nI_ltI ha hb).mpr h)]
  · rw [if_neg h, if_neg (fun z => h ((nI_ltI ha hb).mp z))]
theorem ieq {α : Type} {a b : Nat} (ha : a < 2 ^ 31) (hb : b < 2 ^ 31) {d : Decidable (nI a = nI b)} {x y : α} : @ite α (nI a = nI b) d x y = if a = b then x else y := by
  by_cases h : a = b
  · rw [if_pos h, if_pos ((nI_eq ha hb).mpr h)]
  · rw [if_neg h, if_neg (fun z => h ((nI_eq ha hb).mp z))]
theorem ie0 {α : Type} {a : Nat} (ha : a < 2 ^ 31) {d : Decidable (nI a = 0)} {x y : α} : @ite α (nI a = 0) d x y = if a = 0 then x else y := by
  by_cases h : a = 0
  · rw [if_pos h, if_pos ((ya_eq0 ha).mpr h)]
  · rw [if_neg h, if_neg (fun z => h ((ya_eq0 ha).mp z))]
/-! results: wp o Q = o gives a result, and Q holds of it -/
def wp {β : Type} (o : Option β) (Q : β → Prop) : Prop := ∃ r, o = some r ∧ Q r
theorem wp_some {β : Type} {r : β} {Q : β → Prop} : wp (some r) Q ↔ Q r := ⟨fun ⟨_, h, q⟩ => by cases h; exact q, fun h => ⟨r, rfl, h⟩⟩
theorem wp_of {β : Type} {o : Option β} {r : β} {Q : β → Prop} (h : o = some r) (q : Q r) : wp o Q := ⟨r, h, q⟩
theorem wp_mono {β : Type} {o : Option β} {Q Q' : β → Prop} (h : wp o Q) (hq : ∀ r, Q r → Q' r) : wp o Q' := h.elim fun r a => ⟨r, a.1, hq r a.2⟩
theorem wp_zl {α β : Type} {a : α} {k : α → Option β} {Q : β → Prop} : wp (zl a k) Q ↔ wp (k a) Q := Iff.rfl
theorem wp_zb {α β : Type} {o : Option (α × zMem)} {k : α → zMem → Option β} {Q : β → Prop} : wp (zb o k) Q ↔ wp o (fun r => wp (k r.1 r.2) Q) := by
  cases o with
  | none => exact ⟨fun ⟨_, h, _⟩ => (by cases h), fun ⟨_, h, _⟩ => (by cases h)⟩
  | some r => exact ⟨fun h => ⟨r, rfl, h⟩, fun ⟨r', h, q⟩ => (by cases h; exact q)⟩
theorem wp_zbv {β : Type} {o : Option zMem} {k : zMem → Option β} {Q : β → Prop} : wp (zbv o k) Q ↔ wp o (fun M => wp (k M) Q) := by
  cases o with
  | none => exact ⟨fun ⟨_, h, _⟩ => (by cases h), fun ⟨_, h, _⟩ => (by cases h)⟩
  | some r => exact ⟨fun h => ⟨r, rfl, h⟩, fun ⟨r', h, q⟩ => (by cases h; exact q)⟩
theorem wp_zbx {β : Type} {o : Option (Nat × Int32 × zMem)} {f : Int32 → zMem → Option β} {g : Nat → zMem → Option β} {Q : β → Prop} :
    wp (zbx o f g) Q ↔ wp o (fun r => (r.1 = 0 → wp (f r.2.1 r.2.2) Q) ∧ (¬ r.1 = 0 → wp (g r.1 r.2.2) Q)) := by
  cases o with
  | none => exact ⟨fun ⟨_, h, _⟩ => (by cases h), fun ⟨_, h, _⟩ => (by cases h)⟩
  | some r =>
    have e : zbx (some r) f g = if r.1 = 0 then f r.2.1 r.2.2 else g r.1 r.2.2 := rfl
    rw [e, wp_some]
    by_cases h : r.1 = 0
    · rw [if_pos h]; exact ⟨fun a => ⟨fun _ => a, fun n => absurd h n⟩, fun a => a.1 h⟩
    · rw [if_neg h]; exact ⟨fun a => ⟨fun n => absurd n h, fun _ => a⟩, fun a => a.2 h⟩
theorem wp_ite {β : Type} {c : Prop} [Decidable c] {x y : Option β} {Q : β → Prop} : wp (if c then x else y) Q ↔ (c → wp x Q) ∧ (¬ c → wp y Q) := by
  by_cases h : c
  · rw [if_pos h]; exact ⟨fun a => ⟨fun _ => a, fun n => absurd h n⟩, fun a => a.1 h⟩
  · rw [if_neg h]; exact ⟨fun a => ⟨fun n => absurd n h, fun _ => a⟩, fun a => a.2 h⟩
theorem gin_ok {α : Type} {k n : Nat} {x : Option α} (h : k < n) (hn : n < 2 ^ 31) : gin (nI k) n x = x := by
  unfold gin
  rw [if_pos ⟨nI_pos' (by omega), by rw [nI_clamp (by omega)]; exact h⟩]
theorem gd_ok {α : Type} {c : Bool} {x : Option α} (h : c = true) : gd c x = x := if_pos h
theorem zb_some {α β : Type} {r : α × zMem} {k : α → zMem → Option β} : zb (some r) k = k r.1 r.2 := rfl
theorem zbv_some {β : Type} {r : zMem} {k : zMem → Option β} : zbv (some r) k = k r := rfl
theorem zl_eq {α β : Type} {a : α} {k : α → β} : zl a k = k a := rfl
theorem zbx_0 {β : Type} {v : Int32} {M : zMem} {f : Int32 → zMem → Option β} {g : Nat → zMem → Option β} : zbx (some (0, v, M)) f g = f v M := rfl
theorem zbx_k {β : Type} {k : Nat} {v : Int32} {M : zMem} {f : Int32 → zMem → Option β} {g : Nat → zMem → Option β} : zbx (some (k + 1, v, M)) f g = g (k + 1) M := rfl
/-! loops -/
theorem itF_ind {α : Type} {z : α} {F : α → α} (P : Nat → α → Prop) (h0 : P 0 z) (hs : ∀ n f, P n f → P (n + 1) (F f)) : ∀ n, P n (itF z F n)
  | 0 => h0
  | n + 1 => hs n _ (itF_ind P h0 hs n)
/-- a loop whose measure falls -/
theorem loopM {α σ β : Type} {z : α} (F : α → α) (ap : α → σ → Option β) (I : σ → Prop) (μ : σ → Nat) (Q : β → Prop)
    (hs : ∀ f s, I s → (∀ s', I s' → μ s' < μ s → wp (ap f s') Q) → wp (ap (F f) s) Q) {s : σ} (hI : I s) (hN : μ s < 2000000) : wp (ap (itF z F zFuel) s) Q := by
  have h := itF_ind (z := z) (F := F) (fun n f => ∀ s, μ s < n → I s → wp (ap f s) Q) (fun s h => absurd h (Nat.not_lt_zero _))
    (fun n f ih s hn hi => hs f s hi (fun s' hi' hl => ih s' (by omega) hi')) zFuel
  exact h s (by rw [zFuel_eq]; exact hN) hI
/-- a loop that counts up to N -/
theorem loopN {α σ β : Type} {z : α} (F : α → α) (ap : α → Nat → σ → Option β) (N : Nat) (I : Nat → σ → Prop) (Q : β → Prop)
    (hs : ∀ f k s, k < N → I k s → (∀ s', I (k + 1) s' → wp (ap f (k + 1) s') Q) → wp (ap (F f) k s) Q)
    (he : ∀ f s, I N s → wp (ap (F f) N s) Q) {k : Nat} {s : σ} (hk : k ≤ N) (hI : I k s) (hN : N < 1000000) : wp (ap (itF z F zFuel) k s) Q := by
  refine loopM F (fun f (q : Nat × σ) => ap f q.1 q.2) (fun q => q.1 ≤ N ∧ I q.1 q.2) (fun q => N - q.1) Q (fun f q hq ih => ?_) (s := (k, s)) ⟨hk, hI⟩ (show N - k < 2000000 by omega)
  obtain ⟨a, b⟩ := q
  obtain ⟨h1, h2⟩ := hq
  dsimp only at *
  rcases Nat.lt_or_ge a N with h | h
  · exact hs f a b h h2 (fun s' hs' => ih (a + 1, s') ⟨h, hs'⟩ (show N - (a + 1) < N - a by omega))
  · have e : a = N := by omega
    subst e
    exact he f b h2
/-- n steps of a fold -/
def fN {σ : Type} (f : Nat → σ → σ) (s : σ) : Nat → σ
  | 0 => s
  | k + 1 => f k (fN f s k)
theorem fN_congr {σ : Type} {f g : Nat → σ → σ} {s : σ} : ∀ {n : Nat}, (∀ k, k < n → ∀ t, f k t = g k t) → fN f s n = fN g s n
  | 0, _ => rfl
  | n + 1, h => by
    show f n (fN f s n) = g n (fN g s n)
    rw [fN_congr (fun k hk => h k (by omega)), h n (by omega)]
/-- a pure counting loop: each turn takes its state on, at the end it gives out -/
theorem loopP {α σ β : Type} {z : α} (F : α → α) (ap : α → Nat → σ → Option β) (N : Nat) (st : Nat → σ → σ) (out : σ → Option β)
    (hs : ∀ f k s, k < N → ap (F f) k s = ap f (k + 1) (st k s)) (he : ∀ f s, ap (F f) N s = out s) {s : σ} {r : β} (hr : out (fN st s N) = some r) (hN : N < 1000000) :
    ap (itF z F zFuel) 0 s = some r := by
  have h := loopN F ap (z := z) N (fun k t => t = fN st s k) (fun b => b = r)
    (fun f k t hk ht ih => by rw [hs f k t hk]; exact ih _ (by rw [ht]; rfl))
    (fun f t ht => by rw [he f t, ht, hr]; exact wp_some.mpr rfl) (Nat.zero_le N) rfl hN
  obtain ⟨b, h1, h2⟩ := h
  rw [h2] at h1
  exact h1
/-! counts and sums -/
def cnt (p : Nat → Bool) (n : Nat) : Nat := fN (fun k c => c + if p k then 1 else 0) 0 n
theorem cnt_succ (p : Nat → Bool) (n : Nat) : cnt p (n + 1) = cnt p n + if p n then 1 else 0 := rfl
theorem cnt_le (p : Nat → Bool) : ∀ n, cnt p n ≤ n
  | 0 => Nat.le_refl 0
  | n + 1 => by
    have h := cnt_le p n
    rw [cnt_succ]
    split <;> omega
theorem cnt_congr {p q : Nat → Bool} {n : Nat} (h : ∀ k, k < n → p k = q k) : cnt p n = cnt q n := fN_congr (fun k hk t => by rw [h k hk])
def sumN (f : Nat → Nat) (n : Nat) : Nat := fN (fun k c => c + f k) 0 n
theorem sumN_succ (f : Nat → Nat) (n : Nat) : sumN f (n + 1) = sumN f n + f n := rfl
theorem sumN_congr {p q : Nat → Nat} {n : Nat} (h : ∀ k, k < n → p k = q k) : sumN p n = sumN q n := fN_congr (fun k hk t => by rw [h k hk])
theorem sumN_le {f : Nat → Nat} {b : Nat} : ∀ {n}, (∀ k, k < n → f k ≤ b) → sumN f n ≤ n * b
  | 0, _ => Nat.zero_le _
  | n + 1, h => by
    have h1 := sumN_le (n := n) (fun k hk => h k (by omega))
    have h2 := h n (by omega)
    rw [sumN_succ, Nat.succ_mul]
    omega
/-! bits of a long -/
theorem wb_c : ∀ k, k < 64 → ((nI k).toInt64 &&& 63) = lN k := by decide +kernel
theorem wb_cu : ∀ k, k < 64 → ((nI k).toInt64.toUInt64 &&& Int64.toUInt64 63) = UInt64.ofNat k := by decide +kernel
theorem wb_sm : ∀ k, k < 64 → (BitVec.ofNat 64 k).smod 64 = BitVec.ofNat 64 k := by decide +kernel
def tb (x : Int64) (p : Nat) : Bool := x.toBitVec.getLsbD p
theorem tb_ext {x y : Int64} (h : ∀ p, p < 64 → tb x p = tb y p) : x = y := Int64.toBitVec_inj.mp (BitVec.eq_of_getLsbD_eq fun i hi => h i hi)
theorem tb_big {x : Int64} {p : Nat} (h : 64 ≤ p) : tb x p = false := BitVec.getLsbD_of_ge _ _ h
theorem tb_or (x y : Int64) (p : Nat) : tb (x ||| y) p = (tb x p || tb y p) := by
  unfold tb
  rw [Int64.toBitVec_or, BitVec.getLsbD_or]
theorem tb_and (x y : Int64) (p : Nat) : tb (x &&& y) p = (tb x p && tb y p) := by
  unfold tb
  rw [Int64.toBitVec_and, BitVec.getLsbD_and]
theorem tb_not (x : Int64) {p : Nat} (hp : p < 64) : tb (x ^^^ (-1)) p = !tb x p := by
  have ha : (-1 : Int64).toBitVec = BitVec.allOnes 64 := by decide
  unfold tb
  rw [Int64.toBitVec_xor, BitVec.getLsbD_xor, ha, BitVec.getLsbD_allOnes]
  simp [hp]
theorem tb_0 (p : Nat) : tb 0 p = false := by
  show (0#64).getLsbD p = false
  simp
theorem tb_shl (x : Int64) {k p : Nat} (hk : k < 64) (hp : p < 64) : tb (x <<< ((nI k).toInt64 &&& 63)) p = (decide (k ≤ p) && tb x (p - k)) := by
  unfold tb
  rw [wb_c k hk, Int64.toBitVec_shiftLeft, show (lN k).toBitVec = BitVec.ofNat 64 k from rfl, wb_sm k hk, BitVec.shiftLeft_eq', BitVec.getLsbD_shiftLeft, BitVec.toNat_ofNat, Nat.mod_eq_of_lt (show k < 2 ^ 64 by omega)]
  by_cases h : k ≤ p
  · simp [hp, h, Nat.not_lt.mpr h]
  · simp [hp, h, Nat.lt_of_not_le h]
theorem tb_shr (x : Int64) {k : Nat} (p : Nat) (hk : k < 64) : tb ((x.toUInt64 >>> ((nI k).toInt64.toUInt64 &&& Int64.toUInt64 63)).toInt64) p = tb x (k + p) := by
  have e : (x.toUInt64 >>> UInt64.ofNat k).toInt64.toBitVec = x.toBitVec >>> k := by
    apply BitVec.eq_of_toNat_eq
    show (x.toUInt64 >>> UInt64.ofNat k).toNat = _
    have h1 : (UInt64.ofNat k).toNat = k := by
      show (BitVec.ofNat 64 k).toNat = k
      rw [BitVec.toNat_ofNat, Nat.mod_eq_of_lt (by omega)]
    rw [UInt64.toNat_shiftRight, h1, Nat.mod_eq_of_lt hk, BitVec.toNat_ushiftRight]
    rfl
  unfold tb
  rw [wb_cu k hk, e, BitVec.getLsbD_ushiftRight]
theorem tb_1 {p : Nat} (hp : p < 64) : tb 1 p = decide (p = 0) := by
  show (1#64).getLsbD p = _
  rw [BitVec.getLsbD_one]
  by_cases h : p = 0 <;> simp [h]
def bit1 (p : Nat) : Int64 := (1 : Int64) <<< ((nI p).toInt64 &&& 63)
theorem tb_bit {p q : Nat} (hp : p < 64) (hq : q < 64) : tb (bit1 p) q = decide (q = p) := by
  unfold bit1
  rw [tb_shl _ hp hq]
  by_cases h : p ≤ q
  · rw [tb_1 (by omega)]
    by_cases e : q = p
    · subst e; simp
    · have : ¬ (q - p = 0) := by omega
      simp [e, this]
  · have : ¬ q = p := by omega
    simp [h, this]
/-- the mask of a set -/
def mk (f : Nat → Bool) (n : Nat) : Int64 := fN (fun k m => if f k then m ||| bit1 k else m) 0 n
theorem tb_mk (f : Nat → Bool) {q : Nat} (hq : q < 64) : ∀ {n}, n ≤ 64 → tb (mk f n) q = (decide (q < n) && f q)
  | 0, _ => by
    show tb 0 q = _
    rw [tb_0]
    simp
  | n + 1, hn => by
    have ih := tb_mk f hq (n := n) (by omega)
    show tb (if f n then mk f n ||| bit1 n else mk f n) q = _
    by_cases e : q = n
    · subst e
      cases hf : f q
      · rw [if_neg (by simp), ih]; simp [hf]
      · rw [if_pos rfl, tb_or, tb_bit hq hq]; simp
    · have h2 : decide (q < n + 1) = decide (q < n) := by
        by_cases h : q < n
        · simp [h, Nat.lt_succ_of_lt h]
        · have : ¬ q < n + 1 := by omega
          simp [h, this]
      rw [h2]
      cases hf : f n
      · rw [if_neg (by simp), ih]
      · rw [if_pos rfl, tb_or, tb_bit (by omega) hq, ih]; simp [e]
theorem ya_cmp0 (x : Int64) : lg_cmp (x &&& 1) 0 = 0 ↔ tb x 0 = false := by
  have h1 : lg_cmp (x &&& 1) 0 = 0 ↔ (x &&& 1) = 0 := by
    unfold lg_cmp
    by_cases h : (x &&& 1) = 0
    · rw [h]; simp
    · by_cases g : (x &&& 1) > 0
      · rw [if_pos g]; exact ⟨fun z => absurd z (by decide), fun z => absurd z h⟩
      · rw [if_neg g, if_neg h]; exact ⟨fun z => absurd z (by decide), fun z => absurd z h⟩
  rw [h1]
  constructor
  · intro h
    have : tb (x &&& 1) 0 = false := by rw [h, tb_0]
    rw [tb_and, tb_1 (by omega)] at this
    simpa using this
  · intro h
    apply tb_ext
    intro p hp
    rw [tb_and, tb_1 hp, tb_0]
    by_cases e : p = 0
    · subst e; simp [h]
    · simp [e]
theorem bI_ne (b : Bool) : ((if b then (1 : Int32) else 0) = 0) ↔ b = false := by cases b <;> decide
def bI (b : Bool) : Int32 := if b then 1 else 0
theorem bI_0 (b : Bool) : bI b = 0 ↔ b = false := by cases b <;> decide
theorem bI_gd (b : Bool) : (bI b == 0 || bI b == 1) = true := by cases b <;> decide
theorem bI_t : bI true = 1 := rfl
theorem bI_f : bI false = 0 := rfl
theorem ibI {α : Type} {b : Bool} {d : Decidable (bI b = 0)} {x y : α} : @ite α (bI b = 0) d x y = if b = false then x else y := by
  by_cases h : b = false
  · rw [if_pos h, if_pos ((bI_0 b).mpr h)]
  · rw [if_neg h, if_neg (fun z => h ((bI_0 b).mp z))]
theorem bI_nI (b : Bool) : bI b = nI (if b then 1 else 0) := by cases b <;> rfl
