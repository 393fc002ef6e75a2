/-! more numbers -/
theorem ya_div8 {a : Nat} (ha : a < 2 ^ 31) : nI a / 8 = nI (a / 8) := pk_div ha (by decide) (by decide)
theorem ya_rem8 {a : Nat} (ha : a < 2 ^ 31) : nI a - nI a / 8 * 8 = nI (a % 8) := pk_rem ha (by decide) (by decide)
def iI (z : Int) : Int32 := Int32.ofInt z
theorem iI_toInt {z : Int} (h1 : -2147483648 ≤ z) (h2 : z < 2147483648) : (iI z).toInt = z := Int32.toInt_ofInt_of_le h1 h2
theorem iI_nat (n : Nat) : nI n = iI n := Int32.ofInt_eq_ofNat.symm
theorem iI_sub (a b : Int) : iI a - iI b = iI (a - b) := (Int32.ofInt_sub a b).symm
theorem iI_add (a b : Int) : iI a + iI b = iI (a + b) := (Int32.ofInt_add a b).symm
theorem iI_mul (a b : Int) : iI a * iI b = iI (a * b) := (Int32.ofInt_mul a b).symm
theorem iI_neg (a : Int) : -iI a = iI (-a) := Int32.neg_ofInt
theorem iI_lt {a b : Int} (h1 : -2147483648 ≤ a) (h2 : a < 2147483648) (h3 : -2147483648 ≤ b) (h4 : b < 2147483648) : iI a < iI b ↔ a < b := by rw [fa_lt, iI_toInt h1 h2, iI_toInt h3 h4]
theorem iI_le {a b : Int} (h1 : -2147483648 ≤ a) (h2 : a < 2147483648) (h3 : -2147483648 ≤ b) (h4 : b < 2147483648) : iI a ≤ iI b ↔ a ≤ b := by rw [fa_le, iI_toInt h1 h2, iI_toInt h3 h4]
theorem iI_eq {a b : Int} (h1 : -2147483648 ≤ a) (h2 : a < 2147483648) (h3 : -2147483648 ≤ b) (h4 : b < 2147483648) : iI a = iI b ↔ a = b := by rw [fa_eq, iI_toInt h1 h2, iI_toInt h3 h4]
theorem iiLt {α : Type} {a b : Int} (h1 : -2147483648 ≤ a) (h2 : a < 2147483648) (h3 : -2147483648 ≤ b) (h4 : b < 2147483648) {d : Decidable (iI a < iI b)} {x y : α} : @ite α (iI a < iI b) d x y = if a < b then x else y := by
  by_cases h : a < b
  · rw [if_pos h, if_pos ((iI_lt h1 h2 h3 h4).mpr h)]
  · rw [if_neg h, if_neg (fun z => h ((iI_lt h1 h2 h3 h4).mp z))]
theorem iiLe {α : Type} {a b : Int} (h1 : -2147483648 ≤ a) (h2 : a < 2147483648) (h3 : -2147483648 ≤ b) (h4 : b < 2147483648) {d : Decidable (iI a ≤ iI b)} {x y : α} : @ite α (iI a ≤ iI b) d x y = if a ≤ b then x else y := by
  by_cases h : a ≤ b
  · rw [if_pos h, if_pos ((iI_le h1 h2 h3 h4).mpr h)]
  · rw [if_neg h, if_neg (fun z => h ((iI_le h1 h2 h3 h4).mp z))]
theorem iiEq {α : Type} {a b : Int} (h1 : -2147483648 ≤ a) (h2 : a < 2147483648) (h3 : -2147483648 ≤ b) (h4 : b < 2147483648) {d : Decidable (iI a = iI b)} {x y : α} : @ite α (iI a = iI b) d x y = if a = b then x else y := by
  by_cases h : a = b
  · rw [if_pos h, if_pos ((iI_eq h1 h2 h3 h4).mpr h)]
  · rw [if_neg h, if_neg (fun z => h ((iI_eq h1 h2 h3 h4).mp z))]
theorem iI_subN (a b : Nat) : nI a - nI b = iI ((a : Int) - (b : Int)) := by rw [iI_nat, iI_nat, iI_sub]
theorem iI_pos {z : Int} (h : 0 ≤ z) : iI z = nI z.toNat := by rw [iI_nat, Int.toNat_of_nonneg h]
theorem ya_sub0 {a b : Nat} (ha : a < 2 ^ 30) (hb : b < 2 ^ 30) : (if (0 : Int32) ≤ nI a - nI b then nI a - nI b else 0) = nI (a - b) := by
  rw [iI_subN, show (0 : Int32) = iI 0 from rfl, iiLe (by omega) (by omega) (by omega) (by omega)]
  by_cases h : (0 : Int) ≤ (a : Int) - b
  · rw [if_pos h, iI_pos h]; congr 1; omega
  · rw [if_neg h, show a - b = 0 by omega]; rfl
theorem ya_min {a b : Nat} (ha : a < 2 ^ 31) (hb : b < 2 ^ 31) : zmin (nI a) (nI b) = nI (min a b) := by
  unfold zmin
  rw [ilt hb ha]
  by_cases h : b < a
  · rw [if_pos h]; congr 1; omega
  · rw [if_neg h]; congr 1; omega
theorem ya_max {a b : Nat} (ha : a < 2 ^ 31) (hb : b < 2 ^ 31) : zmax (nI a) (nI b) = nI (max a b) := by
  unfold zmax
  rw [ilt ha hb]
  by_cases h : a < b
  · rw [if_pos h]; congr 1; omega
  · rw [if_neg h]; congr 1; omega
theorem ya_max0 {a b : Nat} (ha : a < 2 ^ 30) (hb : b < 2 ^ 30) : zmax 0 (nI a - nI b) = nI (a - b) := by
  unfold zmax
  rw [iI_subN, show (0 : Int32) = iI 0 from rfl, iiLt (by omega) (by omega) (by omega) (by omega)]
  by_cases h : (0 : Int) < (a : Int) - b
  · rw [if_pos h, iI_pos (by omega)]; congr 1; omega
  · rw [if_neg h, show a - b = 0 by omega]; rfl
/-- a number of the script between two others -/
theorem ya_btw {x : Int32} {a b : Nat} (hb : b < 2 ^ 31) (h1 : nI a ≤ x) (h2 : x ≤ nI b) (ha : a < 2 ^ 31) : ∃ k, a ≤ k ∧ k ≤ b ∧ x = nI k := by
  rw [fa_le, nI_toInt ha] at h1
  rw [fa_le, nI_toInt hb] at h2
  refine ⟨x.toInt.toNat, by omega, by omega, ?_⟩
  rw [fa_eq, nI_toInt (by omega)]
  omega
/-! THE SPECIFICATION, in numbers. A works: width, height, how many hours, their sides, their reaches. A row u: 0.. brine, 64.. salt, 128.. grams, 192 day, 193 hour, 194 store -/
abbrev PL := Nat × Nat × Nat × (Nat → Nat) × (Nat → Nat)
def pW (e : PL) : Nat := e.1
def pH (e : PL) : Nat := e.2.1
def pn (e : PL) : Nat := e.2.2.1
def psd (e : PL) : Nat → Nat := e.2.2.2.1
def prc (e : PL) : Nat → Nat := e.2.2.2.2
def okPL (e : PL) : Prop := 1 ≤ pW e ∧ pW e ≤ 8 ∧ 1 ≤ pH e ∧ pH e ≤ 8 ∧ pn e ≤ 10 ∧ ∀ h, h < pn e → psd e h ≤ 7 ∧ prc e h ≤ 40
def inW (e : PL) (p : Nat) : Bool := decide (p % 8 < pW e) && decide (p / 8 < pH e)
def hgt (g : Nat) : Nat := if g = 0 then 0 else g / 50 + 1
def slen (e : PL) (g h : Nat) : Nat := hgt g * prc e h / 10
def dE (d : Nat) : Int := if d = 0 ∨ d = 4 then 0 else if d < 4 then -1 else 1
def dS (d : Nat) : Int := if d = 2 ∨ d = 6 then 0 else if 2 < d ∧ d < 6 then -1 else 1
def iabs (z : Int) : Int := if 0 ≤ z then z else -z
def imax (a b : Int) : Int := if a ≤ b then b else a
def dx (f p : Nat) : Int := ((p % 8 : Nat) : Int) - ((f % 8 : Nat) : Int)
def dy (f p : Nat) : Int := ((p / 8 : Nat) : Int) - ((f / 8 : Nat) : Int)
def far (f p : Nat) : Int := imax (iabs (dx f p)) (iabs (dy f p))
def cov (e : PL) (f g p h : Nat) : Bool :=
  if g = 0 then false else if f = p then true else decide (far f p ≤ (slen e g h : Int)) && (decide (dx f p = far f p * dE (psd e h)) && decide (dy f p = far f p * dS (psd e h)))
def anyN (p : Nat → Bool) (n : Nat) : Bool := fN (fun k b => b || p k) false n
theorem anyN_iff {p : Nat → Bool} : ∀ {n : Nat}, anyN p n = true ↔ ∃ k, k < n ∧ p k = true
  | 0 => ⟨fun h => absurd (show false = true from h) (by decide), fun ⟨k, h, _⟩ => absurd h (Nat.not_lt_zero _)⟩
  | n + 1 => by
    show (anyN p n || p n) = true ↔ _
    rw [Bool.or_eq_true, anyN_iff]
    constructor
    · rintro (⟨k, h1, h2⟩ | h)
      · exact ⟨k, by omega, h2⟩
      · exact ⟨n, by omega, h⟩
    · rintro ⟨k, h1, h2⟩
      by_cases e : k = n
      · subst e; exact Or.inr h2
      · exact Or.inl ⟨k, by omega, h2⟩
theorem anyN_no {p : Nat → Bool} {n : Nat} (h : ∀ k, k < n → p k = false) : anyN p n = false := by
  cases e : anyN p n
  · rfl
  · obtain ⟨k, h1, h2⟩ := anyN_iff.mp e
    rw [h k h1] at h2
    cases h2
theorem anyN_yes {p : Nat → Bool} {n k : Nat} (h : k < n) (hp : p k = true) : anyN p n = true := anyN_iff.mpr ⟨k, h, hp⟩
theorem anyN_congr {p q : Nat → Bool} {n : Nat} (h : ∀ k, k < n → p k = q k) : anyN p n = anyN q n := fN_congr (fun k hk t => by rw [h k hk])
/-- a pan is in shade -/
def shd (e : PL) (u : Nat → Nat) (p h : Nat) : Bool := anyN (fun f => cov e f (u (128 + f)) p h) 64
def okV (u : Nat → Nat) : Prop := ∀ i, i < 192 → u i ≤ 9999
def okR (e : PL) (u : Nat → Nat) : Prop := okV u ∧ (∀ p, p < 64 → inW e p = false → u p = 0 ∧ u (64 + p) = 0 ∧ u (128 + p) = 0) ∧ (u 193 < pn e ∨ (pn e = 0 ∧ u 193 = 0))
theorem dE_b (d : Nat) : -1 ≤ dE d ∧ dE d ≤ 1 := by
  unfold dE
  split
  · omega
  · split <;> omega
theorem dS_b (d : Nat) : -1 ≤ dS d ∧ dS d ≤ 1 := by
  unfold dS
  split
  · omega
  · split <;> omega
theorem dES (d : Nat) : ¬ (dE d = 0 ∧ dS d = 0) := by
  unfold dE dS
  split <;> split <;> (try split) <;> (try split) <;> omega
theorem hgt_le {g : Nat} (h : g ≤ 9999) : hgt g ≤ 200 := by unfold hgt; split <;> omega
theorem slen_le {e : PL} {g h : Nat} (he : okPL e) (hh : h < pn e) (hg : g ≤ 9999) : hgt g * prc e h ≤ 8000 := by
  have h1 := hgt_le hg
  have h2 := (he.2.2.2.2.2 h hh).2
  calc hgt g * prc e h ≤ 200 * 40 := Nat.mul_le_mul h1 h2
    _ = 8000 := rfl
theorem dx_b {f p : Nat} : -7 ≤ dx f p ∧ dx f p ≤ 7 := by unfold dx; omega
theorem dy_b {f p : Nat} (hf : f < 64) (hp : p < 64) : -7 ≤ dy f p ∧ dy f p ≤ 7 := by unfold dy; omega
theorem far_b {f p : Nat} (hf : f < 64) (hp : p < 64) : 0 ≤ far f p ∧ far f p ≤ 7 := by
  have h1 := dx_b (f := f) (p := p)
  have h2 := dy_b hf hp
  unfold far imax iabs
  split <;> split <;> omega
/-! the reference's memory holds a works, a row -/
def RMp (m : zMem) (e : PL) : Prop := m.1 4 0 = nI (pW e) ∧ m.1 4 1 = nI (pH e) ∧ m.1 4 2 = nI (pn e) ∧ ∀ h, h < pn e → m.1 (17 + (1 + 1 * h)) 0 = nI (psd e h) ∧ m.1 (17 + (1 + 1 * h)) 1 = nI (prc e h)
def RMr (m : zMem) (u : Nat → Nat) (c : Nat) : Prop := ∀ i, i < 195 → m.1 c i = nI (u i)
