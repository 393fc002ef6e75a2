/-! work: the text as a flat machine; what it has read: place, open ones, their stack, how many entries, their kind, two numbers, mate -/
abbrev WS := PS × Nat × (Nat → Nat) × Nat × (Nat → Nat) × (Nat → Nat) × (Nat → Nat) × (Nat → Nat)
def jP (W : WS) : PS := W.1
def jo (W : WS) : Nat := W.2.1
def js (W : WS) : Nat → Nat := W.2.2.1
def jc (W : WS) : Nat := W.2.2.2.1
def jk (W : WS) : Nat → Nat := W.2.2.2.2.1
def ja (W : WS) : Nat → Nat := W.2.2.2.2.2.1
def jb (W : WS) : Nat → Nat := W.2.2.2.2.2.2.1
def jm (W : WS) : Nat → Nat := W.2.2.2.2.2.2.2
def skS (B : Nat → Nat) (E : Nat) (P : PS) : Nat := if isW 14 B E P = true then 0 else if isW 15 B E P = true then 1 else if isW 16 B E P = true then 2 else if isW 17 B E P = true then 3 else if isW 2 B E P = true then 4 else if isW 18 B E P = true then 5 else 6
def pl2 (B : Nat → Nat) (E : Nat) (e : PL) (P : PS) : PS := nuS B E 0 (pH e - 1) (nuS B E 0 (pW e - 1) P)
def plV (B : Nat → Nat) (E : Nat) (e : PL) (P : PS) : Nat := 8 * nuV B E (nuS B E 0 (pW e - 1) P) + nuV B E P
def siP (B : Nat → Nat) (E : Nat) (e : PL) (kd : Nat) (P : PS) : PS := if kd = 0 then nuS B E 1 999 (pl2 B E e P) else if kd = 1 then pl2 B E e (pl2 B E e P) else if kd = 2 then pl2 B E e P else if kd = 3 then nuS B E 1 99 P else P
def siA (B : Nat → Nat) (E : Nat) (e : PL) (kd : Nat) (P : PS) : Nat := if kd < 3 then plV B E e P else nuV B E P
def siB (B : Nat → Nat) (E : Nat) (e : PL) (kd : Nat) (P : PS) : Nat := if kd = 0 then nuV B E (pl2 B E e P) else plV B E e (pl2 B E e P)
def setP (W : WS) (P : PS) : WS := (P, jo W, js W, jc W, jk W, ja W, jb W, jm W)
def pushW (W : WS) (P : PS) (o : Nat) (s : Nat → Nat) (kd a b : Nat) : WS := (P, o, s, jc W + 1, upN (jk W) (jc W) kd, upN (ja W) (jc W) a, upN (jb W) (jc W) b, upN (jm W) (jc W) 999)
def closeW (B : Nat → Nat) (E : Nat) (W : WS) : WS := (sgS B E (nI 59) (sgS B E (nI 93) (jP W)), jo W - 1, js W, jc W + 1, upN (jk W) (jc W) 6, upN (ja W) (jc W) 0, upN (jb W) (jc W) 0, upN (upN (jm W) (js W (jo W - 1)) (jc W)) (jc W) (js W (jo W - 1)))
def openW (B : Nat → Nat) (E : Nat) (W : WS) : WS := pushW W (sgS B E (nI 91) (nuS B E 0 60 (wdS B E (jP W)))) (jo W + 1) (upN (js W) (jo W) (jc W)) 5 (nuV B E (wdS B E (jP W))) 0
def simpW (B : Nat → Nat) (E : Nat) (e : PL) (W : WS) : WS := pushW W (sgS B E (nI 59) (siP B E e (skS B E (jP W)) (wdS B E (jP W)))) (jo W) (js W) (skS B E (jP W)) (siA B E e (skS B E (jP W)) (wdS B E (jP W))) (siB B E e (skS B E (jP W)) (wdS B E (jP W)))
/-- a step of a text that is right so far, and not at its end, nor at an again's end -/
def stepW (B : Nat → Nat) (E : Nat) (e : PL) (W : WS) : WS :=
  if skS B E (jP W) = 6 then setP W (flS 1 (nI (jP W).2.2) (jP W)) else if skS B E (jP W) = 5 then (if jo W = 6 then setP W (flS 3 (nI (jP W).2.2) (jP W)) else openW B E W) else simpW B E e W
def flW (B : Nat → Nat) (E : Nat) (e : PL) (W : WS) : WS :=
  if (jP W).1 = 0 then (if E ≤ (jP W).2.2 then (if jo W = 0 then W else setP W (flS 1 (nI E) (jP W))) else if 0 < jo W ∧ hasB B E (jP W) 93 = true then closeW B E W else stepW B E e W) else W
def ruW (B : Nat → Nat) (E : Nat) (e : PL) (W : WS) (n : Nat) : WS := fN (fun _ w => flW B E e w) W n
theorem ruW_s (B : Nat → Nat) (E : Nat) (e : PL) (W : WS) (n : Nat) : ruW B E e W (n + 1) = flW B E e (ruW B E e W n) := rfl
theorem ruW_add (B : Nat → Nat) (E : Nat) (e : PL) (W : WS) (n : Nat) : ∀ k, ruW B E e (ruW B E e W n) k = ruW B E e W (n + k)
  | 0 => rfl
  | k + 1 => by rw [ruW_s, ruW_add B E e W n k, ← ruW_s]; rfl
def stopW (E : Nat) (W : WS) : Prop := (jP W).1 ≠ 0 ∨ (E ≤ (jP W).2.2 ∧ jo W = 0)
theorem flW_stop {B : Nat → Nat} {E : Nat} {e : PL} {W : WS} (h : stopW E W) : flW B E e W = W := by
  unfold flW
  rcases h with h | ⟨h1, h2⟩
  · rw [if_neg h]
  · by_cases c : (jP W).1 = 0
    · rw [if_pos c, if_pos h1, if_pos h2]
    · rw [if_neg c]
theorem ruW_stop {B : Nat → Nat} {E : Nat} {e : PL} {W : WS} {k : Nat} (h : stopW E (ruW B E e W k)) : ∀ j, k ≤ j → ruW B E e W j = ruW B E e W k
  | 0, hj => by rw [show k = 0 by omega]
  | j + 1, hj => by
    by_cases c : k = j + 1
    · rw [c]
    · rw [ruW_s, ruW_stop h j (by omega), flW_stop h]
/-! items, segments -/
def SegI (it : Nat → Nat → Prop) (i j : Nat) : Prop := ∃ (n : Nat) (f : Nat → Nat), f 0 = i ∧ f n = j ∧ ∀ k, k < n → it (f k) (f (k + 1))
def itD (K M : Nat → Nat) : Nat → Nat → Nat → Prop
  | 0 => fun i j => K i < 5 ∧ j = i + 1
  | d + 1 => fun i j => (K i < 5 ∧ j = i + 1) ∨ (K i = 5 ∧ ∃ q, i < q ∧ j = q + 1 ∧ K q = 6 ∧ M i = q ∧ M q = i ∧ SegI (itD K M d) (i + 1) q)
theorem itD_lt {K M : Nat → Nat} : ∀ {d i j}, itD K M d i j → i < j
  | 0, i, j, h => by have := h.2; omega
  | d + 1, i, j, h => by
    rcases h with h | ⟨_, q, h1, h2, _⟩
    · have := h.2; omega
    · omega
theorem seg_mono {it : Nat → Nat → Prop} {n : Nat} {f : Nat → Nat} (hl : ∀ i j, it i j → i < j) (h : ∀ k, k < n → it (f k) (f (k + 1))) : ∀ k, k ≤ n → f 0 ≤ f k ∧ f k ≤ f n ∧ f 0 + k ≤ f k
  | 0, _ => ⟨Nat.le_refl _, (by
      have : ∀ m, m ≤ n → f 0 ≤ f m := fun m => by
        induction m with
        | zero => intro _; exact Nat.le_refl _
        | succ m ih => intro hm; have := ih (by omega); have := hl _ _ (h m (by omega)); omega
      exact this n (Nat.le_refl _)), Nat.le_refl _⟩
  | k + 1, hk => by
    obtain ⟨h1, h2, h3⟩ := seg_mono hl h k (by omega)
    have h4 := hl _ _ (h k (by omega))
    have : ∀ m, k + 1 ≤ m → m ≤ n → f (k + 1) ≤ f m := fun m => by
      induction m with
      | zero => intro h _; omega
      | succ m ih =>
        intro hm hm2
        by_cases c : k + 1 = m + 1
        · rw [c]; exact Nat.le_refl _
        · have := ih (by omega) (by omega); have := hl _ _ (h m (by omega)); omega
    have := this n hk (Nat.le_refl _)
    exact ⟨by omega, by omega, by omega⟩
theorem SegI.le {it : Nat → Nat → Prop} {i j : Nat} (hl : ∀ i j, it i j → i < j) (h : SegI it i j) : i ≤ j := by
  obtain ⟨n, f, h1, h2, h3⟩ := h
  have := seg_mono hl h3 n (Nat.le_refl _)
  omega
theorem SegI.nil {it : Nat → Nat → Prop} {i : Nat} : SegI it i i := ⟨0, fun _ => i, rfl, rfl, fun k hk => absurd hk (Nat.not_lt_zero _)⟩
theorem SegI.snoc {it : Nat → Nat → Prop} {i j k : Nat} (h : SegI it i j) (hk : it j k) : SegI it i k := by
  obtain ⟨n, f, h1, h2, h3⟩ := h
  refine ⟨n + 1, fun m => if m ≤ n then f m else k, ?_, ?_, fun m hm => ?_⟩
  · show (if 0 ≤ n then f 0 else k) = i
    rw [if_pos (Nat.zero_le _)]; exact h1
  · show (if n + 1 ≤ n then f (n + 1) else k) = k
    rw [if_neg (by omega)]
  · show it (if m ≤ n then f m else k) (if m + 1 ≤ n then f (m + 1) else k)
    rw [if_pos (by omega)]
    by_cases c : m + 1 ≤ n
    · rw [if_pos c]; exact h3 m (by omega)
    · rw [if_neg c, show m = n by omega, h2]; exact hk
theorem itD_congr {K M K' M' : Nat → Nat} : ∀ {d i j}, itD K M d i j → (∀ q, i ≤ q → q < j → K' q = K q ∧ M' q = M q) → itD K' M' d i j
  | 0, i, j, h, hc => by
    have := h.2
    exact ⟨by rw [(hc i (by omega) (by omega)).1]; exact h.1, h.2⟩
  | d + 1, i, j, h, hc => by
    rcases h with h | ⟨h0, q, h1, h2, h3, h4, h5, h6⟩
    · have := h.2
      exact Or.inl ⟨by rw [(hc i (by omega) (by omega)).1]; exact h.1, h.2⟩
    · refine Or.inr ⟨by rw [(hc i (by omega) (by omega)).1]; exact h0, q, h1, h2, by rw [(hc q (by omega) (by omega)).1]; exact h3, by rw [(hc i (by omega) (by omega)).2]; exact h4, by rw [(hc q (by omega) (by omega)).2]; exact h5, ?_⟩
      obtain ⟨n, f, f1, f2, f3⟩ := h6
      refine ⟨n, f, f1, f2, fun k hk => itD_congr (f3 k hk) (fun r r1 r2 => ?_)⟩
      have m1 := seg_mono (fun _ _ h => itD_lt h) f3 k (by omega)
      have m2 := seg_mono (fun _ _ h => itD_lt h) f3 (k + 1) (by omega)
      exact hc r (by omega) (by omega)
theorem seg_congr {K M K' M' : Nat → Nat} {d i j : Nat} (h : SegI (itD K M d) i j) (hc : ∀ q, i ≤ q → q < j → K' q = K q ∧ M' q = M q) : SegI (itD K' M' d) i j := by
  obtain ⟨n, f, f1, f2, f3⟩ := h
  refine ⟨n, f, f1, f2, fun k hk => itD_congr (f3 k hk) (fun r r1 r2 => ?_)⟩
  have m1 := seg_mono (fun _ _ h => itD_lt h) f3 k (by omega)
  have m2 := seg_mono (fun _ _ h => itD_lt h) f3 (k + 1) (by omega)
  exact hc r (by omega) (by omega)
/-! what holds of what is read -/
def loS (s : Nat → Nat) (k : Nat) : Nat := if k = 0 then 0 else s (k - 1) + 1
def hiS (W : WS) (k : Nat) : Nat := if k = jo W then jc W else js W k
/-- a token in order: numbers within what they may be -/
def okK (e : PL) (W : WS) (i : Nat) : Prop := jk W i ≤ 6 ∧ (jk W i < 3 → ja W i < 64 ∧ inW e (ja W i) = true) ∧ (jk W i = 0 → 1 ≤ jb W i ∧ jb W i ≤ 999) ∧ (jk W i = 1 → jb W i < 64 ∧ inW e (jb W i) = true) ∧ (jk W i = 3 → 1 ≤ ja W i ∧ ja W i ≤ 99) ∧ (jk W i = 5 → ja W i ≤ 60) ∧ (jk W i = 6 → jm W i < i) ∧ (jk W i < 5 → jm W i = 999) ∧ (jm W i = 999 ∨ jm W i < jc W)
def wfW (B : Nat → Nat) (E : Nat) (e : PL) (W : WS) : Prop :=
  okP B E (jP W) ∧ okF (jP W) ∧ ((jP W).1 = 0 → 2 * jc W ≤ (jP W).2.2 ∧ jo W ≤ 6 ∧ (∀ k, k < jo W → js W k < jc W ∧ jk W (js W k) = 5 ∧ jm W (js W k) = 999 ∧ loS (js W) k ≤ js W k) ∧ (∀ k, k ≤ jo W → SegI (itD (jk W) (jm W) (6 - k)) (loS (js W) k) (hiS W k)) ∧ ∀ i, i < jc W → okK e W i)
theorem pl_in {e : PL} (he : okPL e) {x y : Nat} (hx : x ≤ pW e - 1) (hy : y ≤ pH e - 1) : 8 * y + x < 64 ∧ inW e (8 * y + x) = true := by
  obtain ⟨h1, h2, h3, h4, -⟩ := he
  have e1 : (8 * y + x) % 8 = x := by omega
  have e2 : (8 * y + x) / 8 = y := by omega
  refine ⟨by omega, ?_⟩
  unfold inW
  rw [e1, e2, decide_eq_true (by omega), decide_eq_true (by omega)]
  rfl
theorem pl2_0 {B : Nat → Nat} {E : Nat} {e : PL} {P : PS} (he : okPL e) (h : (pl2 B E e P).1 = 0) : P.1 = 0 ∧ plV B E e P < 64 ∧ inW e (plV B E e P) = true := by
  obtain ⟨h1, h2, h3⟩ := nu_0 h
  obtain ⟨k1, k2, k3⟩ := nu_0 h1
  exact ⟨k1, pl_in he k3 h3⟩
theorem sk_w {B : Nat → Nat} {E : Nat} {P : PS} (h : skS B E P ≠ 6) : ∃ i, 1 ≤ i ∧ i < 19 ∧ isW i B E P = true := by
  unfold skS at h
  by_cases c7 : isW 14 B E P = true
  · exact ⟨14, by omega, by omega, c7⟩
  by_cases c8 : isW 15 B E P = true
  · exact ⟨15, by omega, by omega, c8⟩
  by_cases c9 : isW 16 B E P = true
  · exact ⟨16, by omega, by omega, c9⟩
  by_cases c10 : isW 17 B E P = true
  · exact ⟨17, by omega, by omega, c10⟩
  by_cases c2 : isW 2 B E P = true
  · exact ⟨2, by omega, by omega, c2⟩
  by_cases c11 : isW 18 B E P = true
  · exact ⟨18, by omega, by omega, c11⟩
  rw [if_neg c7, if_neg c8, if_neg c9, if_neg c10, if_neg c2, if_neg c11] at h
  exact absurd rfl h
theorem sk_le (B : Nat → Nat) (E : Nat) (P : PS) : skS B E P ≤ 6 := by
  unfold skS
  repeat' split
  all_goals omega
theorem siP_ok {B : Nat → Nat} {E : Nat} {e : PL} {kd : Nat} {P : PS} (h : okP B E P) : okP B E (siP B E e kd P) := by
  unfold siP pl2
  split
  · exact nu_ok (nu_ok (nu_ok h))
  · split
    · exact nu_ok (nu_ok (nu_ok (nu_ok h)))
    · split
      · exact nu_ok (nu_ok h)
      · split
        · exact nu_ok h
        · exact h
theorem siP_F {B : Nat → Nat} {E : Nat} {e : PL} {kd : Nat} {P : PS} (h : okF P) : okF (siP B E e kd P) := by
  unfold siP pl2
  split
  · exact nu_F (nu_F (nu_F h))
  · split
    · exact nu_F (nu_F (nu_F (nu_F h)))
    · split
      · exact nu_F (nu_F h)
      · split
        · exact nu_F h
        · exact h
theorem pl2_pos {B : Nat → Nat} {E : Nat} {e : PL} {P : PS} (ok : okP B E P) (h : (pl2 B E e P).1 = 0) : P.2.2 + 2 ≤ (pl2 B E e P).2.2 := by
  have h1 := (nu_0 h).1
  have a := nu_pos ok h1
  have b := nu_pos (nu_ok ok) h
  unfold pl2 at *
  omega
theorem siP_0 {B : Nat → Nat} {E : Nat} {e : PL} {kd : Nat} {P : PS} (he : okPL e) (ok : okP B E P) (h : (siP B E e kd P).1 = 0) : P.1 = 0 ∧ P.2.2 ≤ (siP B E e kd P).2.2 ∧
    (kd < 3 → siA B E e kd P < 64 ∧ inW e (siA B E e kd P) = true) ∧ (kd = 0 → 1 ≤ siB B E e kd P ∧ siB B E e kd P ≤ 999) ∧ (kd = 1 → siB B E e kd P < 64 ∧ inW e (siB B E e kd P) = true) ∧ (kd = 3 → 1 ≤ siA B E e kd P ∧ siA B E e kd P ≤ 99) := by
  unfold siP at *
  unfold siA siB
  by_cases c0 : kd = 0
  · rw [if_pos c0] at h ⊢
    obtain ⟨h1, h2, h3⟩ := nu_0 h
    obtain ⟨p1, p2, p3⟩ := pl2_0 he h1
    have q1 := pl2_pos ok h1
    have q2 := nu_pos (nu_ok (nu_ok ok)) h
    unfold pl2 at *
    rw [if_pos (by omega), if_pos c0]
    exact ⟨p1, by omega, fun _ => ⟨p2, p3⟩, fun _ => ⟨h2, h3⟩, fun q => by omega, fun q => by omega⟩
  by_cases c1 : kd = 1
  · rw [if_neg c0, if_pos c1] at h ⊢
    obtain ⟨k1, k2, k3⟩ := pl2_0 he h
    obtain ⟨p1, p2, p3⟩ := pl2_0 he k1
    have q1 := pl2_pos ok k1
    have q2 := pl2_pos (nu_ok (nu_ok ok)) h
    rw [if_pos (by omega), if_neg c0]
    exact ⟨p1, by unfold pl2 at *; omega, fun _ => ⟨p2, p3⟩, fun q => by omega, fun _ => ⟨k2, k3⟩, fun q => by omega⟩
  by_cases c2 : kd = 2
  · rw [if_neg c0, if_neg c1, if_pos c2] at h ⊢
    obtain ⟨p1, p2, p3⟩ := pl2_0 he h
    have q1 := pl2_pos ok h
    rw [if_pos (by omega)]
    exact ⟨p1, by omega, fun _ => ⟨p2, p3⟩, fun q => by omega, fun q => by omega, fun q => by omega⟩
  by_cases c3 : kd = 3
  · rw [if_neg c0, if_neg c1, if_neg c2, if_pos c3] at h ⊢
    obtain ⟨h1, h2, h3⟩ := nu_0 h
    have q2 := nu_pos ok h
    rw [if_neg (by omega)]
    exact ⟨h1, by omega, fun q => by omega, fun q => by omega, fun q => by omega, fun _ => ⟨h2, h3⟩⟩
  · rw [if_neg c0, if_neg c1, if_neg c2, if_neg c3] at h ⊢
    exact ⟨h, Nat.le_refl _, fun q => by omega, fun q => by omega, fun q => by omega, fun q => by omega⟩
