/-! work: what the flat machine keeps -/
theorem it_simple {K M : Nat → Nat} {d i : Nat} (h : K i < 5) : itD K M d i (i + 1) := by
  cases d with
  | zero => exact ⟨h, rfl⟩
  | succ d => exact Or.inl ⟨h, rfl⟩
theorem js_lt {s : Nat → Nat} {o : Nat} (h : ∀ k, k < o → loS s k ≤ s k) : ∀ j k, k < j → j < o → s k < s j
  | 0, k, hk, _ => absurd hk (Nat.not_lt_zero _)
  | j + 1, k, hk, ho => by
    have h1 := h (j + 1) ho
    have e : loS s (j + 1) = s j + 1 := by unfold loS; rw [if_neg (by omega), show j + 1 - 1 = j by omega]
    rw [e] at h1
    by_cases c : k = j
    · rw [c]; omega
    · have := js_lt h j k (by omega) (by omega)
      omega
theorem wf_flt {B : Nat → Nat} {E : Nat} {e : PL} {W : WS} {c : Nat} {v : Int32} (h : wfW B E e W) (z : (jP W).1 = 0) (hc : c ≠ 0) (hc3 : c ≤ 3) : wfW B E e (setP W (flS c v (jP W))) := by
  refine ⟨fl_ok h.1 hc3 hc, fl_F h.2.1 hc, fun q => ?_⟩
  exfalso
  revert q
  show (flS c v (jP W)).1 = 0 → False
  unfold flS
  rw [if_pos z]
  exact hc
theorem wf_push {B : Nat → Nat} {E : Nat} {e : PL} {W : WS} {P : PS} {kd a b : Nat} (h : wfW B E e W) (z : (jP W).1 = 0) (h1 : okP B E P) (h2 : okF P) (hp : P.1 = 0 → (jP W).2.2 + 2 ≤ P.2.2) (hkd : kd < 5)
    (hd : P.1 = 0 → (kd < 3 → a < 64 ∧ inW e a = true) ∧ (kd = 0 → 1 ≤ b ∧ b ≤ 999) ∧ (kd = 1 → b < 64 ∧ inW e b = true) ∧ (kd = 3 → 1 ≤ a ∧ a ≤ 99)) : wfW B E e (pushW W P (jo W) (js W) kd a b) := by
  refine ⟨h1, h2, fun q => ?_⟩
  have q' : P.1 = 0 := q
  obtain ⟨g1, g2, g3, g4, g5⟩ := h.2.2 z
  obtain ⟨d1, d2, d3, d4⟩ := hd q'
  have hp := hp q'
  refine ⟨by show 2 * (jc W + 1) ≤ P.2.2; omega, g2, fun k hk => ?_, fun k hk => ?_, fun i hi => ?_⟩
  · have hk' : k < jo W := hk
    obtain ⟨f1, f2, f3, f4⟩ := g3 k hk'
    refine ⟨by show js W k < jc W + 1; omega, ?_, ?_, f4⟩
    · show upN (jk W) (jc W) kd (js W k) = 5
      rw [upN_n (by omega)]; exact f2
    · show upN (jm W) (jc W) 999 (js W k) = 999
      rw [upN_n (by omega)]; exact f3
  · have hk' : k ≤ jo W := hk
    have g := g4 k hk'
    have hc : ∀ r, r < jc W → upN (jk W) (jc W) kd r = jk W r ∧ upN (jm W) (jc W) 999 r = jm W r := fun r hr => ⟨upN_n (by omega), upN_n (by omega)⟩
    show SegI (itD (upN (jk W) (jc W) kd) (upN (jm W) (jc W) 999) (6 - k)) (loS (js W) k) (if k = jo W then jc W + 1 else js W k)
    unfold hiS at g
    by_cases c : k = jo W
    · rw [if_pos c] at g ⊢
      exact (seg_congr g (fun r _ hr => hc r hr)).snoc (it_simple (by rw [upN_s]; exact hkd))
    · rw [if_neg c] at g ⊢
      have := (g3 k (by omega)).1
      exact seg_congr g (fun r _ hr => hc r (by omega))
  · have hi' : i < jc W + 1 := hi
    by_cases c : i = jc W
    · unfold okK
      show upN (jk W) (jc W) kd i ≤ 6 ∧ (upN (jk W) (jc W) kd i < 3 → upN (ja W) (jc W) a i < 64 ∧ inW e (upN (ja W) (jc W) a i) = true) ∧ (upN (jk W) (jc W) kd i = 0 → 1 ≤ upN (jb W) (jc W) b i ∧ upN (jb W) (jc W) b i ≤ 999) ∧ (upN (jk W) (jc W) kd i = 1 → upN (jb W) (jc W) b i < 64 ∧ inW e (upN (jb W) (jc W) b i) = true) ∧ (upN (jk W) (jc W) kd i = 3 → 1 ≤ upN (ja W) (jc W) a i ∧ upN (ja W) (jc W) a i ≤ 99) ∧ (upN (jk W) (jc W) kd i = 5 → upN (ja W) (jc W) a i ≤ 60) ∧ (upN (jk W) (jc W) kd i = 6 → upN (jm W) (jc W) 999 i < i) ∧ (upN (jk W) (jc W) kd i < 5 → upN (jm W) (jc W) 999 i = 999) ∧ (upN (jm W) (jc W) 999 i = 999 ∨ upN (jm W) (jc W) 999 i < jc W + 1)
      rw [c, upN_s, upN_s, upN_s, upN_s]
      exact ⟨by omega, d1, d2, d3, d4, fun q => by omega, fun q => by omega, fun _ => rfl, Or.inl rfl⟩
    · obtain ⟨k1, k2, k3, k4, k5, k6, k7, k8, k9⟩ := g5 i (by omega)
      unfold okK
      show upN (jk W) (jc W) kd i ≤ 6 ∧ (upN (jk W) (jc W) kd i < 3 → upN (ja W) (jc W) a i < 64 ∧ inW e (upN (ja W) (jc W) a i) = true) ∧ (upN (jk W) (jc W) kd i = 0 → 1 ≤ upN (jb W) (jc W) b i ∧ upN (jb W) (jc W) b i ≤ 999) ∧ (upN (jk W) (jc W) kd i = 1 → upN (jb W) (jc W) b i < 64 ∧ inW e (upN (jb W) (jc W) b i) = true) ∧ (upN (jk W) (jc W) kd i = 3 → 1 ≤ upN (ja W) (jc W) a i ∧ upN (ja W) (jc W) a i ≤ 99) ∧ (upN (jk W) (jc W) kd i = 5 → upN (ja W) (jc W) a i ≤ 60) ∧ (upN (jk W) (jc W) kd i = 6 → upN (jm W) (jc W) 999 i < i) ∧ (upN (jk W) (jc W) kd i < 5 → upN (jm W) (jc W) 999 i = 999) ∧ (upN (jm W) (jc W) 999 i = 999 ∨ upN (jm W) (jc W) 999 i < jc W + 1)
      rw [upN_n c, upN_n c, upN_n c, upN_n c]
      exact ⟨k1, k2, k3, k4, k5, k6, k7, k8, k9.imp id (fun w => by omega)⟩
theorem wf_open {B : Nat → Nat} {E : Nat} {e : PL} {W : WS} {P : PS} {a : Nat} (h : wfW B E e W) (z : (jP W).1 = 0) (h1 : okP B E P) (h2 : okF P) (hp : P.1 = 0 → (jP W).2.2 + 2 ≤ P.2.2 ∧ a ≤ 60) (ho : jo W ≠ 6) : wfW B E e (pushW W P (jo W + 1) (upN (js W) (jo W) (jc W)) 5 a 0) := by
  refine ⟨h1, h2, fun q => ?_⟩
  have q' : P.1 = 0 := q
  obtain ⟨g1, g2, g3, g4, g5⟩ := h.2.2 z
  obtain ⟨hp, ha⟩ := hp q'
  have hlo : ∀ k, k ≤ jo W → loS (upN (js W) (jo W) (jc W)) k = loS (js W) k := fun k hk => by
    unfold loS
    by_cases c : k = 0
    · rw [if_pos c, if_pos c]
    · rw [if_neg c, if_neg c, upN_n (by omega)]
  have hc : ∀ r, r < jc W → upN (jk W) (jc W) 5 r = jk W r ∧ upN (jm W) (jc W) 999 r = jm W r := fun r hr => ⟨upN_n (by omega), upN_n (by omega)⟩
  have hlo2 : loS (js W) (jo W) ≤ jc W := (g4 (jo W) (Nat.le_refl _)).le (fun _ _ h => itD_lt h) |> fun w => by unfold hiS at w; rw [if_pos rfl] at w; exact w
  refine ⟨by show 2 * (jc W + 1) ≤ P.2.2; omega, by show jo W + 1 ≤ 6; omega, fun k hk => ?_, fun k hk => ?_, fun i hi => ?_⟩
  · have hk' : k < jo W + 1 := hk
    show upN (js W) (jo W) (jc W) k < jc W + 1 ∧ upN (jk W) (jc W) 5 (upN (js W) (jo W) (jc W) k) = 5 ∧ upN (jm W) (jc W) 999 (upN (js W) (jo W) (jc W) k) = 999 ∧ loS (upN (js W) (jo W) (jc W)) k ≤ upN (js W) (jo W) (jc W) k
    rw [hlo k (by omega)]
    by_cases c : k = jo W
    · rw [c, upN_s, upN_s, upN_s]
      exact ⟨by omega, rfl, rfl, hlo2⟩
    · obtain ⟨f1, f2, f3, f4⟩ := g3 k (by omega)
      rw [upN_n c, upN_n (f := jk W) (by omega), upN_n (f := jm W) (by omega)]
      exact ⟨by omega, f2, f3, f4⟩
  · have hk' : k ≤ jo W + 1 := hk
    show SegI (itD (upN (jk W) (jc W) 5) (upN (jm W) (jc W) 999) (6 - k)) (loS (upN (js W) (jo W) (jc W)) k) (if k = jo W + 1 then jc W + 1 else upN (js W) (jo W) (jc W) k)
    by_cases c : k = jo W + 1
    · have : loS (upN (js W) (jo W) (jc W)) k = jc W + 1 := by
        unfold loS
        rw [if_neg (by omega), show k - 1 = jo W by omega, upN_s]
      rw [if_pos c, this]
      exact SegI.nil
    · rw [if_neg c, hlo k (by omega)]
      have g := g4 k (by omega)
      unfold hiS at g
      by_cases c2 : k = jo W
      · rw [if_pos c2] at g
        rw [show upN (js W) (jo W) (jc W) k = jc W by rw [c2, upN_s]]
        exact seg_congr g (fun r _ hr => hc r hr)
      · rw [if_neg c2] at g
        have := (g3 k (by omega)).1
        rw [upN_n c2]
        exact seg_congr g (fun r _ hr => hc r (by omega))
  · have hi' : i < jc W + 1 := hi
    unfold okK
    show upN (jk W) (jc W) 5 i ≤ 6 ∧ (upN (jk W) (jc W) 5 i < 3 → upN (ja W) (jc W) a i < 64 ∧ inW e (upN (ja W) (jc W) a i) = true) ∧ (upN (jk W) (jc W) 5 i = 0 → 1 ≤ upN (jb W) (jc W) 0 i ∧ upN (jb W) (jc W) 0 i ≤ 999) ∧ (upN (jk W) (jc W) 5 i = 1 → upN (jb W) (jc W) 0 i < 64 ∧ inW e (upN (jb W) (jc W) 0 i) = true) ∧ (upN (jk W) (jc W) 5 i = 3 → 1 ≤ upN (ja W) (jc W) a i ∧ upN (ja W) (jc W) a i ≤ 99) ∧ (upN (jk W) (jc W) 5 i = 5 → upN (ja W) (jc W) a i ≤ 60) ∧ (upN (jk W) (jc W) 5 i = 6 → upN (jm W) (jc W) 999 i < i) ∧ (upN (jk W) (jc W) 5 i < 5 → upN (jm W) (jc W) 999 i = 999) ∧ (upN (jm W) (jc W) 999 i = 999 ∨ upN (jm W) (jc W) 999 i < jc W + 1)
    by_cases c : i = jc W
    · rw [c, upN_s, upN_s, upN_s, upN_s]
      exact ⟨by omega, fun q => by omega, fun q => by omega, fun q => by omega, fun q => by omega, fun _ => ha, fun q => by omega, fun q => by omega, Or.inl rfl⟩
    · obtain ⟨k1, k2, k3, k4, k5, k6, k7, k8, k9⟩ := g5 i (by omega)
      rw [upN_n c, upN_n c, upN_n c, upN_n c]
      exact ⟨k1, k2, k3, k4, k5, k6, k7, k8, k9.imp id (fun w => by omega)⟩
theorem wf_close {B : Nat → Nat} {E : Nat} {e : PL} {W : WS} (h : wfW B E e W) (z : (jP W).1 = 0) (ho : 0 < jo W) : wfW B E e (closeW B E W) := by
  have p1 : okP B E (sgS B E (nI 93) (jP W)) := sg_ok h.1 (by decide)
  refine ⟨sg_ok p1 (by decide), sg_F (sg_F h.2.1), fun q => ?_⟩
  have q' : (sgS B E (nI 59) (sgS B E (nI 93) (jP W))).1 = 0 := q
  have r1 := sg_pos p1 (by decide) q'
  have r2 := sg_pos h.1 (by decide) (sg_0 q')
  obtain ⟨g1, g2, g3, g4, g5⟩ := h.2.2 z
  obtain ⟨o, ho'⟩ : ∃ o, jo W = o + 1 := ⟨jo W - 1, by omega⟩
  obtain ⟨fr, hfr⟩ : ∃ fr, fr = js W o := ⟨_, rfl⟩
  obtain ⟨f1, f2, f3, f4⟩ := g3 o (by omega)
  rw [← hfr] at f1 f2 f3 f4
  have hlt := js_lt (s := js W) (o := jo W) (fun k hk => (g3 k hk).2.2.2)
  have ew : closeW B E W = (sgS B E (nI 59) (sgS B E (nI 93) (jP W)), o, js W, jc W + 1, upN (jk W) (jc W) 6, upN (ja W) (jc W) 0, upN (jb W) (jc W) 0, upN (upN (jm W) fr (jc W)) (jc W) fr) := by
    unfold closeW
    rw [ho', show o + 1 - 1 = o by omega, ← hfr]
  rw [ew]
  have hc : ∀ r, r < jc W → r ≠ fr → upN (jk W) (jc W) 6 r = jk W r ∧ upN (upN (jm W) fr (jc W)) (jc W) fr r = jm W r := fun r hr hn => ⟨upN_n (by omega), by rw [upN_n (by omega), upN_n hn]⟩
  refine ⟨by show 2 * (jc W + 1) ≤ (sgS B E (nI 59) (sgS B E (nI 93) (jP W))).2.2; omega, by show o ≤ 6; omega, fun k hk => ?_, fun k hk => ?_, fun i hi => ?_⟩
  · have hk' : k < o := hk
    obtain ⟨k1, k2, k3, k4⟩ := g3 k (by omega)
    have := hlt o k hk' (by omega)
    obtain ⟨c1, c2⟩ := hc (js W k) k1 (by omega)
    show js W k < jc W + 1 ∧ upN (jk W) (jc W) 6 (js W k) = 5 ∧ upN (upN (jm W) fr (jc W)) (jc W) fr (js W k) = 999 ∧ loS (js W) k ≤ js W k
    rw [c1, c2]
    exact ⟨by omega, k2, k3, k4⟩
  · have hk' : k ≤ o := hk
    have g := g4 k (by omega)
    show SegI (itD (upN (jk W) (jc W) 6) (upN (upN (jm W) fr (jc W)) (jc W) fr) (6 - k)) (loS (js W) k) (if k = o then jc W + 1 else js W k)
    unfold hiS at g
    rw [if_neg (by omega)] at g
    by_cases c : k = o
    · rw [if_pos c]
      have gt := g4 (jo W) (Nat.le_refl _)
      unfold hiS at gt
      rw [if_pos rfl] at gt
      have e1 : loS (js W) (jo W) = fr + 1 := by unfold loS; rw [if_neg (by omega), ho', show o + 1 - 1 = o by omega, hfr]
      rw [e1] at gt
      rw [c, ← hfr] at g
      have s1 := seg_congr (K' := upN (jk W) (jc W) 6) (M' := upN (upN (jm W) fr (jc W)) (jc W) fr) g (fun r _ hr => hc r (by omega) (by omega))
      have s2 := seg_congr (K' := upN (jk W) (jc W) 6) (M' := upN (upN (jm W) fr (jc W)) (jc W) fr) gt (fun r hr hr2 => hc r hr2 (by omega))
      have s3 : itD (upN (jk W) (jc W) 6) (upN (upN (jm W) fr (jc W)) (jc W) fr) (6 - o) fr (jc W + 1) := by
        rw [show 6 - o = (6 - jo W) + 1 by omega]
        refine Or.inr ⟨by rw [upN_n (by omega)]; exact f2, jc W, f1, rfl, upN_s, by rw [upN_n (by omega), upN_s], upN_s, s2⟩
      rw [c]
      exact s1.snoc s3
    · rw [if_neg c]
      have := hlt o k (by omega) (by omega)
      exact seg_congr g (fun r _ hr => hc r (by omega) (by omega))
  · have hi' : i < jc W + 1 := hi
    unfold okK
    show upN (jk W) (jc W) 6 i ≤ 6 ∧ (upN (jk W) (jc W) 6 i < 3 → upN (ja W) (jc W) 0 i < 64 ∧ inW e (upN (ja W) (jc W) 0 i) = true) ∧ (upN (jk W) (jc W) 6 i = 0 → 1 ≤ upN (jb W) (jc W) 0 i ∧ upN (jb W) (jc W) 0 i ≤ 999) ∧ (upN (jk W) (jc W) 6 i = 1 → upN (jb W) (jc W) 0 i < 64 ∧ inW e (upN (jb W) (jc W) 0 i) = true) ∧ (upN (jk W) (jc W) 6 i = 3 → 1 ≤ upN (ja W) (jc W) 0 i ∧ upN (ja W) (jc W) 0 i ≤ 99) ∧ (upN (jk W) (jc W) 6 i = 5 → upN (ja W) (jc W) 0 i ≤ 60) ∧ (upN (jk W) (jc W) 6 i = 6 → upN (upN (jm W) fr (jc W)) (jc W) fr i < i) ∧ (upN (jk W) (jc W) 6 i < 5 → upN (upN (jm W) fr (jc W)) (jc W) fr i = 999) ∧ (upN (upN (jm W) fr (jc W)) (jc W) fr i = 999 ∨ upN (upN (jm W) fr (jc W)) (jc W) fr i < jc W + 1)
    by_cases c : i = jc W
    · rw [c, upN_s, upN_s, upN_s, upN_s]
      exact ⟨by omega, fun q => by omega, fun q => by omega, fun q => by omega, fun q => by omega, fun q => by omega, fun _ => f1, fun q => by omega, Or.inr (by omega)⟩
    · obtain ⟨k1, k2, k3, k4, k5, k6, k7, k8, k9⟩ := g5 i (by omega)
      rw [upN_n c, upN_n c, upN_n c, upN_n c]
      by_cases c2 : i = fr
      · rw [c2, upN_s]
        rw [c2] at k1 k2 k3 k4 k5 k6
        exact ⟨k1, k2, k3, k4, k5, k6, fun q => by omega, fun q => by omega, Or.inr (by omega)⟩
      · rw [upN_n c2]
        exact ⟨k1, k2, k3, k4, k5, k6, k7, k8, k9.imp id (fun w => by omega)⟩
theorem wf_open' {B : Nat → Nat} {E : Nat} {e : PL} {W : WS} (h : wfW B E e W) (z : (jP W).1 = 0) (hk : skS B E (jP W) ≠ 6) (ho : jo W ≠ 6) : wfW B E e (openW B E W) := by
  obtain ⟨i, i1, i2, i3⟩ := sk_w hk
  obtain ⟨-, w2, -⟩ := isW_lt i3 i1 i2 h.1
  have w4 := wd_pos h.1 z
  refine wf_open h z (sg_ok (nu_ok (wd_ok h.1)) (by decide)) (sg_F (nu_F (wd_F h.2.1))) (fun q => ?_) ho
  have r1 := sg_pos (nu_ok (wd_ok h.1)) (by decide) q
  have r2 := nu_pos (wd_ok h.1) (sg_0 q)
  exact ⟨by omega, (nu_0 (sg_0 q)).2.2⟩
theorem wf_simp {B : Nat → Nat} {E : Nat} {e : PL} {W : WS} (he : okPL e) (h : wfW B E e W) (z : (jP W).1 = 0) (hk : skS B E (jP W) < 5) : wfW B E e (simpW B E e W) := by
  obtain ⟨i, i1, i2, i3⟩ := sk_w (B := B) (E := E) (P := jP W) (by omega)
  obtain ⟨-, w2, -⟩ := isW_lt i3 i1 i2 h.1
  have w4 := wd_pos h.1 z
  refine wf_push h z (sg_ok (siP_ok (wd_ok h.1)) (by decide)) (sg_F (siP_F (wd_F h.2.1))) (fun q => ?_) hk (fun q => ?_)
  · have r1 := sg_pos (siP_ok (wd_ok h.1)) (by decide) q
    have r2 := (siP_0 he (wd_ok h.1) (sg_0 q)).2.1
    omega
  · exact (siP_0 he (wd_ok h.1) (sg_0 q)).2.2
theorem wf_step {B : Nat → Nat} {E : Nat} {e : PL} {W : WS} (he : okPL e) (h : wfW B E e W) (z : (jP W).1 = 0) : wfW B E e (stepW B E e W) := by
  unfold stepW
  have := sk_le B E (jP W)
  by_cases c : skS B E (jP W) = 6
  · rw [if_pos c]; exact wf_flt h z (by omega) (by omega)
  rw [if_neg c]
  by_cases c5 : skS B E (jP W) = 5
  · rw [if_pos c5]
    by_cases co : jo W = 6
    · rw [if_pos co]; exact wf_flt h z (by omega) (by omega)
    · rw [if_neg co]; exact wf_open' h z c co
  · rw [if_neg c5]; exact wf_simp he h z (by omega)
theorem wf_fl {B : Nat → Nat} {E : Nat} {e : PL} {W : WS} (he : okPL e) (h : wfW B E e W) : wfW B E e (flW B E e W) := by
  unfold flW
  by_cases z : (jP W).1 = 0
  · rw [if_pos z]
    by_cases c : E ≤ (jP W).2.2
    · rw [if_pos c]
      by_cases o : jo W = 0
      · rw [if_pos o]; exact h
      · rw [if_neg o]; exact wf_flt h z (by omega) (by omega)
    · rw [if_neg c]
      by_cases d : 0 < jo W ∧ hasB B E (jP W) 93 = true
      · rw [if_pos d]; exact wf_close h z d.1
      · rw [if_neg d]; exact wf_step he h z
  · rw [if_neg z]; exact h
theorem wf_ru {B : Nat → Nat} {E : Nat} {e : PL} {W : WS} (he : okPL e) (h : wfW B E e W) : ∀ n, wfW B E e (ruW B E e W n)
  | 0 => h
  | n + 1 => by rw [ruW_s]; exact wf_fl he (wf_ru he h n)
def W0 (B : Nat → Nat) (E : Nat) : WS := (PS0 B E, 0, fun _ => 0, 0, fun _ => 0, fun _ => 0, fun _ => 0, fun _ => 0)
theorem wf_0 (B : Nat → Nat) (E : Nat) (e : PL) : wfW B E e (W0 B E) := by
  refine ⟨(PS0_ok B E).1, (PS0_ok B E).2, fun _ => ⟨Nat.zero_le _, Nat.zero_le _, fun k hk => absurd hk (Nat.not_lt_zero _), fun k hk => ?_, fun i hi => absurd hi (Nat.not_lt_zero _)⟩⟩
  have hk' : k ≤ 0 := hk
  have : k = 0 := by omega
  subst this
  exact SegI.nil
/-- while it goes on each step is an entry -/
theorem ru_c {B : Nat → Nat} {E : Nat} {e : PL} : ∀ k, (jP (ruW B E e (W0 B E) k)).1 = 0 → (jP (ruW B E e (W0 B E) k)).2.2 < E → jc (ruW B E e (W0 B E) k) = k
  | 0, _, _ => rfl
  | k + 1, z, hE => by
    have ih := ru_c (B := B) (E := E) (e := e) k
    rw [ruW_s] at z hE ⊢
    generalize ruW B E e (W0 B E) k = W at *
    unfold flW at z hE ⊢
    by_cases z0 : (jP W).1 = 0
    · rw [if_pos z0] at z hE ⊢
      by_cases c : E ≤ (jP W).2.2
      · rw [if_pos c] at z hE ⊢
        by_cases o : jo W = 0
        · rw [if_pos o] at z hE ⊢; omega
        · rw [if_neg o] at z hE ⊢
          exfalso
          revert z
          show (flS 1 (nI E) (jP W)).1 = 0 → False
          unfold flS
          rw [if_pos z0]
          exact fun w => absurd (show (1 : Nat) = 0 from w) (by decide)
      · have ih := ih z0 (by omega)
        rw [if_neg c] at z hE ⊢
        by_cases d : 0 < jo W ∧ hasB B E (jP W) 93 = true
        · rw [if_pos d]
          show jc W + 1 = k + 1
          omega
        · rw [if_neg d] at z hE ⊢
          unfold stepW at z hE ⊢
          by_cases c6 : skS B E (jP W) = 6
          · rw [if_pos c6] at z
            exfalso
            revert z
            show (flS 1 (nI (jP W).2.2) (jP W)).1 = 0 → False
            unfold flS
            rw [if_pos z0]
            exact fun w => absurd (show (1 : Nat) = 0 from w) (by decide)
          · rw [if_neg c6] at z hE ⊢
            by_cases c5 : skS B E (jP W) = 5
            · rw [if_pos c5] at z hE ⊢
              by_cases co : jo W = 6
              · rw [if_pos co] at z
                exfalso
                revert z
                show (flS 3 (nI (jP W).2.2) (jP W)).1 = 0 → False
                unfold flS
                rw [if_pos z0]
                exact fun w => absurd (show (3 : Nat) = 0 from w) (by decide)
              · rw [if_neg co]
                show jc W + 1 = k + 1
                omega
            · rw [if_neg c5]
              show jc W + 1 = k + 1
              omega
    · rw [if_neg z0] at z
      exact absurd z z0
