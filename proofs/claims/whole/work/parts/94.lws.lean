/-! law: the text as a machine of places and codes -/
abbrev ZL := PS × LW
def pshL (L : LW) (ki va : Nat) : LW := (lk L + 1, upN (lki L) (lk L) ki, upN (lva L) (lk L) va)
def okLk (L : LW) (k : Nat) : Prop := (lki L k = 0 ∧ lva L k ≤ 999) ∨ (lki L k = 1 ∧ lva L k ≤ 7) ∨ (2 ≤ lki L k ∧ lki L k ≤ 8 ∧ 2 ≤ htL L k)
def okLh (L : LW) (h : Nat) : Prop := (∀ k, k < lk L → okLk L k) ∧ htL L (lk L) = h
theorem psh_ht (L : LW) (ki va : Nat) {k : Nat} (h : k ≤ lk L) : htL (pshL L ki va) k = htL L k := fN_congr (fun j hj t => by
  show (if upN (lki L) (lk L) ki j < 2 then t + 1 else t - 1) = _
  rw [upN_n (by omega)])
theorem psh_old {L : LW} {ki va k : Nat} (h : k < lk L) (ok : okLk L k) : okLk (pshL L ki va) k := by
  unfold okLk at *
  rw [psh_ht L ki va (Nat.le_of_lt h), show lki (pshL L ki va) k = lki L k from upN_n (by omega), show lva (pshL L ki va) k = lva L k from upN_n (by omega)]
  exact ok
theorem psh_ki (L : LW) (ki va : Nat) : lki (pshL L ki va) (lk L) = ki := upN_s
theorem psh_va (L : LW) (ki va : Nat) : lva (pshL L ki va) (lk L) = va := upN_s
theorem psh_a {L : LW} {ki va h : Nat} (ok : okLh L h) (hk : (ki = 0 ∧ va ≤ 999) ∨ (ki = 1 ∧ va ≤ 7)) : okLh (pshL L ki va) (h + 1) := by
  refine ⟨fun k hkk => ?_, ?_⟩
  · have hk' : k < lk L + 1 := hkk
    by_cases c : k = lk L
    · unfold okLk
      rw [c, psh_ki, psh_va]
      rcases hk with ⟨h1, h2⟩ | ⟨h1, h2⟩
      · exact Or.inl ⟨h1, h2⟩
      · exact Or.inr (Or.inl ⟨h1, h2⟩)
    · exact psh_old (by omega) (ok.1 k (by omega))
  · show htL (pshL L ki va) (lk L + 1) = h + 1
    rw [htL_succ, psh_ki, psh_ht L ki va (Nat.le_refl _), ok.2, if_pos (by omega)]
theorem psh_b {L : LW} {ki h : Nat} (ok : okLh L (h + 2)) (h1 : 2 ≤ ki) (h2 : ki ≤ 8) : okLh (pshL L ki 0) (h + 1) := by
  refine ⟨fun k hkk => ?_, ?_⟩
  · have hk' : k < lk L + 1 := hkk
    by_cases c : k = lk L
    · unfold okLk
      rw [c, psh_ki, psh_ht L ki 0 (Nat.le_refl _), ok.2]
      exact Or.inr (Or.inr ⟨h1, h2, by omega⟩)
    · exact psh_old (by omega) (ok.1 k (by omega))
  · show htL (pshL L ki 0) (lk L + 1) = h + 1
    rw [htL_succ, psh_ki, psh_ht L ki 0 (Nat.le_refl _), ok.2, if_neg (by omega)]
    omega
def psh (z : ZL) (ki va : Nat) : ZL := (z.1, if z.1.1 = 0 then pshL z.2 ki va else z.2)
def hasB (B : Nat → Nat) (E : Nat) (P : PS) (c : Nat) : Bool := decide (P.1 = 0) && (decide (P.2.2 < E) && decide (B P.2.2 = c))
/-- from z to y: d more on the stack, e more places gone than codes made -/
def PG (B : Nat → Nat) (E d e : Nat) (z y : ZL) : Prop :=
  okP B E y.1 ∧ okF y.1 ∧ (y.1.1 = 0 → z.1.1 = 0 ∧ z.1.2.2 + e + lk y.2 ≤ y.1.2.2 + lk z.2 ∧ lk z.2 + d ≤ lk y.2 ∧ ∀ h, okLh z.2 h → okLh y.2 (h + d))
theorem PG.trans {B : Nat → Nat} {E d e d' e' : Nat} {z y w : ZL} (h : PG B E d e z y) (k : PG B E d' e' y w) : PG B E (d + d') (e + e') z w := by
  obtain ⟨h1, h2, h3⟩ := h
  obtain ⟨k1, k2, k3⟩ := k
  refine ⟨k1, k2, fun q => ?_⟩
  obtain ⟨q1, q2, q3, q4⟩ := k3 q
  obtain ⟨p1, p2, p3, p4⟩ := h3 q1
  refine ⟨p1, by omega, by omega, fun i hi => ?_⟩
  have := q4 _ (p4 i hi)
  rw [show i + (d + d') = i + d + d' by omega]
  exact this
theorem PG.le {B : Nat → Nat} {E d e e' : Nat} {z y : ZL} (h : PG B E d e z y) (he : e' ≤ e) : PG B E d e' z y := by
  obtain ⟨h1, h2, h3⟩ := h
  refine ⟨h1, h2, fun q => ?_⟩
  obtain ⟨p1, p2, p3, p4⟩ := h3 q
  exact ⟨p1, by omega, p3, p4⟩
theorem PG.pa {B : Nat → Nat} {E e ki va : Nat} {z y : ZL} (h : PG B E 0 (e + 1) z y) (hk : y.1.1 = 0 → (ki = 0 ∧ va ≤ 999) ∨ (ki = 1 ∧ va ≤ 7)) : PG B E 1 e z (psh y ki va) := by
  obtain ⟨h1, h2, h3⟩ := h
  refine ⟨h1, h2, fun q => ?_⟩
  have q' : y.1.1 = 0 := q
  obtain ⟨p1, p2, p3, p4⟩ := h3 q'
  have e2 : (psh y ki va).2 = pshL y.2 ki va := if_pos q'
  rw [e2]
  have e3 : lk (pshL y.2 ki va) = lk y.2 + 1 := rfl
  have e4 : (psh y ki va).1 = y.1 := rfl
  rw [e3, e4]
  exact ⟨p1, by omega, by omega, fun i hi => psh_a (p4 i hi) (hk q')⟩
theorem PG.pb {B : Nat → Nat} {E e ki : Nat} {z y : ZL} (h : PG B E 2 (e + 1) z y) (k1 : 2 ≤ ki) (k2 : ki ≤ 8) : PG B E 1 e z (psh y ki 0) := by
  obtain ⟨h1, h2, h3⟩ := h
  refine ⟨h1, h2, fun q => ?_⟩
  have q' : y.1.1 = 0 := q
  obtain ⟨p1, p2, p3, p4⟩ := h3 q'
  have e2 : (psh y ki 0).2 = pshL y.2 ki 0 := if_pos q'
  rw [e2]
  have e3 : lk (pshL y.2 ki 0) = lk y.2 + 1 := rfl
  have e4 : (psh y ki 0).1 = y.1 := rfl
  rw [e3, e4]
  exact ⟨p1, by omega, by omega, fun i hi => psh_b (p4 i hi) k1 k2⟩
theorem pg_flt {B : Nat → Nat} {E d e c : Nat} {v : Int32} {z : ZL} (h1 : okP B E z.1) (h2 : okF z.1) (hc : c ≠ 0) (hc3 : c ≤ 3) : PG B E d e z (flS c v z.1, z.2) :=
  ⟨fl_ok h1 hc3 hc, fl_F h2 hc, fun q => by
    exfalso
    revert q
    show (flS c v z.1).1 = 0 → False
    unfold flS
    split
    · exact hc
    · next w => exact w⟩
theorem sg_pos {B : Nat → Nat} {E : Nat} {c : Int32} {P : PS} (h : okP B E P) (hc : c ≠ -1) (q : (sgS B E c P).1 = 0) : P.2.2 + 1 ≤ (sgS B E c P).2.2 := by
  have z := sg_0 q
  have hz := h.2 z
  unfold sgS at q ⊢
  rw [if_pos z] at q ⊢
  by_cases d : byS B E P.2.2 = c
  · rw [if_pos d]
    have hE : P.2.2 < E := by
      unfold byS at d
      by_cases e : P.2.2 < E
      · exact e
      · rw [if_neg e] at d; exact absurd d.symm hc
    exact (sk_p (B := B) (E := E) (a := P.2.2 + 1) (by omega)).1
  · rw [if_neg d] at q
    exact absurd (show (1 : Nat) = 0 from q) (by decide)
theorem pg_sg {B : Nat → Nat} {E c : Nat} {z : ZL} (h1 : okP B E z.1) (h2 : okF z.1) (hc : c < 256) : PG B E 0 1 z (sgS B E (nI c) z.1, z.2) := by
  have hc' : nI c ≠ -1 := fun w => (ya_ne_m1 (a := c) (by omega)).mp w
  refine ⟨sg_ok h1 hc', sg_F h2, fun q => ?_⟩
  have := sg_pos h1 hc' q
  exact ⟨sg_0 q, by show z.1.2.2 + 1 + lk z.2 ≤ (sgS B E (nI c) z.1).2.2 + lk z.2; omega, Nat.le_refl _, fun _ h => h⟩
theorem zLen1 : ∀ i : Fin 19, 1 ≤ i.1 → 1 ≤ zLen.getD i.1 0 := by decide +kernel
theorem isW_lt {B : Nat → Nat} {E i : Nat} {P : PS} (h : isW i B E P = true) (h1 : 1 ≤ i) (h2 : i < 19) (ok : okP B E P) : P.1 = 0 ∧ P.2.2 < wE B E P.2.2 ∧ isLt B E P.2.2 = true := by
  unfold isW at h
  rw [Bool.and_eq_true, decide_eq_true_eq] at h
  obtain ⟨z, h⟩ := h
  unfold isWd at h
  rw [Bool.and_eq_true, decide_eq_true_eq] at h
  have hl := zLen1 ⟨i, h2⟩ h1
  have hl' : 1 ≤ zLen.getD i 0 := hl
  have h3 : P.2.2 < wE B E P.2.2 := by omega
  exact ⟨z, h3, isLt_of (ok.2 z).1 (Nat.le_refl _) h3⟩
theorem lt_no {B : Nat → Nat} {E a : Nat} (h : isLt B E a = true) : isDg B E a = false ∧ B a ≠ 40 := by
  unfold isLt at h
  simp only [Bool.and_eq_true, decide_eq_true_eq] at h
  refine ⟨?_, by omega⟩
  unfold isDg
  rw [decide_eq_false (p := B a ≤ 57) (by omega), Bool.and_false, Bool.and_false]
theorem wd_pos {B : Nat → Nat} {E : Nat} {P : PS} (ok : okP B E P) (z : P.1 = 0) : wE B E P.2.2 ≤ (wdS B E P).2.2 := by
  unfold wdS
  rw [if_pos z]
  exact (sk_p (B := B) (wE_p (B := B) (ok.2 z).1).2.1).1
theorem wd_0' {B : Nat → Nat} {E : Nat} {P : PS} (q : (wdS B E P).1 = 0) : P.1 = 0 := by
  unfold wdS at q
  by_cases z : P.1 = 0
  · exact z
  · rw [if_neg z] at q; exact q
theorem pg_wd {B : Nat → Nat} {E i : Nat} {z : ZL} (h1 : okP B E z.1) (h2 : okF z.1) (hw : isW i B E z.1 = true) (k1 : 1 ≤ i) (k2 : i < 19) : PG B E 0 1 z (wdS B E z.1, z.2) := by
  obtain ⟨w1, w2, w3⟩ := isW_lt hw k1 k2 h1
  have := wd_pos h1 w1
  refine ⟨wd_ok h1, wd_F h2, fun q => ⟨w1, ?_, Nat.le_refl _, fun _ h => h⟩⟩
  show z.1.2.2 + 1 + lk z.2 ≤ (wdS B E z.1).2.2 + lk z.2
  omega
theorem nu_pos {B : Nat → Nat} {E lo hi : Nat} {P : PS} (ok : okP B E P) (q : (nuS B E lo hi P).1 = 0) : P.2.2 + 1 ≤ (nuS B E lo hi P).2.2 := by
  have z := (nu_0 q).1
  have hz := ok.2 z
  unfold nuS at q ⊢
  rw [if_pos z] at q ⊢
  by_cases d : isDg B E P.2.2 = true
  · rw [if_pos d] at q ⊢
    by_cases c : lo ≤ (dgS B E P.2.2).2 ∧ (dgS B E P.2.2).2 ≤ hi
    · rw [if_pos c]
      unfold isDg at d
      simp only [Bool.and_eq_true, decide_eq_true_eq] at d
      have e : dgS B E P.2.2 = dgF B (E - (P.2.2 + 1)) (P.2.2 + 1) (10 * 0 + (B P.2.2 - 48)) := by
        unfold dgS
        rw [show E - P.2.2 = (E - (P.2.2 + 1)) + 1 by omega]
        show (if 48 ≤ B P.2.2 ∧ B P.2.2 ≤ 57 then dgF B (E - (P.2.2 + 1)) (P.2.2 + 1) (10 * 0 + (B P.2.2 - 48)) else (P.2.2, 0)) = _
        rw [if_pos d.2]
      have h3 := dgF_p (B := B) (E - (P.2.2 + 1)) (P.2.2 + 1) (10 * 0 + (B P.2.2 - 48))
      rw [← e] at h3
      have := (sk_p (B := B) (E := E) (a := (dgS B E P.2.2).1) (by omega)).1
      show P.2.2 + 1 ≤ sk B E (dgS B E P.2.2).1
      omega
    · rw [if_neg c] at q
      exact absurd (show (2 : Nat) = 0 from q) (by decide)
  · rw [if_neg d] at q
    exact absurd (show (1 : Nat) = 0 from q) (by decide)
theorem pg_nu {B : Nat → Nat} {E lo hi : Nat} {z : ZL} (h1 : okP B E z.1) (h2 : okF z.1) : PG B E 0 1 z (nuS B E lo hi z.1, z.2) := by
  refine ⟨nu_ok h1, nu_F h2, fun q => ?_⟩
  have := nu_pos h1 q
  exact ⟨(nu_0 q).1, by show z.1.2.2 + 1 + lk z.2 ≤ (nuS B E lo hi z.1).2.2 + lk z.2; omega, Nat.le_refl _, fun _ h => h⟩
/-! the machine -/
def nmS (B : Nat → Nat) (E : Nat) (P : PS) : Nat := if isW 7 B E P = true then 0 else if isW 8 B E P = true then 1 else if isW 9 B E P = true then 2 else if isW 10 B E P = true then 3 else if isW 2 B E P = true then 4 else if isW 11 B E P = true then 5 else if isW 12 B E P = true then 6 else if isW 13 B E P = true then 7 else 8
def twE (B : Nat → Nat) (E : Nat) (u : ZL → ZL) (z : ZL) : ZL :=
  (sgS B E (nI 93) (u (sgS B E (nI 44) (u (sgS B E (nI 91) (wdS B E z.1), z.2)).1, (u (sgS B E (nI 91) (wdS B E z.1), z.2)).2)).1, (u (sgS B E (nI 44) (u (sgS B E (nI 91) (wdS B E z.1), z.2)).1, (u (sgS B E (nI 91) (wdS B E z.1), z.2)).2)).2)
def twS (B : Nat → Nat) (E f : Nat) (u : ZL → ZL) (z : ZL) (k : Nat) : ZL := if f = 0 then (flS 3 (nI z.1.2.2) z.1, z.2) else psh (twE B E u z) k 0
def paS (B : Nat → Nat) (E f : Nat) (u : ZL → ZL) (z : ZL) : ZL := if f = 0 then (flS 3 (nI z.1.2.2) z.1, z.2) else (sgS B E (nI 41) (u (sgS B E (nI 40) z.1, z.2)).1, (u (sgS B E (nI 40) z.1, z.2)).2)
def unS (B : Nat → Nat) (E f : Nat) (u : ZL → ZL) (z : ZL) : ZL :=
  if z.1.1 = 0 then (if isDg B E z.1.2.2 = true then psh (nuS B E 0 999 z.1, z.2) 0 (nuV B E z.1) else if hasB B E z.1 40 = true then paS B E f u z else if isW 5 B E z.1 = true then twS B E f u z 7 else if isW 6 B E z.1 = true then twS B E f u z 8
    else if nmS B E z.1 = 8 then (flS 1 (nI z.1.2.2) z.1, z.2) else psh (wdS B E z.1, z.2) 1 (nmS B E z.1)) else z
def jn (B : Nat → Nat) (E : Nat) (u : ZL → ZL) (c k : Nat) (z : ZL) : ZL := psh (u (sgS B E (nI c) z.1, z.2)) k 0
def stP (B : Nat → Nat) (E : Nat) (u : ZL → ZL) (z : ZL) : ZL := if hasB B E z.1 42 = true then jn B E u 42 4 z else if hasB B E z.1 47 = true then jn B E u 47 5 z else if hasB B E z.1 37 = true then jn B E u 37 6 z else z
def stM (B : Nat → Nat) (E : Nat) (u : ZL → ZL) (z : ZL) : ZL := if hasB B E z.1 43 = true then jn B E u 43 2 z else if hasB B E z.1 45 = true then jn B E u 45 3 z else z
def itS (st : ZL → ZL) (z : ZL) (n : Nat) : ZL := fN (fun _ z => st z) z n
def prS (B : Nat → Nat) (E : Nat) (u : ZL → ZL) (z : ZL) : ZL := itS (stP B E u) (u z) 150
def smS (B : Nat → Nat) (E : Nat) (u : ZL → ZL) (z : ZL) : ZL := itS (stM B E u) (u z) 150
def suS (B : Nat → Nat) (E : Nat) : Nat → ZL → ZL
  | 0 => smS B E (prS B E (unS B E 0 id))
  | f + 1 => smS B E (prS B E (unS B E (f + 1) (suS B E f)))
def GG (B : Nat → Nat) (E : Nat) (g : ZL → ZL) : Prop := ∀ z, okP B E z.1 → okF z.1 → PG B E 1 0 z (g z) ∧ (z.1.1 ≠ 0 → g z = z)
theorem itS_s (st : ZL → ZL) (z : ZL) (n : Nat) : itS st z (n + 1) = st (itS st z n) := rfl
theorem itS_stop {st : ZL → ZL} {z : ZL} {k : Nat} (h : st (itS st z k) = itS st z k) : ∀ j, k ≤ j → itS st z j = itS st z k
  | 0, hj => by rw [show k = 0 by omega]
  | j + 1, hj => by
    by_cases c : k = j + 1
    · rw [c]
    · rw [itS_s, itS_stop h j (by omega), h]
theorem hasB_0 {B : Nat → Nat} {E c : Nat} {P : PS} (h : hasB B E P c = true) : P.1 = 0 ∧ P.2.2 < E ∧ B P.2.2 = c := by
  unfold hasB at h
  simp only [Bool.and_eq_true, decide_eq_true_eq] at h
  exact h
theorem hasB_n {B : Nat → Nat} {E c : Nat} {P : PS} (h : P.1 ≠ 0) : hasB B E P c = false := by
  unfold hasB
  rw [decide_eq_false h, Bool.false_and]
theorem pg_jn {B : Nat → Nat} {E c k : Nat} {u : ZL → ZL} {s z : ZL} (hu : GG B E u) (h : PG B E 1 0 s z) (hc : c < 256) (k1 : 2 ≤ k) (k2 : k ≤ 8) : PG B E 1 0 s (jn B E u c k z) := by
  have a := pg_sg (B := B) (E := E) (c := c) (z := z) h.1 h.2.1 hc
  have b := (hu _ a.1 a.2.1).1
  exact PG.pb ((h.trans a).trans b) k1 k2
theorem pg_stP {B : Nat → Nat} {E : Nat} {u : ZL → ZL} {s z : ZL} (hu : GG B E u) (h : PG B E 1 0 s z) : PG B E 1 0 s (stP B E u z) := by
  unfold stP
  split
  · exact pg_jn hu h (by omega) (by omega) (by omega)
  · split
    · exact pg_jn hu h (by omega) (by omega) (by omega)
    · split
      · exact pg_jn hu h (by omega) (by omega) (by omega)
      · exact h
theorem pg_stM {B : Nat → Nat} {E : Nat} {u : ZL → ZL} {s z : ZL} (hu : GG B E u) (h : PG B E 1 0 s z) : PG B E 1 0 s (stM B E u z) := by
  unfold stM
  split
  · exact pg_jn hu h (by omega) (by omega) (by omega)
  · split
    · exact pg_jn hu h (by omega) (by omega) (by omega)
    · exact h
theorem stP_n {B : Nat → Nat} {E : Nat} {u : ZL → ZL} {z : ZL} (h : z.1.1 ≠ 0) : stP B E u z = z := by
  unfold stP
  rw [hasB_n h, hasB_n h, hasB_n h, if_neg (by decide), if_neg (by decide), if_neg (by decide)]
theorem stM_n {B : Nat → Nat} {E : Nat} {u : ZL → ZL} {z : ZL} (h : z.1.1 ≠ 0) : stM B E u z = z := by
  unfold stM
  rw [hasB_n h, hasB_n h, if_neg (by decide), if_neg (by decide)]
theorem pg_itP {B : Nat → Nat} {E : Nat} {u : ZL → ZL} {s z : ZL} (hu : GG B E u) (h : PG B E 1 0 s z) : ∀ n, PG B E 1 0 s (itS (stP B E u) z n)
  | 0 => h
  | n + 1 => by rw [itS_s]; exact pg_stP hu (pg_itP hu h n)
theorem pg_itM {B : Nat → Nat} {E : Nat} {u : ZL → ZL} {s z : ZL} (hu : GG B E u) (h : PG B E 1 0 s z) : ∀ n, PG B E 1 0 s (itS (stM B E u) z n)
  | 0 => h
  | n + 1 => by rw [itS_s]; exact pg_stM hu (pg_itM hu h n)
theorem gg_pr {B : Nat → Nat} {E : Nat} {u : ZL → ZL} (hu : GG B E u) : GG B E (prS B E u) := fun z h1 h2 => ⟨pg_itP hu (hu z h1 h2).1 150, fun hz => by
  have e := (hu z h1 h2).2 hz
  unfold prS
  rw [e, itS_stop (k := 0) (stP_n hz) 150 (by omega)]
  rfl⟩
theorem gg_sm {B : Nat → Nat} {E : Nat} {u : ZL → ZL} (hu : GG B E u) : GG B E (smS B E u) := fun z h1 h2 => ⟨pg_itM hu (hu z h1 h2).1 150, fun hz => by
  have e := (hu z h1 h2).2 hz
  unfold smS
  rw [e, itS_stop (k := 0) (stM_n hz) 150 (by omega)]
  rfl⟩
theorem nm_le (B : Nat → Nat) (E : Nat) (P : PS) : nmS B E P ≤ 8 := by
  unfold nmS
  repeat' split
  all_goals omega
theorem nm_w {B : Nat → Nat} {E : Nat} {P : PS} (h : nmS B E P ≠ 8) : ∃ i, 1 ≤ i ∧ i < 19 ∧ isW i B E P = true := by
  unfold nmS at h
  by_cases c7 : isW 7 B E P = true
  · exact ⟨7, by omega, by omega, c7⟩
  by_cases c8 : isW 8 B E P = true
  · exact ⟨8, by omega, by omega, c8⟩
  by_cases c9 : isW 9 B E P = true
  · exact ⟨9, by omega, by omega, c9⟩
  by_cases c10 : isW 10 B E P = true
  · exact ⟨10, by omega, by omega, c10⟩
  by_cases c2 : isW 2 B E P = true
  · exact ⟨2, by omega, by omega, c2⟩
  by_cases c11 : isW 11 B E P = true
  · exact ⟨11, by omega, by omega, c11⟩
  by_cases c12 : isW 12 B E P = true
  · exact ⟨12, by omega, by omega, c12⟩
  by_cases c13 : isW 13 B E P = true
  · exact ⟨13, by omega, by omega, c13⟩
  rw [if_neg c7, if_neg c8, if_neg c9, if_neg c10, if_neg c2, if_neg c11, if_neg c12, if_neg c13] at h
  exact absurd rfl h
theorem pg_tw {B : Nat → Nat} {E f i k : Nat} {u : ZL → ZL} {z : ZL} (hu : f ≠ 0 → GG B E u) (h1 : okP B E z.1) (h2 : okF z.1) (hw : isW i B E z.1 = true) (k1 : 1 ≤ i) (k2 : i < 19) (k3 : 2 ≤ k) (k4 : k ≤ 8) : PG B E 1 0 z (twS B E f u z k) := by
  unfold twS
  by_cases c : f = 0
  · rw [if_pos c]; exact pg_flt h1 h2 (by omega) (by omega)
  · rw [if_neg c]
    have hu := hu c
    have a1 := pg_wd h1 h2 hw k1 k2
    have a2 := pg_sg (B := B) (E := E) (c := 91) (z := (wdS B E z.1, z.2)) a1.1 a1.2.1 (by omega)
    have a3 := (hu _ a2.1 a2.2.1).1
    have a4 := pg_sg (B := B) (E := E) (c := 44) a3.1 a3.2.1 (by omega)
    have a5 := (hu _ a4.1 a4.2.1).1
    have a6 := pg_sg (B := B) (E := E) (c := 93) a5.1 a5.2.1 (by omega)
    have a7 : PG B E 2 4 z (twE B E u z) := ((((a1.trans a2).trans a3).trans a4).trans a5).trans a6
    exact (PG.pb a7 k3 k4).le (by omega)
theorem gg_un {B : Nat → Nat} {E f : Nat} {u : ZL → ZL} (hu : f ≠ 0 → GG B E u) : GG B E (unS B E f u) := by
  intro z h1 h2
  unfold unS
  by_cases c : z.1.1 = 0
  · rw [if_pos c]
    refine ⟨?_, fun w => absurd c w⟩
    by_cases c1 : isDg B E z.1.2.2 = true
    · rw [if_pos c1]
      exact PG.pa (pg_nu (lo := 0) (hi := 999) h1 h2) (fun q => Or.inl ⟨rfl, (nu_0 q).2.2⟩)
    rw [if_neg c1]
    by_cases c2 : hasB B E z.1 40 = true
    · rw [if_pos c2]
      unfold paS
      by_cases cf : f = 0
      · rw [if_pos cf]; exact pg_flt h1 h2 (by omega) (by omega)
      · rw [if_neg cf]
        have hu := hu cf
        have a2 := pg_sg (B := B) (E := E) (c := 40) (z := z) h1 h2 (by omega)
        have a3 := (hu _ a2.1 a2.2.1).1
        have a4 := pg_sg (B := B) (E := E) (c := 41) a3.1 a3.2.1 (by omega)
        exact ((a2.trans a3).trans a4).le (by omega)
    rw [if_neg c2]
    by_cases c3 : isW 5 B E z.1 = true
    · rw [if_pos c3]; exact pg_tw hu h1 h2 c3 (by omega) (by omega) (by omega) (by omega)
    rw [if_neg c3]
    by_cases c4 : isW 6 B E z.1 = true
    · rw [if_pos c4]; exact pg_tw hu h1 h2 c4 (by omega) (by omega) (by omega) (by omega)
    rw [if_neg c4]
    by_cases c5 : nmS B E z.1 = 8
    · rw [if_pos c5]; exact pg_flt h1 h2 (by omega) (by omega)
    · rw [if_neg c5]
      obtain ⟨i, i1, i2, i3⟩ := nm_w c5
      have := nm_le B E z.1
      exact PG.pa (pg_wd h1 h2 i3 i1 i2) (fun _ => Or.inr ⟨rfl, by omega⟩)
  · rw [if_neg c]
    exact ⟨⟨h1, h2, fun q => absurd q c⟩, fun _ => rfl⟩
theorem gg_su {B : Nat → Nat} {E : Nat} : ∀ f, GG B E (suS B E f)
  | 0 => gg_sm (gg_pr (gg_un (fun w => absurd rfl w)))
  | f + 1 => gg_sm (gg_pr (gg_un (fun _ => gg_su f)))
