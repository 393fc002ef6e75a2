/-! a text is taken: what both do first and last -/
theorem x_ntY {x : zMem} {E M T : Nat} (h1 : E ≤ M) (h2 : E ≤ T) (hM : M < 2 ^ 31) (hT : T < 2 ^ 31) (h : x.1 1 1 = nI T) : F_X9_needText x (nI E) (nI M) = some (0, 0, x) := by
  unfold F_X9_needText F_X9_needText_26
  rw [if_neg (by rw [ya_0, nI_ltI (by omega) (by omega)]; omega), ilt (by omega) (by omega), if_neg (by omega), h, ilt (by omega) (by omega), if_neg (by omega), x_need1, zbx_0]
theorem x_ntN {x : zMem} {M T : Nat} {a : Int32} (hM : M < 2 ^ 31) (hT : T < 2 ^ 31) (h : x.1 1 1 = nI T) (hn : ∀ E, E ≤ M → E ≤ T → a ≠ nI E) : F_X9_needText x a (nI M) = some (1, 0, zI x 0 17 (x.1 0 17 + 1)) := by
  unfold F_X9_needText F_X9_needText_25 F_X9_needText_26
  have bad : ∀ o, o = zbx (F_X9_need x (0 : Int32)) (g := zxp) (fun _ M1 => some (0, 0, M1)) → o = some (1, 0, zI x 0 17 (x.1 0 17 + 1)) := fun o ho => by rw [ho, x_need0]; rfl
  rcases ya_rng a (b := M) hM with ⟨E, hE, rfl⟩ | hb
  · by_cases c : E ≤ T
    · exact absurd rfl (hn E hE c)
    · rw [if_neg (by rw [ya_0, nI_ltI (by omega) (by omega)]; omega), ilt (by omega) (by omega), if_neg (by omega), h, ilt (by omega) (by omega), if_pos (by omega)]
      exact bad _ rfl
  · by_cases c : a < 0
    · rw [if_pos c]; exact bad _ rfl
    · rw [if_neg c, if_pos (hb.resolve_left c)]; exact bad _ rfl
/-- no fault: no place -/
def okF (P : PS) : Prop := P.1 = 0 → P.2.1 = -1
theorem fl_F {c : Nat} {v : Int32} {P : PS} (h : okF P) (hc : c ≠ 0) : okF (flS c v P) := by
  unfold flS
  split
  · exact fun z => absurd z hc
  · exact h
theorem sg_F {B : Nat → Nat} {E : Nat} {c : Int32} {P : PS} (h : okF P) : okF (sgS B E c P) := by
  unfold sgS
  by_cases z : P.1 = 0
  · rw [if_pos z]
    split
    · exact fun _ => h z
    · exact fun w => absurd (show (1 : Nat) = 0 from w) (by decide)
  · rw [if_neg z]; exact h
theorem nu_F {B : Nat → Nat} {E lo hi : Nat} {P : PS} (h : okF P) : okF (nuS B E lo hi P) := by
  unfold nuS
  by_cases z : P.1 = 0
  · rw [if_pos z]
    split
    · split
      · exact fun _ => h z
      · exact fun w => absurd (show (2 : Nat) = 0 from w) (by decide)
    · exact fun w => absurd (show (1 : Nat) = 0 from w) (by decide)
  · rw [if_neg z]; exact h
theorem wd_F {B : Nat → Nat} {E : Nat} {P : PS} (h : okF P) : okF (wdS B E P) := by
  unfold wdS
  by_cases z : P.1 = 0
  · rw [if_pos z]; exact fun _ => h z
  · rw [if_neg z]; exact h
def PS0 (B : Nat → Nat) (E : Nat) : PS := (0, -1, sk B E 0)
theorem PS0_ok (B : Nat → Nat) (E : Nat) : okP B E (PS0 B E) ∧ okF (PS0 B E) := by
  have := sk_p (B := B) (E := E) (a := 0) (Nat.zero_le _)
  exact ⟨⟨by show 0 ≤ 3; omega, fun _ => ⟨this.2.1, sk_sk (Nat.zero_le _)⟩⟩, fun _ => rfl⟩
theorem x_open {x : zMem} {B : Nat → Nat} {E : Nat} (hE : E ≤ 600) (h2 : ∀ k, k < E → x.1 2 k = nI (B k)) :
    ∃ y, F_X8_open x 1 (nI E) = some y ∧ TX y B E (PS0 B E) ∧ y.1 1 1 = 0 ∧ (∀ c, c ≠ 1 → y.1 c = x.1 c) ∧ y.2 = x.2 := by
  unfold F_X8_open
  simp only [zl_eq]
  have e6 : zmax (0 : Int32) (zmin (nI E) (nI 600)) = nI E := by
    rw [ya_min (by omega) (by omega), ya_0, ya_max (by omega) (by omega)]
    congr 1
    omega
  rw [e6]
  refine ⟨_, rfl, ⟨?_, ?_, ?_, fun k hk => ?_, 0, Nat.zero_le _, ?_, fun _ => rfl⟩, ?_, fun c hc => ?_, rfl⟩
  · rw [zI_s (by omega), zI_1, upd_s]; rfl
  · rw [zI_1, upd_s]; rfl
  · rw [zI_s (by omega), zI_s (by omega), zI_s (by omega), zI_s (by omega), zI_1, upd_s]
  · rw [zI_n (by omega), zI_n (by omega), zI_n (by omega), zI_n (by omega), zI_n (by omega)]; exact h2 k hk
  · rw [zI_s (by omega), zI_s (by omega), zI_s (by omega), zI_1, upd_s]; rfl
  · rw [zI_s (by omega), zI_s (by omega), zI_1, upd_s]
  · rw [zI_n hc, zI_n hc, zI_n hc, zI_n hc, zI_n hc]
theorem m_starts {x : zMem} {B : Nat → Nat} {E : Nat} (ht : okT B E) (h2 : ∀ k, k < E → x.1 1 k = nI (B k)) :
    ∃ y, F_X10_starts x (nI E) = some y ∧ TMa y B E (PS0 B E) (PS0 B E).2.2 ∧ y.1 0 1 = 0 ∧ y.1 0 7 = 0 ∧ y.1 0 8 = 0 ∧ (∀ c, c ≠ 0 → y.1 c = x.1 c) ∧ (∀ j, j = 0 ∨ j = 3 ∨ 8 < j → y.1 0 j = x.1 0 j) := by
  unfold F_X10_starts
  simp only [zl_eq]
  generalize hs : (zI (zI (zI (zI (zI (zI (zI x 0 1 0) 0 2 (nI E)) 0 4 0) 0 5 0) 0 6 (-1)) 0 7 0) 0 8 0) = s
  have h : TM s B E (PS0 B E) := by
    rw [← hs]
    refine ⟨?_, ?_, ?_, fun k hk => ?_, 0, Nat.zero_le _, ?_, fun _ => rfl⟩
    · rw [zI_s (by omega), zI_s (by omega), zI_s (by omega), zI_1, upd_s]; rfl
    · rw [zI_s (by omega), zI_s (by omega), zI_1, upd_s]; rfl
    · rw [zI_s (by omega), zI_s (by omega), zI_s (by omega), zI_s (by omega), zI_s (by omega), zI_1, upd_s]
    · rw [zI_n (by omega), zI_n (by omega), zI_n (by omega), zI_n (by omega), zI_n (by omega), zI_n (by omega), zI_n (by omega)]; exact h2 k hk
    · rw [zI_s (by omega), zI_s (by omega), zI_s (by omega), zI_s (by omega), zI_1, upd_s]; rfl
  obtain ⟨y, y1, y2, y3, y4⟩ := m_rest ht h
  rw [y1, zbv_some]
  refine ⟨y, rfl, y4 rfl, ?_, ?_, ?_, fun c hc => ?_, fun j hj => ?_⟩
  · rw [y3.2.1 1 (by omega) (by omega) (by omega), ← hs, zI_s (by omega), zI_s (by omega), zI_s (by omega), zI_s (by omega), zI_s (by omega), zI_s (by omega), zI_1, upd_s]
  · rw [y3.2.1 7 (by omega) (by omega) (by omega), ← hs, zI_s (by omega), zI_1, upd_s]
  · rw [y3.2.1 8 (by omega) (by omega) (by omega), ← hs, zI_1, upd_s]
  · rw [y3.1 c hc, ← hs, zI_n hc, zI_n hc, zI_n hc, zI_n hc, zI_n hc, zI_n hc, zI_n hc]
  · rw [y3.2.1 j (by omega) (by omega) (by omega), ← hs, zI_s (by omega), zI_s (by omega), zI_s (by omega), zI_s (by omega), zI_s (by omega), zI_s (by omega), zI_s (by omega)]
