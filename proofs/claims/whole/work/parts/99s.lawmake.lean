/-! THE LAW: both objects and the out row are made -/
set_option maxRecDepth 100000 in
theorem lwd_124 : Cond.classLink "SunnyPansLaw" 8 "SunnyPans" ∈ tbG := tw1 24 rfl rfl
set_option maxRecDepth 100000 in
theorem lwd_125 : Cond.instantiable "SunnyPans" 19 ∈ tbG := tw1 25 rfl rfl
set_option maxRecDepth 100000 in
theorem lwd_126 : Cond.methodLink "SunnyPansLaw" 118 yX9_init ∈ tbG := tw1 26 rfl rfl
set_option maxRecDepth 100000 in
theorem lwd_128 : Cond.code yX9_init cX9_init 2 none ∈ tbG := tw1 28 rfl rfl
set_option maxRecDepth 100000 in
theorem lwd_127 : Cond.instanceMethod yX9_init ∈ tbG := tw1 27 rfl rfl
set_option maxRecDepth 100000 in
theorem lwd_1376 : Cond.classLink "SunnyPansLaw" 119 "SunnyPansModel" ∈ tbG := tw6 76 rfl rfl
set_option maxRecDepth 100000 in
theorem lwd_1377 : Cond.instantiable "SunnyPansModel" 40 ∈ tbG := tw6 77 rfl rfl
set_option maxRecDepth 100000 in
theorem lwd_1378 : Cond.methodLink "SunnyPansLaw" 121 yX10_init ∈ tbG := tw6 78 rfl rfl
set_option maxRecDepth 100000 in
theorem lwd_1380 : Cond.code yX10_init cX10_init 1 none ∈ tbG := tw6 80 rfl rfl
set_option maxRecDepth 100000 in
theorem lwd_1379 : Cond.instanceMethod yX10_init ∈ tbG := tw6 79 rfl rfl
theorem dL_law__0 : decode code 0 = .ok (.new 8, 3) := by decide +kernel
theorem dL_law__3 : decode code 3 = .ok (.dup, 1) := by decide +kernel
theorem dL_law__4 : decode code 4 = .ok (.invokespecial 118, 3) := by decide +kernel
theorem dL_law__7 : decode code 7 = .ok (.astore_n 1, 1) := by decide +kernel
theorem dL_law__8 : decode code 8 = .ok (.new 119, 3) := by decide +kernel
theorem dL_law__11 : decode code 11 = .ok (.dup, 1) := by decide +kernel
theorem dL_law__12 : decode code 12 = .ok (.invokespecial 121, 3) := by decide +kernel
theorem dL_law__15 : decode code 15 = .ok (.astore_n 2, 1) := by decide +kernel
theorem dL_law__16 : decode code 16 = .ok (.iconst 1, 1) := by decide +kernel
theorem dL_law__17 : decode code 17 = .ok (.newarray .long, 2) := by decide +kernel
theorem dL_law__19 : decode code 19 = .ok (.astore_n 3, 1) := by decide +kernel
theorem dL_law__20 : decode code 20 = .ok (.iconst 0, 1) := by decide +kernel
theorem dL_law__21 : decode code 21 = .ok (.istore 4, 2) := by decide +kernel
theorem zNew_M00 {n k : Nat} : zNew M00 n k = M00 := by
  unfold zNew M00
  simp only [ite_self]
def fsX9 : List Value := [.null, .null, .null, .null, .null, .null, .null, .null, .null, .null, .null, .null, .null, .null, .int 0, .int 0, .int 0, .int 0, .int 0]
def fsX10 : List Value := [.int 0, .int 0, .int 0, .int 0, .int 0, .int 0, .int 0, .int 0, .int 0, .null, .null, .null, .null, .null, .null, .null, .int 0, .int 0, .null, .null, .null, .null, .null, .null, .null, .int 0, .null, .null, .null, .null, .int 0, .int 0, .int 0, .int 0, .int 0, .int 0, .int 0, .null, .null, .int 0]
theorem fsX9_ok : ∀ j, j < 19 → defaultValue (tyX9 j) = vp_V fsX9 j := fun j hj => match j, hj with | 0, _ => rfl | 1, _ => rfl | 2, _ => rfl | 3, _ => rfl | 4, _ => rfl | 5, _ => rfl | 6, _ => rfl | 7, _ => rfl | 8, _ => rfl | 9, _ => rfl | 10, _ => rfl | 11, _ => rfl | 12, _ => rfl | 13, _ => rfl | 14, _ => rfl | 15, _ => rfl | 16, _ => rfl | 17, _ => rfl | 18, _ => rfl | k + 19, h => absurd h (by omega)
theorem fsX10_ok : ∀ j, j < 40 → defaultValue (tyX10 j) = vp_V fsX10 j := fun j hj => match j, hj with | 0, _ => rfl | 1, _ => rfl | 2, _ => rfl | 3, _ => rfl | 4, _ => rfl | 5, _ => rfl | 6, _ => rfl | 7, _ => rfl | 8, _ => rfl | 9, _ => rfl | 10, _ => rfl | 11, _ => rfl | 12, _ => rfl | 13, _ => rfl | 14, _ => rfl | 15, _ => rfl | 16, _ => rfl | 17, _ => rfl | 18, _ => rfl | 19, _ => rfl | 20, _ => rfl | 21, _ => rfl | 22, _ => rfl | 23, _ => rfl | 24, _ => rfl | 25, _ => rfl | 26, _ => rfl | 27, _ => rfl | 28, _ => rfl | 29, _ => rfl | 30, _ => rfl | 31, _ => rfl | 32, _ => rfl | 33, _ => rfl | 34, _ => rfl | 35, _ => rfl | 36, _ => rfl | 37, _ => rfl | 38, _ => rfl | 39, _ => rfl | k + 40, h => absurd h (by omega)
theorem cjX9 : zCJ "SunnyPansLaw" 118 yX9_init cX9_init 2 := ⟨lwd_126, lwd_101, lwd_128, lwd_127, rfl, by decide +kernel⟩
theorem cjX10 : zCJ "SunnyPansLaw" 121 yX10_init cX10_init 1 := ⟨lwd_1378, lwd_111, lwd_1380, lwd_1379, rfl, by decide +kernel⟩
set_option maxRecDepth 100000 in
theorem lwd_212 : Cond.arrayClass .long ∈ tbG := tw1 112 rfl rfl
section LS
variable {p : Program} {l : Launch} {e : Env} {s : State} {m : MethodId} {args : Array Value} {below : List Frame} {meth : Method} {c : Code} {Q : State → Prop} {G : zG} {lv : List (Nat × Value)} {st : List Value}
set_option maxRecDepth 100000 in
/-- the program's object -/
theorem law_mkX (cx : lX p l s m args meth c G (fun q => s.heap.size ≤ q) "SunnyPansLaw" code 7) {Mx : zMem} (hF : F_X9_init M00 = some Mx) (kk : lJ (zHP G shX (adX s.heap.size) 461 Mx) p l e room_1 s m args below meth c (fun q => s.heap.size ≤ q) 7 Q 461 17995 7 lv [.ref (adX s.heap.size 0)]) : lJ (fun H => H = s.heap) p l e room_1 s m args below meth c (fun q => s.heap.size ≤ q) 7 Q 0 0 0 lv [] := by
  intro H locs ls hP hS hl
  have cz : ∀ sh n, zX p l s m args meth c G sh (zad s.heap.size) n (fun q => s.heap.size ≤ q) "SunnyPansLaw" code 7 := fun sh n => ⟨cx.1, cx.2.1, cx.2.2.1, ⟨fun i j _ _ h => Nat.add_left_cancel h, fun k _ => Nat.le_add_right _ _⟩, cx.2.2.2, fun q hq => by
    rcases hq with ⟨k, -, rfl⟩ | hq
    · exact Nat.le_add_right _ _
    · exact hq⟩
  have hz : zHP G shX (zad s.heap.size) 0 M00 H := fun k q hk => absurd (zws_dom hk).1 (Nat.not_lt_zero _)
  have K : zJ p l e room_1 s m args below meth c G shX (zad s.heap.size) 0 (fun q => s.heap.size ≤ q) 7 Q 0 0 M00 0 lv [] := by
    refine z_newObj (ci := 9) (cd := 50) (cz _ _) rfl (Or.inr rfl) rfl tyX9 tyX9_ok uw_9 lwd_124 lwd_125 lwd_101 (fs := fsX9) fsX9_ok rfl ⟨Nat.le_of_ble_eq_true rfl, Nat.le_of_ble_eq_true rfl⟩ dL_law__0 ?_
    rw [zNew_M00]
    refine z_dup (cz _ _) dL_law__3 rfl ?_
    refine z_callCI (cz _ _) rfl (Or.inl (by omega)) (c_X9_init l rfl hF) cjX9 ⟨rfl, rfl, Nat.le_of_ble_eq_true rfl, Nat.le_of_ble_eq_true rfl⟩ ⟨Nat.le_of_ble_eq_true rfl, Nat.le_of_ble_eq_true rfl⟩ (Nat.le_of_ble_eq_true rfl) dL_law__4 ?_
    intro H1 locs1 ls1 h1 h2 h3
    exact kk H1 locs1 ls1 h1 h2 h3
  exact K H locs ls hz hS hl
set_option maxRecDepth 100000 in
/-- the reference's object -/
theorem law_mkM (cx : lX p l s m args meth c G (fun q => s.heap.size ≤ q) "SunnyPansLaw" code 7) {Mx Mm : zMem} (hF : F_X10_init M00 = some Mm) (kk : lJ (fun H => zHP G shX (adX s.heap.size) 461 Mx H ∧ zHP G shM (adM s.heap.size) 540 Mm H) p l e room_1 s m args below meth c (fun q => s.heap.size ≤ q) 7 Q 1001 38172 15 lv [.ref (adM s.heap.size 0)]) : lJ (zHP G shX (adX s.heap.size) 461 Mx) p l e room_1 s m args below meth c (fun q => s.heap.size ≤ q) 7 Q 461 17995 8 lv [] := by
  intro H locs ls hP hS hl
  refine zWsz (n := 461) hP hS rfl (Or.inl (by omega)) fun hsz => ?_
  have hKn := cx.2.2.1.1.1 10 _ rfl
  refine W.newcK cx.1.1 cx.1.2.1 cx.1.2.2.2.1 (cx.1.2.2.2.2 _ lwd_1376) (cx.1.2.2.2.2 _ lwd_1377) (cx.1.2.2.2.2 _ lwd_111) rfl dL_law__8 (Nat.le_of_ble_eq_true rfl) (Nat.le_of_ble_eq_true rfl) hKn.2.1 hsz (fun H1 kC hkC e1 z1 o1 => ?_)
  have hX1 : zHP G shX (adX s.heap.size) 461 Mx H1 := zHP_kept hP (fun q hq => o1 q (by omega))
  have hM1 : zHP G (zsh shM 0 51) (zad (s.heap.size + 461)) (0 + 1) M00 H1 := by
    intro k q hk
    obtain ⟨h1, rfl⟩ := zws_dom hk
    rw [show k = 0 by omega]
    exact ⟨_, rfl, (u_born tyX10 cx.1.2.2.2.2 uw_10 hKn hkC e1 tyX10_ok).to fsX10_ok⟩
  have hS1 : va_S (fun q => s.heap.size ≤ q) s.heap H1 locs := ⟨Nat.le_trans hS.1 (by omega), fun x h1 h2 => (o1 x (by have := hS.1; omega)).trans (hS.2.1 x h1 h2), hS.2.2⟩
  refine lv_dup cx.1.1 cx.1.2.1 dL_law__11 rfl ?_
  have hB : ∀ q, zA (zad (s.heap.size + 461)) (0 + 1) (s.heap.size + 461 + (0 + 1)) q → s.heap.size ≤ q := fun q hq => by
    rcases hq with ⟨k, -, rfl⟩ | hq
    · show s.heap.size ≤ s.heap.size + 461 + k; omega
    · exact Nat.le_trans (by omega) hq
  refine l_go (st0 := [.ref (zad (s.heap.size + 461) 0), .ref (adM s.heap.size 0)]) (out := none) (P' := fun H => zHP G shX (adX s.heap.size) 461 Mx H ∧ zHP G shM (adM s.heap.size) 540 Mm H) (va_runI (As := []) (rest := [.ref (adM s.heap.size 0)]) cx.1 (c_X10_init l rfl hF) (cwI 0 cx.1.2.2.2.2 (zGood cjX10.2.2.1) rfl rfl rfl (cx.1.2.2.2.2 _ cjX10.2.1) (cx.1.2.2.2.2 _ cjX10.1) (cx.1.2.2.2.2 _ cjX10.2.2.2.1) rfl cjX10.2.2.2.2.2 ⟨Nat.le_of_ble_eq_true rfl, Nat.le_of_ble_eq_true rfl⟩) ⟨zP_blind, fun U hU hW => ⟨rfl, by rw [hU]; exact z1, by rw [hU]; exact hM1, lKat cx hS1 hB hU hW⟩⟩ rfl rfl hl.1 rfl (lv_room (Nat.le_of_ble_eq_true rfl)) dL_law__12 ⟨Nat.le_of_ble_eq_true rfl, Nat.le_of_ble_eq_true rfl⟩) hS1 hB hl (fun st t v h0 hq => ?_) kk
  obtain ⟨⟨h1, h2⟩, h3⟩ := hq
  refine ⟨by injection h1, ⟨zHP_keep hX1 (fun k hk => ?_), h2⟩, h3⟩
  have h5 := zHP_lt hX1 hk
  have := h3.2 (adX s.heap.size k) (by rw [h0]; exact h5) (fun z => by
    rcases z with ⟨j, hj, e⟩ | z
    · have e2 : s.heap.size + k = s.heap.size + 461 + j := e
      omega
    · have z2 : s.heap.size + 461 + (0 + 1) ≤ s.heap.size + k := z
      omega)
  rw [h0] at this
  exact this
/-- the out row -/
theorem law_mkO (cx : lX p l s m args meth c G (fun q => s.heap.size ≤ q) "SunnyPansLaw" code 7) {Mx Mm : zMem} (kk : lJ (LPw G s.heap.size Mx Mm 0) p l e room_1 s m args below meth c (fun q => s.heap.size ≤ q) 7 Q 1002 38173 19 lv (.ref (aoL s.heap.size) :: st)) : lJ (fun H => zHP G shX (adX s.heap.size) 461 Mx H ∧ zHP G shM (adM s.heap.size) 540 Mm H) p l e room_1 s m args below meth c (fun q => s.heap.size ≤ q) 7 Q 1001 38172 17 lv (.int 1 :: st) := by
  intro H locs ls hP hS hl
  refine zWsz (b0 := s.heap.size + 461) (n := 540) hP.2 hS (by omega) (Or.inl (by omega)) fun hsz => ?_
  refine va_newaK (atype := .long) (N := 1) cx.1.1 cx.1.2.1 (cx.1.2.2.2.2 _ lwd_212) rfl dL_law__17 rfl (by decide) (by decide) (by decide) (Nat.le_of_ble_eq_true rfl) (Nat.le_of_ble_eq_true rfl) hsz (fun H1 cA e1 z1 o1 hAr hNm => ?_)
  have hcA : cA = G.2.1 1 := Option.some.inj (hNm.symm.trans (cx.2.2.1.1.2 1 _ rfl).2)
  refine kk H1 locs ls ⟨⟨zHP_kept hP.1 (fun q hq => o1 q (by omega)), fun _ => 0, rfl, fun k q hk => ?_⟩, zHP_kept hP.2 (fun q hq => o1 q (by omega))⟩ ⟨Nat.le_trans hS.1 (by omega), fun x h1 h2 => (o1 x (by have := hS.1; omega)).trans (hS.2.1 x h1 h2), hS.2.2⟩ hl
  have h0 : k < 1 := (List.getElem?_eq_some_iff.mp hk).1
  rw [show k = 0 by omega] at hk
  cases hk
  show H1[s.heap.size + 1001]? = some (vp_cell _ _)
  rw [← hcA]
  exact e1
end LS
