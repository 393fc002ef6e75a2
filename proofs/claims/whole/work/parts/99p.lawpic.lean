/-! THE LAW: its picture of the heap, its calls, its script -/
def adX (b0 : Nat) : Nat → Nat := zad b0
def adM (b0 : Nat) : Nat → Nat := zad (b0 + 461)
def aoL (b0 : Nat) : Nat := b0 + 1001
def LPw (G : zG) (b0 : Nat) (Mx Mm : zMem) (v : Int64) (H : Heap) : Prop := wP G (adX b0) (aoL b0) Mx v H ∧ zHP G shM (adM b0) 540 Mm H
theorem adX_in (b0 : Nat) : wIn (adX b0) (aoL b0) := ⟨fun i j hi hj h => zadI i j hi hj h, fun k hk => by show b0 + k ≠ b0 + 1001; omega⟩
theorem adM_in (b0 : Nat) : zInj (adM b0) 540 := fun i j hi hj h => zadI i j hi hj h
theorem adXM (b0 : Nat) {i j : Nat} (hi : i < 461) : adX b0 i ≠ adM b0 j := by show b0 + i ≠ b0 + 461 + j; omega
theorem adMo (b0 : Nat) {j : Nat} (hj : j < 540) : adM b0 j ≠ aoL b0 := by show b0 + 461 + j ≠ b0 + 1001; omega
theorem lTM : zT shM 540 0 11 := ⟨rfl, by decide, by decide⟩
section LL
variable {p : Program} {l : Launch} {e : Env} {R : Room} {s : State} {m : MethodId} {args : Array Value} {below : List Frame} {meth : Method} {c : Code} {Q : State → Prop}
variable {G : zG} {P : Heap → Prop} {A : Nat → Prop} {own : String} {cc : ByteArray} {nL : Nat} {cells slots : Nat} {pc : Nat} {lv : List (Nat × Value)} {st : List Value} {b0 : Nat}
theorem l_conv {P' : Heap → Prop} (h : ∀ H, P H → P' H) (kk : lJ P' p l e R s m args below meth c A nL Q cells slots pc lv st) : lJ P p l e R s m args below meth c A nL Q cells slots pc lv st := fun H locs ls hP hS hl => kk H locs ls (h H hP) hS hl
theorem l_sub (ks : List Nat) {lv' : List (Nat × Value)} (h : lv_pick lv ks = lv') (kk : lJ P p l e R s m args below meth c A nL Q cells slots pc lv' st) : lJ P p l e R s m args below meth c A nL Q cells slots pc lv st := fun H locs ls hP hS hl => kk H locs ls hP hS (lv_sub hl ks h)
/-- a call of the class that doesn't throw -/
theorem l_callXL (cx : lX p l s m args meth c G A own cc nL) (hA : ∀ q, b0 ≤ q → A q) {Mx Mx' Mm : zMem} {v : Int64} {y : MethodName} {b : ByteArray} {maxL na idx : Nat} {ret : Option FieldType} {rm : Room} {As rest : List Value} {out : Option Value} (hM : zM l y b maxL ret rm G shX (adX b0) 461 Mx (.ref (adX b0 0) :: As) out Mx') (hw : zCV own idx "SunnyPans" y b maxL ret na) (hR : zRm rm R maxL) (hAs : As.length = na) (hst : st = As.reverse ++ .ref (adX b0 0) :: rest) (hc : cells ≤ R.cells ∧ slots ≤ R.slots) (hrest : (rest.map fun v => v.category).sum ≤ 8) (hd : decode cc pc = .ok (.invokevirtual idx, 3))
    (kk : lJ (LPw G b0 Mx' Mm v) p l e R s m args below meth c A nL Q cells slots (pc + 3) lv (out.toList ++ rest)) : lJ (LPw G b0 Mx Mm v) p l e R s m args below meth c A nL Q cells slots pc lv st := by
  refine l_conv (P' := fun H => zHP G shX (adX b0) 461 Mx H ∧ ((∃ f, f 0 = v ∧ va_P G.1 vwCl [oC G (aoL b0) f] H) ∧ zHP G shM (adM b0) 540 Mm H)) (fun H h => ⟨h.1.1, h.1.2, h.2⟩) ?_
  refine l_callV cx hM lT0 zo_10 hw hR hAs hst hc hrest hd (fun k _ => hA _ (by show b0 ≤ b0 + k; omega)) (fun H H1 h hz hk => ?_) (l_conv (fun H h => ⟨⟨h.1, h.2.1⟩, h.2.2⟩) kk)
  obtain ⟨⟨f, hf, h1⟩, h2⟩ := h
  refine ⟨⟨f, hf, vaP_one h1 (hk _ ((h1 0 _ rfl).lt) (fun k hk2 e => (adX_in b0).2 k hk2 e.symm))⟩, zHP_keep h2 (fun k hk2 => hk _ (zHP_lt h2 hk2) (fun j hj e => adXM b0 hj e.symm))⟩
/-- a call of the reference -/
theorem l_callML (cx : lX p l s m args meth c G A own cc nL) (hA : ∀ q, b0 ≤ q → A q) {Mx Mm Mm' : zMem} {v : Int64} {y : MethodName} {b : ByteArray} {maxL na idx : Nat} {ret : Option FieldType} {rm : Room} {As rest : List Value} {out : Option Value} (hM : zM l y b maxL ret rm G shM (adM b0) 540 Mm (.ref (adM b0 0) :: As) out Mm') (hw : zCV own idx "SunnyPansModel" y b maxL ret na) (hR : zRm rm R maxL) (hAs : As.length = na) (hst : st = As.reverse ++ .ref (adM b0 0) :: rest) (hc : cells ≤ R.cells ∧ slots ≤ R.slots) (hrest : (rest.map fun v => v.category).sum ≤ 8) (hd : decode cc pc = .ok (.invokevirtual idx, 3))
    (kk : lJ (LPw G b0 Mx Mm' v) p l e R s m args below meth c A nL Q cells slots (pc + 3) lv (out.toList ++ rest)) : lJ (LPw G b0 Mx Mm v) p l e R s m args below meth c A nL Q cells slots pc lv st := by
  refine l_conv (P' := fun H => zHP G shM (adM b0) 540 Mm H ∧ wP G (adX b0) (aoL b0) Mx v H) (fun H h => ⟨h.2, h.1⟩) ?_
  refine l_callV cx hM lTM zo_11 hw hR hAs hst hc hrest hd (fun k _ => hA _ (by show b0 ≤ b0 + 461 + k; omega)) (fun H H1 h hz hk => ?_) (l_conv (fun H h => ⟨h.2, h.1⟩) kk)
  obtain ⟨h2, f, hf, h1⟩ := h
  exact ⟨zHP_keep h2 (fun k hk2 => hk _ (zHP_lt h2 hk2) (fun j hj e => adXM b0 hk2 e)), f, hf, vaP_one h1 (hk _ ((h1 0 _ rfl).lt) (fun k hk2 e => adMo b0 hk2 e.symm))⟩
/-- a call of a wrapper -/
theorem l_callWL (cx : lX p l s m args meth c G A own cc nL) (hA : ∀ q, b0 ≤ q → A q) {Mx Mx' Mm : zMem} {v v' : Int64} {y : MethodName} {b : ByteArray} {maxL na idx mc ms : Nat} {hh : List (Nat × Nat × Nat × Nat)} {rm : Room} {As rest : List Value} {kx : Int32} (hM : lwM l y b maxL hh rm mc ms G (adX b0) (aoL b0) Mx v As kx Mx' v')
    (h1 : Cond.methodLink own idx y ∈ tbG) (h2 : Cond.static y ∈ tbG) (h3 : Cond.initialized y.cls ∈ tbG) (h4 : Cond.codeWith y b maxL (some .int) hh ∈ tbG) (h5 : y.cls ≠ "java/lang/invoke/MethodHandle" ∧ y.cls ≠ "java/lang/invoke/VarHandle" ∧ (parseMethodDescriptor y.desc).map (fun d => d.parameters.length) = some na)
    (hR : rm.cells = mc ∧ rm.slots = ms ∧ rm.frames + 1 ≤ R.frames ∧ 8 + (maxL + 11) + rm.locals ≤ R.locals) (hAs : As.length = na) (hst : st = As.reverse ++ rest) (hm : mc ≤ 4 ∧ ms ≤ 24) (hc : cells + 4 ≤ R.cells ∧ slots + 24 ≤ R.slots) (hrest : (rest.map fun v => v.category).sum ≤ 8) (hd : decode cc pc = .ok (.invokestatic idx, 3)) (hN : lwN s)
    (kk : lJ (LPw G b0 Mx' Mm v') p l e R s m args below meth c A nL Q (cells + 4) (slots + 24) (pc + 3) lv (.int kx :: rest)) : lJ (LPw G b0 Mx Mm v) p l e R s m args below meth c A nL Q cells slots pc lv st := by
  refine l_callW cx hM h1 h2 h3 h4 h5 hR hAs hst ⟨by omega, by omega⟩ hrest hd hN (fun k _ => hA _ (by show b0 ≤ b0 + k; omega)) (hA _ (by show b0 ≤ b0 + 1001; omega)) (fun H H1 h hz hk => zHP_keep h (fun k hk2 => hk _ (zHP_lt h hk2) (fun j hj e => adXM b0 hj e.symm) (adMo b0 hk2))) (l_widen (by omega) (by omega) kk)
/-- out[0] -/
theorem l_laldL (cx : lX p l s m args meth c G A own cc nL) {Mx Mm : zMem} {v : Int64} (hd : decode cc pc = .ok (.laload, 1)) (kk : lJ (LPw G b0 Mx Mm v) p l e R s m args below meth c A nL Q cells slots (pc + 1) lv (.long v :: st)) : lJ (LPw G b0 Mx Mm v) p l e R s m args below meth c A nL Q cells slots pc lv (.int 0 :: .ref (aoL b0) :: st) := by
  intro H locs ls hP hS hl
  obtain ⟨f, hf, h1⟩ := hP.1.2
  refine va_lald cx.1.1 cx.1.2.1 cx.2.2.1.1 h1 0 1 rfl rfl (zvp (by decide)) hd ?_
  have := kk H locs ls hP hS hl
  rw [← hf] at this
  exact this
/-- a number of the script -/
theorem l_arg (cx : lX p l s m args meth c G A own cc nL) {b L i j : Nat} {j0 : Int} {xs : Nat → Int32} (hX : va_X b L xs s s.heap) (hbl : b < s.heap.size) (hbA : ¬ A b) (hi : i + j < L) (hL : L ≤ 4608) (k0 k4 : Nat) (hv0 : lv[k0]? = some (0, .ref b)) (hv4 : lv[k4]? = some (4, .int (nI i))) (hj : Int32.ofInt j0 = nI j)
    (d0 : decode cc pc = .ok (.aload_n 0, 1)) (d1 : decode cc (pc + 1) = .ok (.iload 4, 2)) (d2 : decode cc (pc + 3) = .ok (.iconst j0, 1)) (d3 : decode cc (pc + 4) = .ok (.iadd, 1)) (d4 : decode cc (pc + 5) = .ok (.iaload, 1))
    (kk : lJ P p l e R s m args below meth c A nL Q cells slots (pc + 6) lv (.int (xs (i + j)) :: st)) : lJ P p l e R s m args below meth c A nL Q cells slots pc lv st := by
  refine l_aload_n cx d0 k0 hv0 ?_
  refine l_iload cx d1 k4 hv4 ?_
  refine l_iconst cx d2 hj ?_
  refine l_iadd cx d3 ?_
  rw [nI_add]
  refine l_sld cx hX hbl hbA ?_ d4 ?_
  · refine zvp ?_
    rw [nI_clamp (by omega)]
    exact decide_eq_true ⟨nI_pos' (by omega), hi⟩
  · rw [nI_clamp (by omega)]
    exact kk
theorem l_argB (cx : lX p l s m args meth c G A own cc nL) {b L i j : Nat} {j0 : Int} {xs : Nat → Int32} (hX : va_X b L xs s s.heap) (hbl : b < s.heap.size) (hbA : ¬ A b) (hi : i + j < L) (hL : L ≤ 4608) (k0 k4 : Nat) (hv0 : lv[k0]? = some (0, .ref b)) (hv4 : lv[k4]? = some (4, .int (nI i))) (hj : (Int8.ofInt j0).toInt32 = nI j)
    (d0 : decode cc pc = .ok (.aload_n 0, 1)) (d1 : decode cc (pc + 1) = .ok (.iload 4, 2)) (d2 : decode cc (pc + 3) = .ok (.bipush j0, 2)) (d3 : decode cc (pc + 5) = .ok (.iadd, 1)) (d4 : decode cc (pc + 6) = .ok (.iaload, 1))
    (kk : lJ P p l e R s m args below meth c A nL Q cells slots (pc + 7) lv (.int (xs (i + j)) :: st)) : lJ P p l e R s m args below meth c A nL Q cells slots pc lv st := by
  refine l_aload_n cx d0 k0 hv0 ?_
  refine l_iload cx d1 k4 hv4 ?_
  refine l_bipush cx d2 hj ?_
  refine l_iadd cx d3 ?_
  rw [nI_add]
  refine l_sld cx hX hbl hbA ?_ d4 ?_
  · refine zvp ?_
    rw [nI_clamp (by omega)]
    exact decide_eq_true ⟨nI_pos' (by omega), hi⟩
  · rw [nI_clamp (by omega)]
    exact kk
end LL
theorem lgc_self (x : Int64) : lg_cmp x x = 0 := by
  unfold lg_cmp
  rw [if_neg (by
    have : ¬ x > x := Int64.lt_irrefl
    exact this), if_pos rfl]
def lvL (b b0 i : Nat) : List (Nat × Value) := [(0, .ref b), (1, .ref (adX b0 0)), (2, .ref (adM b0 0)), (3, .ref (aoL b0)), (4, .int (nI i))]
/-- what stands fast while the law's loop goes -/
def LW9 (p : Program) (l : Launch) (s : State) (m : MethodId) (meth : Method) (c : Code) (G : zG) (b L : Nat) (xs : Nat → Int32) : Prop :=
  lX p l s m #[Value.ref b] meth c G (fun q => s.heap.size ≤ q) "SunnyPansLaw" code 7 ∧ va_X b L xs s s.heap ∧ b < s.heap.size ∧ L ≤ 4608 ∧ l.stackTraces = false ∧ lwN s
/-- the law's loop behind a call -/
def LK9 (p : Program) (l : Launch) (e : Env) (s : State) (m : MethodId) (below : List Frame) (meth : Method) (c : Code) (G : zG) (b i : Nat) (Q : State → Prop) (cells slots : Nat) : Prop :=
  ∀ Mx Mm v S, RXo Mx S → RMn Mm S → okS S → lJ (LPw G s.heap.size Mx Mm v) p l e room_1 s m #[Value.ref b] below meth c (fun q => s.heap.size ≤ q) 7 Q (cells + 4) (slots + 24) 2765 (lvL b s.heap.size i) []
/-- the law at a call -/
def LC9 (p : Program) (l : Launch) (e : Env) (s : State) (m : MethodId) (below : List Frame) (meth : Method) (c : Code) (G : zG) (b i : Nat) (Q : State → Prop) (cells slots pc : Nat) : Prop :=
  ∀ Mx Mm v S, RXo Mx S → RMn Mm S → okS S → lJ (LPw G s.heap.size Mx Mm v) p l e room_1 s m #[Value.ref b] below meth c (fun q => s.heap.size ≤ q) 7 Q cells slots pc (lvL b s.heap.size i) []
theorem hkT1 {k t : Nat} {vx w : Int32} {v : Int64} (hT : T1 k t) (hv : k = 0 → vx = w) : ∃ v', ((k = 0 ∧ nI t = 0 ∧ v' = vx.toInt64) ∨ (k = 1 ∧ nI t = 1 ∧ v' = v)) ∧ (nI t = 0 → v' = w.toInt64) := by
  rcases hT with ⟨h1, h2⟩ | ⟨h1, h2⟩
  · exact ⟨_, Or.inl ⟨h1, by rw [h2]; rfl, rfl⟩, fun _ => by rw [hv h1]⟩
  · exact ⟨v, Or.inr ⟨h1, by rw [h2]; rfl, rfl⟩, fun q => absurd q (by rw [h2]; decide)⟩
theorem hkT2 {k t : Nat} {vx w : Int32} {v : Int64} (hT : T2 k t) (hv : k = 0 → vx = w) : ∃ v', ((k = 0 ∧ nI t = 0 ∧ v' = vx.toInt64) ∨ (k = 2 ∧ nI t = 1 ∧ v' = v)) ∧ (nI t = 0 → v' = w.toInt64) := by
  rcases hT with ⟨h1, h2⟩ | ⟨h1, h2⟩
  · exact ⟨_, Or.inl ⟨h1, by rw [h2]; rfl, rfl⟩, fun _ => by rw [hv h1]⟩
  · exact ⟨v, Or.inr ⟨h1, by rw [h2]; rfl, rfl⟩, fun q => absurd q (by rw [h2]; decide)⟩
theorem hkT3 {k t : Nat} {vx w : Int32} {v : Int64} (hT : T3 k t) (hv : k = 0 → vx = w) : ∃ v', ((k = 0 ∧ nI t = 0 ∧ v' = vx.toInt64) ∨ (k = 2 ∧ nI t = 1 ∧ v' = v) ∨ (k = 1 ∧ nI t = 2 ∧ v' = v)) ∧ (nI t = 0 → v' = w.toInt64) := by
  rcases hT with ⟨h1, h2⟩ | ⟨h1, h2⟩ | ⟨h1, h2⟩
  · exact ⟨_, Or.inl ⟨h1, by rw [h2]; rfl, rfl⟩, fun _ => by rw [hv h1]⟩
  · exact ⟨v, Or.inr (Or.inl ⟨h1, by rw [h2]; rfl, rfl⟩), fun q => absurd q (by rw [h2]; decide)⟩
  · exact ⟨v, Or.inr (Or.inr ⟨h1, by rw [h2]; rfl, rfl⟩), fun q => absurd q (by rw [h2]; decide)⟩
theorem li_1 : Int32.ofInt 1 = nI 1 := by decide
theorem li_2 : Int32.ofInt 2 = nI 2 := by decide
theorem li_3 : Int32.ofInt 3 = nI 3 := by decide
theorem li_4 : Int32.ofInt 4 = nI 4 := by decide
theorem li_5 : Int32.ofInt 5 = nI 5 := by decide
theorem lb_6 : (Int8.ofInt 6).toInt32 = nI 6 := by decide
theorem lb_7 : (Int8.ofInt 7).toInt32 = nI 7 := by decide
theorem lb_8 : (Int8.ofInt 8).toInt32 = nI 8 := by decide
