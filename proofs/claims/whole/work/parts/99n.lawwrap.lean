/-! THE LAW: the wrappers' contracts, calls out of them and of the law -/
def lwN (U : State) : Prop := va_Nc (zEx 1) (zEx 2) U
def lwPc (G : zG) (ad : Nat → Nat) (ao : Nat) (M : zMem) (v : Int64) (sz : Nat) (avs : List Value) : Array Value → State → Prop := va_Pc avs (fun U => U.heap.size = sz ∧ wP G ad ao M v U.heap ∧ zK G (wA ad ao sz) U U.heap ∧ lwN U)
def lwQ (G : zG) (ad : Nat → Nat) (ao : Nat) (M' : zMem) (v' : Int64) (kk : Int32) (A : Nat → Prop) : Array Value → State → Outcome → State → Prop := fun _ st o t => (o = .returned (some (.int kk)) ∧ wP G ad ao M' v' t.heap) ∧ va_F A st t
def lwM (l : Launch) (y : MethodName) (b : ByteArray) (maxL : Nat) (hh : List (Nat × Nat × Nat × Nat)) (rm : Room) (mc ms : Nat) (G : zG) (ad : Nat → Nat) (ao : Nat) (M : zMem) (v : Int64) (avs : List Value) (kk : Int32) (M' : zMem) (v' : Int64) : Prop :=
  ∀ sz, Met l y (.codeWith y b maxL (some .int) hh :: tbG) rm (lwPc G ad ao M v sz avs) (lwQ G ad ao M' v' kk (wA ad ao sz)) mc ms (wA ad ao sz)
theorem lwPc_blind {G : zG} {ad : Nat → Nat} {ao : Nat} {M : zMem} {v : Int64} {sz : Nat} {avs : List Value} : FrameBlind (lwPc G ad ao M v sz avs) := by
  intro a U g mk h
  obtain ⟨h1, h2, h3, h4, h5⟩ := h
  obtain ⟨k1, k2, ⟨k3, k4, k5, k6⟩, k7, k8, k9, k10⟩ := h4
  have a : U.vm.Alike (U.calling g mk a).vm := Vm.Alike.refl U.vm
  exact ⟨h1, h2, h3, ⟨va_K.moved a k1, fun w hw => va_Nw.same (by
    have := (List.mem_filter.mp hw).2
    cases w <;> first | rfl | exact absurd this (by simp [zNW])) (u := U) (U := U.calling g mk _) rfl (k2 w hw), ⟨va_Z.moved a k3, va_T.moved a k4, va_Z.moved a k5, va_T.moved a k6⟩, vx_Zq.moved a k7, vx_Zq.moved a k8, ⟨vk_S.moved a k9.1, fun r hr => vk_R.same (u := U) (U := U.calling g mk _) rfl (k9.2.1 r hr), va_Z.moved a k9.2.2.1, va_Zq.moved a k9.2.2.2⟩, zAO.moved a k10⟩, va_Nc.moved a h5⟩
theorem lwM_of {l : Launch} {y : MethodName} {b : ByteArray} {maxL : Nat} {hh : List (Nat × Nat × Nat × Nat)} {rm : Room} {mc ms : Nat} {G : zG} {ad : Nat → Nat} {ao : Nat} {M M' : zMem} {v v' : Int64} {avs : List Value} {kk : Int32} {lv : List (Nat × Value)} (hy : plainName y.cls = true) (hlen : (lg_sl avs).length ≤ maxL) (hlv : lv_args 0 avs = lv)
    (body : ∀ (p : Program) (e : Env) (s : State) (m : MethodId) (args : Array Value) (below : List Frame) (meth : Method) (c : Code) (A : Nat → Prop), lX p l s m args meth c G A y.cls b maxL → meth.sig.returnType = some .int → c.exceptionTable.toList = tableOf hh → (∀ k, k < 461 → A (ad k)) → A ao → lwN s → (∀ q, wA ad ao s.heap.size q → A q) → lJ (wP G ad ao M v) p l e rm s m args below meth c A maxL (MQ below (lwQ G ad ao M' v' kk A) args s mc ms A) 0 0 0 lv []) : lwM l y b maxL hh rm mc ms G ad ao M v avs kk M' v' := by
  intro sz
  refine MetFree.of_bodyS (code := b) (maxLocals := maxL) (ret := some .int) hy ?_ ?_
  · intro args s m h hn
    obtain ⟨m9, meth, c, hn9, h1, h2, h3, h4, -, h5, h6, -⟩ := Cond.codeWith_spec (atoms_spec (ws := .codeWith y b maxL (some .int) hh :: tbG) h _ List.mem_cons_self)
    cases hn.symm.trans hn9
    exact ⟨meth, c, h1, h2, h3, h4, h5, h6⟩
  · intro p e s m args below meth c s₁ B hml hP _
    obtain ⟨rfl, hsz, hW, hK, hN⟩ := hP
    subst hsz
    have hh0 : s₁.heap = s.heap := by rw [B.state]; rfl
    have hpre := atoms_spec (ws := .codeWith y b maxL (some .int) hh :: tbG) B.pre
    have htb := vx_table (x := y) B (hpre _ List.mem_cons_self)
    have hown : s.vm.findClass y.cls = some m.cls := findClass_of_methodNamed B.named
    have hx : lX p l s m avs.toArray meth c G (wA ad ao s.heap.size) y.cls b maxL := ⟨⟨B.exec, B.bytes, hml, hown, fun w hw => hpre w (List.mem_cons_of_mem _ hw)⟩, B.notSynchronized, hK, fun q h => Or.inr (Or.inr h)⟩
    have hl := lv_entry avs (n := maxL) hlen
    rw [hlv] at hl
    have k := body p e s m avs.toArray below meth c (wA ad ao s.heap.size) hx B.returns htb (fun k hk => Or.inl ⟨k, hk, rfl⟩) (Or.inr (Or.inl rfl)) hN (fun q h => h) s.heap [] _ hW va_S.rf hl
    rw [← lg_entry_eq] at k
    obtain ⟨t, a1, o, b1, b2, b3⟩ := k s₁ hh0 (Stand.of_body B)
    exact ⟨t, o, a1, b1, b2, b3⟩
section LC
variable {p : Program} {l : Launch} {e : Env} {R : Room} {s : State} {m : MethodId} {args : Array Value} {below : List Frame} {meth : Method} {c : Code} {Q : State → Prop}
variable {G : zG} {P : Heap → Prop} {A : Nat → Prop} {own : String} {cc : ByteArray} {nL : Nat} {cells slots : Nat} {pc : Nat} {lv : List (Nat × Value)} {st : List Value}
theorem lKat {H : Heap} {locs : List Loc} {B : Nat → Prop} (cx : lX p l s m args meth c G A own cc nL) (hS : va_S A s.heap H locs) (hB : ∀ q, B q → A q) {U : State} (hU : U.heap = H) (hW : s.WarmedH U.vm) : zK G B U U.heap := by
  have h1 := (cx.2.2.1.kept hS.2.1).moved hW
  rw [hU]
  exact h1.narrow hB
theorem l_iret (cx : lX p l s m args meth c G A own cc nL) {Qc : Array Value → State → Outcome → State → Prop} {mc ms : Nat} {v : Int32} (hr : meth.sig.returnType = some .int) (hc : cells ≤ mc ∧ slots ≤ ms) (hd : decode cc pc = .ok (.ireturn, 1)) (hQ : ∀ (H : Heap) (locs : List Loc), P H → va_S A s.heap H locs → ∀ t : State, t.heap = H → Qc args s (.returned (some (.int v))) t) : lJ P p l e R s m args below meth c A nL (MQ below Qc args s mc ms A) cells slots pc lv [.int v] := by
  intro H locs ls hP hS hl
  exact W.widen hc.1 hc.2 (W.zret (v := v) cx.1.1 cx.1.2.1 hr rfl (fun t ht hW => hQ H locs hP hS t ht) hS.2.2 hd cx.2.1)
/-- what a call leaves: a run, put on -/
theorem l_go {H : Heap} {locs : List Loc} {ls : Array Slot} {B : Nat → Prop} {Qa : State → Outcome → State → Prop} {st0 rest : List Value} {out : Option Value} {mc ms : Nat} {P' : Heap → Prop} (hr : va_Run p l e R s m args below meth c H locs cells slots mc ms (F0 m pc ls st0) rest Qa B) (hS : va_S A s.heap H locs) (hB : ∀ q, B q → A q) (hl : lv_has ls nL lv)
    (hQ : ∀ (st t : State) (v : Option Value), st.heap = H → Qa st (.returned v) t → v = out ∧ P' t.heap ∧ va_F B st t) (kk : lJ P' p l e R s m args below meth c A nL Q (cells + mc) (slots + ms) (pc + 3) lv (out.toList ++ rest)) : W p l e R s m args below meth c H locs cells slots Q (F0 m pc ls st0) := by
  intro T hT X
  obtain ⟨v, st₀, t, T', L, h0, X', hL, e1, e2, hq, st⟩ := hr T hT X
  obtain ⟨hv, hP, hz, hk⟩ := hQ st₀ t v h0 hq
  subst hv
  rw [h0] at hz hk
  obtain ⟨t2, a1, b1⟩ := kk T'.heap (locs ++ L) ls (by rw [e1]; exact hP) ⟨Nat.le_trans hS.1 (by rw [e1]; exact hz), fun q h1 h2 => by rw [e1, hk q (Nat.lt_of_lt_of_le h1 hS.1) (fun z => h2 (hB q z))]; exact hS.2.1 q h1 h2, fun q hq => by
      rcases List.mem_append.mp hq with h | h
      · exact hS.2.2 q h
      · exact hB _ (hL q h)⟩ hl T' rfl X'
  exact ⟨t2, st t2 a1, b1⟩
/-- a method of the class or of the reference that doesn't throw -/
theorem l_callV (cx : lX p l s m args meth c G A own cc nL) {sh ad : Nat → Nat} {n : Nat} {M M' : zMem} {P' : Heap → Prop} {C : String} {y : MethodName} {b : ByteArray} {maxL na idx k cd : Nat} {ret : Option FieldType} {rm : Room} {As rest : List Value} {out : Option Value} (hM : zM l y b maxL ret rm G sh ad n M (.ref (ad k) :: As) out M') (hT : zT sh n k cd) (hO : zObj C cd) (hw : zCV own idx C y b maxL ret na) (hR : zRm rm R maxL) (hAs : As.length = na) (hst : st = As.reverse ++ .ref (ad k) :: rest) (hc : cells ≤ R.cells ∧ slots ≤ R.slots) (hrest : (rest.map fun v => v.category).sum ≤ 8) (hd : decode cc pc = .ok (.invokevirtual idx, 3))
    (hA : ∀ k, k < n → A (ad k)) (keep : ∀ H H1 : Heap, P' H → H.size ≤ H1.size → (∀ q, q < H.size → (∀ k, k < n → q ≠ ad k) → H1[q]? = H[q]?) → P' H1) (kk : lJ (fun H => zHP G sh ad n M' H ∧ P' H) p l e R s m args below meth c A nL Q cells slots (pc + 3) lv (out.toList ++ rest)) : lJ (fun H => zHP G sh ad n M H ∧ P' H) p l e R s m args below meth c A nL Q cells slots pc lv st := by
  subst hst
  intro H locs ls hPP hS hl
  obtain ⟨hP, hP2⟩ := hPP
  have hB : ∀ q, zA ad n H.size q → A q := fun q hq => by
    rcases hq with ⟨k, hk, rfl⟩ | hq
    · exact hA k hk
    · exact cx.2.2.2 q (Nat.le_trans hS.1 hq)
  obtain ⟨ci, q, hq, hC, hz⟩ := hO
  obtain ⟨fs, hfs⟩ := hz G ad k (M.1 k) (M.2.1 k) (M.2.2 k)
  have hat := zws_at (G := G) (sh := sh) (ad := ad) (M := M) hT.2.1
  rw [hT.1, hfs] at hat
  have hrecv := va_recv cx.2.2.1.1 hP hq hat
  rw [hC] at hrecv
  refine l_go (P' := fun H => zHP G sh ad n M' H ∧ P' H) (va_runV (As := As) (rest := rest) cx.1 (hM H.size) (cwV na cx.1.2.2.2.2 hw.1 rfl hR.1 hR.2.1 hw.2 hR.2.2) ⟨zP_blind, hrecv, fun U hU hW => ⟨rfl, by rw [hU], by rw [hU]; exact hP, lKat cx hS hB hU hW⟩⟩ rfl hAs hl.1 rfl (lv_room hrest) hd hc) hS hB hl (fun st t v h0 hq => ?_) kk
  obtain ⟨⟨h1, h2⟩, h3⟩ := hq
  refine ⟨by injection h1, ⟨h2, keep H t.heap hP2 (by rw [← h0]; exact h3.1) (fun q hq hn => ?_)⟩, h3⟩
  have := h3.2 q (by rw [h0]; exact hq) (fun z => by
    rcases z with ⟨k, hk, e⟩ | z
    · exact hn k hk e
    · omega)
  rw [h0] at this
  exact this
/-- a wrapper -/
theorem l_callW (cx : lX p l s m args meth c G A own cc nL) {ad : Nat → Nat} {ao : Nat} {M M' : zMem} {v v' : Int64} {P' : Heap → Prop} {y : MethodName} {b : ByteArray} {maxL na idx mc ms : Nat} {hh : List (Nat × Nat × Nat × Nat)} {rm : Room} {As rest : List Value} {kx : Int32} (hM : lwM l y b maxL hh rm mc ms G ad ao M v As kx M' v')
    (h1 : Cond.methodLink own idx y ∈ tbG) (h2 : Cond.static y ∈ tbG) (h3 : Cond.initialized y.cls ∈ tbG) (h4 : Cond.codeWith y b maxL (some .int) hh ∈ tbG) (h5 : y.cls ≠ "java/lang/invoke/MethodHandle" ∧ y.cls ≠ "java/lang/invoke/VarHandle" ∧ (parseMethodDescriptor y.desc).map (fun d => d.parameters.length) = some na)
    (hR : rm.cells = mc ∧ rm.slots = ms ∧ rm.frames + 1 ≤ R.frames ∧ 8 + (maxL + 11) + rm.locals ≤ R.locals) (hAs : As.length = na) (hst : st = As.reverse ++ rest) (hc : cells + mc ≤ R.cells ∧ slots + ms ≤ R.slots) (hrest : (rest.map fun v => v.category).sum ≤ 8) (hd : decode cc pc = .ok (.invokestatic idx, 3)) (hN : lwN s)
    (hA : ∀ k, k < 461 → A (ad k)) (ho : A ao) (keep : ∀ H H1 : Heap, P' H → H.size ≤ H1.size → (∀ q, q < H.size → (∀ k, k < 461 → q ≠ ad k) → q ≠ ao → H1[q]? = H[q]?) → P' H1) (kk : lJ (fun H => wP G ad ao M' v' H ∧ P' H) p l e R s m args below meth c A nL Q (cells + mc) (slots + ms) (pc + 3) lv (.int kx :: rest)) : lJ (fun H => wP G ad ao M v H ∧ P' H) p l e R s m args below meth c A nL Q cells slots pc lv st := by
  subst hst
  intro H locs ls hPP hS hl
  obtain ⟨hP, hP2⟩ := hPP
  have hB : ∀ q, wA ad ao H.size q → A q := fun q hq => by
    rcases hq with ⟨k, hk, rfl⟩ | rfl | hq
    · exact hA k hk
    · exact ho
    · exact cx.2.2.2 q (Nat.le_trans hS.1 hq)
  have hgood : GoodIn tbG (va_wsS own idx y (.codeWith y b maxL (some .int) hh :: tbG)) := by
    unfold va_wsS
    refine goodIn_app (fun w hw => ?_) (fun w hw => (List.mem_cons.mp hw).elim (fun q => by rw [q]; exact tbG_good _ h4) (fun q => tbG_good _ q))
    simp only [List.mem_cons, List.not_mem_nil, or_false] at hw
    rcases hw with rfl | rfl | rfl
    · exact tbG_good _ h1
    · exact tbG_good _ h2
    · exact tbG_good _ h3
  refine l_go (P' := fun H => wP G ad ao M' v' H ∧ P' H) (out := some (.int kx)) (vx_runSW (As := As) (rest := rest) cx.1 (hM H.size) (vx_cwSW na cx.1.2.2.2.2 hgood rfl hR.1 hR.2.1 h5 hR.2.2) ⟨lwPc_blind, fun U hU hW => ⟨rfl, by rw [hU], by rw [hU]; exact hP, lKat cx hS hB hU hW, va_Nc.moved hW.alike hN⟩⟩ rfl hAs hl.1 rfl (lv_room hrest) hd hc) hS hB hl (fun st t v h0 hq => ?_) kk
  obtain ⟨⟨g1, g2⟩, g3⟩ := hq
  refine ⟨by injection g1, ⟨g2, keep H t.heap hP2 (by rw [← h0]; exact g3.1) (fun q hq hn hno => ?_)⟩, g3⟩
  have := g3.2 q (by rw [h0]; exact hq) (fun z => by
    rcases z with ⟨k, hk, e⟩ | e | z
    · exact hn k hk e
    · exact hno e
    · omega)
  rw [h0] at this
  exact this
/-- a method that may throw, where its throw is caught -/
theorem l_callXC (cx : lX p l s m args meth c G A own cc nL) {ad : Nat → Nat} {ao : Nat} {M M' : zMem} {v : Int64} {C : String} {y : MethodName} {b : ByteArray} {maxL na idx k cd mc ms kx : Nat} {ret : Option FieldType} {rm : Room} {As rest : List Value} {out : Option Value} (hM : zMX l y b maxL ret rm mc ms G shX ad 461 M (.ref (ad k) :: As) kx out M') (hT : zT shX 461 k cd) (hO : zObj C cd) (hw : zCV own idx C y b maxL ret na) (hR : zRmX rm R maxL mc ms) (hAs : As.length = na) (hst : st = As.reverse ++ .ref (ad k) :: rest) (hc : cells + mc ≤ R.cells ∧ slots + ms ≤ R.slots) (hrest : (rest.map fun v => v.category).sum ≤ 8) (hd : decode cc pc = .ok (.invokevirtual idx, 3))
    (hin : wIn ad ao) (hA : ∀ k, k < 461 → A (ad k))
    (kc : ¬ kx = 0 → ∃ (tgt : Nat) (name : String) (pre : List ExceptionTableEntry) (x : ExceptionTableEntry) (suf : List ExceptionTableEntry), c.exceptionTable.toList = pre ++ x :: suf ∧ (∀ z ∈ pre, covers z pc = false ∨ (z.catchType ≠ 0 ∧ ∃ nm : String, (Cond.classLink own z.catchType nm).before args s = true ∧ va_Nc (zEx kx) nm s)) ∧ covers x pc = true ∧ x.catchType ≠ 0 ∧ (Cond.classLink own x.catchType name).before args s = true ∧ (Cond.castable (zEx kx) name).before args s = true ∧ x.handlerPc = tgt ∧
      ∀ q, lJ (wP G ad ao M' v) p l e R s m args below meth c A nL Q (cells + mc) (slots + ms) tgt lv [.ref q])
    (kk : kx = 0 → lJ (wP G ad ao M' v) p l e R s m args below meth c A nL Q (cells + mc) (slots + ms) (pc + 3) lv (out.toList ++ rest)) : lJ (wP G ad ao M v) p l e R s m args below meth c A nL Q cells slots pc lv st := by
  subst hst
  intro H locs ls hPP hS hl
  obtain ⟨hP, f, hf, hP2⟩ := hPP
  have hB : ∀ q, zA ad 461 H.size q → A q := fun q hq => by
    rcases hq with ⟨k, hk, rfl⟩ | hq
    · exact hA k hk
    · exact cx.2.2.2 q (Nat.le_trans hS.1 hq)
  have hao : ao < H.size := (hP2 0 _ rfl).lt
  have hkeep : ∀ {st t : State}, st.heap = H → va_F (zA ad 461 H.size) st t → ∃ f, f 0 = v ∧ va_P G.1 vwCl [oC G ao f] t.heap := fun h0 hF => ⟨f, hf, vaP_one hP2 (by
    have := hF.2 ao (by rw [h0]; exact hao) (fun z => by
      rcases z with ⟨k, hk, e⟩ | z
      · exact hin.2 k hk e.symm
      · omega)
    rw [h0] at this
    exact this)⟩
  obtain ⟨ci, q, hq, hC, hz⟩ := hO
  obtain ⟨fs, hfs⟩ := hz G ad k (M.1 k) (M.2.1 k) (M.2.2 k)
  have hat := zws_at (G := G) (sh := shX) (ad := ad) (M := M) hT.2.1
  rw [hT.1, hfs] at hat
  have hrecv := va_recv cx.2.2.1.1 hP hq hat
  rw [hC] at hrecv
  have keepS : ∀ {st₀ t T' : State} {L : List Loc}, st₀.heap = H → T'.heap = t.heap → (∀ q ∈ L, zA ad 461 H.size q.base) → va_F (zA ad 461 H.size) st₀ t → va_S A s.heap T'.heap (locs ++ L) := by
    intro st₀ t T' L h0 e1 hL hF
    obtain ⟨hz, hk⟩ := hF
    rw [h0] at hz hk
    exact ⟨Nat.le_trans hS.1 (by rw [e1]; exact hz), fun q h1 h2 => by rw [e1, hk q (Nat.lt_of_lt_of_le h1 hS.1) (fun z => h2 (hB q z))]; exact hS.2.1 q h1 h2, fun q hq => by
      rcases List.mem_append.mp hq with h | h
      · exact hS.2.2 q h
      · exact hB _ (hL q h)⟩
  intro T hT' X
  rcases vx_runV (As := As) (rest := rest) cx.1 (hM H.size) (cwV na cx.1.2.2.2.2 hw.1 rfl hR.1 hR.2.1 hw.2 hR.2.2) ⟨zP_blind, hrecv, fun U hU hW => ⟨rfl, by rw [hU], by rw [hU]; exact hP, lKat cx hS hB hU hW⟩⟩ rfl hAs hl.1 rfl (lv_room hrest) hd hc T hT' X with ⟨v0, st₀, t, T', L, h0, X', hL, e1, e2, ⟨hk0, ⟨hv, hP'⟩, hF⟩, stp⟩ | ⟨q0, st₀, t, T', L, E, ce, h0, X', hL, e1, e2, ⟨hk0, hE, hP', hF⟩, hce, hcv, hcl, stp⟩
  · have hv2 : v0 = out := by injection hv
    subst hv2
    obtain ⟨t2, a1, b1⟩ := kk hk0 T'.heap (locs ++ L) ls (by rw [e1]; exact ⟨hP', hkeep h0 hF⟩) (keepS h0 e1 hL hF) hl T' rfl X'
    exact ⟨t2, stp t2 a1, b1⟩
  · subst hE
    obtain ⟨tgt, name, pre, x, suf, c1, c2, c3, c4, c5, c6, c7, c8⟩ := kc hk0
    have hg : W p l e R s m args below meth c T'.heap (locs ++ L) (cells + mc) (slots + ms) Q (F0 m x.handlerPc ls [.ref q0]) := by
      rw [c7]
      exact c8 q0 T'.heap (locs ++ L) ls (by rw [e1]; exact ⟨hP', hkeep h0 hF⟩) (keepS h0 e1 hL hF) hl
    obtain ⟨t2, a1, b1⟩ := vx_catch (rest := rest) cx.1.2.2.2.1 pre x suf c1 c2 c3 c4 c5 c6 (by rw [e1]; exact hce) hcv hcl hg T' rfl X'
    exact ⟨t2, stp.trans a1, b1⟩
end LC
