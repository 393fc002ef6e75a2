section ZR
variable {p : Program} {l : Launch} {e : Env} {R : Room} {s : State} {m : MethodId} {args : Array Value} {below : List Frame} {meth : Method} {c : Code} {Q : State → Prop}
variable {G : zG} {sh ad : Nat → Nat} {n : Nat} {M : zMem} {A : Nat → Prop} {own : String} {cc : ByteArray} {nL : Nat} {cells slots : Nat} {pc : Nat} {lv : List (Nat × Value)} {st : List Value}

theorem z_null (cx : zX p l s m args meth c G sh ad n A own cc nL) (hd : decode cc pc = .ok (.aconst_null, 1)) (kk : zJ p l e R s m args below meth c G sh ad n A nL Q cells slots M (pc + 1) lv (.null :: st)) : zJ p l e R s m args below meth c G sh ad n A nL Q cells slots M pc lv st := fun H locs ls hP hS hl => lv_null cx.1.1 cx.1.2.1 hd (kk H locs ls hP hS hl)
theorem z_aload_nN (cx : zX p l s m args meth c G sh ad n A own cc nL) {k : Fin 4} (hd : decode cc pc = .ok (.aload_n k, 1)) (i : Nat) (hv : lv[i]? = some ((k : Nat), .null)) (kk : zJ p l e R s m args below meth c G sh ad n A nL Q cells slots M (pc + 1) lv (.null :: st)) : zJ p l e R s m args below meth c G sh ad n A nL Q cells slots M pc lv st := fun H locs ls hP hS hl => lv_aload_nN cx.1.1 cx.1.2.1 hd rfl (lv_at hl i hv) (kk H locs ls hP hS hl)
theorem z_aloadN (cx : zX p l s m args meth c G sh ad n A own cc nL) {k : Nat} (hd : decode cc pc = .ok (.aload k, 2)) (i : Nat) (hv : lv[i]? = some (k, .null)) (kk : zJ p l e R s m args below meth c G sh ad n A nL Q cells slots M (pc + 2) lv (.null :: st)) : zJ p l e R s m args below meth c G sh ad n A nL Q cells slots M pc lv st := fun H locs ls hP hS hl => lv_aloadN cx.1.1 cx.1.2.1 hd (lv_at hl i hv) (kk H locs ls hP hS hl)
theorem z_astore_nN (cx : zX p l s m args meth c G sh ad n A own cc nL) {k0 : Fin 4} (k : Nat) (lv2 : List (Nat × Value)) (hd : decode cc pc = .ok (.astore_n k0, 1)) (hk : (k0 : Nat) = k) (hn : k < nL) (hv : (k, Value.null) :: lv.filter (fun q => !(q.1 == k) && !(q.1 + 1 == k && q.2.category == 2)) = lv2) (kk : zJ p l e R s m args below meth c G sh ad n A nL Q cells slots M (pc + 1) lv2 st) : zJ p l e R s m args below meth c G sh ad n A nL Q cells slots M pc lv (.null :: st) := fun H locs ls hP hS hl => lv_astore_nN cx.1.1 cx.1.2.1 hd hk hl hn hv (fun ls2 hl2 => kk H locs ls2 hP hS hl2)
theorem z_astoreN (cx : zX p l s m args meth c G sh ad n A own cc nL) (k : Nat) (lv2 : List (Nat × Value)) (hd : decode cc pc = .ok (.astore k, 2)) (hn : k < nL) (hv : (k, Value.null) :: lv.filter (fun q => !(q.1 == k) && !(q.1 + 1 == k && q.2.category == 2)) = lv2) (kk : zJ p l e R s m args below meth c G sh ad n A nL Q cells slots M (pc + 2) lv2 st) : zJ p l e R s m args below meth c G sh ad n A nL Q cells slots M pc lv (.null :: st) := fun H locs ls hP hS hl => lv_astoreN cx.1.1 cx.1.2.1 hd hl hn hv (fun ls2 hl2 => kk H locs ls2 hP hS hl2)
theorem z_ifnull (cx : zX p l s m args meth c G sh ad n A own cc nL) {x : Nat} {off : Int} (hd : decode cc pc = .ok (.ifnull off, 3)) (kk : zJ p l e R s m args below meth c G sh ad n A nL Q cells slots M (pc + 3) lv st) : zJ p l e R s m args below meth c G sh ad n A nL Q cells slots M pc lv (.ref x :: st) := fun H locs ls hP hS hl => lv_ifnull cx.1.1 cx.1.2.1 hd (kk H locs ls hP hS hl)
theorem z_ifnonnullN (cx : zX p l s m args meth c G sh ad n A own cc nL) {off : Int} (hd : decode cc pc = .ok (.ifnonnull off, 3)) (kk : zJ p l e R s m args below meth c G sh ad n A nL Q cells slots M (pc + 3) lv st) : zJ p l e R s m args below meth c G sh ad n A nL Q cells slots M pc lv (.null :: st) := fun H locs ls hP hS hl => lv_ifnonnullN cx.1.1 cx.1.2.1 hd (kk H locs ls hP hS hl)
theorem z_ifnonnull (cx : zX p l s m args meth c G sh ad n A own cc nL) {x : Nat} {off : Int} (tgt : Nat) (hd : decode cc pc = .ok (.ifnonnull off, 3)) (ht : (pc : Int) + off = (tgt : Int)) (kk : zJ p l e R s m args below meth c G sh ad n A nL Q cells slots M tgt lv st) : zJ p l e R s m args below meth c G sh ad n A nL Q cells slots M pc lv (.ref x :: st) := fun H locs ls hP hS hl => lv_ifnonnull cx.1.1 cx.1.2.1 hd ht (kk H locs ls hP hS hl)
theorem z_ifnullN (cx : zX p l s m args meth c G sh ad n A own cc nL) {off : Int} (tgt : Nat) (hd : decode cc pc = .ok (.ifnull off, 3)) (ht : (pc : Int) + off = (tgt : Int)) (kk : zJ p l e R s m args below meth c G sh ad n A nL Q cells slots M tgt lv st) : zJ p l e R s m args below meth c G sh ad n A nL Q cells slots M pc lv (.null :: st) := fun H locs ls hP hS hl => lv_ifnullN cx.1.1 cx.1.2.1 hd ht (kk H locs ls hP hS hl)
theorem z_i2c (cx : zX p l s m args meth c G sh ad n A own cc nL) {x : Int32} (hd : decode cc pc = .ok (.i2c, 1)) (kk : zJ p l e R s m args below meth c G sh ad n A nL Q cells slots M (pc + 1) lv (.int (x.toUInt32 % 65536).toInt32 :: st)) : zJ p l e R s m args below meth c G sh ad n A nL Q cells slots M pc lv (.int x :: st) := fun H locs ls hP hS hl => lv_i2c cx.1.1 cx.1.2.1 hd rfl (kk H locs ls hP hS hl)
theorem z_ldcS (cx : zX p l s m args meth c G sh ad n A own cc nL) {idx : Nat} (i : Nat) (hr : (own, idx, i) ∈ zRefs) (hd : decode cc pc = .ok (.ldc idx, 2)) (kk : zJ p l e R s m args below meth c G sh ad n A nL Q cells slots M (pc + 2) lv (.ref (zSK G i) :: st)) : zJ p l e R s m args below meth c G sh ad n A nL Q cells slots M pc lv st := fun H locs ls hP hS hl => va_ldcS cx.1.1 cx.1.2.1 cx.1.2.2.2.1 (cx.2.2.1.2.2.2.2.2.1.2.1 _ hr) hd (kk H locs ls hP hS hl)
theorem z_sval (cx : zX p l s m args meth c G sh ad n A own cc nL) {idx i : Nat} (hi : i < 20) (hw : Cond.fieldLink own idx "java/lang/String" "value" "[B" ∈ tbG) (hd : decode cc pc = .ok (.getfield idx, 3)) (kk : zJ p l e R s m args below meth c G sh ad n A nL Q cells slots M (pc + 3) lv (.ref (zSV G i) :: st)) : zJ p l e R s m args below meth c G sh ad n A nL Q cells slots M pc lv (.ref (zSK G i) :: st) := fun H locs ls hP hS hl => vk_getf cx.1.1 cx.1.2.1 (cx.2.2.1.2.2.2.2.2.1.1.1 i hi).2.2.1 hS cx.1.2.2.2.1 (cx.1.2.2.2.2 _ hw) (fun _ h => h) hd (kk H locs ls hP hS hl)
theorem z_scoder (cx : zX p l s m args meth c G sh ad n A own cc nL) {idx i : Nat} (hi : i < 20) (hw : Cond.fieldLink own idx "java/lang/String" "coder" "B" ∈ tbG) (hd : decode cc pc = .ok (.getfield idx, 3)) (kk : zJ p l e R s m args below meth c G sh ad n A nL Q cells slots M (pc + 3) lv (.int 0 :: st)) : zJ p l e R s m args below meth c G sh ad n A nL Q cells slots M pc lv (.ref (zSK G i) :: st) := fun H locs ls hP hS hl => vk_getf cx.1.1 cx.1.2.1 (cx.2.2.1.2.2.2.2.2.1.1.1 i hi).2.1 hS cx.1.2.2.2.1 (cx.1.2.2.2.2 _ hw) (fun _ h => h) hd (kk H locs ls hP hS hl)
theorem z_slen (cx : zX p l s m args meth c G sh ad n A own cc nL) {i : Nat} (hi : i < 20) (hd : decode cc pc = .ok (.arraylength, 1)) (kk : zJ p l e R s m args below meth c G sh ad n A nL Q cells slots M (pc + 1) lv (.int (nI (zLen.getD i 0)) :: st)) : zJ p l e R s m args below meth c G sh ad n A nL Q cells slots M pc lv (.ref (zSV G i) :: st) := fun H locs ls hP hS hl => va_tlen cx.1.1 cx.1.2.1 (cx.2.2.1.2.2.2.2.2.1.1.1 i hi).2.2.2 hS rfl hd (kk H locs ls hP hS hl)
theorem z_sbyte (cx : zX p l s m args meth c G sh ad n A own cc nL) {i : Nat} {k : Int32} (hi : i < 20) (hk : vp_in k (zLen.getD i 0)) (hd : decode cc pc = .ok (.baload, 1)) (kk : zJ p l e R s m args below meth c G sh ad n A nL Q cells slots M (pc + 1) lv (.int ((zByt.getD i []).getD k.toNatClampNeg 0) :: st)) : zJ p l e R s m args below meth c G sh ad n A nL Q cells slots M pc lv (.int k :: .ref (zSV G i) :: st) := fun H locs ls hP hS hl => va_tb cx.1.1 cx.1.2.1 (cx.2.2.1.2.2.2.2.2.1.1.1 i hi).2.2.2 hS hk rfl hd (kk H locs ls hP hS hl)
theorem z_compact (cx : zX p l s m args meth c G sh ad n A own cc nL) {idx : Nat} (hw : Cond.fieldLink own idx "java/lang/String" "COMPACT_STRINGS" "Z" ∈ tbG) (hd : decode cc pc = .ok (.getstatic idx, 3)) (kk : zJ p l e R s m args below meth c G sh ad n A nL Q cells slots M (pc + 3) lv (.int 1 :: st)) : zJ p l e R s m args below meth c G sh ad n A nL Q cells slots M pc lv st := fun H locs ls hP hS hl => va_gets cx.1.1 cx.1.2.1 cx.2.2.1.2.2.2.2.2.1.2.2.1 hS cx.1.2.2.2.1 (cx.1.2.2.2.2 _ hw) (fun _ h => h) hd (kk H locs ls hP hS hl)
theorem z_fmt (cx : zX p l s m args meth c G sh ad n A own cc nL) {idx : Nat} (hw : Cond.fieldLink own idx "jdk/internal/util/Preconditions" "SIOOBE_FORMATTER" "Ljava/util/function/BiFunction;" ∈ tbG) (hd : decode cc pc = .ok (.getstatic idx, 3)) (kk : ∀ v : Value, v.category = 1 → zJ p l e R s m args below meth c G sh ad n A nL Q cells slots M (pc + 3) lv (v :: st)) : zJ p l e R s m args below meth c G sh ad n A nL Q cells slots M pc lv st := by
  intro H locs ls hP hS hl
  rcases cx.2.2.1.2.2.2.2.2.1.2.2.2 with h | ⟨t, h⟩
  · exact va_gets cx.1.1 cx.1.2.1 h hS cx.1.2.2.2.1 (cx.1.2.2.2.2 _ hw) (fun _ h => h) hd (kk _ rfl H locs ls hP hS hl)
  · exact va_gets cx.1.1 cx.1.2.1 h hS cx.1.2.2.2.1 (cx.1.2.2.2.2 _ hw) (fun _ h => h) hd (kk _ rfl H locs ls hP hS hl)
/-- a call on a String constant -/
theorem z_callK (cx : zX p l s m args meth c G sh ad n A own cc nL) {y : MethodName} {b : ByteArray} {maxL na idx i : Nat} {ret : Option FieldType} {rm : Room} {As rest : List Value} {out : Option Value} {M' : zMem} (hM : zM l y b maxL ret rm G sh ad n M (.ref (zSK G i) :: As) out M') (hi : i < 20) (hw : zCV own idx "java/lang/String" y b maxL ret na) (hR : zRm rm R maxL) (hAs : As.length = na) (hst : st = As.reverse ++ .ref (zSK G i) :: rest) (hc : cells ≤ R.cells ∧ slots ≤ R.slots) (hrest : (rest.map fun v => v.category).sum ≤ 8) (hd : decode cc pc = .ok (.invokevirtual idx, 3)) (kk : zJ p l e R s m args below meth c G sh ad n A nL Q cells slots M' (pc + 3) lv (out.toList ++ rest)) : zJ p l e R s m args below meth c G sh ad n A nL Q cells slots M pc lv st := by
  subst hst
  intro H locs ls hP hS hl
  have hrecv := vk_recv cx.2.2.1.2.2.2.2.2.1.1 hi hS
  exact zcall (va_runV (As := As) (rest := rest) cx.1 (hM H.size) (cwV na cx.1.2.2.2.2 hw.1 rfl hR.1 hR.2.1 hw.2 hR.2.2) ⟨zP_blind, hrecv, fun U hU hW => ⟨rfl, by rw [hU], by rw [hU]; exact hP, zKat cx hS hU hW⟩⟩ rfl hAs hl.1 rfl (lv_room hrest) hd hc) hS (zAin cx hS) hl kk
/-! throws -/
theorem zHP_kept {M : zMem} {H H1 : Heap} (h : zHP G sh ad n M H) (hq : ∀ q : Nat, q < H.size → H1[q]? = H[q]?) : zHP G sh ad n M H1 := va_P.kept h (fun k q hk => hq q.1 ((h k q hk).lt))
abbrev zRmX (rm R : Room) (maxL mc ms : Nat) : Prop := rm.cells = mc ∧ rm.slots = ms ∧ rm.frames + 1 ≤ R.frames ∧ 8 + (maxL + 11) + rm.locals ≤ R.locals
theorem zcallX {H : Heap} {locs : List Loc} {ls : Array Slot} {A1 : Nat → Prop} {a : Array Value} {st0 rest : List Value} {M' : zMem} {out : Option Value} {k mc ms : Nat} (hr : vx_Run p l e R s m args below meth c H locs cells slots mc ms (F0 m pc ls st0) rest (zQX G sh ad n M' k out A1 a) (zXC G sh ad n M' k A1) A1) (hS : va_S A s.heap H locs) (hA : ∀ q, A1 q → A q) (hl : lv_has ls nL lv)
    (kx : ¬ k = 0 → ∀ (H1 : Heap) (locs1 : List Loc) (q : Addr) (ce : Cell), zHP G sh ad n M' H1 → va_S A s.heap H1 locs1 → H1[q]? = some ce → ce.vm = .none → s.vm.findClass (zEx k) = some ce.cls → vx_W p l e R s m args below meth c H1 locs1 (cells + mc) (slots + ms) Q (F0 m pc ls rest) q)
    (kk : k = 0 → zJ p l e R s m args below meth c G sh ad n A nL Q (cells + mc) (slots + ms) M' (pc + 3) lv (out.toList ++ rest)) : W p l e R s m args below meth c H locs cells slots Q (F0 m pc ls st0) := by
  intro T hT X
  have keep : ∀ {st₀ t T' : State} {L : List Loc}, st₀.heap = H → T'.heap = t.heap → (∀ q ∈ L, A1 q.base) → va_F A1 st₀ t → va_S A s.heap T'.heap (locs ++ L) := by
    intro st₀ t T' L h0 e1 hL hF
    obtain ⟨hz, hk⟩ := hF
    rw [h0] at hz hk
    exact ⟨Nat.le_trans hS.1 (by rw [e1]; exact hz), fun q h1 h2 => by rw [e1, hk q (Nat.lt_of_lt_of_le h1 hS.1) (fun z => h2 (hA q z))]; exact hS.2.1 q h1 h2, fun q hq => by
      rcases List.mem_append.mp hq with h | h
      · exact hS.2.2 q h
      · exact hA _ (hL q h)⟩
  rcases hr T hT X with ⟨v, st₀, t, T', L, h0, X', hL, e1, e2, ⟨hk0, ⟨hv, hP⟩, hF⟩, st⟩ | ⟨q, st₀, t, T', L, E, ce, h0, X', hL, e1, e2, ⟨hk0, hE, hP, hF⟩, hce, hcv, hcl, st⟩
  · have hv2 : v = out := by injection hv
    subst hv2
    obtain ⟨t2, a1, b1⟩ := kk hk0 T'.heap (locs ++ L) ls (by rw [e1]; exact hP) (keep h0 e1 hL hF) hl T' rfl X'
    exact ⟨t2, st t2 a1, b1⟩
  · subst hE
    obtain ⟨t2, a1, b1⟩ := kx hk0 T'.heap (locs ++ L) q ce (by rw [e1]; exact hP) (keep h0 e1 hL hF) (by rw [e1]; exact hce) hcv hcl T' rfl X'
    exact ⟨t2, st.trans a1, b1⟩
end ZR
section ZEX
variable {p : Program} {l : Launch} {e : Env} {s : State} {m : MethodId} {args : Array Value} {below : List Frame} {meth : Method} {c : Code}
variable {G : zG} {sh ad : Nat → Nat} {n : Nat} {M M9 : zMem} {A : Nat → Prop} {own : String} {cc : ByteArray} {nL pc : Nat} {lv : List (Nat × Value)} {ret : Option FieldType} {R : Room} {cells slots mc9 ms9 k9 : Nat} {st : List Value} {out9 : Option Value}
theorem z_widen {Q : State → Prop} {k n1 : Nat} (h1 : cells ≤ k) (h2 : slots ≤ n1) (kk : zJ p l e R s m args below meth c G sh ad n A nL Q k n1 M pc lv st) : zJ p l e R s m args below meth c G sh ad n A nL Q cells slots M pc lv st := fun H locs ls hP hS hl => W.widen h1 h2 (kk H locs ls hP hS hl)
theorem zgoes {H : Heap} {locs : List Loc} {q : Addr} {ce : Cell} {pc : Nat} {ls : Array Slot} {rest : List Value} (cx : zX p l s m args meth c G sh ad n A own cc nL) (ht : ∀ x ∈ c.exceptionTable.toList, False) (hk : ¬ k9 = 0) (hP : zHP G sh ad n M9 H) (hS : va_S A s.heap H locs) (hce : H[q]? = some ce) (hcv : ce.vm = .none) (hcl : s.vm.findClass (zEx k9) = some ce.cls) (hc : cells ≤ mc9) (hs : slots ≤ ms9) : vx_W p l e R s m args below meth c H locs cells slots (vx_MQ below (zQX G sh ad n M9 k9 out9 A) (zXC G sh ad n M9 k9 A) args s mc9 ms9 A) (F0 m pc ls rest) q :=
  vx_out (fun x hx => (ht x hx).elim) cx.2.1 hce hcv hcl (fun t h1 _ => ⟨hk, rfl, by rw [h1]; exact hP, hS.F h1⟩) hS.2.2 hc hs
theorem z_callVX (cx : zX p l s m args meth c G sh ad n A own cc nL) (ht : ∀ x ∈ c.exceptionTable.toList, False) {C : String} {y : MethodName} {b : ByteArray} {maxL na idx k cd mc ms kx : Nat} {ret : Option FieldType} {rm : Room} {As rest : List Value} {out : Option Value} {M' : zMem} (hM : zMX l y b maxL ret rm mc ms G sh ad n M (.ref (ad k) :: As) kx out M') (hx : ¬ kx = 0 → kx = k9 ∧ M' = M9) (hT : zT sh n k cd) (hO : zObj C cd) (hw : zCV own idx C y b maxL ret na) (hR : zRmX rm R maxL mc ms) (hAs : As.length = na) (hst : st = As.reverse ++ .ref (ad k) :: rest) (hc : cells + mc ≤ R.cells ∧ slots + ms ≤ R.slots) (hc9 : cells + mc ≤ mc9 ∧ slots + ms ≤ ms9) (hrest : (rest.map fun v => v.category).sum ≤ 8) (hd : decode cc pc = .ok (.invokevirtual idx, 3))
    (kk : kx = 0 → zJ p l e R s m args below meth c G sh ad n A nL (vx_MQ below (zQX G sh ad n M9 k9 out9 A) (zXC G sh ad n M9 k9 A) args s mc9 ms9 A) (cells + mc) (slots + ms) M' (pc + 3) lv (out.toList ++ rest)) : zJ p l e R s m args below meth c G sh ad n A nL (vx_MQ below (zQX G sh ad n M9 k9 out9 A) (zXC G sh ad n M9 k9 A) args s mc9 ms9 A) cells slots M pc lv st := by
  subst hst
  intro H locs ls hP hS hl
  obtain ⟨ci, q, hq, hC, hz⟩ := hO
  obtain ⟨fs, hfs⟩ := hz G ad k (M.1 k) (M.2.1 k) (M.2.2 k)
  have hat := zws_at (G := G) (sh := sh) (ad := ad) (M := M) hT.2.1
  rw [hT.1, hfs] at hat
  have hrecv := va_recv cx.2.2.1.1 hP hq hat
  rw [hC] at hrecv
  refine zcallX (vx_runV (As := As) (rest := rest) cx.1 (hM H.size) (cwV na cx.1.2.2.2.2 hw.1 rfl hR.1 hR.2.1 hw.2 hR.2.2) ⟨zP_blind, hrecv, fun U hU hW => ⟨rfl, by rw [hU], by rw [hU]; exact hP, zKat cx hS hU hW⟩⟩ rfl hAs hl.1 rfl (lv_room hrest) hd hc) hS (zAin cx hS) hl (fun hk H1 locs1 q1 ce g1 g2 g3 g4 g5 => ?_) kk
  obtain ⟨rfl, rfl⟩ := hx hk
  exact zgoes cx ht hk g1 g2 g3 g4 g5 hc9.1 hc9.2
theorem z_iretX (cx : zX p l s m args meth c G sh ad n A own cc nL) {ty : FieldType} {v r : Int32} (hr : meth.sig.returnType = some ty) (hn : narrow ty (.int v) = .int v) (hF : some (0, v, M) = some (k9, r, M9)) (hc : cells ≤ mc9 ∧ slots ≤ ms9) (hd : decode cc pc = .ok (.ireturn, 1)) : zJ p l e R s m args below meth c G sh ad n A nL (vx_MQ below (zQX G sh ad n M9 k9 (some (.int r)) A) (zXC G sh ad n M9 k9 A) args s mc9 ms9 A) cells slots M pc lv [.int v] := by
  cases hF
  intro H locs ls hP hS hl
  exact W.widen hc.1 hc.2 (vx_ret (W.zret (v := v) cx.1.1 cx.1.2.1 hr hn (fun t ht hW => ⟨rfl, ⟨rfl, by rw [ht]; exact hP⟩, hS.F ht⟩) hS.2.2 hd cx.2.1))
theorem z_vretX (cx : zX p l s m args meth c G sh ad n A own cc nL) {r : Int32} (hr : meth.sig.returnType = none) (hF : some (0, 0, M) = some (k9, r, M9)) (hc : cells ≤ mc9 ∧ slots ≤ ms9) (hd : decode cc pc = .ok (.return_, 1)) : zJ p l e R s m args below meth c G sh ad n A nL (vx_MQ below (zQX G sh ad n M9 k9 none A) (zXC G sh ad n M9 k9 A) args s mc9 ms9 A) cells slots M pc lv [] := by
  cases hF
  intro H locs ls hP hS hl
  exact W.widen hc.1 hc.2 (vx_ret (W.vret cx.1.1 cx.1.2.1 hr (fun t ht hW => ⟨rfl, ⟨rfl, by rw [ht]; exact hP⟩, hS.F ht⟩) hS.2.2 hd cx.2.1))
theorem zM_ofX {y : MethodName} {b : ByteArray} {maxL mc ms k : Nat} {rm : Room} {avs : List Value} {out : Option Value} (hA : zInj ad n) (hy : plainName y.cls = true) (hlen : (lg_sl avs).length ≤ maxL) (hlv : lv_args 0 avs = lv)
    (body : ∀ (p : Program) (e : Env) (s : State) (m : MethodId) (args : Array Value) (below : List Frame) (meth : Method) (c : Code) (A : Nat → Prop), zX p l s m args meth c G sh ad n A y.cls b maxL → meth.sig.returnType = ret → (∀ x ∈ c.exceptionTable.toList, False) → zJ p l e rm s m args below meth c G sh ad n A maxL (vx_MQ below (zQX G sh ad n M9 k out A) (zXC G sh ad n M9 k A) args s mc ms A) 0 0 M 0 lv []) : zMX l y b maxL ret rm mc ms G sh ad n M avs k out M9 := by
  intro sz
  refine vx_ofW (cc := b) (maxL := maxL) (ret := ret) hy rfl ?_
  intro p e s m args below meth c s₁ B hml ht hv
  obtain ⟨rfl, hsz, hP, hK⟩ := hv
  subst hsz
  have hts := atoms_spec (ws := .code y b maxL ret :: tbG) B.pre
  have hown : s.vm.findClass y.cls = some m.cls := findClass_of_methodNamed B.named
  have hx : zX p l s m avs.toArray meth c G sh ad n (zA ad n s.heap.size) y.cls b maxL := ⟨⟨B.exec, B.bytes, hml, hown, fun w hw => hts w (List.mem_cons_of_mem _ hw)⟩, B.notSynchronized, hK, ⟨hA, fun k hk => Or.inl ⟨k, hk, rfl⟩⟩, fun q h => Or.inr h, fun q h => h⟩
  have hl := lv_entry avs (n := maxL) hlen
  rw [lg_entry_eq]
  rw [hlv] at hl
  exact body p e s m avs.toArray below meth c _ hx B.returns ht s.heap [] _ hP va_S.rf hl
/-- throw new E("text") -/
theorem z_throwSW (cx : zX p l s m args meth c G sh ad n A own cc nL) (ht : ∀ x ∈ c.exceptionTable.toList, False) (hl : l.stackTraces = false) {ik is ic i : Nat} {names : List String} {r9 : Int32} (k : Nat) (hk : ¬ k = 0) (hF : some (k, 0, M) = some (k9, r9, M9)) (hcls : Bundle.fit (zEx k) = true) (hnames : ∀ n ∈ names, Bundle.fit n = true) (hr : (own, is, i) ∈ zRefs)
    (hw : ∀ w ∈ (Cond.classLink own ik (zEx k) :: Cond.initialized (zEx k) :: vx_atS own ic (zEx k) names), (goodWord w = true ∧ w ∈ tbG) ∨ (w ∈ tbN ∧ w.onTables = true)) (hgood : ∀ w ∈ Cond.classLink own ik (zEx k) :: Cond.initialized (zEx k) :: vx_atS own ic (zEx k) names, vx_ot w = true)
    (d0 : decode cc pc = .ok (.new ik, 3)) (d3 : decode cc (pc + 3) = .ok (.dup, 1)) (d4 : decode cc (pc + 4) = .ok (.ldc_w is, 3)) (d7 : decode cc (pc + 7) = .ok (.invokespecial ic, 3)) (d10 : decode cc (pc + 10) = .ok (.athrow, 1))
    (hRf : names.length + 3 < R.frames) (hRl : (st.map fun v => v.category).sum + (13 * (names.length + 1) + 43) ≤ R.locals) (hRc : cells + 1 ≤ R.cells ∧ slots + 6 ≤ R.slots) (hc9 : cells + 1 ≤ mc9 ∧ slots + 6 ≤ ms9) : zJ p l e R s m args below meth c G sh ad n A nL (vx_MQ below (zQX G sh ad n M9 k9 out9 A) (zXC G sh ad n M9 k9 A) args s mc9 ms9 A) cells slots M pc lv st := by
  have hb : ∀ w ∈ (Cond.classLink own ik (zEx k) :: Cond.initialized (zEx k) :: vx_atS own ic (zEx k) names), w.before args s = true := by
    intro w hw1
    rcases hw w hw1 with h | h
    · exact cx.1.2.2.2.2 w h.2
    · exact va_Nw.use h.2 (cx.2.2.1.2.1 w h.1)
  cases hF
  intro H locs ls hP hS hls
  refine vx_throwSW cx.1.1 cx.1.2.1 hl (A := A) cx.1.2.2.2.1 hcls hnames (hb _ List.mem_cons_self) (hb _ (List.mem_cons_of_mem _ List.mem_cons_self)) (cx.2.2.1.2.2.2.2.2.1.2.1 _ hr) (fun w hw1 => hb w (List.mem_cons_of_mem _ (List.mem_cons_of_mem _ hw1))) hgood cx.2.2.1.2.2.2.1 cx.2.2.1.2.2.2.2.1 hS (by rw [hls.1, cx.1.2.2.1]) d0 d3 d4 d7 d10 (fun x hx => (ht x hx).elim) hRf hRl hRc.1 hRc.2 cx.2.1 (fun t h1 h2 h3 => ?_) hS.2.2 hc9.1 hc9.2
  refine ⟨hk, rfl, zHP_kept hP h3, Nat.le_trans hS.1 h2, fun q g1 g2 => ?_⟩
  rw [h3 q (Nat.lt_of_lt_of_le g1 hS.1)]
  exact hS.2.1 q g1 g2
end ZEX
