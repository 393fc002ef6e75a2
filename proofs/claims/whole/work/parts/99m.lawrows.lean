/-! THE LAW: rows over any picture P of the heap -/
def lJ (P : Heap → Prop) (p : Program) (l : Launch) (e : Env) (R : Room) (s : State) (m : MethodId) (args : Array Value) (below : List Frame) (meth : Method) (c : Code) (A : Nat → Prop) (nL : Nat) (Q : State → Prop) (cells slots : Nat) (pc : Nat) (lv : List (Nat × Value)) (st : List Value) : Prop :=
  ∀ (H : Heap) (locs : List Loc) (ls : Array Slot), P H → va_S A s.heap H locs → lv_has ls nL lv → W p l e R s m args below meth c H locs cells slots Q (F0 m pc ls st)
def lX (p : Program) (l : Launch) (s : State) (m : MethodId) (args : Array Value) (meth : Method) (c : Code) (G : zG) (A : Nat → Prop) (own : String) (cc : ByteArray) (nL : Nat) : Prop :=
  CallFix p m c cc nL s args tbG own ∧ meth.locks = false ∧ zK G A s s.heap ∧ (∀ q, s.heap.size ≤ q → A q)
section LR
variable {p : Program} {l : Launch} {e : Env} {R : Room} {s : State} {m : MethodId} {args : Array Value} {below : List Frame} {meth : Method} {c : Code} {Q : State → Prop}
variable {G : zG} {P : Heap → Prop} {A : Nat → Prop} {own : String} {cc : ByteArray} {nL : Nat} {cells slots : Nat} {pc : Nat} {lv : List (Nat × Value)} {st : List Value}
theorem l_iconst (cx : lX p l s m args meth c G A own cc nL) {i : Int} {v : Int32} (hd : decode cc pc = .ok (.iconst i, 1)) (hv : Int32.ofInt i = v) (kk : lJ P p l e R s m args below meth c A nL Q cells slots (pc + 1) lv (.int v :: st)) : lJ P p l e R s m args below meth c A nL Q cells slots pc lv st := fun H locs ls hP hS hl => lv_iconst cx.1.1 cx.1.2.1 hd hv (kk H locs ls hP hS hl)
theorem l_bipush (cx : lX p l s m args meth c G A own cc nL) {i : Int} {v : Int32} (hd : decode cc pc = .ok (.bipush i, 2)) (hv : (Int8.ofInt i).toInt32 = v) (kk : lJ P p l e R s m args below meth c A nL Q cells slots (pc + 2) lv (.int v :: st)) : lJ P p l e R s m args below meth c A nL Q cells slots pc lv st := fun H locs ls hP hS hl => lv_bipush cx.1.1 cx.1.2.1 hd hv (kk H locs ls hP hS hl)
theorem l_iload_n (cx : lX p l s m args meth c G A own cc nL) {k : Fin 4} {x : Int32} (hd : decode cc pc = .ok (.iload_n k, 1)) (i : Nat) (hv : lv[i]? = some ((k : Nat), .int x)) (kk : lJ P p l e R s m args below meth c A nL Q cells slots (pc + 1) lv (.int x :: st)) : lJ P p l e R s m args below meth c A nL Q cells slots pc lv st := fun H locs ls hP hS hl => lv_iload_n cx.1.1 cx.1.2.1 hd rfl (lv_at hl i hv) (kk H locs ls hP hS hl)
theorem l_iload (cx : lX p l s m args meth c G A own cc nL) {k : Nat} {x : Int32} (hd : decode cc pc = .ok (.iload k, 2)) (i : Nat) (hv : lv[i]? = some (k, .int x)) (kk : lJ P p l e R s m args below meth c A nL Q cells slots (pc + 2) lv (.int x :: st)) : lJ P p l e R s m args below meth c A nL Q cells slots pc lv st := fun H locs ls hP hS hl => lv_iload cx.1.1 cx.1.2.1 hd (lv_at hl i hv) (kk H locs ls hP hS hl)
theorem l_istore_n (cx : lX p l s m args meth c G A own cc nL) {k0 : Fin 4} {x : Int32} (k : Nat) (lv2 : List (Nat × Value)) (hd : decode cc pc = .ok (.istore_n k0, 1)) (hk : (k0 : Nat) = k) (hn : k < nL) (hv : (k, Value.int x) :: lv.filter (fun q => !(q.1 == k) && !(q.1 + 1 == k && q.2.category == 2)) = lv2) (kk : lJ P p l e R s m args below meth c A nL Q cells slots (pc + 1) lv2 st) : lJ P p l e R s m args below meth c A nL Q cells slots pc lv (.int x :: st) := fun H locs ls hP hS hl => lv_istore_n cx.1.1 cx.1.2.1 hd hk hl hn hv (fun ls2 hl2 => kk H locs ls2 hP hS hl2)
theorem l_istore (cx : lX p l s m args meth c G A own cc nL) {x : Int32} (k : Nat) (lv2 : List (Nat × Value)) (hd : decode cc pc = .ok (.istore k, 2)) (hn : k < nL) (hv : (k, Value.int x) :: lv.filter (fun q => !(q.1 == k) && !(q.1 + 1 == k && q.2.category == 2)) = lv2) (kk : lJ P p l e R s m args below meth c A nL Q cells slots (pc + 2) lv2 st) : lJ P p l e R s m args below meth c A nL Q cells slots pc lv (.int x :: st) := fun H locs ls hP hS hl => lv_istore cx.1.1 cx.1.2.1 hd hl hn hv (fun ls2 hl2 => kk H locs ls2 hP hS hl2)
theorem l_aload_n (cx : lX p l s m args meth c G A own cc nL) {k : Fin 4} {x : Nat} (hd : decode cc pc = .ok (.aload_n k, 1)) (i : Nat) (hv : lv[i]? = some ((k : Nat), .ref x)) (kk : lJ P p l e R s m args below meth c A nL Q cells slots (pc + 1) lv (.ref x :: st)) : lJ P p l e R s m args below meth c A nL Q cells slots pc lv st := fun H locs ls hP hS hl => lv_aload_n cx.1.1 cx.1.2.1 hd rfl (lv_at hl i hv) (kk H locs ls hP hS hl)
theorem l_aload (cx : lX p l s m args meth c G A own cc nL) {k : Nat} {x : Nat} (hd : decode cc pc = .ok (.aload k, 2)) (i : Nat) (hv : lv[i]? = some (k, .ref x)) (kk : lJ P p l e R s m args below meth c A nL Q cells slots (pc + 2) lv (.ref x :: st)) : lJ P p l e R s m args below meth c A nL Q cells slots pc lv st := fun H locs ls hP hS hl => lv_aload cx.1.1 cx.1.2.1 hd (lv_at hl i hv) (kk H locs ls hP hS hl)
theorem l_astore_n (cx : lX p l s m args meth c G A own cc nL) {k0 : Fin 4} {x : Nat} (k : Nat) (lv2 : List (Nat × Value)) (hd : decode cc pc = .ok (.astore_n k0, 1)) (hk : (k0 : Nat) = k) (hn : k < nL) (hv : (k, Value.ref x) :: lv.filter (fun q => !(q.1 == k) && !(q.1 + 1 == k && q.2.category == 2)) = lv2) (kk : lJ P p l e R s m args below meth c A nL Q cells slots (pc + 1) lv2 st) : lJ P p l e R s m args below meth c A nL Q cells slots pc lv (.ref x :: st) := fun H locs ls hP hS hl => lv_astore_n cx.1.1 cx.1.2.1 hd hk hl hn hv (fun ls2 hl2 => kk H locs ls2 hP hS hl2)
theorem l_astore (cx : lX p l s m args meth c G A own cc nL) {x : Nat} (k : Nat) (lv2 : List (Nat × Value)) (hd : decode cc pc = .ok (.astore k, 2)) (hn : k < nL) (hv : (k, Value.ref x) :: lv.filter (fun q => !(q.1 == k) && !(q.1 + 1 == k && q.2.category == 2)) = lv2) (kk : lJ P p l e R s m args below meth c A nL Q cells slots (pc + 2) lv2 st) : lJ P p l e R s m args below meth c A nL Q cells slots pc lv (.ref x :: st) := fun H locs ls hP hS hl => lv_astore cx.1.1 cx.1.2.1 hd hl hn hv (fun ls2 hl2 => kk H locs ls2 hP hS hl2)
theorem l_iadd (cx : lX p l s m args meth c G A own cc nL) {x y : Int32} (hd : decode cc pc = .ok (.iadd, 1)) (kk : lJ P p l e R s m args below meth c A nL Q cells slots (pc + 1) lv (.int (x + y) :: st)) : lJ P p l e R s m args below meth c A nL Q cells slots pc lv (.int y :: .int x :: st) := fun H locs ls hP hS hl => lv_iadd cx.1.1 cx.1.2.1 hd (kk H locs ls hP hS hl)
theorem l_isub (cx : lX p l s m args meth c G A own cc nL) {x y : Int32} (hd : decode cc pc = .ok (.isub, 1)) (kk : lJ P p l e R s m args below meth c A nL Q cells slots (pc + 1) lv (.int (x - y) :: st)) : lJ P p l e R s m args below meth c A nL Q cells slots pc lv (.int y :: .int x :: st) := fun H locs ls hP hS hl => lv_isub cx.1.1 cx.1.2.1 hd (kk H locs ls hP hS hl)
theorem l_iand (cx : lX p l s m args meth c G A own cc nL) {x y : Int32} (hd : decode cc pc = .ok (.iand, 1)) (kk : lJ P p l e R s m args below meth c A nL Q cells slots (pc + 1) lv (.int (x &&& y) :: st)) : lJ P p l e R s m args below meth c A nL Q cells slots pc lv (.int y :: .int x :: st) := fun H locs ls hP hS hl => lv_iand cx.1.1 cx.1.2.1 hd (kk H locs ls hP hS hl)
theorem l_i2l (cx : lX p l s m args meth c G A own cc nL) {x : Int32} (hd : decode cc pc = .ok (.i2l, 1)) (kk : lJ P p l e R s m args below meth c A nL Q cells slots (pc + 1) lv (.long x.toInt64 :: st)) : lJ P p l e R s m args below meth c A nL Q cells slots pc lv (.int x :: st) := fun H locs ls hP hS hl => lv_i2l cx.1.1 cx.1.2.1 hd rfl (kk H locs ls hP hS hl)
theorem l_lcmp (cx : lX p l s m args meth c G A own cc nL) {x y : Int64} (hd : decode cc pc = .ok (.lcmp, 1)) (kk : lJ P p l e R s m args below meth c A nL Q cells slots (pc + 1) lv (.int (lg_cmp x y) :: st)) : lJ P p l e R s m args below meth c A nL Q cells slots pc lv (.long y :: .long x :: st) := fun H locs ls hP hS hl => W.lcmp cx.1.1 cx.1.2.1 hd (kk H locs ls hP hS hl)
theorem l_dup (cx : lX p l s m args meth c G A own cc nL) {va : Value} (hd : decode cc pc = .ok (.dup, 1)) (h1 : va.category = 1) (kk : lJ P p l e R s m args below meth c A nL Q cells slots (pc + 1) lv (va :: va :: st)) : lJ P p l e R s m args below meth c A nL Q cells slots pc lv (va :: st) := fun H locs ls hP hS hl => lv_dup cx.1.1 cx.1.2.1 hd h1 (kk H locs ls hP hS hl)
theorem l_goto (cx : lX p l s m args meth c G A own cc nL) {off : Int} (tgt : Nat) (hd : decode cc pc = .ok (.goto off, 3)) (ht : (pc : Int) + off = (tgt : Int)) (kk : lJ P p l e R s m args below meth c A nL Q cells slots tgt lv st) : lJ P p l e R s m args below meth c A nL Q cells slots pc lv st := fun H locs ls hP hS hl => lv_goto cx.1.1 cx.1.2.1 hd ht (kk H locs ls hP hS hl)
theorem l_iinc (cx : lX p l s m args meth c G A own cc nL) {i : Int} {x : Int32} (k : Nat) (ci : Int32) (lv2 : List (Nat × Value)) (hd : decode cc pc = .ok (.iinc k i, 3)) (j : Nat) (hj : lv[j]? = some (k, .int x)) (hi : Int32.ofInt i = ci) (hn : k < nL) (hv : (k, Value.int (x + ci)) :: lv.filter (fun q => !(q.1 == k) && !(q.1 + 1 == k && q.2.category == 2)) = lv2) (kk : lJ P p l e R s m args below meth c A nL Q cells slots (pc + 3) lv2 st) : lJ P p l e R s m args below meth c A nL Q cells slots pc lv st := fun H locs ls hP hS hl => lv_iinc cx.1.1 cx.1.2.1 hd hl hj (by rw [hi]) hn hv (fun ls2 hl2 => kk H locs ls2 hP hS hl2)
theorem l_if_eq (cx : lX p l s m args meth c G A own cc nL) {x : Int32} {off : Int} (tgt : Nat) (hd : decode cc pc = .ok (.ifCond .eq off, 3)) (ht : (pc : Int) + off = (tgt : Int)) (kt : x = 0 → lJ P p l e R s m args below meth c A nL Q cells slots tgt lv st) (kf : ¬ x = 0 → lJ P p l e R s m args below meth c A nL Q cells slots (pc + 3) lv st) : lJ P p l e R s m args below meth c A nL Q cells slots pc lv (.int x :: st) := fun H locs ls hP hS hl => lv_if_eq cx.1.1 cx.1.2.1 hd ht (fun h => kt h H locs ls hP hS hl) (fun h => kf h H locs ls hP hS hl)
theorem l_if_ne (cx : lX p l s m args meth c G A own cc nL) {x : Int32} {off : Int} (tgt : Nat) (hd : decode cc pc = .ok (.ifCond .ne off, 3)) (ht : (pc : Int) + off = (tgt : Int)) (kt : ¬ x = 0 → lJ P p l e R s m args below meth c A nL Q cells slots tgt lv st) (kf : x = 0 → lJ P p l e R s m args below meth c A nL Q cells slots (pc + 3) lv st) : lJ P p l e R s m args below meth c A nL Q cells slots pc lv (.int x :: st) := fun H locs ls hP hS hl => lv_if_ne cx.1.1 cx.1.2.1 hd ht (fun h => kt h H locs ls hP hS hl) (fun h => kf h H locs ls hP hS hl)
theorem l_icmp_eq (cx : lX p l s m args meth c G A own cc nL) {x y : Int32} {off : Int} (tgt : Nat) (hd : decode cc pc = .ok (.if_icmp .eq off, 3)) (ht : (pc : Int) + off = (tgt : Int)) (kt : x = y → lJ P p l e R s m args below meth c A nL Q cells slots tgt lv st) (kf : ¬ x = y → lJ P p l e R s m args below meth c A nL Q cells slots (pc + 3) lv st) : lJ P p l e R s m args below meth c A nL Q cells slots pc lv (.int y :: .int x :: st) := fun H locs ls hP hS hl => lv_icmp_eq cx.1.1 cx.1.2.1 hd ht (fun h => kt h H locs ls hP hS hl) (fun h => kf h H locs ls hP hS hl)
theorem l_icmp_gt (cx : lX p l s m args meth c G A own cc nL) {x y : Int32} {off : Int} (tgt : Nat) (hd : decode cc pc = .ok (.if_icmp .gt off, 3)) (ht : (pc : Int) + off = (tgt : Int)) (kt : y < x → lJ P p l e R s m args below meth c A nL Q cells slots tgt lv st) (kf : ¬ y < x → lJ P p l e R s m args below meth c A nL Q cells slots (pc + 3) lv st) : lJ P p l e R s m args below meth c A nL Q cells slots pc lv (.int y :: .int x :: st) := fun H locs ls hP hS hl => lv_icmp_gt cx.1.1 cx.1.2.1 hd ht (fun h => kt h H locs ls hP hS hl) (fun h => kf h H locs ls hP hS hl)
theorem l_sld (cx : lX p l s m args meth c G A own cc nL) {b L : Nat} {xs : Nat → Int32} (hX : va_X b L xs s s.heap) (hbl : b < s.heap.size) (hbA : ¬ A b) {i : Int32} (hin : vp_in i L) (hd : decode cc pc = .ok (.iaload, 1)) (kk : lJ P p l e R s m args below meth c A nL Q cells slots (pc + 1) lv (.int (xs i.toNatClampNeg) :: st)) : lJ P p l e R s m args below meth c A nL Q cells slots pc lv (.int i :: .ref b :: st) := fun H locs ls hP hS hl => va_sld cx.1.1 cx.1.2.1 hX hbl hbA hS hin hd (kk H locs ls hP hS hl)
theorem l_slen (cx : lX p l s m args meth c G A own cc nL) {b L : Nat} {xs : Nat → Int32} (hX : va_X b L xs s s.heap) (hbl : b < s.heap.size) (hbA : ¬ A b) (hd : decode cc pc = .ok (.arraylength, 1)) (kk : lJ P p l e R s m args below meth c A nL Q cells slots (pc + 1) lv (.int (Int32.ofNat L) :: st)) : lJ P p l e R s m args below meth c A nL Q cells slots pc lv (.ref b :: st) := fun H locs ls hP hS hl => va_slen cx.1.1 cx.1.2.1 hX hbl hbA hS hd (kk H locs ls hP hS hl)
theorem l_tableIn (cx : lX p l s m args meth c G A own cc nL) {dflt lo hi : Int} {offs : Array Int} {len : Nat} {x : Int32} {off : Int} (tgt : Nat) (hd : decode cc pc = .ok (.tableswitch dflt lo hi offs, len)) (h1 : ¬ x.toInt < lo) (h2 : ¬ hi < x.toInt) (ho : offs[(x.toInt - lo).toNat]? = some off) (ht : (pc : Int) + off = (tgt : Int)) (kk : lJ P p l e R s m args below meth c A nL Q cells slots tgt lv st) : lJ P p l e R s m args below meth c A nL Q cells slots pc lv (.int x :: st) := fun H locs ls hP hS hl => lv_tableIn cx.1.1 cx.1.2.1 hd h1 h2 ho ht (kk H locs ls hP hS hl)
theorem l_tableOut (cx : lX p l s m args meth c G A own cc nL) {dflt lo hi : Int} {offs : Array Int} {len : Nat} {x : Int32} (tgt : Nat) (hd : decode cc pc = .ok (.tableswitch dflt lo hi offs, len)) (h : x.toInt < lo ∨ hi < x.toInt) (ht : (pc : Int) + dflt = (tgt : Int)) (kk : lJ P p l e R s m args below meth c A nL Q cells slots tgt lv st) : lJ P p l e R s m args below meth c A nL Q cells slots pc lv (.int x :: st) := fun H locs ls hP hS hl => lv_tableOut cx.1.1 cx.1.2.1 hd h ht (kk H locs ls hP hS hl)
theorem l_widen {k n1 : Nat} (h1 : cells ≤ k) (h2 : slots ≤ n1) (kk : lJ P p l e R s m args below meth c A nL Q k n1 pc lv st) : lJ P p l e R s m args below meth c A nL Q cells slots pc lv st := fun H locs ls hP hS hl => W.widen h1 h2 (kk H locs ls hP hS hl)
/-! lists of cells -/
theorem vaP_app {D : va_G} {cl : List vw_C} {a b : va_W} {H : Heap} : va_P D cl (a ++ b) H ↔ va_P D cl a H ∧ va_P D cl b H := by
  constructor
  · intro h
    refine ⟨fun k q hk => h k q ?_, fun k q hk => h (a.length + k) q ?_⟩
    · have hlt := (List.getElem?_eq_some_iff.mp hk).1
      rw [List.getElem?_append_left hlt]; exact hk
    · rw [List.getElem?_append_right (by omega), show a.length + k - a.length = k by omega]; exact hk
  · rintro ⟨h1, h2⟩ k q hk
    by_cases c : k < a.length
    · rw [List.getElem?_append_left c] at hk
      exact h1 k q hk
    · rw [List.getElem?_append_right (by omega)] at hk
      exact h2 _ q hk
theorem vaP_one {D : va_G} {cl : List vw_C} {q : Nat × va_E} {H H1 : Heap} (h : va_P D cl [q] H) (hq : H1[q.1]? = H[q.1]?) : va_P D cl [q] H1 := va_P.kept h (fun k r hk => by
  cases k with
  | zero => cases hk; exact hq
  | succ k => simp at hk)
theorem zHP_keep {G : zG} {sh ad : Nat → Nat} {n : Nat} {M : zMem} {H H1 : Heap} (h : zHP G sh ad n M H) (hq : ∀ k, k < n → H1[ad k]? = H[ad k]?) : zHP G sh ad n M H1 := va_P.kept h (fun k q hk => by
  obtain ⟨h1, rfl⟩ := zws_dom hk
  exact hq k h1)
theorem zHP_lt {G : zG} {sh ad : Nat → Nat} {n k : Nat} {M : zMem} {H : Heap} (h : zHP G sh ad n M H) (hk : k < n) : ad k < H.size := (h k _ (zws_at hk)).lt
/-- the class' cells and the out row -/
def oC (G : zG) (ao : Nat) (f : Nat → Int64) : Nat × va_E := (ao, .inl (G.2.1 1, 1, .inr (.inl f)))
def wP (G : zG) (ad : Nat → Nat) (ao : Nat) (M : zMem) (v : Int64) (H : Heap) : Prop := zHP G shX ad 461 M H ∧ ∃ f, f 0 = v ∧ va_P G.1 vwCl [oC G ao f] H
def wA (ad : Nat → Nat) (ao sz : Nat) : Nat → Prop := fun q => (∃ k, k < 461 ∧ q = ad k) ∨ q = ao ∨ sz ≤ q
def wIn (ad : Nat → Nat) (ao : Nat) : Prop := zInj ad 461 ∧ ∀ k, k < 461 → ad k ≠ ao
theorem wD {G : zG} {ad : Nat → Nat} {ao : Nat} {M : zMem} {v : Nat → Int64} {A : Nat → Prop} (h : wIn ad ao) (hA : ∀ k, k < 461 → A (ad k)) (ho : A ao) : va_D A (zws G shX ad 461 M ++ [oC G ao v]) := by
  have hat : ∀ i q, (zws G shX ad 461 M ++ [oC G ao v])[i]? = some q → (i < 461 ∧ q.1 = ad i) ∨ (i = 461 ∧ q.1 = ao) := fun i q hi => by
    by_cases c : i < 461
    · rw [List.getElem?_append_left (by rw [zws_len]; exact c), zws_at c] at hi
      cases hi
      exact Or.inl ⟨c, rfl⟩
    · rw [List.getElem?_append_right (by rw [zws_len]; omega), zws_len] at hi
      have : i - 461 = 0 := by
        refine Classical.byContradiction (fun w => ?_)
        rw [List.getElem?_eq_none (by simp; omega)] at hi
        cases hi
      rw [this] at hi
      cases hi
      exact Or.inr ⟨by omega, rfl⟩
  refine ⟨fun i j q r hi hj hqr => ?_, fun i q hi => ?_⟩
  · rcases hat i q hi with ⟨i1, i2⟩ | ⟨i1, i2⟩ <;> rcases hat j r hj with ⟨j1, j2⟩ | ⟨j1, j2⟩
    · exact h.1 i j i1 j1 (by rw [← i2, ← j2]; exact hqr)
    · exact absurd (by rw [← i2, ← j2]; exact hqr) (h.2 i i1)
    · exact absurd (by rw [← i2, ← j2]; exact hqr.symm) (h.2 j j1)
    · omega
  · rcases hat i q hi with ⟨i1, i2⟩ | ⟨i1, i2⟩
    · rw [i2]; exact hA i i1
    · rw [i2]; exact ho
/-- out[0] = v -/
theorem l_last {ad : Nat → Nat} {ao : Nat} {M : zMem} {v x : Int64} (cx : lX p l s m args meth c G A own cc nL) (h : wIn ad ao) (hA : ∀ k, k < 461 → A (ad k)) (ho : A ao) (hd : decode cc pc = .ok (.lastore, 1))
    (kk : lJ (wP G ad ao M x) p l e R s m args below meth c A nL Q cells slots (pc + 1) lv st) : lJ (wP G ad ao M v) p l e R s m args below meth c A nL Q cells slots pc lv (.long x :: .int 0 :: .ref ao :: st) := by
  intro H locs ls hP hS hl
  obtain ⟨hP1, f, hf, hP2⟩ := hP
  have hPP : va_P G.1 vwCl (zws G shX ad 461 M ++ [oC G ao f]) H := vaP_app.mpr ⟨hP1, hP2⟩
  have hat : (zws G shX ad 461 M ++ [oC G ao f])[461]? = some (ao, .inl (G.2.1 1, 1, .inr (.inl f))) := by
    rw [List.getElem?_append_right (by rw [zws_len]; omega), zws_len]; rfl
  refine va_last cx.1.1 cx.1.2.1 cx.2.2.1.1 hPP (wD h hA ho) hS 461 1 hat rfl (zvp (by decide)) hd (fun H1 locs1 g1 g2 g3 => kk H1 locs1 ls ?_ g3 hl)
  have e : (zws G shX ad 461 M ++ [oC G ao f]).set 461 (ao, .inl (G.2.1 1, 1, .inr (.inl (vp_updL f (0 : Int32).toNatClampNeg x)))) = zws G shX ad 461 M ++ [oC G ao (vp_updL f (0 : Int32).toNatClampNeg x)] := by
    rw [List.set_append_right (h := by rw [zws_len]; omega), zws_len]; rfl
  rw [e] at g1
  obtain ⟨q1, q2⟩ := vaP_app.mp g1
  exact ⟨q1, _, updL_s, q2⟩
end LR
