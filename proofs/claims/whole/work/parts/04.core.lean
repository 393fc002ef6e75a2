/-! THE CORE: a universe of cells at places 0, 1 .. n-1 (addresses ad), its numbers in a memory M; walks over it -/
def zI (M : zMem) (k j : Nat) (v : Int32) : zMem := (fun a => if a = k then upd (M.1 k) j v else M.1 a, M.2)
def zL (M : zMem) (k j : Nat) (v : Int64) : zMem := (M.1, fun a => if a = k then vp_updL (M.2.1 k) j v else M.2.1 a, M.2.2)
def zR (M : zMem) (k j : Nat) (v : Nat) : zMem := (M.1, M.2.1, fun a => if a = k then (fun i => if i = j then v else M.2.2 k i) else M.2.2 a)
/-- a row of ints copied -/
def zCI (M : zMem) (src sp dst dp m : Nat) : zMem := (fun a => if a = dst then va_cpy (M.1 src) (M.1 dst) sp dp m else M.1 a, M.2)
def zCL (M : zMem) (src sp dst dp m : Nat) : zMem := (M.1, fun a => if a = dst then va_cpy (M.2.1 src) (M.2.1 dst) sp dp m else M.2.1 a, M.2.2)
def zws (G : zG) (sh ad : Nat → Nat) (n : Nat) (M : zMem) : va_W := (List.range n).map fun k => (ad k, zE G ad k (M.1 k) (M.2.1 k) (M.2.2 k) (sh k))
def zHP (G : zG) (sh ad : Nat → Nat) (n : Nat) (M : zMem) (H : Heap) : Prop := va_P G.1 vwCl (zws G sh ad n M) H
def zT (sh : Nat → Nat) (n k cd : Nat) : Prop := sh k = cd ∧ k < n ∧ k + zB cd ≤ n
def zAd (ad : Nat → Nat) (n : Nat) (A : Nat → Prop) : Prop := (∀ i j, i < n → j < n → ad i = ad j → i = j) ∧ ∀ k, k < n → A (ad k)
def zInj (ad : Nat → Nat) (n : Nat) : Prop := ∀ i j, i < n → j < n → ad i = ad j → i = j
def zA (ad : Nat → Nat) (n sz : Nat) : Nat → Prop := fun q => (∃ k, k < n ∧ q = ad k) ∨ sz ≤ q
def zTys (G : zG) : List (ClassId × FieldType) := [(G.2.1 0, .int), (G.2.1 1, .long), (G.2.1 2, .object "SunnyPans$Pans"), (G.2.1 3, .object "SunnyPans$Stand"), (G.2.1 4, .array .int), (G.2.1 5, .array .long)]
theorem zws_at {G : zG} {sh ad : Nat → Nat} {n k : Nat} {M : zMem} (h : k < n) : (zws G sh ad n M)[k]? = some (ad k, zE G ad k (M.1 k) (M.2.1 k) (M.2.2 k) (sh k)) := by
  unfold zws
  rw [List.getElem?_map, List.getElem?_range h]
  rfl
theorem zws_len {G : zG} {sh ad : Nat → Nat} {n : Nat} {M : zMem} : (zws G sh ad n M).length = n := by simp [zws]
theorem zws_set {G : zG} {sh ad : Nat → Nat} {n k : Nat} {M M' : zMem} {e : va_E} (hk : k < n) (h : ∀ a, a ≠ k → M'.1 a = M.1 a ∧ M'.2.1 a = M.2.1 a ∧ M'.2.2 a = M.2.2 a)
    (he : zE G ad k (M'.1 k) (M'.2.1 k) (M'.2.2 k) (sh k) = e) : (zws G sh ad n M).set k (ad k, e) = zws G sh ad n M' := by
  apply List.ext_getElem?
  intro i
  by_cases hi : i < n
  · rw [zws_at hi]
    by_cases hik : i = k
    · subst hik
      rw [List.getElem?_set_self (by rw [zws_len]; exact hk), ← he]
    · rw [List.getElem?_set_ne (Ne.symm hik), zws_at hi]
      obtain ⟨h1, h2, h3⟩ := h i hik
      rw [h1, h2, h3]
  · rw [List.getElem?_eq_none (by rw [List.length_set, zws_len]; omega), List.getElem?_eq_none (by rw [zws_len]; omega)]
theorem zws_dom {G : zG} {sh ad : Nat → Nat} {n k : Nat} {M : zMem} {q : Nat × va_E} (h : (zws G sh ad n M)[k]? = some q) : k < n ∧ q = (ad k, zE G ad k (M.1 k) (M.2.1 k) (M.2.2 k) (sh k)) := by
  have hk : k < n := by
    have := (List.getElem?_eq_some_iff.mp h).1
    rwa [zws_len] at this
  rw [zws_at hk] at h
  exact ⟨hk, (Option.some.inj h).symm⟩
theorem zD {G : zG} {sh ad : Nat → Nat} {n : Nat} {M : zMem} {A : Nat → Prop} (h : zAd ad n A) : va_D A (zws G sh ad n M) := by
  refine ⟨fun i j p q hi hj hpq => ?_, fun k q hk => ?_⟩
  · obtain ⟨h1, rfl⟩ := zws_dom hi
    obtain ⟨h2, rfl⟩ := zws_dom hj
    exact h.1 i j h1 h2 hpq
  · obtain ⟨h1, rfl⟩ := zws_dom hk
    exact h.2 k h1
/-- the words that aren't good: nest mates' links -/
def zNW (w : Cond) : Bool := match w with
  | .methodLinkNest .. => true
  | .fieldLinkNest .. => true
  | _ => false
def tbN : List Cond := lw_tbl.filter zNW
theorem twn {w : Cond} (i : Nat) (h : lw_tbl[i]? = some w) (hg : zNW w = true) : w ∈ tbN := List.mem_filter.mpr ⟨List.mem_of_getElem? h, hg⟩
theorem zNW_warm {w : Cond} (hw : zNW w = true) {s U : State} (hW : s.WarmedH U.vm) (h : va_Nw w s) : va_Nw w U := by
  cases w <;> first | exact va_Nw.warmM hW h | exact va_Nw.warmF hW h | (exact absurd hw (by simp [zNW]))
/-- EAST and SOUTH, as they stand in the class -/
def zEast : Nat → Int32 := fun j => [0, 1, 1, 1, 0, -1, -1, -1].getD j 0
def zSouth : Nat → Int32 := fun j => [-1, -1, 0, 1, 1, 1, 0, -1].getD j 0
/-- what no method changes: the tables, the statics, outside A -/
def zK (G : zG) (A : Nat → Prop) (U : State) (H : Heap) : Prop :=
  va_K G.1 vwCl (zTys G) U ∧ (∀ w ∈ tbN, va_Nw w U) ∧
  (va_Z "SunnyPans" "EAST" "[I" (.ref (G.2.2 0)) A U H ∧ va_T .int (G.2.2 0) 8 (fun j => .int (zEast j)) A U H ∧ va_Z "SunnyPans" "SOUTH" "[I" (.ref (G.2.2 1)) A U H ∧ va_T .int (G.2.2 1) 8 (fun j => .int (zSouth j)) A U H) ∧
  vx_Zq Bundle.tN "UNASSIGNED_STACK" Bundle.steD A U H ∧ vx_Zq Bundle.tN "SUPPRESSED_SENTINEL" Bundle.listD A U H
theorem zK.moved {G : zG} {A : Nat → Prop} {u U : State} {H : Heap} (hW : u.WarmedH U.vm) (h : zK G A u H) : zK G A U H := by
  obtain ⟨h1, h2, ⟨h3, h4, h5, h6⟩, h7, h8⟩ := h
  have a := hW.alike
  exact ⟨va_K.moved a h1, fun w hw => zNW_warm (List.mem_filter.mp hw).2 hW (h2 w hw), ⟨va_Z.moved a h3, va_T.moved a h4, va_Z.moved a h5, va_T.moved a h6⟩, vx_Zq.moved a h7, vx_Zq.moved a h8⟩
theorem zK.kept {G : zG} {A : Nat → Prop} {U : State} {H H1 : Heap} (h : zK G A U H) (hq : ∀ a : Nat, a < H.size → ¬ A a → H1[a]? = H[a]?) : zK G A U H1 := by
  obtain ⟨h1, h2, ⟨h3, h4, h5, h6⟩, h7, h8⟩ := h
  exact ⟨h1, h2, ⟨va_Z.kept h3 hq, va_T.kept h4 hq, va_Z.kept h5 hq, va_T.kept h6 hq⟩, vx_Zq.kept h7 hq, vx_Zq.kept h8 hq⟩
theorem zK.narrow {G : zG} {A B : Nat → Prop} {U : State} {H : Heap} (h : zK G A U H) (hAB : ∀ q, B q → A q) : zK G B U H := by
  obtain ⟨h1, h2, ⟨h3, h4, h5, h6⟩, h7, h8⟩ := h
  exact ⟨h1, h2, ⟨va_Z.narrow h3 hAB, va_T.narrow h4 hAB, va_Z.narrow h5 hAB, va_T.narrow h6 hAB⟩, vx_Zq.narrow h7 hAB, vx_Zq.narrow h8 hAB⟩
/-! a method's start and end -/
def zP (G : zG) (sh ad : Nat → Nat) (n : Nat) (M : zMem) (sz : Nat) (avs : List Value) : Array Value → State → Prop := va_Pc avs (fun U => U.heap.size = sz ∧ zHP G sh ad n M U.heap ∧ zK G (zA ad n sz) U U.heap)
def zQ (G : zG) (sh ad : Nat → Nat) (n : Nat) (M' : zMem) (out : Option Value) (A : Nat → Prop) : Array Value → State → Outcome → State → Prop := fun _ st o t => (o = .returned out ∧ zHP G sh ad n M' t.heap) ∧ va_F A st t
def zM (l : Launch) (y : MethodName) (b : ByteArray) (maxL : Nat) (ret : Option FieldType) (rm : Room) (G : zG) (sh ad : Nat → Nat) (n : Nat) (M : zMem) (avs : List Value) (out : Option Value) (M' : zMem) : Prop :=
  ∀ sz, Met l y (.code y b maxL ret :: tbG) rm (zP G sh ad n M sz avs) (zQ G sh ad n M' out (zA ad n sz)) 0 0 (zA ad n sz)
theorem zP_blind {G : zG} {sh ad : Nat → Nat} {n : Nat} {M : zMem} {sz : Nat} {avs : List Value} : FrameBlind (zP G sh ad n M sz avs) := by
  intro a U g mk h
  obtain ⟨h1, h2, h3, h4⟩ := h
  refine ⟨h1, h2, h3, ?_⟩
  obtain ⟨k1, k2, ⟨k3, k4, k5, k6⟩, k7, k8⟩ := h4
  have a : U.vm.Alike (U.calling g mk a).vm := Vm.Alike.refl U.vm
  exact ⟨va_K.moved a k1, fun w hw => va_Nw.same (by
    have := (List.mem_filter.mp hw).2
    cases w <;> first | rfl | exact absurd this (by simp [zNW])) (u := U) (U := U.calling g mk _) rfl (k2 w hw), ⟨va_Z.moved a k3, va_T.moved a k4, va_Z.moved a k5, va_T.moved a k6⟩, vx_Zq.moved a k7, vx_Zq.moved a k8⟩
/-- what stands at every row of a method's walk -/
def zX (p : Program) (l : Launch) (s : State) (m : MethodId) (args : Array Value) (meth : Method) (c : Code) (G : zG) (sh ad : Nat → Nat) (n : Nat) (A : Nat → Prop) (own : String) (cc : ByteArray) (nL : Nat) : Prop :=
  CallFix p m c cc nL s args tbG own ∧ meth.locks = false ∧ zK G A s s.heap ∧ zAd ad n A ∧ (∀ q, s.heap.size ≤ q → A q) ∧ (∀ q, zA ad n s.heap.size q → A q)
/-- the walk's goal: from the frame at pc, memory M, the method comes to its end -/
def zJ (p : Program) (l : Launch) (e : Env) (R : Room) (s : State) (m : MethodId) (args : Array Value) (below : List Frame) (meth : Method) (c : Code) (G : zG) (sh ad : Nat → Nat) (n : Nat) (A : Nat → Prop) (nL : Nat) (Q : State → Prop) (cells slots : Nat) (M : zMem) (pc : Nat) (lv : List (Nat × Value)) (st : List Value) : Prop :=
  ∀ (H : Heap) (locs : List Loc) (ls : Array Slot), zHP G sh ad n M H → va_S A s.heap H locs → lv_has ls nL lv → W p l e R s m args below meth c H locs cells slots Q (F0 m pc ls st)
/-! the programs' own words -/
def zl {α β : Type} (a : α) (k : α → β) : β := k a
def gd {α : Type} (c : Bool) (x : Option α) : Option α := if c = true then x else none
def gin {α : Type} (i : Int32) (n : Nat) (x : Option α) : Option α := if 0 ≤ i ∧ i.toNatClampNeg < n then x else none
def zb {α β : Type} (o : Option (α × zMem)) (k : α → zMem → Option β) : Option β := match o with
  | none => none
  | some r => k r.1 r.2
def zbv {β : Type} (o : Option zMem) (k : zMem → Option β) : Option β := match o with
  | none => none
  | some M => k M
def itF {α : Type} (z : α) (F : α → α) : Nat → α
  | 0 => z
  | n + 1 => F (itF z F n)
theorem gd_inv {α : Type} {c : Bool} {x : Option α} {r : α} (h : gd c x = some r) : c = true ∧ x = some r := by
  unfold gd at h
  split at h
  · rename_i q
    exact ⟨q, h⟩
  · cases h
theorem gin_inv {α : Type} {i : Int32} {n : Nat} {x : Option α} {r : α} (h : gin i n x = some r) : vp_in i n ∧ x = some r := by
  unfold gin at h
  split at h
  · rename_i q
    refine ⟨fun z => ?_, h⟩
    rcases z with z | z
    · exact absurd q.1 (Int32.not_le.mpr z)
    · omega
  · cases h
theorem zb_inv {α β : Type} {o : Option (α × zMem)} {k : α → zMem → Option β} {r : β} (h : zb o k = some r) : ∃ a M', o = some (a, M') ∧ k a M' = some r := by
  unfold zb at h
  cases o with
  | none => cases h
  | some x => exact ⟨x.1, x.2, rfl, h⟩
theorem zbv_inv {β : Type} {o : Option zMem} {k : zMem → Option β} {r : β} (h : zbv o k = some r) : ∃ x, o = some x ∧ k x = some r := by
  unfold zbv at h
  cases o with
  | none => cases h
  | some x => exact ⟨x, rfl, h⟩
/-! fields and arrays, by class -/
def zGetI (own : String) (idx ci cd j : Nat) : Prop := ∃ (C : String) (T : u_T) (N : Nat), vwCl[ci]? = some (C, T, N) ∧ j < N ∧ (∀ w ∈ u_ws C T N, w ∈ tbG) ∧ Cond.fieldLink own idx (T j).1 (T j).2.1 (T j).2.2.1 ∈ tbG ∧ ∀ G ad k fi fl fr, ∃ fs, zE G ad k fi fl fr cd = .inr (ci, fs) ∧ fs[j]? = some (.int (fi j))
def zGetL (own : String) (idx ci cd j : Nat) : Prop := ∃ (C : String) (T : u_T) (N : Nat), vwCl[ci]? = some (C, T, N) ∧ j < N ∧ (∀ w ∈ u_ws C T N, w ∈ tbG) ∧ Cond.fieldLink own idx (T j).1 (T j).2.1 (T j).2.2.1 ∈ tbG ∧ ∀ G ad k fi fl fr, ∃ fs, zE G ad k fi fl fr cd = .inr (ci, fs) ∧ fs[j]? = some (.long (fl j))
/-- a reference that stays: its place is off above the object's -/
def zGetR (own : String) (idx ci cd j off : Nat) : Prop := ∃ (C : String) (T : u_T) (N : Nat), vwCl[ci]? = some (C, T, N) ∧ j < N ∧ (∀ w ∈ u_ws C T N, w ∈ tbG) ∧ Cond.fieldLink own idx (T j).1 (T j).2.1 (T j).2.2.1 ∈ tbG ∧ ∀ G ad k fi fl fr, ∃ fs, zE G ad k fi fl fr cd = .inr (ci, fs) ∧ fs[j]? = some (.ref (ad (k + off)))
def zGetD (own : String) (idx ci cd j : Nat) : Prop := ∃ (C : String) (T : u_T) (N : Nat), vwCl[ci]? = some (C, T, N) ∧ j < N ∧ (∀ w ∈ u_ws C T N, w ∈ tbG) ∧ Cond.fieldLink own idx (T j).1 (T j).2.1 (T j).2.2.1 ∈ tbG ∧ ∀ G ad k fi fl fr, ∃ fs, zE G ad k fi fl fr cd = .inr (ci, fs) ∧ fs[j]? = some (.ref (ad (fr j)))
/-- a class' fields: their types, their names apart -/
def zCls (ci : Nat) : Prop := ∃ (C : String) (T : u_T) (N : Nat) (ty : Nat → FieldType), vwCl[ci]? = some (C, T, N) ∧ (∀ k, k < N → parseFieldDescriptor (T k).2.2.1 = some (ty k)) ∧ (∀ a, a < N → ∀ b, b < N → a ≠ b → (T a).2.1 ≠ (T b).2.1)
def zPutI (own : String) (idx ci cd j : Nat) : Prop := zCls ci ∧ zGetI own idx ci cd j ∧ (∃ (C : String) (T : u_T) (N : Nat), vwCl[ci]? = some (C, T, N) ∧ (T j).2.2.2 = false ∧ parseFieldDescriptor (T j).2.2.1 = some .int) ∧ ∀ G ad k fi fl fr v, ∃ fs, zE G ad k fi fl fr cd = .inr (ci, fs) ∧ j < fs.length ∧ zE G ad k (upd fi j v) fl fr cd = .inr (ci, fs.set j (.int v))
def zPutL (own : String) (idx ci cd j : Nat) : Prop := zCls ci ∧ zGetL own idx ci cd j ∧ (∃ (C : String) (T : u_T) (N : Nat), vwCl[ci]? = some (C, T, N) ∧ (T j).2.2.2 = false ∧ parseFieldDescriptor (T j).2.2.1 = some .long) ∧ ∀ G ad k fi fl fr v, ∃ fs, zE G ad k fi fl fr cd = .inr (ci, fs) ∧ j < fs.length ∧ zE G ad k fi (vp_updL fl j v) fr cd = .inr (ci, fs.set j (.long v))
def zPutD (own : String) (idx ci cd j : Nat) : Prop := zCls ci ∧ zGetD own idx ci cd j ∧ (∃ (C : String) (T : u_T) (N : Nat) (cn : String), vwCl[ci]? = some (C, T, N) ∧ (T j).2.2.2 = false ∧ parseFieldDescriptor (T j).2.2.1 = some (.object cn)) ∧ ∀ G ad k fi fl fr v, ∃ fs, zE G ad k fi fl fr cd = .inr (ci, fs) ∧ j < fs.length ∧ zE G ad k fi fl (fun i => if i = j then v else fr i) cd = .inr (ci, fs.set j (.ref (ad v)))
def zArrI (cd len : Nat) : Prop := ∀ G ad k fi fl fr, zE G ad k fi fl fr cd = .inl (G.2.1 0, len, .inl fi)
def zArrL (cd len : Nat) : Prop := ∀ G ad k fi fl fr, zE G ad k fi fl fr cd = .inl (G.2.1 1, len, .inr (.inl fl))
def zArrR (cd len kd o t : Nat) : Prop := (kd = 2 ∨ kd = 3 ∨ kd = 4 ∨ kd = 5) ∧ ∀ G ad k fi fl fr, zE G ad k fi fl fr cd = .inl (G.2.1 kd, len, .inr (.inr (.inr (.inr (fun j => some (ad (k + (o + t * j))))))))
/-- an object of the class C -/
def zObj (C : String) (cd : Nat) : Prop := ∃ (ci : Nat) (q : vw_C), vwCl[ci]? = some q ∧ q.1 = C ∧ ∀ G ad k fi fl fr, ∃ fs, zE G ad k fi fl fr cd = .inr (ci, fs)
theorem zbp_dummy : True := trivial
theorem zT_off {sh : Nat → Nat} {n k cd o d : Nat} (h : zT sh n k cd) (hs : ∀ k, sh k = cd → sh (k + o) = d) (hb : o + zB d ≤ zB cd) (h1 : 0 < zB d) : zT sh n (k + o) d := by
  obtain ⟨a, b, c⟩ := h
  exact ⟨hs k a, by omega, by omega⟩
